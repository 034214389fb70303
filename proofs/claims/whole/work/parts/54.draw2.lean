theorem zland_m {x : Int} {a : Int} (k : Nat) (hk : k < 63) (ha : (Int64.ofInt a).toBitVec.toNat = 2 ^ k - 1) : zland x a = (((x % 18446744073709551616).toNat % 2 ^ k : Nat) : Int) := by
  unfold zland
  show ((Int64.ofInt x &&& Int64.ofInt a).toBitVec).toInt = _
  rw [Int64.toBitVec_and]
  have ex : (Int64.ofInt x).toBitVec.toNat = (x % 18446744073709551616).toNat := by
    show (BitVec.ofInt 64 x).toNat = _
    rw [BitVec.toNat_ofInt]
    rfl
  have e1 : ((Int64.ofInt x).toBitVec &&& (Int64.ofInt a).toBitVec).toNat = (x % 18446744073709551616).toNat % 2 ^ k := by
    rw [BitVec.toNat_and, ex, ha, Nat.and_two_pow_sub_one_eq_mod]
  have hlt : (x % 18446744073709551616).toNat % 2 ^ k < 2 ^ k := Nat.mod_lt _ (Nat.two_pow_pos k)
  have hle : 2 ^ k ≤ 2 ^ 62 := Nat.pow_le_pow_right (by decide) (by omega)
  rw [BitVec.toInt_eq_toNat_of_lt (by rw [e1]; omega), e1]
theorem zland31 (x : Int) : zland x 2147483647 = x % 2147483648 := by
  rw [zland_m 31 (by decide) (by decide +kernel)]
  omega
theorem zland255 (x : Int) : zland x 255 = x % 256 := by
  rw [zland_m 8 (by decide) (by decide +kernel)]
  omega
theorem zand255a (x : Int) : zand (zw x) 255 = x % 256 := by
  unfold zand
  rw [pk_and (Int32.ofInt (zw x)) 8 (by decide +kernel)]
  have h : (Int32.ofInt (zw x)).toBitVec.toNat = (zw x % 4294967296).toNat := by
    show (BitVec.ofInt 32 (zw x)).toNat = _
    rw [BitVec.toNat_ofInt]
    rfl
  rw [h]
  have h1 : (zw x % 4294967296).toNat % 2 ^ 8 < 2 ^ 8 := Nat.mod_lt _ (by decide)
  rw [nI_toInt (by omega)]
  have h2 : zw x % 4294967296 = x % 4294967296 := by
    unfold zw
    rw [show (4294967296 : Int) = ((4294967296 : Nat) : Int) from rfl, Int.bmod_emod]
  rw [h2]
  omega
section
variable {m mm : zMm}
theorem t_common (d : Nat) : ∀ (y x : Nat), x < 1000 → y < 1000 → ∀ m : zMm, zR d 161 4 [none, none, some (.inl (x : Int)), some (.inl (y : Int)), none] [] SH m = zok (Nat.gcd y x) m := by
  intro y
  induction y using Nat.strongRecOn with
  | ind y ih =>
    intro x hx hy m
    rw [zb_X9_common_4]
    by_cases c : y = 0
    · subst c
      rw [if_pos (by decide), Nat.gcd_zero_left]
    · have hlt := Nat.mod_lt x (show 0 < y by omega)
      have := ih (x % y) hlt y hy (by omega) m
      rw [if_neg (by omega), if_neg (by omega), zrem_n (by omega) (by omega) (by omega) (by omega), ← Int.natCast_emod, Nat.gcd_rec]
      exact zR_weak (by repeat first | exact zle_nil | apply zle_c | apply zle_n) this
theorem t_drawn_loop (d c : Nat) (P : Nat → Bool) (hc : (c : Int) < mm 6 3) (hr : mR m mm) (hI : xI mm) : ∀ (f i : Nat) (v : Int), i + f = 8 → 0 ≤ v → v < zsum (zwt (mm 9) P c) 8 - zsum (zwt (mm 9) P c) i → zR (d + 2) 166 40 [some (.inr (.inr 45)), some (.inl (c : Int)), some (.inl (mks P 8)), some (.inl v), some (.inl (i : Int))] [] SH m = zok (zdrw P (mm 9) c f i v) m
  | 0, i, v, h, h0, hv => by
    obtain rfl : i = 8 := by omega
    omega
  | f + 1, i, v, h, h0, hv => by
    have hW := hI.ce.2.2.2.1
    have h6 := hI.ce.2.1
    have hg := zwt_r hW P c 8
    have hg2 := zwt_r hW P c i
    have hwi := hW (8 * c + i)
    have hwe := hr.we (8 * c + i) (by omega)
    have ih := t_drawn_loop d c P hc hr hI f (i + 1)
    have es : zsum (zwt (mm 9) P c) (i + 1) = zsum (zwt (mm 9) P c) i + zwt (mm 9) P c i := zsum_s _ _
    rw [es] at ih
    have hh := t_has (d + 1) (mks P 8) i (by omega) m
    rw [mks_bit P 8 (by decide), decide_eq_true (show i < 8 by omega), Bool.true_and] at hh
    rw [zb_X9_drawOf_40, hh, zcI_ok, zb_X9_drawOf_46, zw_id (x := 8 * (c : Int)) (by omega) (by omega), zw_id (x := 8 * (c : Int) + i) (by omega) (by omega), show (8 * (c : Int) + i).toNat = 8 * c + i by omega, hwe, hh, zcI_ok, zb_X9_drawOf_72, zw_id (x := 8 * (c : Int)) (by omega) (by omega), zw_id (x := 8 * (c : Int) + i) (by omega) (by omega), show (8 * (c : Int) + i).toNat = 8 * c + i by omega, hwe, zw_inc i (by omega), Int.sub_zero, zw_id (x := v) (by omega) (by omega), zw_id (x := v - mm 9 (8 * c + i)) (by omega) (by omega), zdrw_s]
    cases hp : P i with
    | false =>
      rw [zwt_f hp] at ih ⊢
      simp only [Bool.false_eq_true, if_false, if_true, Bool.false_and, Int.sub_zero]
      exact ih v (by omega) h0 (by omega)
    | true =>
      rw [zwt_t hp] at ih ⊢
      simp only [if_true, show ¬ ((1 : Int) = 0) by decide, if_false, Bool.true_and]
      rw [if_pos (by omega)]
      by_cases c2 : v < mm 9 (8 * c + i)
      · rw [if_pos c2, decide_eq_true c2]
        rfl
      · rw [if_neg c2, if_pos (by omega), decide_eq_false c2]
        exact ih _ (by omega) (by omega) (by omega)
theorem t_drawOf (d c : Nat) (P : Nat → Bool) (hc : (c : Int) < mm 6 3) (ht : 0 < zsum (zwt (mm 9) P c) 8) (hr : mR m mm) (hI : xI mm) : zL (d + 3) 166 [.inr (.inr 45), .inl c, .inl (mks P 8)] SH m = zok (zdrw P (mm 9) c 8 0 (zlot (mm 1 4) / 65536 % zsum (zwt (mm 9) P c) 8)) (zu m 45 15 (zlot (mm 1 4))) := by
  have hW := hI.ce.2.2.2.1
  have hg := zwt_r hW P c 8
  have hl := zlot_r (mm 1 4)
  have hlt := hI.lt
  have e1 : zw (zland (zwl (zwl (m 45 15 * 1103515245) + 12345)) 2147483647) = zlot (mm 1 4) := by
    rw [hr.dr, zwl_id (x := mm 1 4 * 1103515245) (by omega) (by omega), zwl_id (by omega) (by omega), zland31]
    exact zw_id (by omega) (by omega)
  have hr2 : mR (zu m 45 15 (zlot (mm 1 4))) (zu mm 1 4 (zlot (mm 1 4))) := by
    refine ⟨?_, ?_, ?_, ?_, ?_, ?_, ?_, ?_, ?_, ?_, ?_, ?_, ?_, ?_, ?_, ?_⟩
    · exact hr.fo
    · exact hr.lw
    · exact hr.ll
    · exact hr.ki
    · exact hr.we
    · exact hr.de
    · exact hr.ce
    · exact hr.bo
    · exact hr.wr
    · exact hr.lm
    · exact hr.mn
    · exact hr.sz
    · exact hr.st
    · exact hr.bk
    · exact hr.tn
    · rfl
  have hI2 : xI (zu mm 1 4 (zlot (mm 1 4))) := ⟨hI.ce, hI.tg, hI.tl, hI.se, hI.st, hI.bk, hI.pg, hI.wr, hI.wo, hI.dd, hl⟩
  have hwo := t_weightOf (m := zu m 45 15 (zlot (mm 1 4))) (mm := zu mm 1 4 (zlot (mm 1 4))) d c P hc hr2 hI2
  have e9 : zu mm 1 4 (zlot (mm 1 4)) 9 = mm 9 := zu_k _ _ (by decide)
  rw [e9] at hwo
  have hm := Int.emod_lt_of_pos (zlot (mm 1 4) / 65536) ht
  have hm0 := Int.emod_nonneg (zlot (mm 1 4) / 65536) (show zsum (zwt (mm 9) P c) 8 ≠ 0 by omega)
  have key := t_drawn_loop (m := zu m 45 15 (zlot (mm 1 4))) (mm := zu mm 1 4 (zlot (mm 1 4))) d c P hc hr2 hI2 8 0 (zlot (mm 1 4) / 65536 % zsum (zwt (mm 9) P c) 8) (by omega) hm0 (by rw [e9]; show _ < _ - 0; omega)
  rw [e9] at key
  rw [ze_X9_drawOf, zb_X9_drawOf_0, e1, hwo, zcI_ok, zb_X9_drawOf_35, if_neg (by omega), zdiv_n hl.1 hl.2 (by decide) (by decide), zrem_n (by omega) (by omega) ht (by omega)]
  exact key
end
