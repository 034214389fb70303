/-- what holds of the class's rows -/
def xI (mm : zMm) : Prop := (zCe (mm 7) (mm 9) (mm 8) (mm 6 3)) ∧ (zTg (mm 3) (mm 4) (mm 5) (mm 2 3)) ∧ (zTl (mm 4) (mm 5) (mm 2 3)) ∧ (zSe (mm 11) (mm 6 3)) ∧ (0 ≤ mm 10 2 ∧ (mm 10 2 < mm 6 3 ∨ mm 10 2 = 0)) ∧ (mm 10 4 = 0 ∨ mm 10 4 = 1) ∧ (xP mm) ∧ (zWr (mm 14) (mm 12 2) (mm 6 3)) ∧ (∀ j : Nat, mm 6 3 * 8 ≤ j → j < 48 → mm 9 j = 1) ∧ (∀ c : Nat, mm 6 3 ≤ c → mm 8 c = 0) ∧ (0 ≤ mm 1 4 ∧ mm 1 4 < 2147483648)
theorem xI.ce {mm : zMm} (h : xI mm) : zCe (mm 7) (mm 9) (mm 8) (mm 6 3) := h.1
theorem xI.tg {mm : zMm} (h : xI mm) : zTg (mm 3) (mm 4) (mm 5) (mm 2 3) := h.2.1
theorem xI.tl {mm : zMm} (h : xI mm) : zTl (mm 4) (mm 5) (mm 2 3) := h.2.2.1
theorem xI.se {mm : zMm} (h : xI mm) : zSe (mm 11) (mm 6 3) := h.2.2.2.1
theorem xI.st {mm : zMm} (h : xI mm) : 0 ≤ mm 10 2 ∧ (mm 10 2 < mm 6 3 ∨ mm 10 2 = 0) := h.2.2.2.2.1
theorem xI.bk {mm : zMm} (h : xI mm) : mm 10 4 = 0 ∨ mm 10 4 = 1 := h.2.2.2.2.2.1
theorem xI.pg {mm : zMm} (h : xI mm) : xP mm := h.2.2.2.2.2.2.1
theorem xI.wr {mm : zMm} (h : xI mm) : zWr (mm 14) (mm 12 2) (mm 6 3) := h.2.2.2.2.2.2.2.1
theorem xI.wo {mm : zMm} (h : xI mm) : ∀ j : Nat, mm 6 3 * 8 ≤ j → j < 48 → mm 9 j = 1 := h.2.2.2.2.2.2.2.2.1
theorem xI.dd {mm : zMm} (h : xI mm) : ∀ c : Nat, mm 6 3 ≤ c → mm 8 c = 0 := h.2.2.2.2.2.2.2.2.2.1
theorem xI.lt {mm : zMm} (h : xI mm) : 0 ≤ mm 1 4 ∧ mm 1 4 < 2147483648 := h.2.2.2.2.2.2.2.2.2.2
/-- the model's rows tell the same as the class's -/
def mR (m mm : zMm) : Prop := (m 46 = mm 3) ∧ (m 47 = mm 4) ∧ (m 48 = mm 5) ∧ (m 49 = mm 7) ∧ (∀ j : Nat, (j : Int) < 8 * mm 6 3 → m 50 j = mm 9 j) ∧ (m 51 = mm 8) ∧ (m 52 = mm 11) ∧ (m 53 = mm 13) ∧ (m 54 = mm 14) ∧ (m 45 3 = mm 2 3) ∧ (m 45 8 = mm 6 3) ∧ (m 45 11 = mm 12 2) ∧ (m 45 12 = mm 10 2) ∧ (m 45 13 = mm 10 4) ∧ (m 45 14 = mm 10 3) ∧ (m 45 15 = mm 1 4)
theorem mR.fo {m mm : zMm} (h : mR m mm) : m 46 = mm 3 := h.1
theorem mR.lw {m mm : zMm} (h : mR m mm) : m 47 = mm 4 := h.2.1
theorem mR.ll {m mm : zMm} (h : mR m mm) : m 48 = mm 5 := h.2.2.1
theorem mR.ki {m mm : zMm} (h : mR m mm) : m 49 = mm 7 := h.2.2.2.1
theorem mR.we {m mm : zMm} (h : mR m mm) : ∀ j : Nat, (j : Int) < 8 * mm 6 3 → m 50 j = mm 9 j := h.2.2.2.2.1
theorem mR.de {m mm : zMm} (h : mR m mm) : m 51 = mm 8 := h.2.2.2.2.2.1
theorem mR.ce {m mm : zMm} (h : mR m mm) : m 52 = mm 11 := h.2.2.2.2.2.2.1
theorem mR.bo {m mm : zMm} (h : mR m mm) : m 53 = mm 13 := h.2.2.2.2.2.2.2.1
theorem mR.wr {m mm : zMm} (h : mR m mm) : m 54 = mm 14 := h.2.2.2.2.2.2.2.2.1
theorem mR.lm {m mm : zMm} (h : mR m mm) : m 45 3 = mm 2 3 := h.2.2.2.2.2.2.2.2.2.1
theorem mR.mn {m mm : zMm} (h : mR m mm) : m 45 8 = mm 6 3 := h.2.2.2.2.2.2.2.2.2.2.1
theorem mR.sz {m mm : zMm} (h : mR m mm) : m 45 11 = mm 12 2 := h.2.2.2.2.2.2.2.2.2.2.2.1
theorem mR.st {m mm : zMm} (h : mR m mm) : m 45 12 = mm 10 2 := h.2.2.2.2.2.2.2.2.2.2.2.2.1
theorem mR.bk {m mm : zMm} (h : mR m mm) : m 45 13 = mm 10 4 := h.2.2.2.2.2.2.2.2.2.2.2.2.2.1
theorem mR.tn {m mm : zMm} (h : mR m mm) : m 45 14 = mm 10 3 := h.2.2.2.2.2.2.2.2.2.2.2.2.2.2.1
theorem mR.dr {m mm : zMm} (h : mR m mm) : m 45 15 = mm 1 4 := h.2.2.2.2.2.2.2.2.2.2.2.2.2.2.2
theorem t_in (d : Nat) (a b c : Int) (m : zMm) : zL (d + 1) 126 [.inr (.inl a), .inr (.inl b), .inr (.inl c)] SH m = zok (if b ≤ a ∧ a ≤ c then 1 else 0) m := by
  rw [ze_X9_in, zb_X9_in_0]
  (repeat' split) <;> first | rfl | (exfalso; omega)
theorem t_has (d : Nat) (x : Int) (k : Nat) (hk : k < 32) (m : zMm) : zL (d + 1) 127 [.inl x, .inl k] SH m = zok (if zbit x k then 1 else 0) m := by
  rw [ze_X9_has, zb_X9_has_0, zbit_test _ hk]
  cases zbit x k <;> rfl
theorem t_isWord (d : Nat) (a : Int) (m : zMm) : zL (d + 2) 128 [.inl a] SH m = zok (if 0 ≤ a ∧ a < 8 then 1 else 0) m := by
  rw [ze_X9_isWord, zb_X9_isWord_0, t_in, zcI_ok, zb_X9_isWord_9]
  (repeat' split) <;> first | rfl | (exfalso; omega)
/-- a row of words -/
def zrow (words n most : Int) : Bool := decide (1 ≤ n ∧ n ≤ most ∧ 0 ≤ words ∧ words < ((8 ^ n.toNat : Nat) : Int))
theorem z8e {n : Int} (h1 : 1 ≤ n) (h6 : n ≤ 6) : zshl 1 (zw (3 * n)) = ((8 ^ n.toNat : Nat) : Int) := by
  have := z8 (n := n.toNat) (by omega)
  rw [show ((n.toNat : Nat) : Int) = n by omega] at this
  exact this
theorem zp8 {n : Nat} (h : n ≤ 6) : 1 ≤ 8 ^ n ∧ 8 ^ n ≤ 262144 := by
  have : ∀ n, n < 7 → 1 ≤ 8 ^ n ∧ 8 ^ n ≤ 262144 := by decide
  exact this n (by omega)
theorem t_isRow (d : Nat) (words n most : Int) (hm : most ≤ 6) (m : zMm) : zL (d + 2) 130 [.inl words, .inl n, .inl most] SH m = zok (if zrow words n most then 1 else 0) m := by
  unfold zrow
  simp only [decide_eq_true_eq]
  rw [ze_X9_isRow, zb_X9_isRow_0, t_in, zcI_ok, zb_X9_isRow_8]
  by_cases h : 1 ≤ n ∧ n ≤ most
  · have hp := zp8 (n := n.toNat) (by omega)
    rw [if_pos h, if_neg (by decide), z8e h.1 (by omega), zw_id (by omega) (by omega), t_in, zcI_ok, zb_X9_isRow_25]
    by_cases h2 : 0 ≤ words ∧ words < ((8 ^ n.toNat : Nat) : Int)
    · rw [if_pos (show 0 ≤ words ∧ words ≤ ((8 ^ n.toNat : Nat) : Int) - 1 by omega), if_neg (by decide), if_pos ⟨h.1, h.2, h2.1, h2.2⟩]
    · rw [if_neg (show ¬ (0 ≤ words ∧ words ≤ ((8 ^ n.toNat : Nat) : Int) - 1) by omega), if_pos rfl, if_neg (fun q => h2 ⟨q.2.2.1, q.2.2.2⟩)]
  · rw [if_neg h, if_pos rfl, if_neg (fun q => h ⟨q.1, q.2.1⟩)]
/-- how many words an end has; where the ends of so many words begin -/
def zhow (e : Nat) : Nat := if e < 1 then 0 else if e < 9 then 1 else if e < 73 then 2 else 3
def zfo (n : Nat) : Nat := if n = 0 then 0 else if n = 1 then 1 else if n = 2 then 9 else 73
theorem t_sizeIn (d e : Nat) (m : zMm) : zL (d + 1) 146 [.inl e] SH m = zok (zhow e) m := by
  rw [ze_X9_sizeIn, zb_X9_sizeIn_0]
  unfold zhow
  (repeat' split) <;> first | rfl | (exfalso; omega)
theorem t_firstOf (d n : Nat) (m : zMm) : zL (d + 1) 147 [.inl n] SH m = zok (zfo n) m := by
  rw [ze_X9_firstOf, zb_X9_firstOf_0]
  unfold zfo
  (repeat' split) <;> first | rfl | (exfalso; omega)
theorem zhow_r (e : Nat) : zhow e ≤ 3 ∧ zfo (zhow e) ≤ e := by
  unfold zhow zfo
  (repeat' split) <;> omega
theorem zsl_x (e : Nat) : zsl e = e - zfo (zhow e) + 8 ^ zhow e := by
  unfold zsl zhow zfo
  (repeat' split) <;> simp_all <;> omega
theorem zhow_u {e : Nat} (he : e < 585) : e - zfo (zhow e) < 8 ^ zhow e := by
  unfold zhow zfo
  (repeat' split) <;> simp_all <;> omega
theorem t_push (d e w : Nat) (he : e < 585) (hw : w < 8) (m : zMm) : zL (d + 2) 148 [.inl e, .inl w] SH m = zok (wpush e w) m := by
  have hz := zhow_r e
  have hfo : zfo (zhow e) ≤ 73 := by unfold zfo; (repeat' split) <;> omega
  rw [ze_X9_push, zb_X9_push_0, t_sizeIn, zcI_ok, zb_X9_push_4, t_firstOf, zcI_ok, zb_X9_push_10, zw_id (x := (e : Int) - (zfo (zhow e) : Nat)) (by omega) (by omega)]
  by_cases h : zhow e < 3
  · have hfo1 : zfo (zhow e + 1) ≤ 73 := by unfold zfo; (repeat' split) <;> omega
    rw [if_pos (by omega), show zw ((zhow e : Int) + 1) = ((zhow e + 1 : Nat) : Int) by rw [zw_id (by omega) (by omega)]; omega, t_firstOf, zcI_ok, zb_X9_push_23, zw_id (x := 8 * ((e : Int) - (zfo (zhow e) : Nat))) (by omega) (by omega), zw_id (x := ((zfo (zhow e + 1) : Nat) : Int) + _) (by omega) (by omega), zw_id (by omega) (by omega)]
    refine congrArg (fun x => zok x m) ?_
    unfold zhow at h
    unfold wpush zfo zhow
    (repeat' split) <;> (try simp_all) <;> omega
  · have e3 : zhow e = 3 := by omega
    have h73 : 73 ≤ e := by
      unfold zhow at e3
      (repeat' split at e3) <;> omega
    have ef : zfo (zhow e) = 73 := by rw [e3]; rfl
    rw [if_neg (by omega), ef, zrem_n (by omega) (by omega) (by decide) (by decide), zw_id (x := _ * 8) (by omega) (by omega), zw_id (x := 73 + _) (by omega) (by omega), zw_id (by omega) (by omega)]
    refine congrArg (fun x => zok x m) ?_
    unfold wpush
    rw [if_neg (by omega), if_neg (by omega), if_neg (by omega)]
    omega
theorem t_endsIn (d e n : Nat) (words : Int) (he : e < 585) (hn : n ≤ 3) (m : zMm) : zL (d + 2) 150 [.inl e, .inl words, .inl n] SH m = zok (if zends e words n then 1 else 0) m := by
  have hz := zhow_r e
  have hu := zhow_u he
  have hx := zsl_x e
  have hp := zp8 (n := n) (by omega)
  have hpe : n ≤ zhow e ↔ 8 ^ n ≤ zsl e := by
    rw [hx]
    constructor
    · intro q
      exact Nat.le_trans (Nat.pow_le_pow_right (by decide) q) (Nat.le_add_left _ _)
    · intro q
      apply Classical.byContradiction
      intro r
      have h2 : 8 ^ (zhow e + 1) ≤ 8 ^ n := Nat.pow_le_pow_right (by decide) (by omega)
      rw [Nat.pow_succ] at h2
      omega
  unfold zends
  rw [ze_X9_endsIn, zb_X9_endsIn_0, t_sizeIn, zcI_ok, zb_X9_endsIn_4]
  by_cases h : n ≤ zhow e
  · rw [if_neg (by omega), t_firstOf, zcI_ok, zb_X9_endsIn_15, z8 (n := n) (by omega), if_neg (by omega), zw_id (x := (e : Int) - (zfo (zhow e) : Nat)) (by omega) (by omega), zrem_n (by omega) (by omega) (by omega) (by omega), decide_eq_true (hpe.mp h), Bool.true_and]
    have e1 : ((e : Int) - (zfo (zhow e) : Nat)) % ((8 ^ n : Nat) : Int) = ((zsl e % 8 ^ n : Nat) : Int) := by
      rw [hx]
      obtain ⟨k, hk⟩ : ∃ k, 8 ^ zhow e = 8 ^ n * k := ⟨8 ^ (zhow e - n), by rw [← Nat.pow_add, show n + (zhow e - n) = zhow e by omega]⟩
      rw [hk, Nat.add_mul_mod_self_left, Int.natCast_emod]
      congr 1
      omega
    rw [e1]
    by_cases q : ((zsl e % 8 ^ n : Nat) : Int) = words
    · rw [if_pos q, decide_eq_true q]
      rfl
    · rw [if_neg q, decide_eq_false q]
      rfl
  · rw [if_pos (by omega), decide_eq_false (fun q => h (hpe.mpr q))]
    rfl
section
variable {m mm : zMm}
theorem t_isCell (d : Nat) (a : Int) (hr : mR m mm) (hI : xI mm) : zL (d + 2) 129 [.inr (.inr 45), .inl a] SH m = zok (if 0 ≤ a ∧ a < mm 6 3 then 1 else 0) m := by
  have h0 := hI.ce.1
  have h6 := hI.ce.2.1
  rw [ze_X9_isCell, zb_X9_isCell_0, hr.mn, zw_id (by omega) (by omega), t_in, zcI_ok, zb_X9_isCell_13]
  (repeat' split) <;> first | rfl | (exfalso; omega)
theorem t_seatOf (d s c : Nat) (hr : mR m mm) (hI : xI mm) (hs : (s : Int) < mm 6 3) (hc : mm 11 s = c) : zL (d + 1) 136 [.inr (.inr 45), .inl c] SH m = zok s m := by
  have h6 := hI.ce.2.1
  have key : ∀ i : Nat, i ≤ (mm 6 3).toNat → zR d 136 4 [some (.inr (.inr 45)), some (.inl (c : Int)), some (.inl (if s < i then (s : Int) else 0)), some (.inl (i : Int))] [] SH m = zok s m := by
    refine zup ?_ ?_
    · rw [zb_X9_seatOf_4, hr.mn, if_neg (by omega), if_pos (by omega)]
    · intro i hi ih
      rw [zb_X9_seatOf_4, hr.mn, hr.ce, if_pos (by omega), if_pos (by omega), Int.toNat_natCast, zw_inc i (by omega)]
      by_cases q : mm 11 i = c
      · obtain rfl : i = s := hI.se.2.1 i s (by omega) hs (by rw [q, hc])
        rw [if_pos q]
        rw [if_pos (by omega)] at ih
        exact ih
      · rw [if_neg q]
        by_cases r : s < i
        · rw [if_pos r]
          rw [if_pos (by omega)] at ih
          exact ih
        · have : s ≠ i := fun z => q (by rw [← z]; exact hc)
          rw [if_neg r]
          rw [if_neg (by omega)] at ih
          exact ih
  rw [ze_X9_seatOf, zb_X9_seatOf_0]
  exact key 0 (by omega)
theorem t_endAt_loop (d u : Nat) (hr : mR m mm) (hI : xI mm) (hu : (u : Int) ≤ mm 12 2) : ∀ (c s e : Nat), s + c = u → e < 585 → zR (d + 2) 149 15 [some (.inr (.inr 45)), some (.inl (u : Int)), some (.inl (e : Int)), some (.inl (s : Int))] [] SH m = zok (zfold (mm 13) c s e) m
  | 0, s, e, h, he => by
    rw [zb_X9_endAt_15, if_neg (by omega)]
    rfl
  | c + 1, s, e, h, he => by
    have h60 := hI.pg.2.1
    have hw := hI.pg.2.2 s (by omega)
    rw [zb_X9_endAt_15, if_pos (by omega), if_pos (by omega), Int.toNat_natCast, hr.bo, show mm 13 s = ((mm 13 s).toNat : Int) by omega, t_push d e _ he (by omega), zcI_ok, zb_X9_endAt_30, zw_inc s (by omega)]
    exact t_endAt_loop d u hr hI hu c (s + 1) _ (by omega) (wpush_lt he (by omega))
theorem t_endAt (d u : Nat) (hr : mR m mm) (hI : xI mm) (hu : (u : Int) ≤ mm 12 2) : zL (d + 3) 149 [.inr (.inr 45), .inl u] SH m = zok (zend (mm 13) u) m := by
  have h60 := hI.pg.2.1
  rw [ze_X9_endAt, zb_X9_endAt_0]
  unfold zend
  by_cases h : u < 3
  · rw [if_pos (by omega), if_pos h]
    exact t_endAt_loop d u hr hI hu u 0 0 (by omega) (by decide)
  · rw [if_neg (by omega), if_neg h, show zw ((u : Int) - 3) = ((u - 3 : Nat) : Int) by rw [zw_id (by omega) (by omega)]; omega]
    exact t_endAt_loop d u hr hI hu 3 (u - 3) 0 (by omega) (by decide)
end
