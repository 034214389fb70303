/-- what holds of the class's rows -/
def xI (mm : zMm) : Prop := (zCe (mm 7) (mm 9) (mm 8) (mm 6 3)) ∧ (zTg (mm 3) (mm 4) (mm 5) (mm 2 3)) ∧ (zTl (mm 4) (mm 5) (mm 2 3)) ∧ (zSe (mm 11) (mm 6 3)) ∧ (0 ≤ mm 10 2 ∧ (mm 10 2 < mm 6 3 ∨ mm 10 2 = 0)) ∧ (mm 10 4 = 0 ∨ mm 10 4 = 1) ∧ (xP mm) ∧ (zWr (mm 14) (mm 12 2) (mm 6 3)) ∧ (∀ j : Nat, mm 6 3 * 8 ≤ j → j < 48 → mm 9 j = 1) ∧ (∀ c : Nat, mm 6 3 ≤ c → mm 8 c = 0) ∧ (0 ≤ mm 1 4 ∧ mm 1 4 < 2147483648)
theorem xI.ce {mm : zMm} (h : xI mm) : zCe (mm 7) (mm 9) (mm 8) (mm 6 3) := h.1
theorem xI.tg {mm : zMm} (h : xI mm) : zTg (mm 3) (mm 4) (mm 5) (mm 2 3) := h.2.1
theorem xI.tl {mm : zMm} (h : xI mm) : zTl (mm 4) (mm 5) (mm 2 3) := h.2.2.1
theorem xI.se {mm : zMm} (h : xI mm) : zSe (mm 11) (mm 6 3) := h.2.2.2.1
theorem xI.st {mm : zMm} (h : xI mm) : 0 ≤ mm 10 2 ∧ (mm 10 2 < mm 6 3 ∨ mm 10 2 = 0) := h.2.2.2.2.1
theorem xI.bk {mm : zMm} (h : xI mm) : mm 10 4 = 0 ∨ mm 10 4 = 1 := h.2.2.2.2.2.1
theorem xI.pg {mm : zMm} (h : xI mm) : xP mm := h.2.2.2.2.2.2.1
theorem xI.wr {mm : zMm} (h : xI mm) : zWr (mm 14) (mm 12 2) (mm 6 3) := h.2.2.2.2.2.2.2.1
theorem xI.wo {mm : zMm} (h : xI mm) : ∀ j : Nat, mm 6 3 * 8 ≤ j → j < 48 → mm 9 j = 1 := h.2.2.2.2.2.2.2.2.1
theorem xI.dd {mm : zMm} (h : xI mm) : ∀ c : Nat, mm 6 3 ≤ c → mm 8 c = 0 := h.2.2.2.2.2.2.2.2.2.1
theorem xI.lt {mm : zMm} (h : xI mm) : 0 ≤ mm 1 4 ∧ mm 1 4 < 2147483648 := h.2.2.2.2.2.2.2.2.2.2
def zrow (words n most : Int) : Bool := decide (1 ≤ n ∧ n ≤ most ∧ 0 ≤ words ∧ words < ((8 ^ n.toNat : Nat) : Int))
def xlv (mm : zMm) : Int := zcnt (xal mm) (mm 6 3).toNat
theorem z8e {n : Int} (h1 : 1 ≤ n) (h6 : n ≤ 6) : zshl 1 (zw (3 * n)) = ((8 ^ n.toNat : Nat) : Int) := by
  have := z8 (n := n.toNat) (by omega)
  rw [show ((n.toNat : Nat) : Int) = n by omega] at this
  exact this
