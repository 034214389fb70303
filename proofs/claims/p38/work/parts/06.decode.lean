def zdk (i : Nat) : Bool := (List.range (zsz i)).all (fun pc => match zC i pc with
  | none => true
  | some (ins, len, _) => decide (decode (zBy i) pc = .ok (ins, len)))
def zdr (a n : Nat) : Bool := (List.range n).all (fun k => zdk (a + k))
theorem zdk_0 : zdr 0 30 = true := by decide +kernel
theorem zdk_30 : zdr 30 30 = true := by decide +kernel
theorem zdk_60 : zdr 60 31 = true := by decide +kernel
