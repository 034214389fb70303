theorem zWhole (L : Nat) (f : Nat → Int) (hL : L ≤ 3072) (hf : ∀ j, zr32 (f j)) : ∃ shF mmF, zR 60 202 0 (zin 4 [.inr (.inr 999)]) [] [] (zmS L f) = some (some (.inl 1), shF, mmF) ∧ shF.length ≤ 600000 ∧ ztot shF ≤ 7302250 := by
  sorry
