theorem zWhole (L : Nat) (f : Nat → Int) (_ : L ≤ 260) (hf : ∀ j, zr32 (f j)) : ∃ shF mmF, zR 60 92 0 (zin 21 [.inr (.inr 999)]) [] [] (zmS L f) = some (some (.inl 1), shF, mmF) ∧ shF.length ≤ 600000 ∧ ztot shF ≤ 7302249 := by
  obtain ⟨x, M, e, rfl⟩ := l_all L f hf
  exact ⟨SH, M, e, by decide, by decide +kernel⟩
