theorem zWhole (L : Nat) (f : Nat → Int) (hL : L ≤ 3072) (hf : ∀ j, zr32 (f j)) : ∃ shF mmF, zR 60 202 0 (zin 4 [.inr (.inr 999)]) [] [] (zmS L f) = some (some (.inl 1), shF, mmF) ∧ shF.length ≤ 600000 ∧ ztot shF ≤ 7302250 := by
  obtain ⟨M3, h⟩ := zloop L f hL hf L 0 (zMem0 L f) (by omega) (by omega) (zRel_0 L f) (zm0_998 L f) (zm0_999 L f)
  exact ⟨SH, M3, zstart L f _ h, by decide, by decide⟩
