def zdq (i pc : Nat) : Bool := match zC i pc with
  | none => true
  | some (ins, len, _) => decide (decode (zBy i) pc = .ok (ins, len))
theorem zdq_91_0 : (List.range 300).all (fun k => zdq 91 (0 + k)) = true := by decide +kernel
theorem zdq_91_300 : (List.range 300).all (fun k => zdq 91 (300 + k)) = true := by decide +kernel
theorem zdq_91_600 : (List.range 300).all (fun k => zdq 91 (600 + k)) = true := by decide +kernel
theorem zdq_92_0 : (List.range 300).all (fun k => zdq 92 (0 + k)) = true := by decide +kernel
theorem zdq_92_300 : (List.range 300).all (fun k => zdq 92 (300 + k)) = true := by decide +kernel
theorem zdq_92_600 : (List.range 300).all (fun k => zdq 92 (600 + k)) = true := by decide +kernel
theorem zC_lt {i pc : Nat} {e : zEn} (h : zC i pc = some e) : i < 93 ∧ pc < zsz i := by
  unfold zC at h
  cases hc : (Nat.blt i 93 && Nat.blt pc (zsz i)) with
  | false => rw [hc] at h; cases h
  | true =>
    simp only [Bool.and_eq_true] at hc
    exact ⟨Nat.blt_eq.mp hc.1, Nat.blt_eq.mp hc.2⟩
theorem zrange {f : Nat → Bool} {a n i : Nat} (h : (List.range n).all (fun k => f (a + k)) = true) (h1 : a ≤ i) (h2 : i < a + n) : f i = true := by
  have h3 := List.all_eq_true.mp h (i - a) (List.mem_range.mpr (by omega))
  rwa [show a + (i - a) = i by omega] at h3
theorem zsz_91 : zsz 91 ≤ 793 := by decide +kernel
theorem zdk_91 : zdk 91 = true := by
  refine List.all_eq_true.mpr fun pc hpc => ?_
  have h := List.mem_range.mp hpc
  have h2 := zsz_91
  show zdq 91 pc = true
  by_cases h3 : pc < 300
  · exact zrange zdq_91_0 (by omega) (by omega)
  by_cases h303 : pc < 600
  · exact zrange zdq_91_300 (by omega) (by omega)
  exact zrange zdq_91_600 (by omega) (by omega)
theorem zsz_92 : zsz 92 ≤ 842 := by decide +kernel
theorem zdk_92 : zdk 92 = true := by
  refine List.all_eq_true.mpr fun pc hpc => ?_
  have h := List.mem_range.mp hpc
  have h2 := zsz_92
  show zdq 92 pc = true
  by_cases h3 : pc < 300
  · exact zrange zdq_92_0 (by omega) (by omega)
  by_cases h303 : pc < 600
  · exact zrange zdq_92_300 (by omega) (by omega)
  exact zrange zdq_92_600 (by omega) (by omega)
theorem zdk_all {i : Nat} (h : i < 93) : zdk i = true := by
  by_cases h0 : i < 30
  · exact zrange zdk_0 (by omega) (by omega)
  by_cases h1 : i < 60
  · exact zrange zdk_30 (by omega) (by omega)
  by_cases h2 : i < 91
  · exact zrange zdk_60 (by omega) (by omega)
  by_cases h3 : i < 92
  · obtain rfl : i = 91 := by omega
    exact zdk_91
  obtain rfl : i = 92 := by omega
  exact zdk_92
theorem zck_all {i : Nat} (h : i < 93) : zcki i = true := by
  by_cases h0 : i < 50
  · exact zrange zck_0 (by omega) (by omega)
  by_cases h1 : i < 91
  · exact zrange zck_50 (by omega) (by omega)
  exact zrange zck_l (by omega) (by omega)
theorem zC_dec {i pc : Nat} {e : zEn} (h : zC i pc = some e) : decode (zBy i) pc = .ok (e.1, e.2.1) := by
  obtain ⟨h1, h2⟩ := zC_lt h
  have h3 := List.all_eq_true.mp (zdk_all h1) pc (List.mem_range.mpr h2)
  rw [h] at h3
  exact of_decide_eq_true h3
theorem zC_chk {i pc : Nat} {e : zEn} (h : zC i pc = some e) : zchk i pc e = true := by
  obtain ⟨h1, h2⟩ := zC_lt h
  have h3 := List.all_eq_true.mp (zck_all h1) pc (List.mem_range.mpr h2)
  rw [h] at h3
  exact h3
