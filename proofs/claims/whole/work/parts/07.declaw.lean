def zdq (i pc : Nat) : Bool := match zC i pc with
  | none => true
  | some (ins, len, _) => decide (decode (zBy i) pc = .ok (ins, len))
theorem zdq_0 : (List.range 350).all (fun k => zdq 202 (0 + k)) = true := by decide +kernel
theorem zdq_350 : (List.range 350).all (fun k => zdq 202 (350 + k)) = true := by decide +kernel
theorem zdq_700 : (List.range 350).all (fun k => zdq 202 (700 + k)) = true := by decide +kernel
theorem zdq_1050 : (List.range 400).all (fun k => zdq 202 (1050 + k)) = true := by decide +kernel
theorem zC_lt {i pc : Nat} {e : zEn} (h : zC i pc = some e) : i < 203 ∧ pc < zsz i := by
  unfold zC at h
  cases hc : (Nat.blt i 203 && Nat.blt pc (zsz i)) with
  | false => rw [hc] at h; cases h
  | true =>
    simp only [Bool.and_eq_true] at hc
    exact ⟨Nat.blt_eq.mp hc.1, Nat.blt_eq.mp hc.2⟩
theorem zrange {f : Nat → Bool} {a n i : Nat} (h : (List.range n).all (fun k => f (a + k)) = true) (h1 : a ≤ i) (h2 : i < a + n) : f i = true := by
  have h3 := List.all_eq_true.mp h (i - a) (List.mem_range.mpr (by omega))
  rwa [show a + (i - a) = i by omega] at h3
theorem zsz_202 : zsz 202 ≤ 1450 := by decide +kernel
theorem zdk_202 : zdk 202 = true := by
  refine List.all_eq_true.mpr fun pc hpc => ?_
  have h := List.mem_range.mp hpc
  have h2 := zsz_202
  show zdq 202 pc = true
  by_cases h0 : pc < 350
  · exact zrange zdq_0 (by omega) (by omega)
  by_cases h1 : pc < 700
  · exact zrange zdq_350 (by omega) (by omega)
  by_cases h3 : pc < 1050
  · exact zrange zdq_700 (by omega) (by omega)
  exact zrange zdq_1050 (by omega) (by omega)
theorem zdk_all {i : Nat} (h : i < 203) : zdk i = true := by
  by_cases h0 : i < 30
  · exact zrange zdk_0 (by omega) (by omega)
  by_cases h1 : i < 60
  · exact zrange zdk_30 (by omega) (by omega)
  by_cases h2 : i < 90
  · exact zrange zdk_60 (by omega) (by omega)
  by_cases h3 : i < 120
  · exact zrange zdk_90 (by omega) (by omega)
  by_cases h4 : i < 150
  · exact zrange zdk_120 (by omega) (by omega)
  by_cases h5 : i < 180
  · exact zrange zdk_150 (by omega) (by omega)
  by_cases h6 : i < 202
  · exact zrange zdk_180 (by omega) (by omega)
  obtain rfl : i = 202 := by omega
  exact zdk_202
theorem zck_all {i : Nat} (h : i < 203) : zcki i = true := by
  by_cases h0 : i < 50
  · exact zrange zck_0 (by omega) (by omega)
  by_cases h1 : i < 100
  · exact zrange zck_50 (by omega) (by omega)
  by_cases h2 : i < 150
  · exact zrange zck_100 (by omega) (by omega)
  by_cases h3 : i < 202
  · exact zrange zck_150 (by omega) (by omega)
  exact zrange zck_202 (by omega) (by omega)
theorem zC_dec {i pc : Nat} {e : zEn} (h : zC i pc = some e) : decode (zBy i) pc = .ok (e.1, e.2.1) := by
  obtain ⟨h1, h2⟩ := zC_lt h
  have h3 := List.all_eq_true.mp (zdk_all h1) pc (List.mem_range.mpr h2)
  rw [h] at h3
  exact of_decide_eq_true h3
theorem zC_chk {i pc : Nat} {e : zEn} (h : zC i pc = some e) : zchk i pc e = true := by
  obtain ⟨h1, h2⟩ := zC_lt h
  have h3 := List.all_eq_true.mp (zck_all h1) pc (List.mem_range.mpr h2)
  rw [h] at h3
  exact h3
