theorem zSe_cong {S S' : Nat → Int} {n : Int} (e : ∀ j : Nat, (j : Int) < n → S' j = S j) (h : zSe S n) : zSe S' n := by
  obtain ⟨h1, h2, h3⟩ := h
  refine ⟨fun s hs => by rw [e s hs]; exact h1 s hs, fun s t hs ht q => h2 s t hs ht (by rw [← e s hs, ← e t ht]; exact q), fun c hc => ?_⟩
  obtain ⟨s, hs, q⟩ := h3 c hc
  exact ⟨s, hs, by rw [e s hs]; exact q⟩
theorem xI_mix {A B C : zMm} (hA : xI A) (hB : xI B) (h1 : C 1 4 = A 1 4) (h2 : C 2 3 = A 2 3) (h3 : ∀ j, C 3 j = if j < 8 then A 3 j else B 3 j) (h4 : ∀ j, C 4 j = if j < 6 then A 4 j else B 4 j) (h5 : ∀ j, C 5 j = if j < 6 then A 5 j else B 5 j) (h6 : C 6 3 = A 6 3) (h7 : ∀ j, C 7 j = if j < 6 then A 7 j else B 7 j) (h8 : ∀ j, C 8 j = if j < 6 then A 8 j else B 8 j) (h9 : ∀ j, C 9 j = if j < 48 then A 9 j else B 9 j) (h10 : C 10 2 = A 10 2) (h10b : C 10 4 = A 10 4) (h11 : ∀ j, C 11 j = if j < 6 then A 11 j else B 11 j) (h12 : C 12 2 = A 12 2) (h13 : ∀ j, C 13 j = if j < 60 then A 13 j else B 13 j) (h14 : ∀ j, C 14 j = if j < 60 then A 14 j else B 14 j) : xI C := by
  have a6 := hA.ce.2.1
  have a0 := hA.ce.1
  have b6 := hB.ce.2.1
  have l6 := hA.tg.2.1
  have p60 := hA.pg.2.1
  refine ⟨⟨?_, ?_, fun c => ?_, fun j => ?_, fun c => ?_⟩, ⟨?_, ?_, fun x hx => ?_, fun i hi => ?_⟩, fun i hi => ?_, ?_, ?_, ?_, ⟨?_, ?_, fun p hp => ?_⟩, fun p hp => ?_, fun j hj h48 => ?_, fun c hc => ?_, ?_⟩
  · rw [h6]; exact a0
  · rw [h6]; exact a6
  · rw [h7]
    split
    · exact hA.ce.2.2.1 c
    · exact hB.ce.2.2.1 c
  · rw [h9]
    split
    · exact hA.ce.2.2.2.1 j
    · exact hB.ce.2.2.2.1 j
  · rw [h8]
    split
    · exact hA.ce.2.2.2.2 c
    · exact hB.ce.2.2.2.2 c
  · rw [h2]; exact hA.tg.1
  · rw [h2]; exact l6
  · rw [h3, if_pos hx]
    exact hA.tg.2.2.1 x hx
  · rw [h2] at hi
    rw [h4, h5, if_pos (by omega), if_pos (by omega)]
    exact hA.tg.2.2.2 i hi
  · rw [h2] at hi
    rw [h4, h5, if_pos (by omega), if_pos (by omega)]
    exact hA.tl i hi
  · rw [h6]
    exact zSe_cong (fun j hj => by rw [h11, if_pos (by omega)]) hA.se
  · rw [h10, h6]; exact hA.st
  · rw [h10b]; exact hA.bk
  · rw [h12]; exact hA.pg.1
  · rw [h12]; exact p60
  · rw [h12] at hp
    rw [h13, if_pos (by omega)]
    exact hA.pg.2.2 p hp
  · rw [h12] at hp
    rw [h14, if_pos (by omega), h6]
    exact hA.wr p hp
  · rw [h6] at hj
    rw [h9, if_pos h48]
    exact hA.wo j hj h48
  · rw [h6] at hc
    rw [h8]
    split
    · exact hA.dd c hc
    · exact hB.dd c (by omega)
  · rw [h1]; exact hA.lt
theorem zkK_k (mm : zMm) {k : Nat} (h : k < 15 ∨ 28 < k) : zkK mm k = mm k := by
  funext j
  unfold zkK
  simp only [show k ≠ 15 by omega, show k ≠ 16 by omega, show k ≠ 17 by omega, show k ≠ 18 by omega, show k ≠ 19 by omega, show k ≠ 20 by omega, show k ≠ 21 by omega, show k ≠ 22 by omega, show k ≠ 23 by omega, show k ≠ 24 by omega, show k ≠ 25 by omega, show k ≠ 26 by omega, show k ≠ 27 by omega, show k ≠ 28 by omega, if_false]
theorem zkN_k (mm : zMm) {k : Nat} (h : k < 1 ∨ 14 < k) : zkN mm k = mm k := by
  funext j
  unfold zkN
  simp only [show k ≠ 1 by omega, show k ≠ 2 by omega, show k ≠ 3 by omega, show k ≠ 4 by omega, show k ≠ 5 by omega, show k ≠ 6 by omega, show k ≠ 7 by omega, show k ≠ 8 by omega, show k ≠ 9 by omega, show k ≠ 10 by omega, show k ≠ 11 by omega, show k ≠ 12 by omega, show k ≠ 13 by omega, show k ≠ 14 by omega, if_false]
theorem zkeep_k (m : zMm) {k : Nat} (h : k ≠ 45) (h2 : k ≠ 63) (h3 : k ≠ 64) : zkeep m k = m k := by
  unfold zkeep
  rw [zu_k _ _ h, zu_k _ _ h3, zu_k _ _ h3, zu_k _ _ h3, zu_k _ _ h3, zu_k _ _ h3, zu_k _ _ h3, zu_k _ _ h3, zur_k _ _ h2]
theorem zkeep_j (m : zMm) {j : Nat} (h : j ≠ 28) : zkeep m 45 j = m 45 j := by
  unfold zkeep
  rw [zu_j _ _ h]
  simp (disch := decide) only [zu_k, zur_k]
theorem zkeep_63 (m : zMm) {j : Nat} (h : j < 206) : zkeep m 63 j = zca m j := by
  unfold zkeep
  simp (disch := decide) only [zu_k]
  rw [zur_s, if_pos h]
theorem zkeep_64 (m : zMm) : zkeep m 64 0 = m 45 3 ∧ zkeep m 64 1 = m 45 8 ∧ zkeep m 64 2 = m 45 11 ∧ zkeep m 64 3 = m 45 12 ∧ zkeep m 64 4 = m 45 13 ∧ zkeep m 64 5 = m 45 14 ∧ zkeep m 64 6 = m 45 15 := by
  unfold zkeep
  simp (disch := decide) only [zu_k, zu_j, zu_s]
  exact ⟨trivial, trivial, trivial, trivial, trivial, trivial, trivial⟩
theorem zkeep_28 (m : zMm) : zkeep m 45 28 = 1 := zu_s _ _ _ _
theorem zbrought_k (m : zMm) {k : Nat} (h : k < 45 ∨ 54 < k) : zbrought m k = m k := by
  unfold zbrought
  rw [zu_k _ _ (by omega), zu_k _ _ (by omega), zu_k _ _ (by omega), zu_k _ _ (by omega), zu_k _ _ (by omega), zu_k _ _ (by omega), zu_k _ _ (by omega), zrback_k _ _ (by decide) (by omega)]
theorem zbrought_j (m : zMm) {j : Nat} (h : 15 < j) : zbrought m 45 j = m 45 j := by
  unfold zbrought
  rw [zu_j _ _ (by omega), zu_j _ _ (by omega), zu_j _ _ (by omega), zu_j _ _ (by omega), zu_j _ _ (by omega), zu_j _ _ (by omega), zu_j _ _ (by omega), zrback_k _ _ (by decide) (by decide)]
theorem zbrought_c (m : zMm) : zbrought m 45 3 = m 64 0 ∧ zbrought m 45 8 = m 64 1 ∧ zbrought m 45 11 = m 64 2 ∧ zbrought m 45 12 = m 64 3 ∧ zbrought m 45 13 = m 64 4 ∧ zbrought m 45 14 = m 64 5 ∧ zbrought m 45 15 = m 64 6 := by
  unfold zbrought
  simp (disch := decide) only [zu_k, zu_j, zu_s]
  exact ⟨trivial, trivial, trivial, trivial, trivial, trivial, trivial⟩
theorem zbrought_r (m : zMm) {k : Nat} (h : k ≠ 45) : zbrought m k = zrback m 206 k := by
  unfold zbrought
  rw [zu_k _ _ h, zu_k _ _ h, zu_k _ _ h, zu_k _ _ h, zu_k _ _ h, zu_k _ _ h, zu_k _ _ h]
theorem zbrought_46 (m : zMm) (j : Nat) : zbrought m 46 j = if j < 8 then m 63 (j) else m 46 j := by
  rw [zbrought_r m (by decide)]
  unfold zrback zixat
  by_cases q : j < 8
  · simp [q, show j < 206 by omega]
  · simp [q]
theorem zbrought_47 (m : zMm) (j : Nat) : zbrought m 47 j = if j < 6 then m 63 (j + 8) else m 47 j := by
  rw [zbrought_r m (by decide)]
  unfold zrback zixat
  by_cases q : j < 6
  · simp [q, show j + 8 < 206 by omega]
  · simp [q]
theorem zbrought_48 (m : zMm) (j : Nat) : zbrought m 48 j = if j < 6 then m 63 (j + 14) else m 48 j := by
  rw [zbrought_r m (by decide)]
  unfold zrback zixat
  by_cases q : j < 6
  · simp [q, show j + 14 < 206 by omega]
  · simp [q]
theorem zbrought_50 (m : zMm) (j : Nat) : zbrought m 50 j = if j < 48 then m 63 (j + 20) else m 50 j := by
  rw [zbrought_r m (by decide)]
  unfold zrback zixat
  by_cases q : j < 48
  · simp [q, show j + 20 < 206 by omega]
  · simp [q]
theorem zbrought_49 (m : zMm) (j : Nat) : zbrought m 49 j = if j < 6 then m 63 (j + 68) else m 49 j := by
  rw [zbrought_r m (by decide)]
  unfold zrback zixat
  by_cases q : j < 6
  · simp [q, show j + 68 < 206 by omega]
  · simp [q]
theorem zbrought_51 (m : zMm) (j : Nat) : zbrought m 51 j = if j < 6 then m 63 (j + 74) else m 51 j := by
  rw [zbrought_r m (by decide)]
  unfold zrback zixat
  by_cases q : j < 6
  · simp [q, show j + 74 < 206 by omega]
  · simp [q]
theorem zbrought_52 (m : zMm) (j : Nat) : zbrought m 52 j = if j < 6 then m 63 (j + 80) else m 52 j := by
  rw [zbrought_r m (by decide)]
  unfold zrback zixat
  by_cases q : j < 6
  · simp [q, show j + 80 < 206 by omega]
  · simp [q]
theorem zbrought_53 (m : zMm) (j : Nat) : zbrought m 53 j = if j < 60 then m 63 (j + 86) else m 53 j := by
  rw [zbrought_r m (by decide)]
  unfold zrback zixat
  by_cases q : j < 60
  · simp [q, show j + 86 < 206 by omega]
  · simp [q]
theorem zbrought_54 (m : zMm) (j : Nat) : zbrought m 54 j = if j < 60 then m 63 (j + 146) else m 54 j := by
  rw [zbrought_r m (by decide)]
  unfold zrback zixat
  by_cases q : j < 60
  · simp [q, show j + 146 < 206 by omega]
  · simp [q]
section
variable {m mm : zMm}
theorem op_image (d : Nat) (h : zRel m mm) : zBoth d 103 187 [] m mm := by
  obtain ⟨hI, hR, ⟨hT1, hT2, hT⟩, ⟨hK1, hK2, hK3, hK4⟩, hS⟩ := id h
  have hb : m 45 13 = 0 ∨ m 45 13 = 1 := by rw [hR.bk]; exact hI.bk
  have fc : ∀ k, k < 15 ∨ 28 < k → k ≠ 0 → zu (zkK mm) 0 6 1 k = mm k := fun k hk h0 => by
    rw [zu_k _ _ h0, zkK_k _ hk]
  have e64 := zkeep_64 m
  refine ⟨1, zu (zkK mm) 0 6 1, zkeep m, ?_, t_image (d + 18) m hb, ?_, fun k hk => fc k (by omega) (by omega), fun k hk => zkeep_k _ (by omega) (by omega) (by omega)⟩
  · rw [ze_X8_image, zb_X8_image_0, s_copyFromX1K _ hI.ce.2.2.2.2 hI.bk, zcV_vd, zb_X8_image_11]
  · refine ⟨xI_fr (fun k a b => fc k (by omega) (by omega)) hI, mR_both (fun k a b => fc k (by omega) (by omega)) (fun k a b => zkeep_k _ (by omega) (by omega) (by omega)) (fun j hj => zkeep_j _ (by omega)) hR, zTapes_fr ⟨hT1, hT2, hT⟩ (by rw [fc 29 (by decide) (by decide)]) (fc 30 (by decide) (by decide)) (zkeep_k _ (by decide) (by decide) (by decide)) (zkeep_j _ (by decide)), ⟨by rw [zkeep_28, zu_s], by rw [zu_s]; exact .inr rfl, ?_, fun _ => ?_⟩, zSR_fr hS (fun k a b => fc k (by omega) (by omega)) (fun k a b => zkeep_k _ (by omega) (by omega) (by omega))⟩
    · refine xI_mix hI hK3 ?_ ?_ ?_ ?_ ?_ ?_ ?_ ?_ ?_ ?_ ?_ ?_ ?_ ?_ ?_
      · show zu (zkK mm) 0 6 1 15 4 = mm 1 4
        rw [zu_k _ _ (by decide)]
        simp [zkK]
      · show zu (zkK mm) 0 6 1 16 3 = mm 2 3
        rw [zu_k _ _ (by decide)]
        simp [zkK]
      · intro j
        show zu (zkK mm) 0 6 1 17 j = if j < 8 then mm 3 j else mm 17 j
        rw [zu_k _ _ (by decide)]
        simp [zkK]
      · intro j
        show zu (zkK mm) 0 6 1 18 j = if j < 6 then mm 4 j else mm 18 j
        rw [zu_k _ _ (by decide)]
        simp [zkK]
      · intro j
        show zu (zkK mm) 0 6 1 19 j = if j < 6 then mm 5 j else mm 19 j
        rw [zu_k _ _ (by decide)]
        simp [zkK]
      · show zu (zkK mm) 0 6 1 20 3 = mm 6 3
        rw [zu_k _ _ (by decide)]
        simp [zkK]
      · intro j
        show zu (zkK mm) 0 6 1 21 j = if j < 6 then mm 7 j else mm 21 j
        rw [zu_k _ _ (by decide)]
        simp [zkK]
      · intro j
        show zu (zkK mm) 0 6 1 22 j = if j < 6 then mm 8 j else mm 22 j
        rw [zu_k _ _ (by decide)]
        simp [zkK]
      · intro j
        show zu (zkK mm) 0 6 1 23 j = if j < 48 then mm 9 j else mm 23 j
        rw [zu_k _ _ (by decide)]
        simp [zkK]
      · show zu (zkK mm) 0 6 1 24 2 = mm 10 2
        rw [zu_k _ _ (by decide)]
        simp [zkK]
      · show zu (zkK mm) 0 6 1 24 4 = mm 10 4
        rw [zu_k _ _ (by decide)]
        simp [zkK]
      · intro j
        show zu (zkK mm) 0 6 1 25 j = if j < 6 then mm 11 j else mm 25 j
        rw [zu_k _ _ (by decide)]
        simp [zkK]
      · show zu (zkK mm) 0 6 1 26 2 = mm 12 2
        rw [zu_k _ _ (by decide)]
        simp [zkK]
      · intro j
        show zu (zkK mm) 0 6 1 27 j = if j < 60 then mm 13 j else mm 27 j
        rw [zu_k _ _ (by decide)]
        simp [zkK]
      · intro j
        show zu (zkK mm) 0 6 1 28 j = if j < 60 then mm 14 j else mm 28 j
        rw [zu_k _ _ (by decide)]
        simp [zkK]
    · have r : ∀ k, k ≠ 0 → zu (zkK mm) 0 6 1 k = zkK mm k := fun k hk => zu_k _ _ hk
      refine ⟨fun j hj => ?_, fun j hj => ?_, fun j hj => ?_, fun j hj => ?_, fun j hj => ?_, fun j hj => ?_, fun j hj => ?_, fun j hj => ?_, fun j hj => ?_, ?_, ?_, ?_, ?_, ?_, ?_, ?_⟩
      · have e : zca m j = m 46 j := by
          unfold zca
          rw [if_pos (by omega)]
        have e2 : zkK mm 17 j = mm 3 j := by simp [zkK, hj]
        rw [zkeep_63 m (by omega), e, r 17 (by decide), e2, hR.fo]
      · have e : zca m (j + 8) = m 47 j := by
          unfold zca
          rw [if_neg (by omega), if_pos (by omega), show j + 8 - 8 = j by omega]
        have e2 : zkK mm 18 j = mm 4 j := by simp [zkK, hj]
        rw [zkeep_63 m (by omega), e, r 18 (by decide), e2, hR.lw]
      · have e : zca m (j + 14) = m 48 j := by
          unfold zca
          rw [if_neg (by omega), if_neg (by omega), if_pos (by omega), show j + 14 - 14 = j by omega]
        have e2 : zkK mm 19 j = mm 5 j := by simp [zkK, hj]
        rw [zkeep_63 m (by omega), e, r 19 (by decide), e2, hR.ll]
      · have e20 : zkK mm 20 3 = mm 6 3 := by simp [zkK]
        rw [r 20 (by decide), e20] at hj
        have h6 := hI.ce.2.1
        have e : zca m (j + 20) = m 50 j := by
          unfold zca
          rw [if_neg (by omega), if_neg (by omega), if_neg (by omega), if_pos (by omega), show j + 20 - 20 = j by omega]
        have e2 : zkK mm 23 j = mm 9 j := by simp [zkK, show j < 48 by omega]
        rw [zkeep_63 m (by omega), e, r 23 (by decide), e2, hR.we j hj]
      · have e : zca m (j + 68) = m 49 j := by
          unfold zca
          rw [if_neg (by omega), if_neg (by omega), if_neg (by omega), if_neg (by omega), if_pos (by omega), show j + 68 - 68 = j by omega]
        have e2 : zkK mm 21 j = mm 7 j := by simp [zkK, hj]
        rw [zkeep_63 m (by omega), e, r 21 (by decide), e2, hR.ki]
      · have e : zca m (j + 74) = m 51 j := by
          unfold zca
          rw [if_neg (by omega), if_neg (by omega), if_neg (by omega), if_neg (by omega), if_neg (by omega), if_pos (by omega), show j + 74 - 74 = j by omega]
        have e2 : zkK mm 22 j = mm 8 j := by simp [zkK, hj]
        rw [zkeep_63 m (by omega), e, r 22 (by decide), e2, hR.de]
      · have e : zca m (j + 80) = m 52 j := by
          unfold zca
          rw [if_neg (by omega), if_neg (by omega), if_neg (by omega), if_neg (by omega), if_neg (by omega), if_neg (by omega), if_pos (by omega), show j + 80 - 80 = j by omega]
        have e2 : zkK mm 25 j = mm 11 j := by simp [zkK, hj]
        rw [zkeep_63 m (by omega), e, r 25 (by decide), e2, hR.ce]
      · have e : zca m (j + 86) = m 53 j := by
          unfold zca
          rw [if_neg (by omega), if_neg (by omega), if_neg (by omega), if_neg (by omega), if_neg (by omega), if_neg (by omega), if_neg (by omega), if_pos (by omega), show j + 86 - 86 = j by omega]
        have e2 : zkK mm 27 j = mm 13 j := by simp [zkK, hj]
        rw [zkeep_63 m (by omega), e, r 27 (by decide), e2, hR.bo]
      · have e : zca m (j + 146) = m 54 j := by
          unfold zca
          rw [if_neg (by omega), if_neg (by omega), if_neg (by omega), if_neg (by omega), if_neg (by omega), if_neg (by omega), if_neg (by omega), if_neg (by omega), show j + 146 - 146 = j by omega]
        have e2 : zkK mm 28 j = mm 14 j := by simp [zkK, hj]
        rw [zkeep_63 m (by omega), e, r 28 (by decide), e2, hR.wr]
      · have e2 : zkK mm 16 3 = mm 2 3 := by simp [zkK]
        rw [e64.1, r 16 (by decide), e2, hR.lm]
      · have e2 : zkK mm 20 3 = mm 6 3 := by simp [zkK]
        rw [e64.2.1, r 20 (by decide), e2, hR.mn]
      · have e2 : zkK mm 26 2 = mm 12 2 := by simp [zkK]
        rw [e64.2.2.1, r 26 (by decide), e2, hR.sz]
      · have e2 : zkK mm 24 2 = mm 10 2 := by simp [zkK]
        rw [e64.2.2.2.1, r 24 (by decide), e2, hR.st]
      · have e2 : zkK mm 24 4 = mm 10 4 := by simp [zkK]
        rw [e64.2.2.2.2.1, r 24 (by decide), e2, hR.bk]
      · have e2 : zkK mm 24 3 = mm 10 3 := by simp [zkK]
        rw [e64.2.2.2.2.2.1, r 24 (by decide), e2, hR.tn]
      · have e2 : zkK mm 15 4 = mm 1 4 := by simp [zkK]
        rw [e64.2.2.2.2.2.2, r 15 (by decide), e2, hR.dr]
theorem op_restore (d : Nat) (h : zRel m mm) : zBoth d 104 188 [] m mm := by
  obtain ⟨hI, hR, ⟨hT1, hT2, hT⟩, ⟨hK1, hK2, hK3, hK4⟩, hS⟩ := id h
  by_cases c : mm 0 6 = 0
  · refine zBoth_0 (-4) h ?_ ?_
    · rw [ze_X8_restore, zb_X8_restore_0, if_pos c]
    · rw [ze_X9_restore, zb_X9_restore_0, hK1, if_pos c]
  · obtain ⟨k1, k2, k3, k4, k5, k6, k7, k8, k9, n1, n2, n3, n4, n5, n6, n7⟩ := hK4 (by omega)
    have hb : m 64 4 = 0 ∨ m 64 4 = 1 := by rw [n5]; exact hK3.bk
    have hm := t_restore (d + 18) m hb
    rw [hK1, if_neg c] at hm
    have ec := zbrought_c m
    refine ⟨1, zkN mm, zbrought m, ?_, hm, ?_, fun k hk => zkN_k _ (by omega), fun k hk => zbrought_k _ (by omega)⟩
    · rw [ze_X8_restore, zb_X8_restore_0, if_neg c, s_copyFromX1N _ hK3.ce.2.2.2.2 hK3.bk, zcV_vd, zb_X8_restore_21]
    · refine ⟨?_, ?_, zTapes_fr ⟨hT1, hT2, hT⟩ (by rw [zkN_k _ (by decide)]) (zkN_k _ (by decide)) (zbrought_k _ (by decide)) (zbrought_j _ (by decide)), zKept_fr ⟨hK1, hK2, hK3, hK4⟩ (by rw [zkN_k _ (by decide)]) (fun k a b => zkN_k _ (by omega)) (zbrought_j _ (by decide)) (zbrought_k _ (by decide)) (zbrought_k _ (by decide)), zSR_fr hS (fun k a b => zkN_k _ (by omega)) (fun k a b => zbrought_k _ (by omega))⟩
      · refine xI_mix hK3 hI ?_ ?_ ?_ ?_ ?_ ?_ ?_ ?_ ?_ ?_ ?_ ?_ ?_ ?_ ?_
        · show zkN mm 1 4 = mm 15 4
          simp [zkN]
        · show zkN mm 2 3 = mm 16 3
          simp [zkN]
        · intro j
          show zkN mm 3 j = if j < 8 then mm 17 j else mm 3 j
          simp [zkN]
        · intro j
          show zkN mm 4 j = if j < 6 then mm 18 j else mm 4 j
          simp [zkN]
        · intro j
          show zkN mm 5 j = if j < 6 then mm 19 j else mm 5 j
          simp [zkN]
        · show zkN mm 6 3 = mm 20 3
          simp [zkN]
        · intro j
          show zkN mm 7 j = if j < 6 then mm 21 j else mm 7 j
          simp [zkN]
        · intro j
          show zkN mm 8 j = if j < 6 then mm 22 j else mm 8 j
          simp [zkN]
        · intro j
          show zkN mm 9 j = if j < 48 then mm 23 j else mm 9 j
          simp [zkN]
        · show zkN mm 10 2 = mm 24 2
          simp [zkN]
        · show zkN mm 10 4 = mm 24 4
          simp [zkN]
        · intro j
          show zkN mm 11 j = if j < 6 then mm 25 j else mm 11 j
          simp [zkN]
        · show zkN mm 12 2 = mm 26 2
          simp [zkN]
        · intro j
          show zkN mm 13 j = if j < 60 then mm 27 j else mm 13 j
          simp [zkN]
        · intro j
          show zkN mm 14 j = if j < 60 then mm 28 j else mm 14 j
          simp [zkN]
      · refine ⟨?_, ?_, ?_, ?_, ?_, ?_, ?_, ?_, ?_, ?_, ?_, ?_, ?_, ?_, ?_, ?_⟩
        · funext j
          rw [zbrought_46, hR.fo]
          by_cases q : j < 8
          · have e2 : zkN mm 3 j = mm 17 j := by simp [zkN, q]
            rw [if_pos q, e2, k1 j q]
          · have e2 : zkN mm 3 j = mm 3 j := by simp [zkN, q]
            rw [if_neg q, e2]
        · funext j
          rw [zbrought_47, hR.lw]
          by_cases q : j < 6
          · have e2 : zkN mm 4 j = mm 18 j := by simp [zkN, q]
            rw [if_pos q, e2, k2 j q]
          · have e2 : zkN mm 4 j = mm 4 j := by simp [zkN, q]
            rw [if_neg q, e2]
        · funext j
          rw [zbrought_48, hR.ll]
          by_cases q : j < 6
          · have e2 : zkN mm 5 j = mm 19 j := by simp [zkN, q]
            rw [if_pos q, e2, k3 j q]
          · have e2 : zkN mm 5 j = mm 5 j := by simp [zkN, q]
            rw [if_neg q, e2]
        · funext j
          rw [zbrought_49, hR.ki]
          by_cases q : j < 6
          · have e2 : zkN mm 7 j = mm 21 j := by simp [zkN, q]
            rw [if_pos q, e2, k5 j q]
          · have e2 : zkN mm 7 j = mm 7 j := by simp [zkN, q]
            rw [if_neg q, e2]
        · intro j hj
          have e20 : zkN mm 6 3 = mm 20 3 := by simp [zkN]
          rw [e20] at hj
          have h6 : mm 20 3 ≤ 6 := hK3.ce.2.1
          have e2 : zkN mm 9 j = mm 23 j := by simp [zkN, show j < 48 by omega]
          rw [zbrought_50, if_pos (by omega), e2, k4 j hj]
        · funext j
          rw [zbrought_51, hR.de]
          by_cases q : j < 6
          · have e2 : zkN mm 8 j = mm 22 j := by simp [zkN, q]
            rw [if_pos q, e2, k6 j q]
          · have e2 : zkN mm 8 j = mm 8 j := by simp [zkN, q]
            rw [if_neg q, e2]
        · funext j
          rw [zbrought_52, hR.ce]
          by_cases q : j < 6
          · have e2 : zkN mm 11 j = mm 25 j := by simp [zkN, q]
            rw [if_pos q, e2, k7 j q]
          · have e2 : zkN mm 11 j = mm 11 j := by simp [zkN, q]
            rw [if_neg q, e2]
        · funext j
          rw [zbrought_53, hR.bo]
          by_cases q : j < 60
          · have e2 : zkN mm 13 j = mm 27 j := by simp [zkN, q]
            rw [if_pos q, e2, k8 j q]
          · have e2 : zkN mm 13 j = mm 13 j := by simp [zkN, q]
            rw [if_neg q, e2]
        · funext j
          rw [zbrought_54, hR.wr]
          by_cases q : j < 60
          · have e2 : zkN mm 14 j = mm 28 j := by simp [zkN, q]
            rw [if_pos q, e2, k9 j q]
          · have e2 : zkN mm 14 j = mm 14 j := by simp [zkN, q]
            rw [if_neg q, e2]
        · have e2 : zkN mm 2 3 = mm 16 3 := by simp [zkN]
          rw [ec.1, e2, n1]
        · have e2 : zkN mm 6 3 = mm 20 3 := by simp [zkN]
          rw [ec.2.1, e2, n2]
        · have e2 : zkN mm 12 2 = mm 26 2 := by simp [zkN]
          rw [ec.2.2.1, e2, n3]
        · have e2 : zkN mm 10 2 = mm 24 2 := by simp [zkN]
          rw [ec.2.2.2.1, e2, n4]
        · have e2 : zkN mm 10 4 = mm 24 4 := by simp [zkN]
          rw [ec.2.2.2.2.1, e2, n5]
        · have e2 : zkN mm 10 3 = mm 24 3 := by simp [zkN]
          rw [ec.2.2.2.2.2.1, e2, n6]
        · have e2 : zkN mm 1 4 = mm 15 4 := by simp [zkN]
          rw [ec.2.2.2.2.2.2, e2, n7]
end
