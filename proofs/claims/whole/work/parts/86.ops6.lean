section
variable {m mm : zMm}
theorem op_book (d : Nat) (h : zRel m mm) : zBoth d 86 145 [] m mm := by
  obtain ⟨hI, hR, ⟨hT1, hT2, hT⟩, hK, hS⟩ := id h
  have ht0 := hT.1
  have ht80 := hT.2.1
  have hce0 := hI.ce.1
  obtain ⟨n, hn⟩ : ∃ n : Nat, mm 29 2 = n := ⟨(mm 29 2).toNat, by omega⟩
  have hx := s_xbook (mm := mm) (d + 17) hT
  obtain ⟨w', p', hm⟩ := t_book (m := m) (d + 17) n (by rw [hT2, hn]) (by omega) (fun i hi => by rw [hT1]; exact hT.2.2 i (by omega))
  rw [hn, Int.toNat_natCast] at hx
  rw [hT1] at hm
  have hz := zpb_R (mm 30) n 0 0 (mm 31) (m 56) (fun k hk => absurd hk (Nat.not_lt_zero k))
  have hw := zpb_w (mm 30) n 0 0 (m 56) (fun k hk => absurd hk (Nat.not_lt_zero k))
  have h24 := zpb_r (mm 30) n 0 0 (m 56) (by omega)
  rw [hz.1] at hx hz
  have hz2 : ∀ k : Nat, (k : Int) < (zpb (mm 30) n 0 0 (m 56)).1 → (zpb (mm 30) n 0 0 (mm 31)).2 k = (zpb (mm 30) n 0 0 (m 56)).2 k := hz.2
  generalize (zpb (mm 30) n 0 0 (mm 31)).2 = Q at hx hz2
  generalize zpb (mm 30) n 0 0 (m 56) = o at hx hm hz2 hw h24
  clear hz
  have xTn : ∀ (mc : zMm), mc 29 2 = 0 → xT mc := fun mc e => by
    unfold xT
    rw [e]
    exact ⟨by decide, by decide, fun i hi => absurd hi (by omega)⟩
  by_cases c : 0 ≤ o.1
  · rw [if_pos c] at hm hx
    have fc : ∀ a, a ≠ 12 → a ≠ 13 → a ≠ 14 → a ≠ 31 → a ≠ 29 → zu (zbc (zur mm 31 Q) Q o.1.toNat) 29 2 0 a = mm a := fun a a1 a2 a3 a4 a5 => by
      rw [zu_k _ _ a5]
      funext j
      unfold zbc
      rw [if_neg (fun z => a2 z.1), if_neg (fun z => a3 z.1), if_neg (fun z => a1 z.1), zur_k _ _ a4]
    have c13 : zu (zbc (zur mm 31 Q) Q o.1.toNat) 29 2 0 13 = fun j => if j < o.1.toNat then Q j else mm 13 j := by
      rw [zu_k _ _ (by decide)]
      funext j
      unfold zbc
      rw [zur_k _ _ (by decide)]
      by_cases q : j < o.1.toNat
      · rw [if_pos ⟨rfl, q⟩, if_pos q]
      · rw [if_neg (fun z => q z.2), if_neg (fun z => absurd z.1 (by decide)), if_neg (fun z => absurd z.1 (by decide)), if_neg q]
    have c14 : zu (zbc (zur mm 31 Q) Q o.1.toNat) 29 2 0 14 = fun j => if j < o.1.toNat then -4 else mm 14 j := by
      rw [zu_k _ _ (by decide)]
      funext j
      unfold zbc
      rw [zur_k _ _ (by decide)]
      by_cases q : j < o.1.toNat
      · rw [if_neg (fun z => absurd z.1 (by decide)), if_pos ⟨rfl, q⟩, if_pos q]
      · rw [if_neg (fun z => absurd z.1 (by decide)), if_neg (fun z => q z.2), if_neg (fun z => absurd z.1 (by decide)), if_neg q]
    have c12 : zu (zbc (zur mm 31 Q) Q o.1.toNat) 29 2 0 12 2 = o.1 := by
      rw [zu_k _ _ (by decide)]
      unfold zbc
      rw [if_neg (fun z => absurd z.1 (by decide)), if_neg (fun z => absurd z.1 (by decide)), if_pos ⟨rfl, rfl⟩]
      omega
    have c29 : zu (zbc (zur mm 31 Q) Q o.1.toNat) 29 2 0 29 2 = 0 := zu_s _ _ _ _
    have gm : ∀ a, a ≠ 53 → a ≠ 54 → a ≠ 45 → a ≠ 56 → zbk (zu (zu (zmt2 m o.2 o.1 p') 45 17 0) 45 11 o.1) o.2 o.1.toNat a = m a := fun a a1 a2 a3 a4 => by
      rw [zbk_k _ _ _ a1 a2, zu_k _ _ a3, zu_k _ _ a3, zmt2_k _ _ _ _ a4 a3]
    have gj : ∀ j, j ≠ 11 → j ≠ 17 → j ≠ 18 → j ≠ 19 → zbk (zu (zu (zmt2 m o.2 o.1 p') 45 17 0) 45 11 o.1) o.2 o.1.toNat 45 j = m 45 j := fun j a0 a1 a2 a3 => by
      rw [zbk_k _ _ _ (by decide) (by decide), zu_j _ _ a0, zu_j _ _ a1, zmt2_j _ _ _ _ a2 a3]
    have g11 : zbk (zu (zu (zmt2 m o.2 o.1 p') 45 17 0) 45 11 o.1) o.2 o.1.toNat 45 11 = o.1 := by
      rw [zbk_k _ _ _ (by decide) (by decide), zu_s]
    have g53 : zbk (zu (zu (zmt2 m o.2 o.1 p') 45 17 0) 45 11 o.1) o.2 o.1.toNat 53 = fun j => if j < o.1.toNat then Q j else mm 13 j := by
      funext j
      unfold zbk
      rw [zu_k _ _ (by decide), zu_k _ _ (by decide), zmt2_k _ _ _ _ (by decide) (by decide), hR.bo]
      by_cases q : j < o.1.toNat
      · rw [if_pos ⟨rfl, q⟩, if_pos q, hz2 j (by omega)]
      · rw [if_neg (fun z => q z.2), if_neg (fun z => absurd z.1 (by decide)), if_neg q]
    have g54 : zbk (zu (zu (zmt2 m o.2 o.1 p') 45 17 0) 45 11 o.1) o.2 o.1.toNat 54 = fun j => if j < o.1.toNat then -4 else mm 14 j := by
      funext j
      unfold zbk
      rw [zu_k _ _ (by decide), zu_k _ _ (by decide), zmt2_k _ _ _ _ (by decide) (by decide), hR.wr]
      by_cases q : j < o.1.toNat
      · rw [if_neg (fun z => absurd z.1 (by decide)), if_pos ⟨rfl, q⟩, if_pos q]
      · rw [if_neg (fun z => absurd z.1 (by decide)), if_neg (fun z => q z.2), if_neg q]
    refine ⟨o.1, _, _, hx, hm, ?_, fun k hk => fc k (by omega) (by omega) (by omega) (by omega) (by omega), fun k hk => gm k (by omega) (by omega) (by omega) (by omega)⟩
    have f := fun a h1 h2 h3 h4 h5 => fc a h1 h2 h3 h4 h5
    refine ⟨?_, ?_, ⟨?_, ?_, xTn _ c29⟩, zKept_fr hK (by rw [fc 0 (by decide) (by decide) (by decide) (by decide) (by decide)]) (fun k a b => fc k (by omega) (by omega) (by omega) (by omega) (by omega)) (gj 28 (by decide) (by decide) (by decide) (by decide)) (gm 63 (by decide) (by decide) (by decide) (by decide)) (gm 64 (by decide) (by decide) (by decide) (by decide)), zSR_fr hS (fun k a b => fc k (by omega) (by omega) (by omega) (by omega) (by omega)) (fun k a b => gm k (by omega) (by omega) (by omega) (by omega))⟩
    · have h' := hI
      unfold xI xP at h' ⊢
      rw [f 1 (by decide) (by decide) (by decide) (by decide) (by decide), f 2 (by decide) (by decide) (by decide) (by decide) (by decide), f 3 (by decide) (by decide) (by decide) (by decide) (by decide), f 4 (by decide) (by decide) (by decide) (by decide) (by decide), f 5 (by decide) (by decide) (by decide) (by decide) (by decide), f 6 (by decide) (by decide) (by decide) (by decide) (by decide), f 7 (by decide) (by decide) (by decide) (by decide) (by decide), f 8 (by decide) (by decide) (by decide) (by decide) (by decide), f 9 (by decide) (by decide) (by decide) (by decide) (by decide), f 10 (by decide) (by decide) (by decide) (by decide) (by decide), f 11 (by decide) (by decide) (by decide) (by decide) (by decide), c12, c13, c14]
      refine ⟨h'.1, h'.2.1, h'.2.2.1, h'.2.2.2.1, h'.2.2.2.2.1, h'.2.2.2.2.2.1, ⟨c, by omega, fun p hp => ?_⟩, fun p hp => ?_, h'.2.2.2.2.2.2.2.2⟩
      · dsimp only
        rw [if_pos (by omega), hz2 p hp]
        exact hw p hp
      · dsimp only
        rw [if_pos (by omega)]
        exact .inl rfl
    · have h' := hR
      unfold mR at h' ⊢
      rw [f 1 (by decide) (by decide) (by decide) (by decide) (by decide), f 2 (by decide) (by decide) (by decide) (by decide) (by decide), f 3 (by decide) (by decide) (by decide) (by decide) (by decide), f 4 (by decide) (by decide) (by decide) (by decide) (by decide), f 5 (by decide) (by decide) (by decide) (by decide) (by decide), f 6 (by decide) (by decide) (by decide) (by decide) (by decide), f 7 (by decide) (by decide) (by decide) (by decide) (by decide), f 8 (by decide) (by decide) (by decide) (by decide) (by decide), f 9 (by decide) (by decide) (by decide) (by decide) (by decide), f 10 (by decide) (by decide) (by decide) (by decide) (by decide), f 11 (by decide) (by decide) (by decide) (by decide) (by decide), c12, c13, c14, gm 46 (by decide) (by decide) (by decide) (by decide), gm 47 (by decide) (by decide) (by decide) (by decide), gm 48 (by decide) (by decide) (by decide) (by decide), gm 49 (by decide) (by decide) (by decide) (by decide), gm 50 (by decide) (by decide) (by decide) (by decide), gm 51 (by decide) (by decide) (by decide) (by decide), gm 52 (by decide) (by decide) (by decide) (by decide), g53, g54, g11, gj 3 (by decide) (by decide) (by decide) (by decide), gj 8 (by decide) (by decide) (by decide) (by decide), gj 12 (by decide) (by decide) (by decide) (by decide), gj 13 (by decide) (by decide) (by decide) (by decide), gj 14 (by decide) (by decide) (by decide) (by decide), gj 15 (by decide) (by decide) (by decide) (by decide)]
      obtain ⟨r1, r2, r3, r4, r5, r6, r7, r8, r9, r10, r11, r12, r13⟩ := h'
      exact ⟨r1, r2, r3, r4, r5, r6, r7, rfl, rfl, r10, r11, rfl, r13⟩
    · rw [gm 55 (by decide) (by decide) (by decide) (by decide), f 30 (by decide) (by decide) (by decide) (by decide) (by decide), hT1]
    · rw [c29, zbk_k _ _ _ (by decide) (by decide), zu_j _ _ (by decide), zu_s]
  · rw [if_neg c] at hm hx
    have fc : ∀ a, a ≠ 31 → a ≠ 29 → zu (zur mm 31 Q) 29 2 0 a = mm a := fun a a4 a5 => by
      rw [zu_k _ _ a5, zur_k _ _ a4]
    have gm : ∀ a, a ≠ 45 → a ≠ 56 → zu (zmt2 m o.2 w' p') 45 17 0 a = m a := fun a a2 a3 => by
      rw [zu_k _ _ a2, zmt2_k _ _ _ _ a3 a2]
    have gj : ∀ j, j ≠ 17 → j ≠ 18 → j ≠ 19 → zu (zmt2 m o.2 w' p') 45 17 0 45 j = m 45 j := fun j a1 a2 a3 => by
      rw [zu_j _ _ a1, zmt2_j _ _ _ _ a2 a3]
    have c29 : zu (zur mm 31 Q) 29 2 0 29 2 = 0 := zu_s _ _ _ _
    refine ⟨o.1, _, _, hx, hm, ?_, fun k hk => fc k (by omega) (by omega), fun k hk => gm k (by omega) (by omega)⟩
    refine ⟨xI_fr (fun k a b => fc k (by omega) (by omega)) hI, mR_both (fun k a b => fc k (by omega) (by omega)) (fun k a b => gm k (by omega) (by omega)) (fun j hj => gj j (by omega) (by omega) (by omega)) hR, ⟨?_, ?_, xTn _ c29⟩, zKept_fr hK (by rw [fc 0 (by decide) (by decide)]) (fun k a b => fc k (by omega) (by omega)) (gj 28 (by decide) (by decide) (by decide)) (gm 63 (by decide) (by decide)) (gm 64 (by decide) (by decide)), zSR_fr hS (fun k a b => fc k (by omega) (by omega)) (fun k a b => gm k (by omega) (by omega))⟩
    · rw [gm 55 (by decide) (by decide), fc 30 (by decide) (by decide), hT1]
    · rw [c29, zu_s]
end
