/-! what a turn, drawn, keeps -/
section
variable {mm : zMm}
theorem xdr_12 : xdr mm 12 = xad mm 12 := by unfold xdr; rw [zu_k _ _ (by decide), zu_k _ _ (by decide)]
theorem xdr_13 : xdr mm 13 = xad mm 13 := by unfold xdr; rw [zu_k _ _ (by decide), zu_k _ _ (by decide)]
theorem xdr_14 : xdr mm 14 = xad mm 14 := by unfold xdr; rw [zu_k _ _ (by decide), zu_k _ _ (by decide)]
theorem xdr_tn : xdr mm 10 3 = zw (mm 10 3 + 1) := by unfold xdr; rw [zu_s]
theorem xdr_yes (h : mks (xP1 mm) 8 ≠ 0 ∧ mm 12 2 < 60) : xdr mm 12 2 = mm 12 2 + 1 ∧ xdr mm 13 = zu mm 13 (mm 12 2).toNat (xw mm) 13 ∧ xdr mm 14 = zu mm 14 (mm 12 2).toNat (mm 11 (xst mm)) 14 := by
  have e : xad mm = zu (zu (zu (zu mm 1 4 (zlot (mm 1 4))) 13 (mm 12 2).toNat (xw mm)) 14 (mm 12 2).toNat (mm 11 (xst mm))) 12 2 (mm 12 2 + 1) := if_pos h
  rw [xdr_12, xdr_13, xdr_14, e]
  refine ⟨zu_s _ _ _ _, ?_, ?_⟩
  · rw [zu_k _ _ (by decide), zu_k _ _ (by decide)]
    exact zu_c (zu_k _ _ (by decide))
  · rw [zu_k _ _ (by decide)]
    exact zu_c (by rw [zu_k _ _ (by decide), zu_k _ _ (by decide)])
theorem xdr_no (h : ¬ (mks (xP1 mm) 8 ≠ 0 ∧ mm 12 2 < 60)) : xdr mm 12 = mm 12 ∧ xdr mm 13 = mm 13 ∧ xdr mm 14 = mm 14 := by
  have e : xad mm = mm := if_neg h
  rw [xdr_12, xdr_13, xdr_14, e]
  exact ⟨rfl, rfl, rfl⟩
/-- sane cells: what holds of the book -/
def sCl (N : Nat) (M : zMm) : Prop := (∀ c : Nat, c < N → M 7 c = 0 ∨ M 7 c = 3) ∧ (∀ p : Nat, 1 ≤ p → (p : Int) < M 12 2 → zbit (M 3 (M 13 (p - 1)).toNat) (M 13 p).toNat = true) ∧ ∀ p : Nat, (p : Int) < M 12 2 → zline (M 13) (M 4) (M 5) (M 2 3).toNat p = -4
def lJ (N : Nat) (sane : Int) (k : Nat) (tn : Int) (M : zMm) : Prop := xI M ∧ M 6 3 = N ∧ M 51 0 = N ∧ bF M ∧ M 10 3 = tn ∧ 0 ≤ tn ∧ tn ≤ k ∧ M 12 2 ≤ k ∧ (∀ p : Nat, (p : Int) < M 12 2 → 0 ≤ M 14 p ∧ M 14 p < N) ∧ (sane ≠ 0 → sCl N M)
theorem sCl_step {N : Nat} (hI : xI mm) (hz : 0 < xlv mm) (h6 : mm 6 3 = N) (h : sCl N mm) : sCl N (xdr mm) := by
  obtain ⟨h1, h2, h3⟩ := h
  have e7 : xdr mm 7 = mm 7 := xdr_k (by decide)
  have e3 : xdr mm 3 = mm 3 := xdr_k (by decide)
  have e4 : xdr mm 4 = mm 4 := xdr_k (by decide)
  have e5 : xdr mm 5 = mm 5 := xdr_k (by decide)
  have e2 : xdr mm 2 = mm 2 := xdr_k (by decide)
  unfold sCl
  rw [e7, e3, e4, e5, e2]
  refine ⟨h1, ?_⟩
  by_cases c : mks (xP1 mm) 8 ≠ 0 ∧ mm 12 2 < 60
  · obtain ⟨y1, y2, -⟩ := xdr_yes c
    obtain ⟨N', st, hN, hst, hlt, hN6, ht, htn, hal, ec, hcl, -⟩ := xst_r hI hz
    have h0 := hI.pg.1
    have hw := xw_r hI c.1
    have hkc := h1 (xc mm) (by omega)
    have hB : ∀ p, p < (mm 12 2).toNat → 0 ≤ mm 13 p ∧ mm 13 p < 8 := fun p hp => hI.pg.2.2 p (by omega)
    have hm : zmay (mm 3) (mm 4) (mm 5) 4 (zend (mm 13) (mm 12 2).toNat) (xw mm) (mm 2 3).toNat = true := by
      have hp := hw.2
      unfold xP1 xcm zcome at hp
      simp only [Bool.and_eq_true, Bool.or_eq_true, Bool.not_eq_true', decide_eq_false_iff_not, decide_eq_true_eq] at hp
      have k0 : mm 7 (xc mm) = 0 := by omega
      rw [k0] at hp
      exact hp.2.2.resolve_left (by decide)
    rw [y1, y2]
    refine ⟨fun p hp1 hp2 => ?_, fun p hp2 => ?_⟩
    · by_cases q : p = (mm 12 2).toNat
      · subst q
        rw [zu_s, zu_j _ _ (by omega), Int.toNat_natCast]
        exact zbit_new hB hp1 hm
      · rw [zu_j _ _ (by omega), zu_j _ _ q]
        exact h2 p hp1 (by omega)
    · by_cases q : p = (mm 12 2).toNat
      · subst q
        refine zline_new (B := mm 13) (F := mm 3) hB hw.1 (fun p hp => zu_j _ _ (by omega)) (zu_s _ _ _ _) (fun i hi => ?_) hm
        have t := hI.tg.2.2.2 i (by omega)
        have t2 := hI.tl i (by omega)
        exact ⟨t.1, t.2.1, t.2.2.1, t2⟩
      · rw [zline_cong (C := mm 13) (fun x hx => zu_j _ _ (by omega))]
        exact h3 p (by omega)
  · obtain ⟨y1, y2, -⟩ := xdr_no c
    rw [y1, y2]
    exact ⟨h2, h3⟩
theorem lJ_step {N k : Nat} {sane tn : Int} (hk : k < 60) (hz : 0 < xlv mm) (h : lJ N sane k tn mm) : lJ N sane (k + 1) (tn + 1) (xdr mm) := by
  obtain ⟨hI, h6, h51, hF, h10, ht0, htk, hlen, hwr, hs⟩ := h
  have hl := xdr_len hI
  have e6 : xdr mm 6 = mm 6 := xdr_k (by decide)
  have e51 : xdr mm 51 = mm 51 := xdr_k (by decide)
  have e45 : xdr mm 45 = mm 45 := xdr_k (by decide)
  have e3 : xdr mm 3 = mm 3 := xdr_k (by decide)
  refine ⟨xdr_I hI hz, by rw [e6]; exact h6, by rw [e51]; exact h51, fun w hw => by rw [e45, e3]; exact hF w hw, ?_, by omega, by omega, by omega, ?_, fun q => sCl_step hI hz h6 (hs q)⟩
  · rw [xdr_tn, h10, zw_id (by omega) (by omega)]
  · by_cases c : mks (xP1 mm) 8 ≠ 0 ∧ mm 12 2 < 60
    · obtain ⟨y1, -, y3⟩ := xdr_yes c
      obtain ⟨N', st, hN, hst, hlt, hN6, ht, htn, hal, ec, hcl, -⟩ := xst_r hI hz
      rw [y1, y3]
      intro p hp
      by_cases q : p = (mm 12 2).toNat
      · subst q
        rw [zu_s, ec]
        omega
      · rw [zu_j _ _ q]
        exact hwr p (by omega)
    · obtain ⟨y1, -, y3⟩ := xdr_no c
      rw [y1, y3]
      exact hwr
theorem lJ_skip {N k : Nat} {sane tn : Int} (h : lJ N sane k tn mm) : lJ N sane (k + 1) tn mm := by
  obtain ⟨hI, h6, h51, hF, h10, ht0, htk, hlen, hwr, hs⟩ := h
  exact ⟨hI, h6, h51, hF, h10, ht0, by omega, by omega, hwr, hs⟩
end
