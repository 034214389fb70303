theorem zdrw_s (P : Nat → Bool) (Wt : Nat → Int) (c f w : Nat) (v : Int) : zdrw P Wt c (f + 1) w v = if P w && decide (v < Wt (8 * c + w)) then w else zdrw P Wt c f (w + 1) (v - zwt Wt P c w) := rfl
theorem zsum_le {f : Nat → Int} (h : ∀ j, 0 ≤ f j) : ∀ {m n : Nat}, m ≤ n → zsum f m ≤ zsum f n := by
  intro m n hmn
  induction n with
  | zero => rw [show m = 0 by omega]; exact Int.le_refl _
  | succ n ih =>
    by_cases q : m = n + 1
    · rw [q]; exact Int.le_refl _
    · have := ih (by omega)
      have := h n
      rw [zsum_s]
      omega
section
variable {mm : zMm}
theorem s_drawn_loop (d c : Nat) (P : Nat → Bool) (hn : xN mm) (hc : (c : Int) < mm 6 3) (hW : ∀ j : Nat, 0 ≤ mm 9 j ∧ mm 9 j ≤ 9) : ∀ (f i : Nat) (v w : Int), i + f = 8 → 0 ≤ v → v < zsum (zwt (mm 9) P c) 8 - zsum (zwt (mm 9) P c) i →
    zR (d + 2) 17 53 [some (.inr (.inr 1)), some (.inl (c : Int)), some (.inl (mks P 8)), none, some (.inl v), some (.inl w), some (.inl (i : Int))] [] SH mm = zok (zdrw P (mm 9) c f i v) mm
  | 0, i, v, w, h, h0, hv => by
    obtain rfl : i = 8 := by omega
    omega
  | f + 1, i, v, w, h, h0, hv => by
    have hr := zwt_r hW P c 8
    have hr2 := zwt_r hW P c i
    have hw := hW (8 * c + i)
    have e1 : zw ((i : Int) + 1) = ((i + 1 : Nat) : Int) := by rw [zw_id (by omega) (by omega)]; omega
    have ih := s_drawn_loop d c P hn hc hW f (i + 1)
    have es : zsum (zwt (mm 9) P c) (i + 1) = zsum (zwt (mm 9) P c) i + zwt (mm 9) P c i := zsum_s _ _
    rw [es] at ih
    rw [zb_X1_drawnWord_53, if_pos (by omega), if_neg (by omega), s_holds (d + 1) _ i (by omega), zcI_ok, zb_X1_drawnWord_71, mks_bit P 8 (by decide), decide_eq_true (show i < 8 by omega), Bool.true_and, zdrw_s]
    cases hp : P i with
    | false =>
      have e2 : zwt (mm 9) P c i = 0 := by unfold zwt; rw [hp]; rfl
      rw [e2] at ih ⊢
      rw [if_pos (by simp), e1, ih v w (by omega) h0 (by omega)]
      simp
    | true =>
      have e2 : zwt (mm 9) P c i = mm 9 (8 * c + i) := by unfold zwt; rw [hp]; rfl
      rw [e2] at ih ⊢
      rw [if_neg (by simp), s_weightOf d c i hn hc (by omega), zcI_ok, zb_X1_drawnWord_86, e1, zw_id (by omega) (by omega)]
      by_cases hv2 : v < mm 9 (8 * c + i)
      · rw [Bool.true_and, decide_eq_true hv2, if_pos rfl, zb_X1_drawnWord_53]
        by_cases q : ((i + 1 : Nat) : Int) < 8
        · rw [if_pos q, if_pos (by omega)]
        · rw [if_neg q]
      · rw [Bool.true_and, decide_eq_false hv2, if_neg (by simp)]
        exact ih _ _ (by omega) (by omega) (by omega)
theorem s_drawnWord (d c : Nat) (P : Nat → Bool) (hn : xN mm) (hc : (c : Int) < mm 6 3) (hW : ∀ j : Nat, 0 ≤ mm 9 j ∧ mm 9 j ≤ 9) (ht : 0 < zsum (zwt (mm 9) P c) 8) : zL (d + 4) 17 [.inr (.inr 1), .inl c, .inl (mks P 8)] SH mm = zok (zdrw P (mm 9) c 8 0 (zlot (mm 1 4) / 65536 % zsum (zwt (mm 9) P c) 8)) (zu mm 1 4 (zlot (mm 1 4))) := by
  have hr := zwt_r hW P c 8
  have hl := zlot_r (mm 1 4)
  have e9 : zu mm 1 4 (zlot (mm 1 4)) 9 = mm 9 := zu_k _ _ (by decide)
  have e6 : zu mm 1 4 (zlot (mm 1 4)) 6 = mm 6 := zu_k _ _ (by decide)
  have hn2 : xN (zu mm 1 4 (zlot (mm 1 4))) := by unfold xN; rw [e6]; exact hn
  have hw := s_weightOfSet (mm := zu mm 1 4 (zlot (mm 1 4))) d c P hn2 (by rw [e6]; exact hc) (by rw [e9]; exact hW)
  rw [e9] at hw
  have e16 : zshr (zlot (mm 1 4)) 16 = zlot (mm 1 4) / 65536 := by
    have := zshr_n (x := zlot (mm 1 4)) (k := 16) (by decide)
    rw [zo_i ⟨by omega, hl.2⟩] at this
    exact this
  have hl16 : 0 ≤ zlot (mm 1 4) / 65536 ∧ zlot (mm 1 4) / 65536 < 2147483648 := by omega
  have hm := Int.emod_lt_of_pos (zlot (mm 1 4) / 65536) ht
  have hm0 := Int.emod_nonneg (zlot (mm 1 4) / 65536) (show zsum (zwt (mm 9) P c) 8 ≠ 0 by omega)
  rw [ze_X1_drawnWord, zb_X1_drawnWord_0, zlot_x, hw, zcI_ok, zb_X1_drawnWord_27, if_pos ht, if_neg (by omega), zu_s, e16, zrem_n hl16.1 hl16.2 ht (by omega)]
  have key := s_drawn_loop (mm := zu mm 1 4 (zlot (mm 1 4))) (d + 1) c P hn2 (by rw [e6]; exact hc) (by rw [e9]; exact hW) 8 0 (zlot (mm 1 4) / 65536 % zsum (zwt (mm 9) P c) 8) 0 (by omega) hm0 (by rw [e9]; show _ < _ - 0; omega)
  rw [e9] at key
  exact zR_weak (by repeat first | exact zle_nil | apply zle_c | apply zle_n) key
/-- the end of the book -/
def xe (mm : zMm) : Nat := zend (mm 13) (mm 12 2).toNat
theorem xe_lt (hp : xP mm) : xe mm < 585 := zend_lt fun p hp2 => hp.2.2 p (by have := hp.1; omega)
/-- a word of the set has weight -/
theorem zset_w {K Wt F LW LL : Nat → Int} {ln c e : Nat} (hW : ∀ j : Nat, 0 ≤ Wt j ∧ Wt j ≤ 9) (h : mks (zcome K Wt F LW LL ln c e) 8 ≠ 0) : 0 < zsum (zwt Wt (zcome K Wt F LW LL ln c e) c) 8 := by
  have h1 : ¬ ∀ j, j < 8 → zcome K Wt F LW LL ln c e j = false := fun q => h ((mks_0 (by decide)).mpr q)
  have h2 : ∃ j, j < 8 ∧ zcome K Wt F LW LL ln c e j = true := by
    apply Classical.byContradiction
    intro q
    exact h1 fun j hj => by
      cases hz : zcome K Wt F LW LL ln c e j with
      | false => rfl
      | true => exact absurd ⟨j, hj, hz⟩ q
  obtain ⟨j, hj, hz⟩ := h2
  have hpos : 0 < Wt (8 * c + j) := by
    unfold zcome at hz
    simp only [Bool.and_eq_true, decide_eq_true_eq] at hz
    exact hz.2.1
  have hnn : ∀ i, 0 ≤ zwt Wt (zcome K Wt F LW LL ln c e) c i := fun i => by
    unfold zwt
    have := hW (8 * c + i)
    split <;> omega
  have h3 := zsum_le hnn (show j + 1 ≤ 8 by omega)
  have h4 := zsum_le hnn (show 0 ≤ j by omega)
  rw [zsum_s] at h3
  have h5 : zwt Wt (zcome K Wt F LW LL ln c e) c j = Wt (8 * c + j) := by unfold zwt; rw [hz]; rfl
  have h6 : zsum (zwt Wt (zcome K Wt F LW LL ln c e) c) 0 = 0 := rfl
  omega
theorem s_addDrawnWord (d st n t : Nat) (hnn : mm 6 3 = n) (hS : zSe (mm 11) (mm 6 3)) (hst : mm 10 2 = st) (hs : st < n ∨ n = 0) (ht : zturn (xas mm) n (zstep1 (mm 10 4) n) st = t) (htn : t < n) (hp : xP mm) (hce : zCe (mm 7) (mm 9) (mm 8) (mm 6 3)) (htg : zTg (mm 3) (mm 4) (mm 5) (mm 2 3)) :
    zL (d + 6) 16 [.inr (.inr 1)] SH mm = zvd (if mks (xcm mm (mm 11 t).toNat (xe mm)) 8 ≠ 0 ∧ mm 12 2 < 60 then
      zu (zu (zu (zu mm 1 4 (zlot (mm 1 4))) 13 (mm 12 2).toNat (zdrw (xcm mm (mm 11 t).toNat (xe mm)) (mm 9) (mm 11 t).toNat 8 0 (zlot (mm 1 4) / 65536 % zsum (zwt (mm 9) (xcm mm (mm 11 t).toNat (xe mm)) (mm 11 t).toNat) 8))) 14 (mm 12 2).toNat (mm 11 t)) 12 2 (mm 12 2 + 1) else mm) := by
  have hn : xN mm := ⟨hce.1, hce.2.1⟩
  have hct := hS.1 t (by omega)
  have ec : mm 11 t = ((mm 11 t).toNat : Int) := by omega
  have he := xe_lt hp
  rw [ze_X1_addDrawnWord, zb_X1_addDrawnWord_0, s_seatOfTurn d st n hnn hn hS hst hs, zcI_ok, ht, zb_X1_addDrawnWord_11, s_cellOn (d + 3) t hn (by omega), zcI_ok, zb_X1_addDrawnWord_14, s_slip (d + 1) hp, zcI_ok, zb_X1_addDrawnWord_24]
  show zcI (zL (d + 5) 14 [.inr (.inr 1), .inl (mm 11 t), .inl (zsl (xe mm))] SH mm) _ = _
  rw [ec, s_canCome (d + 2) _ (xe mm) (by omega) he hce htg, zcI_ok, zb_X1_addDrawnWord_27, Int.toNat_natCast]
  by_cases h0 : mks (xcm mm (mm 11 t).toNat (xe mm)) 8 = 0
  · rw [if_pos h0, if_neg (fun q => q.1 h0)]
  · rw [if_neg h0, s_isFull (d + 4), zcI_ok, zb_X1_addDrawnWord_39]
    by_cases h60 : mm 12 2 < 60
    · have hw : 0 < zsum (zwt (mm 9) (xcm mm (mm 11 t).toNat (xe mm)) (mm 11 t).toNat) 8 := zset_w hce.2.2.2.1 h0
      rw [if_pos h60, if_pos rfl, if_pos ⟨h0, h60⟩, s_drawnWord (d + 1) _ _ hn (by omega) hce.2.2.2.1 hw, zcI_ok, zb_X1_addDrawnWord_52]
      have e12 : zu mm 1 4 (zlot (mm 1 4)) 12 = mm 12 := zu_k _ _ (by decide)
      have e13 : zu mm 1 4 (zlot (mm 1 4)) 13 = mm 13 := zu_k _ _ (by decide)
      rw [s_pappend (mm := zu mm 1 4 (zlot (mm 1 4))) (d + 4) _ _ (by unfold xP; rw [e12, e13]; exact hp) (by rw [e12]; exact h60), zcV_vd, zb_X1_addDrawnWord_56, e12]
    · rw [if_neg h60, if_neg (by decide), if_neg (fun q => h60 q.2)]
end
