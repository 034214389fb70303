theorem zle_nil : zle [] [] := zle.rf []
theorem zle_c {o : Option zV} {l l' : zLs} (h : zle l l') : zle (o :: l) (o :: l') := ⟨by simp [h.1], fun i v hi => by
  cases i with
  | zero => exact hi
  | succ i => exact h.2 i v hi⟩
theorem zle_n {o : Option zV} {l l' : zLs} (h : zle l l') : zle (none :: l) (o :: l') := ⟨by simp [h.1], fun i v hi => by
  cases i with
  | zero => simp at hi
  | succ i => exact h.2 i v hi⟩
/-! what may come -/
def zstands (LW LL : Nat → Int) (lim : Int) (e w i : Nat) : Bool := decide (LL i - 1 < lim) && zends e (LW i / 8) (LL i - 1).toNat && decide (LW i % 8 = w)
def zmay (F LW LL : Nat → Int) (lim : Int) (e w : Nat) : Nat → Bool
  | 0 => decide (e = 0) || zbit (F (zsl e % 8)) w
  | i + 1 => zmay F LW LL lim e w i && !zstands LW LL lim e w i
/-- the tongue -/
def zTg (F LW LL : Nat → Int) (ln : Int) : Prop := 0 ≤ ln ∧ ln ≤ 6 ∧ (∀ w : Nat, w < 8 → 0 ≤ F w ∧ F w < 256) ∧ ∀ i : Nat, (i : Int) < ln → 1 ≤ LL i ∧ LL i ≤ 4 ∧ 0 ≤ LW i ∧ LW i < 4096
theorem s_mayCome {mm : zMm} (d e : Nat) (lim : Int) (he : e < 585) (ht : zTg (mm 3) (mm 4) (mm 5) (mm 2 3)) (hlim : 0 ≤ lim ∧ lim ≤ 4) : zL (d + 2) 45 [.inr (.inr 2), .inl (zsl e), .inl lim] SH mm = zok (mks (fun w => zmay (mm 3) (mm 4) (mm 5) lim e w (mm 2 3).toNat) 8) mm := by
  obtain ⟨h0, h6, hF, hl⟩ := ht
  have hs := zsl_r he
  have key : ∀ i, i ≤ (mm 2 3).toNat → zR (d + 1) 45 25 [some (.inr (.inr 2)), some (.inl (zsl e : Int)), some (.inl lim), some (.inl (mks (fun w => zmay (mm 3) (mm 4) (mm 5) lim e w i) 8)), some (.inl (i : Int)), none] [] SH mm = zok (mks (fun w => zmay (mm 3) (mm 4) (mm 5) lim e w (mm 2 3).toNat) 8) mm := by
    refine zup ?_ ?_
    · rw [zb_X6_mayCome_25, if_neg (by omega)]
    · intro i hi ih
      obtain ⟨l1, l2, l3, l4⟩ := hl i (by omega)
      have e1 : zw ((i : Int) + 1) = ((i + 1 : Nat) : Int) := by rw [zw_id (by omega) (by omega)]; omega
      rw [zb_X6_mayCome_25]
      simp (disch := omega) only [if_pos, Int.toNat_natCast, zw_id (show -2147483648 ≤ mm 5 i - 1 by omega) (show mm 5 i - 1 < 2147483648 by omega)]
      have ek : mm 4 i % 8 = ((mm 4 i % 8).toNat : Int) := by omega
      by_cases c1 : mm 5 i - 1 < lim
      · rw [if_pos c1, zshr3 l3 (by omega)]
        have e2 : mm 5 i - 1 = ((mm 5 i - 1).toNat : Int) := by omega
        rw [e2, s_slipEndsWith d he (by omega), zcI_ok, zb_X6_mayCome_73, e1, zand7 (x := mm 4 ((i : Int)).toNat) (by rw [Int.toNat_natCast]; omega) (by rw [Int.toNat_natCast]; omega), Int.toNat_natCast]
        cases c2 : zends e (mm 4 i / 8) (mm 5 i - 1).toNat with
        | false =>
          have hp : mks (fun w => zmay (mm 3) (mm 4) (mm 5) lim e w (i + 1)) 8 = mks (fun w => zmay (mm 3) (mm 4) (mm 5) lim e w i) 8 := mks_cong fun w _ => by
            show (zmay _ _ _ _ _ _ _ && !zstands _ _ _ _ _ _) = _
            simp only [zstands, c2, Bool.and_false, Bool.false_and, Bool.not_false, Bool.and_true]
          rw [hp] at ih
          rw [if_pos (by simp)]
          exact zR_weak (by repeat first | exact zle_nil | apply zle_c | apply zle_n) ih
        | true =>
          have hp : mks (fun w => zmay (mm 3) (mm 4) (mm 5) lim e w (i + 1)) 8 = zand (mks (fun w => zmay (mm 3) (mm 4) (mm 5) lim e w i) 8) (zxor (zshl 1 (mm 4 i % 8)) (-1)) := by
            rw [ek, mks_not _ (by decide) (by omega)]
            refine mks_cong fun w _ => ?_
            show (zmay _ _ _ _ _ _ _ && !zstands _ _ _ _ _ _) = _
            have : decide (mm 4 i % 8 = (w : Int)) = decide (w = (mm 4 i % 8).toNat) := by
              by_cases q : w = (mm 4 i % 8).toNat
              · rw [decide_eq_true q, decide_eq_true (by omega)]
              · rw [decide_eq_false q, decide_eq_false (by omega)]
            simp only [zstands, c2, decide_eq_true c1, this, Bool.true_and]
          rw [hp] at ih
          rw [if_neg (by simp)]
          simp (disch := omega) only [if_pos]
          exact zR_weak (by repeat first | exact zle_nil | apply zle_c | apply zle_n) ih
      · rw [if_neg c1, e1]
        have hp : mks (fun w => zmay (mm 3) (mm 4) (mm 5) lim e w (i + 1)) 8 = mks (fun w => zmay (mm 3) (mm 4) (mm 5) lim e w i) 8 := mks_cong fun w _ => by
          show (zmay _ _ _ _ _ _ _ && !zstands _ _ _ _ _ _) = _
          simp [zstands, c1]
        rw [hp] at ih
        exact zR_weak (by repeat first | exact zle_nil | apply zle_c | apply zle_n) ih
  rw [ze_X6_mayCome, zb_X6_mayCome_0]
  by_cases h8 : e = 0
  · have : zsl e < 8 := zsl_8.mpr h8
    rw [if_pos (by omega)]
    have h := key 0 (by omega)
    have e3 : mks (fun w => zmay (mm 3) (mm 4) (mm 5) lim e w 0) 8 = 255 := by
      rw [show mks (fun w => zmay (mm 3) (mm 4) (mm 5) lim e w 0) 8 = mks (fun _ => true) 8 from mks_cong fun w _ => by simp [zmay, h8]]
      decide +kernel
    rw [e3] at h
    exact h
  · have h9 : ¬ zsl e < 8 := fun q => h8 (zsl_8.mp q)
    have e4 : zand (zsl e) 7 = ((zsl e % 8 : Nat) : Int) := by
      rw [zand7 (by omega) (by omega)]
      omega
    have hf := hF (zsl e % 8) (by omega)
    rw [if_neg (by omega), e4, if_pos (by omega), Int.toNat_natCast]
    have h := key 0 (by omega)
    have e3 : mks (fun w => zmay (mm 3) (mm 4) (mm 5) lim e w 0) 8 = mm 3 (zsl e % 8) := by
      rw [show mks (fun w => zmay (mm 3) (mm 4) (mm 5) lim e w 0) 8 = mks (zbit (mm 3 (zsl e % 8))) 8 from mks_cong fun w _ => by simp [zmay, h8]]
      exact (zr_256 hf.1 hf.2).symm
    rw [e3] at h
    exact h
/-! what can come of a cell -/
def zcome (K Wt F LW LL : Nat → Int) (ln c e w : Nat) : Bool := !decide (K c = 3) && (decide (0 < Wt (8 * c + w)) && (decide (K c = 1) || zmay F LW LL (if K c = 2 then 2 else 4) e w ln))
/-- the cells' kinds and weights -/
def zCe (K Wt Dd : Nat → Int) (n : Int) : Prop := 0 ≤ n ∧ n ≤ 6 ∧ (∀ c : Nat, 0 ≤ K c ∧ K c ≤ 3) ∧ (∀ j : Nat, 0 ≤ Wt j ∧ Wt j ≤ 9) ∧ ∀ c : Nat, Dd c = 0 ∨ Dd c = 1
section
variable {mm : zMm}
/-- the class's set of what can come -/
def xcm (mm : zMm) (c e w : Nat) : Bool := zcome (mm 7) (mm 9) (mm 3) (mm 4) (mm 5) (mm 2 3).toNat c e w
theorem s_canCome (d c e : Nat) (hc : (c : Int) < mm 6 3) (he : e < 585) (hce : zCe (mm 7) (mm 9) (mm 8) (mm 6 3)) (ht : zTg (mm 3) (mm 4) (mm 5) (mm 2 3)) : zL (d + 3) 14 [.inr (.inr 1), .inl c, .inl (zsl e)] SH mm = zok (mks (xcm mm c e) 8) mm := by
  have hn : xN mm := ⟨hce.1, hce.2.1⟩
  have hk := hce.2.2.1 c
  rw [ze_X1_canCome, zb_X1_canCome_0, s_kindOf (d) c hn hc, zcI_ok, zb_X1_canCome_8]
  by_cases k1 : mm 7 c = 1
  · rw [if_pos k1, s_weightedWords (d) c hn hc, zcI_ok, zb_X1_canCome_46]
    rw [show mks (xcm mm c e) 8 = mks (xww mm c) 8 from mks_cong fun w _ => by simp [xcm, zcome, xww, k1]]
  · rw [if_neg k1]
    by_cases k2 : mm 7 c = 2
    · rw [if_pos k2, s_weightedWords (d) c hn hc, zcI_ok, zb_X1_canCome_55, s_mayCome (d) e 2 he ht (by decide), zcI_ok, zb_X1_canCome_64, mks_and _ _ (by decide)]
      rw [show mks (xcm mm c e) 8 = mks (fun j => xww mm c j && zmay (mm 3) (mm 4) (mm 5) 2 e j (mm 2 3).toNat) 8 from mks_cong fun w _ => by simp [xcm, zcome, xww, k2]]
    · rw [if_neg k2]
      by_cases k3 : mm 7 c = 3
      · rw [if_pos k3]
        rw [show mks (xcm mm c e) 8 = 0 from (mks_0 (by decide)).mpr fun w _ => by simp [xcm, zcome, k3]]
      · rw [if_neg k3, s_weightedWords (d) c hn hc, zcI_ok, zb_X1_canCome_74, s_mayCome (d) e 4 he ht (by decide), zcI_ok, zb_X1_canCome_83, mks_and _ _ (by decide)]
        rw [show mks (xcm mm c e) 8 = mks (fun j => xww mm c j && zmay (mm 3) (mm 4) (mm 5) 4 e j (mm 2 3).toNat) 8 from mks_cong fun w _ => by simp [xcm, zcome, xww, k1, k2, k3]]
theorem s_canComeN (d : Nat) (a : Int) (e : Nat) (hc : ¬ (0 ≤ a ∧ a < mm 6 3)) (hn : xN mm) : zL (d + 3) 14 [.inr (.inr 1), .inl a, .inl (zsl e)] SH mm = zok 0 mm := by
  rw [ze_X1_canCome, zb_X1_canCome_0, s_kindOfN (d) a hn hc, zcI_ok, zb_X1_canCome_8]
  rfl
end
