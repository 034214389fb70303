/-- what is carried, written -/
def zcw (m : zMm) (k : Nat) (v : Int) : zMm := if k < 8 then zu m 46 k v else if k < 14 then zu m 47 (k - 8) v else if k < 20 then zu m 48 (k - 14) v else if k < 68 then zu m 50 (k - 20) v else if k < 74 then zu m 49 (k - 68) v else if k < 80 then zu m 51 (k - 74) v else if k < 86 then zu m 52 (k - 80) v else if k < 146 then zu m 53 (k - 86) v else zu m 54 (k - 146) v
theorem t_carriedW1 (d k : Nat) (v : Int) (m : zMm) (hk : k < 20) : zL (d + 1) 186 [.inr (.inr 45), .inl k, .inl v, .inl 1] SH m = zok v (zcw m k v) := by
  unfold zcw
  by_cases c1 : k < 8
  · rw [ze_X9_carried, zb_X9_carried_0, if_pos c1]
    simp (disch := omega) only [if_pos, if_neg, if_true, if_false, zu_self, zu_s, Int.toNat_natCast, Int.one_ne_zero]
  · rw [if_neg c1]
    have e8 : zw ((k : Int) + -8) = ((k - 8 : Nat) : Int) := by rw [zw_id (by omega) (by omega)]; omega
    by_cases c2 : k < 14
    · rw [if_pos c2, ze_X9_carried, zb_X9_carried_0, if_neg (by omega), e8]
      refine zR_weak (by repeat first | exact zle_nil | apply zle_c | apply zle_n) ((zb_X9_carried_43 d v 1 ((k - 8 : Nat) : Int) m).trans ?_)
      simp (disch := omega) only [if_pos, if_neg, if_true, if_false, zu_self, zu_s, Int.toNat_natCast, Int.one_ne_zero]
    · rw [if_neg c2, if_pos hk, ze_X9_carried, zb_X9_carried_0, if_neg (by omega), e8]
      refine zR_weak (by repeat first | exact zle_nil | apply zle_c | apply zle_n) ((zb_X9_carried_43 d v 1 ((k - 8 : Nat) : Int) m).trans ?_)
      have e6 : zw (((k - 8 : Nat) : Int) - 6) = ((k - 14 : Nat) : Int) := by rw [zw_id (by omega) (by omega)]; omega
      rw [if_pos (by omega), if_neg (by omega)]
      refine zR_weak (by repeat first | exact zle_nil | apply zle_c | apply zle_n) ((zb_X9_carried_87 d v 1 ((k - 8 : Nat) : Int) m).trans ?_)
      rw [e6]
      clear e6 e8
      simp (disch := omega) only [if_pos, if_neg, if_true, if_false, zu_self, zu_s, Int.toNat_natCast, Int.one_ne_zero]
theorem t_carriedW2 (d k : Nat) (v : Int) (m : zMm) (h20 : 20 ≤ k) (hk : k < 68) : zL (d + 1) 186 [.inr (.inr 45), .inl k, .inl v, .inl 1] SH m = zok v (zcw m k v) := by
  have e8 : zw ((k : Int) + -8) = ((k - 8 : Nat) : Int) := by rw [zw_id (by omega) (by omega)]; omega
  unfold zcw
  rw [if_neg (show ¬ k < 8 by omega), if_neg (show ¬ k < 14 by omega), if_neg (show ¬ k < 20 by omega), if_pos hk, ze_X9_carried, zb_X9_carried_0, if_neg (by omega), e8]
  clear e8
  have e12 : zw (((k - 8 : Nat) : Int) + -12) = ((k - 20 : Nat) : Int) := by rw [zw_id (by omega) (by omega)]; omega
  refine zR_weak (by repeat first | exact zle_nil | apply zle_c | apply zle_n) ((zb_X9_carried_43 d v 1 ((k - 8 : Nat) : Int) m).trans ?_)
  rw [if_neg (by omega), e12]
  clear e12
  refine zR_weak (by repeat first | exact zle_nil | apply zle_c | apply zle_n) ((zb_X9_carried_129 d v 1 ((k - 20 : Nat) : Int) m).trans ?_)
  simp (disch := omega) only [if_pos, if_neg, if_true, if_false, zu_self, zu_s, Int.toNat_natCast, Int.one_ne_zero]
theorem t_carriedW3 (d k : Nat) (v : Int) (m : zMm) (h68 : 68 ≤ k) (hk : k < 86) : zL (d + 1) 186 [.inr (.inr 45), .inl k, .inl v, .inl 1] SH m = zok v (zcw m k v) := by
  have e8 : zw ((k : Int) + -8) = ((k - 8 : Nat) : Int) := by rw [zw_id (by omega) (by omega)]; omega
  rw [ze_X9_carried, zb_X9_carried_0, if_neg (by omega), e8]
  clear e8
  have e12 : zw (((k - 8 : Nat) : Int) + -12) = ((k - 20 : Nat) : Int) := by rw [zw_id (by omega) (by omega)]; omega
  refine zR_weak (by repeat first | exact zle_nil | apply zle_c | apply zle_n) ((zb_X9_carried_43 d v 1 ((k - 8 : Nat) : Int) m).trans ?_)
  rw [if_neg (by omega), e12]
  clear e12
  have e48 : zw (((k - 20 : Nat) : Int) + -48) = ((k - 68 : Nat) : Int) := by rw [zw_id (by omega) (by omega)]; omega
  refine zR_weak (by repeat first | exact zle_nil | apply zle_c | apply zle_n) ((zb_X9_carried_129 d v 1 ((k - 20 : Nat) : Int) m).trans ?_)
  rw [if_neg (by omega), e48]
  clear e48
  refine zR_weak (by repeat first | exact zle_nil | apply zle_c | apply zle_n) ((zb_X9_carried_169 d v 1 ((k - 68 : Nat) : Int) m).trans ?_)
  rw [zrem_n (by omega) (by omega) (by decide) (by decide), show ((k - 68 : Nat) : Int) % 6 = (((k - 68) % 6 : Nat) : Int) by omega]
  unfold zcw
  by_cases c1 : k < 74
  · have e : (k - 68) % 6 = k - 68 := by omega
    rw [e]
    simp (disch := omega) only [if_pos, if_neg, if_true, if_false, zu_self, Int.toNat_natCast, Int.one_ne_zero]
    rw [zb_X9_carried_212]
    simp (disch := omega) only [if_pos, if_neg, if_true, if_false, zu_self, Int.toNat_natCast, Int.one_ne_zero]
    rw [zb_X9_carried_248]
    simp (disch := omega) only [if_pos, if_neg, if_true, if_false, zu_self, Int.toNat_natCast, Int.one_ne_zero]
    refine zR_weak (by repeat first | exact zle_nil | apply zle_c | apply zle_n) ((zb_X9_carried_277 d ((k - 68 : Nat) : Int) ((k - 68 : Nat) : Int) _).trans ?_)
    simp (disch := omega) only [if_pos, if_neg, if_true, if_false, zu_self, zu_s, Int.toNat_natCast, Int.one_ne_zero]
  · by_cases c2 : k < 80
    · have e : (k - 68) % 6 = k - 74 := by omega
      rw [e]
      simp (disch := omega) only [if_pos, if_neg, if_true, if_false, zu_self, Int.toNat_natCast, Int.one_ne_zero]
      rw [zb_X9_carried_212]
      simp (disch := omega) only [if_pos, if_neg, if_true, if_false, zu_self, Int.toNat_natCast, Int.one_ne_zero]
      rw [zb_X9_carried_248]
      simp (disch := omega) only [if_pos, if_neg, if_true, if_false, zu_self, Int.toNat_natCast, Int.one_ne_zero]
      refine zR_weak (by repeat first | exact zle_nil | apply zle_c | apply zle_n) ((zb_X9_carried_277 d ((k - 68 : Nat) : Int) ((k - 74 : Nat) : Int) _).trans ?_)
      simp (disch := omega) only [if_pos, if_neg, if_true, if_false, zu_self, zu_s, Int.toNat_natCast, Int.one_ne_zero]
    · have e : (k - 68) % 6 = k - 80 := by omega
      rw [e]
      simp (disch := omega) only [if_pos, if_neg, if_true, if_false, zu_self, Int.toNat_natCast, Int.one_ne_zero]
      rw [zb_X9_carried_212]
      simp (disch := omega) only [if_pos, if_neg, if_true, if_false, zu_self, Int.toNat_natCast, Int.one_ne_zero]
      rw [zb_X9_carried_248]
      simp (disch := omega) only [if_pos, if_neg, if_true, if_false, zu_self, Int.toNat_natCast, Int.one_ne_zero]
      refine zR_weak (by repeat first | exact zle_nil | apply zle_c | apply zle_n) ((zb_X9_carried_277 d ((k - 68 : Nat) : Int) ((k - 80 : Nat) : Int) _).trans ?_)
      simp (disch := omega) only [if_pos, if_neg, if_true, if_false, zu_self, zu_s, Int.toNat_natCast, Int.one_ne_zero]
theorem t_carriedW4 (d k : Nat) (v : Int) (m : zMm) (h86 : 86 ≤ k) (hk : k < 206) : zL (d + 1) 186 [.inr (.inr 45), .inl k, .inl v, .inl 1] SH m = zok v (zcw m k v) := by
  have e8 : zw ((k : Int) + -8) = ((k - 8 : Nat) : Int) := by rw [zw_id (by omega) (by omega)]; omega
  rw [ze_X9_carried, zb_X9_carried_0, if_neg (by omega), e8]
  clear e8
  have e12 : zw (((k - 8 : Nat) : Int) + -12) = ((k - 20 : Nat) : Int) := by rw [zw_id (by omega) (by omega)]; omega
  refine zR_weak (by repeat first | exact zle_nil | apply zle_c | apply zle_n) ((zb_X9_carried_43 d v 1 ((k - 8 : Nat) : Int) m).trans ?_)
  rw [if_neg (by omega), e12]
  clear e12
  have e48 : zw (((k - 20 : Nat) : Int) + -48) = ((k - 68 : Nat) : Int) := by rw [zw_id (by omega) (by omega)]; omega
  refine zR_weak (by repeat first | exact zle_nil | apply zle_c | apply zle_n) ((zb_X9_carried_129 d v 1 ((k - 20 : Nat) : Int) m).trans ?_)
  rw [if_neg (by omega), e48]
  clear e48
  have e18 : zw (((k - 68 : Nat) : Int) + -18) = ((k - 86 : Nat) : Int) := by rw [zw_id (by omega) (by omega)]; omega
  refine zR_weak (by repeat first | exact zle_nil | apply zle_c | apply zle_n) ((zb_X9_carried_169 d v 1 ((k - 68 : Nat) : Int) m).trans ?_)
  rw [if_neg (by omega), e18]
  clear e18
  refine zR_weak (by repeat first | exact zle_nil | apply zle_c | apply zle_n) ((zb_X9_carried_322 d v 1 ((k - 86 : Nat) : Int) m).trans ?_)
  rw [zrem_n (by omega) (by omega) (by decide) (by decide), show ((k - 86 : Nat) : Int) % 60 = (((k - 86) % 60 : Nat) : Int) by omega]
  unfold zcw
  by_cases c1 : k < 146
  · have e : (k - 86) % 60 = k - 86 := by omega
    rw [e]
    simp (disch := omega) only [if_pos, if_neg, if_true, if_false, zu_self, Int.toNat_natCast, Int.one_ne_zero]
    rw [zb_X9_carried_358]
    simp (disch := omega) only [if_pos, if_neg, if_true, if_false, zu_self, Int.toNat_natCast, Int.one_ne_zero]
    refine zR_weak (by repeat first | exact zle_nil | apply zle_c | apply zle_n) ((zb_X9_carried_387 d ((k - 86 : Nat) : Int) ((k - 86 : Nat) : Int) _).trans ?_)
    simp (disch := omega) only [if_pos, if_neg, if_true, if_false, zu_self, zu_s, Int.toNat_natCast, Int.one_ne_zero]
  · have e : (k - 86) % 60 = k - 146 := by omega
    rw [e]
    simp (disch := omega) only [if_pos, if_neg, if_true, if_false, zu_self, Int.toNat_natCast, Int.one_ne_zero]
    rw [zb_X9_carried_358]
    simp (disch := omega) only [if_pos, if_neg, if_true, if_false, zu_self, Int.toNat_natCast, Int.one_ne_zero]
    refine zR_weak (by repeat first | exact zle_nil | apply zle_c | apply zle_n) ((zb_X9_carried_387 d ((k - 86 : Nat) : Int) ((k - 146 : Nat) : Int) _).trans ?_)
    simp (disch := omega) only [if_pos, if_neg, if_true, if_false, zu_self, zu_s, Int.toNat_natCast, Int.one_ne_zero]
theorem t_carriedW (d k : Nat) (v : Int) (m : zMm) (hk : k < 206) : zL (d + 1) 186 [.inr (.inr 45), .inl k, .inl v, .inl 1] SH m = zok v (zcw m k v) := by
  by_cases c1 : k < 20
  · exact t_carriedW1 d k v m c1
  · by_cases c2 : k < 68
    · exact t_carriedW2 d k v m (by omega) c2
    · by_cases c3 : k < 86
      · exact t_carriedW3 d k v m (by omega) c3
      · exact t_carriedW4 d k v m (by omega) hk
