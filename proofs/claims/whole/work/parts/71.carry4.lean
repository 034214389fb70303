theorem t_carried4 (d k : Nat) (m : zMm) (h86 : 86 ≤ k) (hk : k < 206) : zL (d + 1) 186 [.inr (.inr 45), .inl k, .inl 0, .inl 0] SH m = zok (zca m k) m := by
  have e8 : zw ((k : Int) + -8) = ((k - 8 : Nat) : Int) := by rw [zw_id (by omega) (by omega)]; omega
  rw [ze_X9_carried, zb_X9_carried_0, if_neg (by omega), e8]
  clear e8
  have e12 : zw (((k - 8 : Nat) : Int) + -12) = ((k - 20 : Nat) : Int) := by rw [zw_id (by omega) (by omega)]; omega
  refine zR_weak (by repeat first | exact zle_nil | apply zle_c | apply zle_n) ((zb_X9_carried_43 d 0 0 ((k - 8 : Nat) : Int) m).trans ?_)
  rw [if_neg (by omega), e12]
  clear e12
  have e48 : zw (((k - 20 : Nat) : Int) + -48) = ((k - 68 : Nat) : Int) := by rw [zw_id (by omega) (by omega)]; omega
  refine zR_weak (by repeat first | exact zle_nil | apply zle_c | apply zle_n) ((zb_X9_carried_129 d 0 0 ((k - 20 : Nat) : Int) m).trans ?_)
  rw [if_neg (by omega), e48]
  clear e48
  have e18 : zw (((k - 68 : Nat) : Int) + -18) = ((k - 86 : Nat) : Int) := by rw [zw_id (by omega) (by omega)]; omega
  refine zR_weak (by repeat first | exact zle_nil | apply zle_c | apply zle_n) ((zb_X9_carried_169 d 0 0 ((k - 68 : Nat) : Int) m).trans ?_)
  rw [if_neg (by omega), e18]
  clear e18
  refine zR_weak (by repeat first | exact zle_nil | apply zle_c | apply zle_n) ((zb_X9_carried_322 d 0 0 ((k - 86 : Nat) : Int) m).trans ?_)
  rw [zrem_n (by omega) (by omega) (by decide) (by decide), show ((k - 86 : Nat) : Int) % 60 = (((k - 86) % 60 : Nat) : Int) by omega]
  simp (disch := omega) only [if_pos, if_neg, if_true, zu_self, Int.toNat_natCast]
  rw [zb_X9_carried_358]
  simp (disch := omega) only [if_pos, if_neg, if_true, zu_self, Int.toNat_natCast]
  refine zR_weak (by repeat first | exact zle_nil | apply zle_c | apply zle_n) ((zb_X9_carried_387 d ((k - 86 : Nat) : Int) (((k - 86) % 60 : Nat) : Int) m).trans ?_)
  unfold zca
  by_cases c1 : k < 146
  · simp (disch := omega) only [if_pos, if_neg, Int.toNat_natCast]
    rw [show (k - 86) % 60 = k - 86 by omega]
  · simp (disch := omega) only [if_pos, if_neg, Int.toNat_natCast]
    rw [show (k - 86) % 60 = k - 146 by omega]
theorem t_carried (d k : Nat) (m : zMm) (hk : k < 206) : zL (d + 1) 186 [.inr (.inr 45), .inl k, .inl 0, .inl 0] SH m = zok (zca m k) m := by
  by_cases c1 : k < 20
  · exact t_carried1 d k m c1
  · by_cases c2 : k < 68
    · exact t_carried2 d k m (by omega) c2
    · by_cases c3 : k < 86
      · exact t_carried3 d k m (by omega) c3
      · exact t_carried4 d k m (by omega) hk
