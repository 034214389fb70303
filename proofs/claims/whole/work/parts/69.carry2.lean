theorem t_carried2 (d k : Nat) (m : zMm) (h20 : 20 ≤ k) (hk : k < 68) : zL (d + 1) 186 [.inr (.inr 45), .inl k, .inl 0, .inl 0] SH m = zok (zca m k) m := by
  have e8 : zw ((k : Int) + -8) = ((k - 8 : Nat) : Int) := by rw [zw_id (by omega) (by omega)]; omega
  unfold zca
  rw [if_neg (show ¬ k < 8 by omega), if_neg (show ¬ k < 14 by omega), if_neg (show ¬ k < 20 by omega), if_pos hk, ze_X9_carried, zb_X9_carried_0, if_neg (by omega), e8]
  clear e8
  have e12 : zw (((k - 8 : Nat) : Int) + -12) = ((k - 20 : Nat) : Int) := by rw [zw_id (by omega) (by omega)]; omega
  refine zR_weak (by repeat first | exact zle_nil | apply zle_c | apply zle_n) ((zb_X9_carried_43 d 0 0 ((k - 8 : Nat) : Int) m).trans ?_)
  rw [if_neg (by omega), e12]
  clear e12
  refine zR_weak (by repeat first | exact zle_nil | apply zle_c | apply zle_n) ((zb_X9_carried_129 d 0 0 ((k - 20 : Nat) : Int) m).trans ?_)
  simp (disch := omega) only [if_pos, if_neg, if_true, zu_self, Int.toNat_natCast]
