theorem zu_self (m : zMm) (k j : Nat) : zu m k j (m k j) = m := zu_id m k j rfl
/-- what is carried -/
def zca (m : zMm) (k : Nat) : Int := if k < 8 then m 46 k else if k < 14 then m 47 (k - 8) else if k < 20 then m 48 (k - 14) else if k < 68 then m 50 (k - 20) else if k < 74 then m 49 (k - 68) else if k < 80 then m 51 (k - 74) else if k < 86 then m 52 (k - 80) else if k < 146 then m 53 (k - 86) else m 54 (k - 146)
theorem t_carried1 (d k : Nat) (m : zMm) (hk : k < 20) : zL (d + 1) 186 [.inr (.inr 45), .inl k, .inl 0, .inl 0] SH m = zok (zca m k) m := by
  unfold zca
  by_cases c1 : k < 8
  · rw [ze_X9_carried, zb_X9_carried_0, if_pos c1]
    simp (disch := omega) only [if_pos, if_neg, if_true, zu_self, Int.toNat_natCast]
  · rw [if_neg c1]
    have e8 : zw ((k : Int) + -8) = ((k - 8 : Nat) : Int) := by rw [zw_id (by omega) (by omega)]; omega
    by_cases c2 : k < 14
    · rw [if_pos c2, ze_X9_carried, zb_X9_carried_0, if_neg (by omega), e8]
      refine zR_weak (by repeat first | exact zle_nil | apply zle_c | apply zle_n) ((zb_X9_carried_43 d 0 0 ((k - 8 : Nat) : Int) m).trans ?_)
      simp (disch := omega) only [if_pos, if_neg, if_true, zu_self, Int.toNat_natCast]
    · rw [if_neg c2, if_pos hk, ze_X9_carried, zb_X9_carried_0, if_neg (by omega), e8]
      refine zR_weak (by repeat first | exact zle_nil | apply zle_c | apply zle_n) ((zb_X9_carried_43 d 0 0 ((k - 8 : Nat) : Int) m).trans ?_)
      have e6 : zw (((k - 8 : Nat) : Int) - 6) = ((k - 14 : Nat) : Int) := by rw [zw_id (by omega) (by omega)]; omega
      rw [if_pos (by omega), if_neg (by omega)]
      refine zR_weak (by repeat first | exact zle_nil | apply zle_c | apply zle_n) ((zb_X9_carried_87 d 0 0 ((k - 8 : Nat) : Int) m).trans ?_)
      rw [e6]
      clear e6 e8
      simp (disch := omega) only [if_pos, if_neg, if_true, zu_self, Int.toNat_natCast]
