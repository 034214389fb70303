section
variable {m mm : zMm}
theorem t_soon_copy (d : Nat) (a1 a2 a3 : Int) (R Q : Nat → Int) (r : _) (hr : zR (d + 5) 176 55 [some (.inr (.inr 45)), some (.inl a1), some (.inl a2), some (.inl (zw (a3 + 1))), none, none] [] SH (zlook m (fun j => if j < 3510 then Q j else R j) Q) = some r) : zR (d + 5) 176 140 [some (.inr (.inr 45)), some (.inl a1), some (.inl a2), some (.inl a3), some (.inl 0), none] [] SH (zlook m R Q) = some r := by
  have key : ∀ i : Nat, i ≤ 3510 → zR (d + 5) 176 140 [some (.inr (.inr 45)), some (.inl a1), some (.inl a2), some (.inl a3), some (.inl (i : Int)), none] [] SH (zlook m (fun j => if j < i then Q j else R j) Q) = some r := by
    refine zup ?_ ?_
    · rw [zb_X9_soon_140, if_neg (by decide)]
      exact zR_weak (by repeat first | exact zle_nil | apply zle_c | apply zle_n) hr
    · intro i hi ih
      have e : zset (fun j => if j < i then Q j else R j) i (Q i) = fun j => if j < i + 1 then Q j else R j := by
        funext j
        unfold zset
        by_cases q : j = i
        · subst q; simp
        · by_cases c : j < i
          · simp [q, c, show j < i + 1 by omega]
          · simp [q, c, show ¬ j < i + 1 by omega]
      rw [zb_X9_soon_140, if_pos (by omega), if_pos (by omega), if_pos (by omega), zlook_60, Int.toNat_natCast, zlook_u59, zw_inc i (by omega), e]
      exact ih
  have k0 := key 0 (by omega)
  have e0 : (fun j => if j < 0 then Q j else R j) = R := by
    funext j
    rw [if_neg (Nat.not_lt_zero j)]
  rw [e0] at k0
  exact k0
theorem t_soon (d n e s word N : Nat) (hn : 1 ≤ n ∧ n ≤ 5) (hw : word < 8) (hN : mm 6 3 = N) (he : zend (mm 13) (mm 12 2).toNat = e) (st0 : Nat) (hst : mm 10 2 = st0) (hst2 : st0 < N) (ht : zturn (xas mm) N (zstep1 (mm 10 4) N) st0 = s) (hs : s < N) (hal : xas mm s = true) (hr : mR m mm) (hI : xI mm) : ∃ R Q : Nat → Int, zR (d + 5) 176 33 [some (.inr (.inr 45)), some (.inl (word : Int)), some (.inl (n : Int)), some (.inl 0), none, none] [] SH m = zok (zsoon (xcm mm) (mm 9) (xS mm) (xnx mm) word n s e) (zlook m R Q) := by
  have h60 := hI.pg.2.1
  have h0 := hI.pg.1
  have key : ∀ (f t : Nat) (R Q : Nat → Int), t + f + 1 = n → zTable mm word N t R → ∃ R' Q' : Nat → Int, zR (d + 5) 176 55 [some (.inr (.inr 45)), some (.inl (word : Int)), some (.inl (n : Int)), some (.inl ((t + 1 : Nat) : Int)), none, none] [] SH (zlook m R Q) = zok (zsoon (xcm mm) (mm 9) (xS mm) (xnx mm) word n s e) (zlook m R' Q') := by
    intro f
    induction f with
    | zero =>
      intro t R Q h hT
      have hr' := mR_lk R Q hr
      have hend := t_endAt (m := zlook m R Q) (d + 2) (mm 12 2).toNat hr' hI (by omega)
      rw [show (((mm 12 2).toNat : Nat) : Int) = mm 12 2 by omega, he] at hend
      have hts := t_turnSeat (m := zlook m R Q) (d + 3) N st0 s hN hst hst2 ht hr' hI
      have hso := t_soonIn (m := zlook m R Q) d t s e word N hw hN hs hal (by rw [← he]; exact xe_lt hI.pg) hr' hI (by rw [zlook_59]; exact fun e' s' a b c => hT e' s' a b c)
      refine ⟨R, Q, ?_⟩
      rw [zb_X9_soon_55, if_neg (by omega), hr'.sz, hend, zcI_ok, zb_X9_soon_183, hts, zcI_ok, zb_X9_soon_187, hso, zcI_ok, zb_X9_soon_191, show t + 1 = n by omega]
    | succ f ih =>
      intro t R Q h hT
      obtain ⟨Q1, x1, x2, x3⟩ := t_soon_e d t word N n ((t + 1 : Nat) : Int) R hw hN hr hI hT 585 0 Q (by omega)
      obtain ⟨R', Q', hh⟩ := ih (t + 1) (fun j => if j < 3510 then Q1 j else R j) Q1 (by omega) (fun e' s' a b c => by
        have h6 := hI.ce.2.1
        show (if 6 * e' + s' < 3510 then Q1 (6 * e' + s') else R (6 * e' + s')) = _
        rw [if_pos (by omega)]
        exact x3 e' s' (Nat.zero_le _) a b c)
      refine ⟨R', Q', ?_⟩
      rw [zb_X9_soon_55, if_pos (by omega)]
      refine x1 _ (t_soon_copy d _ _ _ R Q1 _ ?_)
      rw [zw_inc (t + 1) (by omega)]
      exact hh
  have h0T : zTable mm word N 0 (fun j => if j < 3510 then 0 else m 59 j) := fun e' s' a b c => by
    have h6 := hI.ce.2.1
    show (if 6 * e' + s' < 3510 then (0 : Int) else _) = _
    rw [if_pos (by omega)]
    rfl
  obtain ⟨R', Q', hh⟩ := key (n - 1) 0 (fun j => if j < 3510 then 0 else m 59 j) (m 60) (by omega) h0T
  refine ⟨R', Q', ?_⟩
  have clr : ∀ i : Nat, i ≤ 3510 → zR (d + 5) 176 33 [some (.inr (.inr 45)), some (.inl (word : Int)), some (.inl (n : Int)), some (.inl (i : Int)), none, none] [] SH (zlook m (fun j => if j < i then 0 else m 59 j) (m 60)) = zok (zsoon (xcm mm) (mm 9) (xS mm) (xnx mm) word n s e) (zlook m R' Q') := by
    refine zup ?_ ?_
    · rw [zb_X9_soon_33, if_neg (by decide)]
      exact hh
    · intro i hi ih
      have e : zset (fun j => if j < i then 0 else m 59 j) i 0 = fun j => if j < i + 1 then 0 else m 59 j := by
        funext j
        unfold zset
        by_cases q : j = i
        · subst q; simp
        · by_cases c : j < i
          · simp [q, c, show j < i + 1 by omega]
          · simp [q, c, show ¬ j < i + 1 by omega]
      rw [zb_X9_soon_33, if_pos (by omega), if_pos (by omega), Int.toNat_natCast, zlook_u59, zw_inc i (by omega), e]
      exact ih
  have k0 := clr 0 (by omega)
  have e0 : (fun j => if j < 0 then (0 : Int) else m 59 j) = m 59 := by
    funext j
    rw [if_neg (Nat.not_lt_zero j)]
  rw [e0, zlook_id] at k0
  exact k0
end
