theorem zrow_n {words n most : Int} (h : zrow words n most = true) : 1 ≤ n ∧ n ≤ most ∧ 0 ≤ words ∧ words < ((8 ^ n.toNat : Nat) : Int) := by
  unfold zrow at h
  exact of_decide_eq_true h
section
variable {m mm : zMm}
/-- the loop over the states found -/
theorem t_find_reach (d : Nat) (words : Int) (n : Nat) (hn : n ≤ 3) (F : zQ) (L : Nat → Nat) (m : zMm) (hF : zQok F) (hM : zMS F L m) : zR (d + 3) 172 27 [some (.inr (.inr 45)), some (.inl words), some (.inl (n : Int)), some (.inl 0)] [] SH m = zok (if 0 ≤ zfst (fun i => zends (F.1 i / 6) words n) F.2.1 0 then ((L (zfst (fun i => zends (F.1 i / 6) words n) F.2.1 0).toNat : Nat) : Int) else -4) m := by
  have hle : (F.2.1 : Int) ≤ 3510 := by rw [hF.1]; exact (zcnt_r _ _).2
  have key : ∀ (f i : Nat), i + f = F.2.1 → zR (d + 3) 172 27 [some (.inr (.inr 45)), some (.inl words), some (.inl (n : Int)), some (.inl (i : Int))] [] SH m = zok (if 0 ≤ zfst (fun i => zends (F.1 i / 6) words n) f i then ((L (zfst (fun i => zends (F.1 i / 6) words n) f i).toNat : Nat) : Int) else -4) m := by
    intro f
    induction f with
    | zero =>
      intro i h
      rw [zb_X9_reach_27, hM.1, if_neg (by omega)]
      rfl
    | succ f ih =>
      intro i h
      have hq := hF.2 i (by omega)
      have h2 := hM.2.1 i (by omega)
      rw [zb_X9_reach_27, hM.1, if_pos (by omega), if_pos (by omega), Int.toNat_natCast, h2.1, zdiv_n (by omega) (by omega) (by decide) (by decide), show ((F.1 i : Nat) : Int) / 6 = ((F.1 i / 6 : Nat) : Int) by omega, t_endsIn _ (F.1 i / 6) n words (by omega) hn, zcI_ok, zb_X9_reach_49, zfst_s]
      cases hz : zends (F.1 i / 6) words n with
      | false =>
        rw [if_pos (by decide), zw_inc i (by omega)]
        simp only [Bool.false_eq_true, if_false]
        exact ih (i + 1) (by omega)
      | true =>
        rw [if_neg (by decide), if_pos (by omega), Int.toNat_natCast, h2.1, if_pos (by omega), Int.toNat_natCast, h2.2.2, if_pos rfl, if_pos (by omega), Int.toNat_natCast]
  exact key F.2.1 0 (by omega)
theorem t_find_end (d : Nat) (hI : xI mm) (F : zQ) (L : Nat → Nat) (m : zMm) (hR : mR m mm) (hF : zQok F) (hM : zMS F L m) : zR (d + 5) 174 16 [some (.inr (.inr 45)), some (.inl 0)] [] SH m = zok (if 0 ≤ zfst (fun i => zover (xal mm) (xcm mm) (F.1 i / 6)) F.2.1 0 then ((L (zfst (fun i => zover (xal mm) (xcm mm) (F.1 i / 6)) F.2.1 0).toNat : Nat) : Int) else -4) m := by
  have hle : (F.2.1 : Int) ≤ 3510 := by rw [hF.1]; exact (zcnt_r _ _).2
  have key : ∀ (f i : Nat), i + f = F.2.1 → zR (d + 5) 174 16 [some (.inr (.inr 45)), some (.inl (i : Int))] [] SH m = zok (if 0 ≤ zfst (fun i => zover (xal mm) (xcm mm) (F.1 i / 6)) f i then ((L (zfst (fun i => zover (xal mm) (xcm mm) (F.1 i / 6)) f i).toNat : Nat) : Int) else -4) m := by
    intro f
    induction f with
    | zero =>
      intro i h
      rw [zb_X9_end_16, hM.1, if_neg (by omega)]
      rfl
    | succ f ih =>
      intro i h
      have hq := hF.2 i (by omega)
      have h2 := hM.2.1 i (by omega)
      rw [zb_X9_end_16, hM.1, if_pos (by omega), if_pos (by omega), Int.toNat_natCast, h2.1, zdiv_n (by omega) (by omega) (by decide) (by decide), show ((F.1 i : Nat) : Int) / 6 = ((F.1 i / 6 : Nat) : Int) by omega, t_isOver _ (F.1 i / 6) (by omega) hR hI, zcI_ok, zb_X9_end_37, zfst_s]
      cases hz : zover (xal mm) (xcm mm) (F.1 i / 6) with
      | false =>
        rw [if_pos (by decide), zw_inc i (by omega)]
        simp only [Bool.false_eq_true, if_false]
        exact ih (i + 1) (by omega)
      | true =>
        rw [if_neg (by decide), if_pos (by omega), Int.toNat_natCast, h2.1, if_pos (by omega), Int.toNat_natCast, h2.2.2, if_pos rfl, if_pos (by omega), Int.toNat_natCast]
  exact key F.2.1 0 (by omega)
theorem op_reach (d : Nat) (a b : Int) (h : zRel m mm) : zBoth d 95 172 [.inl a, .inl b] m mm := by
  obtain ⟨hI, hR, _⟩ := id h
  cases c : zrow a b 3 with
  | false =>
    refine zBoth_0 (-1) h ?_ ?_
    · rw [ze_X8_reach, zb_X8_reach_0, s_isRowOfWords _ _ _ 3 (by decide), zcI_ok, zb_X8_reach_6, c, if_pos (by decide)]
    · rw [ze_X9_reach, zb_X9_reach_0, t_isRow _ _ _ 3 (by decide), zcI_ok, zb_X9_reach_6, c, if_pos (by decide)]
  | true =>
    have hrw := zrow_n c
    obtain ⟨n, rfl⟩ : ∃ n : Nat, b = n := ⟨b.toNat, by omega⟩
    obtain ⟨N, st, hN, hst, hs, hN6, ⟨hz, ht⟩ | ⟨hz, hlt, t, ht, htn, hal⟩⟩ := zseat hI
    · refine zBoth_0 (-4) h ?_ ?_
      · rw [ze_X8_reach, zb_X8_reach_0, s_isRowOfWords _ _ _ 3 (by decide), zcI_ok, zb_X8_reach_6, c, if_neg (by decide), s_fewestTurnsN _ a n N st hN hst hI ht, zcI_ok, zb_X8_reach_24]
      · rw [ze_X9_reach, zb_X9_reach_0, t_isRow _ _ _ 3 (by decide), zcI_ok, zb_X9_reach_6, c, if_neg (by decide), t_living _ hR hI, zcI_ok, zb_X9_reach_15, if_pos hz]
    · obtain ⟨mc, x1, x2⟩ := s_fewestTurns (mm := mm) (d + 13) a n N st t (by omega) hN hst hI ht htn hal
      obtain ⟨m', F, L, y1, y2, y3, y4, y5⟩ := t_findStates (m := m) (mm := mm) (d + 13) N st t hN hst hlt ht htn hal hR hI
      have hn0 : n ≠ 0 := by omega
      have e : (fun e => zends e a n) = zaim (xal mm) (xcm mm) a n := by
        funext e
        unfold zaim
        rw [if_neg hn0]
      have y5 := y5 (fun e => zends e a n)
      rw [e] at y5
      rw [y5] at x1
      refine zBoth_q (if 0 ≤ zfst (fun i => zends (F.1 i / 6) a n) F.2.1 0 then ((L (zfst (fun i => zends (F.1 i / 6) a n) F.2.1 0).toNat : Nat) : Int) else -4) h (mc := mc) (m' := m') ?_ ?_ (fun k hk => x2 k (by omega) (by omega) (by omega)) (fun k hk => y4.1 k (by omega) (by omega) (by omega)) y4.2
      · rw [ze_X8_reach, zb_X8_reach_0, s_isRowOfWords _ _ _ 3 (by decide), zcI_ok, zb_X8_reach_6, c, if_neg (by decide), x1, zcI_ok, zb_X8_reach_24]
      · rw [ze_X9_reach, zb_X9_reach_0, t_isRow _ _ _ 3 (by decide), zcI_ok, zb_X9_reach_6, c, if_neg (by decide), t_living _ hR hI, zcI_ok, zb_X9_reach_15, if_neg (by omega), y1, zcV_vd, zb_X9_reach_25]
        exact t_find_reach (d + 16) a n (by omega) F L m' y3 y2
theorem op_end (d : Nat) (h : zRel m mm) : zBoth d 96 174 [] m mm := by
  obtain ⟨hI, hR, _⟩ := id h
  obtain ⟨N, st, hN, hst, hs, hN6, ⟨hz, ht⟩ | ⟨hz, hlt, t, ht, htn, hal⟩⟩ := zseat hI
  · refine zBoth_0 (-4) h ?_ ?_
    · rw [ze_X8_end, zb_X8_end_0]
      refine (congrArg (fun r => zcI r _) (s_fewestTurnsN (mm := mm) (d + 13) 0 0 N st hN hst hI ht)).trans ?_
      rw [zcI_ok, zb_X8_end_13]
    · rw [ze_X9_end, zb_X9_end_0, t_living _ hR hI, zcI_ok, zb_X9_end_4, if_pos hz]
  · obtain ⟨mc, x1, x2⟩ := s_fewestTurns (mm := mm) (d + 13) 0 0 N st t (by omega) hN hst hI ht htn hal
    obtain ⟨m', F, L, y1, y2, y3, y4, y5⟩ := t_findStates (m := m) (mm := mm) (d + 13) N st t hN hst hlt ht htn hal hR hI
    have e : (fun e => zover (xal mm) (xcm mm) e) = zaim (xal mm) (xcm mm) 0 0 := by
      funext e
      unfold zaim
      rw [if_pos rfl]
    have y5 := y5 (fun e => zover (xal mm) (xcm mm) e)
    rw [e] at y5
    rw [y5] at x1
    refine zBoth_q (if 0 ≤ zfst (fun i => zover (xal mm) (xcm mm) (F.1 i / 6)) F.2.1 0 then ((L (zfst (fun i => zover (xal mm) (xcm mm) (F.1 i / 6)) F.2.1 0).toNat : Nat) : Int) else -4) h (mc := mc) (m' := m') ?_ ?_ (fun k hk => x2 k (by omega) (by omega) (by omega)) (fun k hk => y4.1 k (by omega) (by omega) (by omega)) y4.2
    · rw [ze_X8_end, zb_X8_end_0]
      refine (congrArg (fun r => zcI r _) x1).trans ?_
      rw [zcI_ok, zb_X8_end_13]
    · rw [ze_X9_end, zb_X9_end_0, t_living _ hR hI, zcI_ok, zb_X9_end_4, if_neg (by omega), y1, zcV_vd, zb_X9_end_14]
      exact t_find_end (d + 14) hI F L m' (mR_Fm hR y4) y3 y2
theorem op_soon (d : Nat) (a b : Int) (h : zRel m mm) : zBoth d 97 176 [.inl a, .inl b] m mm := by
  obtain ⟨hI, hR, _⟩ := id h
  have hn : xN mm := ⟨hI.ce.1, hI.ce.2.1⟩
  have he := xe_lt hI.pg
  by_cases c1 : 0 ≤ a ∧ a < 8
  · by_cases c2 : 1 ≤ b ∧ b ≤ 5
    · obtain ⟨w, rfl⟩ : ∃ w : Nat, a = w := ⟨a.toNat, by omega⟩
      obtain ⟨n, rfl⟩ : ∃ n : Nat, b = n := ⟨b.toNat, by omega⟩
      obtain ⟨N, st, hN, hst, hs, hN6, ⟨hz, ht⟩ | ⟨hz, hlt, t, ht, htn, hal⟩⟩ := zseat hI
      · refine zBoth_0 (-4) h ?_ ?_
        · rw [ze_X8_soon, zb_X8_soon_0, s_isWord, zcI_ok, zb_X8_soon_4, if_pos c1, if_neg (by decide), if_neg (by omega), if_neg (by omega), s_seatOfTurn _ st N hN hn hI.se hst hs, ht, zcI_ok, zb_X8_soon_29, if_pos (by decide)]
        · rw [ze_X9_soon, zb_X9_soon_0, t_isWord, zcI_ok, zb_X9_soon_4, if_pos c1, if_neg (by decide), t_in, zcI_ok, zb_X9_soon_16, if_pos c2, if_neg (by decide), t_living _ hR hI, zcI_ok, zb_X9_soon_25, if_pos hz]
      · obtain ⟨R, Q, hm⟩ := t_soon (m := m) (mm := mm) (d + 14) n (xe mm) t w N (by omega) (by omega) hN rfl st hst hlt ht htn hal hR hI
        have hx := s_soonWithin (mm := mm) (d + 14 - n) w N (by omega) hN hI.se hI.ce hI.tg n t (xe mm) (by omega) htn hal he
        rw [show d + 14 - n + 5 + n = d + 19 by omega] at hx
        refine zBoth_q (zsoon (xcm mm) (mm 9) (xS mm) (xnx mm) w n t (xe mm)) h (mc := mm) (m' := zlook m R Q) ?_ ?_ (fun k hk => rfl) (fun k hk => zlook_k _ _ _ (by omega) (by omega)) (fun j hj => by rw [zlook_k _ _ _ (by decide) (by decide)])
        · rw [ze_X8_soon, zb_X8_soon_0, s_isWord, zcI_ok, zb_X8_soon_4, if_pos c1, if_neg (by decide), if_neg (by omega), if_neg (by omega), s_seatOfTurn _ st N hN hn hI.se hst hs, ht, zcI_ok, zb_X8_soon_29, if_neg (by omega), s_slip0 _ hI, zcI_ok, zb_X8_soon_54, hx, zcI_ok, zb_X8_soon_59]
        · rw [ze_X9_soon, zb_X9_soon_0, t_isWord, zcI_ok, zb_X9_soon_4, if_pos c1, if_neg (by decide), t_in, zcI_ok, zb_X9_soon_16, if_pos c2, if_neg (by decide), t_living _ hR hI, zcI_ok, zb_X9_soon_25, if_neg (by omega)]
          exact hm
    · refine zBoth_0 (-1) h ?_ ?_
      · rw [ze_X8_soon, zb_X8_soon_0, s_isWord, zcI_ok, zb_X8_soon_4, if_pos c1, if_neg (by decide)]
        by_cases c4 : b < 1
        · rw [if_pos c4]
        · rw [if_neg c4, if_pos (by omega)]
      · rw [ze_X9_soon, zb_X9_soon_0, t_isWord, zcI_ok, zb_X9_soon_4, if_pos c1, if_neg (by decide), t_in, zcI_ok, zb_X9_soon_16, if_neg c2, if_pos rfl]
  · refine zBoth_0 (-1) h ?_ ?_
    · rw [ze_X8_soon, zb_X8_soon_0, s_isWord, zcI_ok, zb_X8_soon_4, if_neg c1, if_pos rfl]
    · rw [ze_X9_soon, zb_X9_soon_0, t_isWord, zcI_ok, zb_X9_soon_4, if_neg c1, if_pos rfl]
end
