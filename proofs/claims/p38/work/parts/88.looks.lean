section
variable {mm : zMm}
theorem o_count2 (d : Nat) : zL (d + 20) 67 [.inr (.inr 0), .inl 2] SH mm = zok (mm 12 2) mm := by
  rw [ze_X8_count, zb_X8_count_0, if_neg (by decide), if_neg (by decide), if_pos rfl]
theorem o_count4 (d : Nat) (hI : xI mm) : zL (d + 20) 67 [.inr (.inr 0), .inl 4] SH mm = zok (zcnt (fun p => decide (0 ≤ mm 14 p)) (mm 12 2).toNat) mm := by
  rw [ze_X8_count, zb_X8_count_0, if_neg (by decide), if_neg (by decide), if_neg (by decide), if_neg (by decide), if_pos rfl, s_known _ hI.pg, zcI_ok, zb_X8_count_105]
theorem o_count7 (d : Nat) : zL (d + 20) 67 [.inr (.inr 0), .inl 7] SH mm = zok (mm 10 3) mm := by
  rw [ze_X8_count, zb_X8_count_0, if_neg (by decide), if_neg (by decide), if_neg (by decide), if_neg (by decide), if_neg (by decide), if_neg (by decide), if_neg (by decide), if_pos rfl]
theorem o_count6 (d : Nat) (hI : xI mm) (hz : 0 < xlv mm) : zL (d + 20) 67 [.inr (.inr 0), .inl 6] SH mm = zok (xc mm) mm := by
  have hn : xN mm := ⟨hI.ce.1, hI.ce.2.1⟩
  obtain ⟨N, st, hN, hst, hlt, hN6, ht, htn, hal, ec, hcl, -⟩ := xst_r hI hz
  rw [ze_X8_count, zb_X8_count_0, if_neg (by decide), if_neg (by decide), if_neg (by decide), if_neg (by decide), if_neg (by decide), if_neg (by decide), if_pos rfl, s_seatOfTurn _ st N hN hn hI.se hst (.inl hlt), ht, zcI_ok, zb_X8_count_156, s_cellOn _ (xst mm) hn (by omega), zcI_ok, zb_X8_count_159, ec]
theorem o_count6N (d : Nat) (hI : xI mm) (hz : ¬ 0 < xlv mm) : zL (d + 20) 67 [.inr (.inr 0), .inl 6] SH mm = zok (-4) mm := by
  have hn : xN mm := ⟨hI.ce.1, hI.ce.2.1⟩
  have h0 := hn.1
  obtain ⟨N, st, hN2, hst, hs, hN6, ⟨hz0, ht⟩ | ⟨hz1, _⟩⟩ := zseat hI
  · rw [ze_X8_count, zb_X8_count_0, if_neg (by decide), if_neg (by decide), if_neg (by decide), if_neg (by decide), if_neg (by decide), if_neg (by decide), if_pos rfl, s_seatOfTurn _ st N hN2 hn hI.se hst hs, ht, zcI_ok, zb_X8_count_156, s_cellOnN _ (-4) hn (by omega), zcI_ok, zb_X8_count_159]
  · exact absurd hz1 hz
theorem o_come (d c : Nat) (hI : xI mm) (hc : (c : Int) < mm 6 3) : zL (d + 20) 69 [.inr (.inr 0), .inl c] SH mm = zok (mks (xcm mm c (xe mm)) 8) mm := by
  have hn : xN mm := ⟨hI.ce.1, hI.ce.2.1⟩
  have he := xe_lt hI.pg
  rw [ze_X8_come, zb_X8_come_0, s_has _ _ hn, zcI_ok, zb_X8_come_11, if_pos (show 0 ≤ (c : Int) ∧ (c : Int) < mm 6 3 by omega), if_neg (by decide), s_slip0 _ hI, zcI_ok, zb_X8_come_31, s_canCome _ c (xe mm) hc he hI.ce hI.tg, zcI_ok, zb_X8_come_34]
theorem o_read0 (d p : Nat) (hI : xI mm) (hp : (p : Int) < mm 12 2) : zL (d + 20) 68 [.inr (.inr 0), .inl p, .inl 0] SH mm = zok (mm 13 p) mm := by
  rw [ze_X8_read, zb_X8_read_0, s_phas _ _ hI.pg, zcI_ok, zb_X8_read_11, if_pos (show 0 ≤ (p : Int) ∧ (p : Int) < mm 12 2 by omega), if_neg (by decide), if_neg (by decide), if_neg (by decide), if_pos rfl, s_wordAt _ p hI.pg hp, zcI_ok, zb_X8_read_40]
theorem o_read1 (d p : Nat) (hI : xI mm) (hp : (p : Int) < mm 12 2) : zL (d + 20) 68 [.inr (.inr 0), .inl p, .inl 1] SH mm = zok (mm 14 p) mm := by
  rw [ze_X8_read, zb_X8_read_0, s_phas _ _ hI.pg, zcI_ok, zb_X8_read_11, if_pos (show 0 ≤ (p : Int) ∧ (p : Int) < mm 12 2 by omega), if_neg (by decide), if_neg (by decide), if_neg (by decide), if_neg (by decide), s_writerAt _ p hI.pg hp, zcI_ok, zb_X8_read_54]
theorem o_told2 (d c : Nat) (hI : xI mm) (hc : (c : Int) < mm 6 3) (hd : mm 8 c = 0) : zL (d + 20) 66 [.inr (.inr 0), .inl c, .inl 2] SH mm = zok 0 mm := by
  have hn : xN mm := ⟨hI.ce.1, hI.ce.2.1⟩
  have hal : xal mm c = true := by
    unfold xal
    rw [decide_eq_true hc, decide_eq_true hd]
    rfl
  rw [ze_X8_told, zb_X8_told_0, s_has _ _ hn, zcI_ok, if_pos (show 0 ≤ (c : Int) ∧ (c : Int) < mm 6 3 by omega), zb_X8_told_11, if_neg (by decide), if_neg (by decide), if_neg (by decide), if_neg (by decide), if_neg (by decide), if_pos rfl, s_isAlive _ c hn, zcI_ok, zb_X8_told_87, hal, if_pos rfl, if_neg (by decide), s_bit, zcI_ok, zb_X8_told_98, if_pos rfl]
theorem o_habit (d a b : Nat) (hI : xI mm) (ha : (a : Int) < mm 6 3) (hb : b < 8) : zL (d + 20) 75 [.inr (.inr 0), .inl a, .inl b] SH mm = zok (zcnt (zhab (mm 13) (mm 14) a b) (mm 12 2).toNat) mm := by
  have hn : xN mm := ⟨hI.ce.1, hI.ce.2.1⟩
  rw [ze_X8_habit, zb_X8_habit_0, s_has _ _ hn, zcI_ok, zb_X8_habit_11, if_pos (show 0 ≤ (a : Int) ∧ (a : Int) < mm 6 3 by omega), if_neg (by decide), s_isWord, zcI_ok, zb_X8_habit_18, if_pos (show 0 ≤ (b : Int) ∧ (b : Int) < 8 by omega), if_neg (by decide), s_habitOf _ a b hI.pg, zcI_ok, zb_X8_habit_35]
theorem o_prev0 (d : Nat) (hI : xI mm) (h : zfle (mm 13) (mm 4) (mm 5) (mm 2 3).toNat (mm 12 2).toNat = -4) : zL (d + 20) 76 [.inr (.inr 0), .inl 0] SH mm = zok (-4) mm := by
  rw [ze_X8_prevented, zb_X8_prevented_0, if_neg (by decide), if_neg (by decide), s_firstLineEnd _ hI.pg hI.tg hI.tl, zcI_ok, h, zb_X8_prevented_18, if_pos (by decide)]
theorem o_seed (d : Nat) (a : Int) (ha : 0 ≤ a) : zL (d + 20) 71 [.inr (.inr 0), .inl a] SH mm = zok (mm 1 4) (zu mm 1 4 a) := by
  rw [ze_X8_seed, zb_X8_seed_0, if_neg (by omega)]
theorem o_undo (d : Nat) (hI : xI mm) (h1 : 1 ≤ mm 12 2) : zL (d + 20) 72 [.inr (.inr 0), .inl (mm 12 2)] SH mm = zok 0 (zu mm 12 2 0) := by
  have h60 := hI.pg.2.1
  rw [ze_X8_undo, zb_X8_undo_0, if_neg (by omega), if_neg (by omega), if_neg (by omega), show mm 12 2 - mm 12 2 = 0 by omega]
  rfl
theorem o_soon (d w n : Nat) (hw : w < 8) (hn : 1 ≤ n ∧ n ≤ 5) (hI : xI mm) (hz : 0 < xlv mm) : zL (d + 20) 74 [.inr (.inr 0), .inl w, .inl n] SH mm = zok (zsoon (xcm mm) (mm 9) (xS mm) (xnx mm) w n (xst mm) (xe mm)) mm := by
  have hN : xN mm := ⟨hI.ce.1, hI.ce.2.1⟩
  have he := xe_lt hI.pg
  obtain ⟨N, st, hN2, hst, hlt, hN6, ht, htn, hal, ec, hcl, -⟩ := xst_r hI hz
  have hx := s_soonWithin (mm := mm) (d + 14 - n) w N hw hN2 hI.se hI.ce hI.tg n (xst mm) (xe mm) (by omega) htn hal he
  rw [show d + 14 - n + 5 + n = d + 19 by omega] at hx
  rw [ze_X8_soon, zb_X8_soon_0, s_isWord, zcI_ok, zb_X8_soon_4, if_pos (show 0 ≤ (w : Int) ∧ (w : Int) < 8 by omega), if_neg (by decide), if_neg (by omega), if_neg (by omega), s_seatOfTurn _ st N hN2 hN hI.se hst (.inl hlt), ht, zcI_ok, zb_X8_soon_29, if_neg (by omega), s_slip0 _ hI, zcI_ok, zb_X8_soon_54, hx, zcI_ok, zb_X8_soon_59]
/-- the fewest turns to one word -/
def xrc (mm : zMm) (w : Int) : Int := zftn (fun s e => xcm mm (mm 11 s).toNat e) (zaim (xal mm) (xcm mm) w 1) (fun s => (zliv (xas mm) (mm 6 3).toNat (zstep1 (mm 10 4) (mm 6 3).toNat) s).toNat) 31 0 (xst mm) 0 (zqn zq0 (6 * xe mm + xst mm))
theorem o_reach (d w : Nat) (hw : w < 8) (hI : xI mm) (hz : 0 < xlv mm) : ∃ mc, zL (d + 20) 73 [.inr (.inr 0), .inl w, .inl 1] SH mm = zok (xrc mm w) mc ∧ zFr mc mm := by
  obtain ⟨N, st, hN2, hst, hlt, hN6, ht, htn, hal, ec, hcl, -⟩ := xst_r hI hz
  have hr : zrow (w : Int) 1 3 = true := decide_eq_true ⟨by decide, by decide, by omega, by show (w : Int) < 8; omega⟩
  obtain ⟨mc, x1, x2⟩ := s_fewestTurns (mm := mm) (d + 13) w 1 N st (xst mm) (by decide) hN2 hst hI ht htn hal
  refine ⟨mc, ?_, x2⟩
  rw [ze_X8_reach, zb_X8_reach_0, s_isRowOfWords _ _ _ 3 (by decide), zcI_ok, zb_X8_reach_6, hr, if_neg (by decide)]
  refine (congrArg (fun r => zcI r _) x1).trans ?_
  rw [zcI_ok, zb_X8_reach_24]
  unfold xrc
  rw [hN2, Int.toNat_natCast]
theorem o_reachN (d w : Nat) (hw : w < 8) (hI : xI mm) (hz : ¬ 0 < xlv mm) : zL (d + 20) 73 [.inr (.inr 0), .inl w, .inl 1] SH mm = zok (-4) mm := by
  have hr : zrow (w : Int) 1 3 = true := decide_eq_true ⟨by decide, by decide, by omega, by show (w : Int) < 8; omega⟩
  obtain ⟨N, st, hN2, hst, hs, hN6, ⟨hz0, ht⟩ | ⟨hz1, _⟩⟩ := zseat hI
  · have hx := s_fewestTurnsN (mm := mm) (d + 13) w 1 N st hN2 hst hI ht
    rw [ze_X8_reach, zb_X8_reach_0, s_isRowOfWords _ _ _ 3 (by decide), zcI_ok, zb_X8_reach_6, hr, if_neg (by decide)]
    refine (congrArg (fun r => zcI r _) hx).trans ?_
    rw [zcI_ok, zb_X8_reach_24]
  · exact absurd hz1 hz
theorem o_image (d : Nat) (hI : xI mm) : zL (d + 20) 77 [.inr (.inr 0)] SH mm = zok 1 (zu (zkK mm) 0 6 1) := by
  rw [ze_X8_image, zb_X8_image_0, s_copyFromX1K _ (fun c _ => hI.ce.2.2.2.2 c) hI.bk, zcV_vd, zb_X8_image_11]
theorem o_restore (d : Nat) (h : mm 0 6 = 1) (hd : ∀ c : Nat, c < 6 → (mm 22 c = 0 ∨ mm 22 c = 1)) (hb : mm 24 4 = 0 ∨ mm 24 4 = 1) : zL (d + 20) 78 [.inr (.inr 0)] SH mm = zok 1 (zkN mm) := by
  rw [ze_X8_restore, zb_X8_restore_0, if_neg (by omega), s_copyFromX1N _ hd hb, zcV_vd, zb_X8_restore_21]
end
