theorem zgd_gcd : ∀ a, a < 10 → ∀ b, b < 73 → 0 < a → 0 < b → zgd (a : Nat) (b : Nat) (if b < a then b else a) = ((Nat.gcd b a : Nat) : Int) := by decide +kernel
section
variable {m mm : zMm}
theorem t_count_known (d : Nat) (a r : Int) (hR : mR m mm) (hI : xI mm) (hr : zR d 158 4 [some (.inr (.inr 45)), some (.inl a), some (.inl (zcnt (fun p => decide (0 ≤ mm 14 p)) (mm 12 2).toNat)), some (.inl (mm 12 2))] [] SH m = zok r m) : zL (d + 1) 158 [.inr (.inr 45), .inl a] SH m = zok r m := by
  have h0 := hI.pg.1
  have h60 := hI.pg.2.1
  rw [ze_X9_count, zb_X9_count_0]
  have key : ∀ k : Nat, k ≤ (mm 12 2).toNat → zR d 158 4 [some (.inr (.inr 45)), some (.inl a), some (.inl (zcnt (fun p => decide (0 ≤ mm 14 p)) k)), some (.inl (k : Int))] [] SH m = zok r m := by
    refine zup ?_ ?_
    · rw [show (((mm 12 2).toNat : Nat) : Int) = mm 12 2 by omega]
      exact hr
    · intro k hk ih
      have hc := zcnt_r (fun p => decide (0 ≤ mm 14 p)) k
      rw [zcnt_s] at ih
      rw [zb_X9_count_4, hR.sz, if_pos (by omega), if_pos (by omega), Int.toNat_natCast, hR.wr, zw_inc k (by omega)]
      by_cases c : mm 14 k < 0
      · rw [decide_eq_false (by omega)] at ih
        rw [if_pos c, zw_id (x := _ + 0) (by omega) (by omega), Int.add_zero]
        exact ih
      · rw [decide_eq_true (by omega)] at ih
        rw [if_neg c, zw_id (x := _ + 1) (by omega) (by omega)]
        exact ih
  exact key 0 (by omega)
theorem op_count (d : Nat) (a : Int) (h : zRel m mm) : zBoth d 87 158 [.inl a] m mm := by
  obtain ⟨hI, hR, _⟩ := id h
  have hn : xN mm := ⟨hI.ce.1, hI.ce.2.1⟩
  have h0 := hn.1
  have h6 := hn.2
  have hp0 := hI.pg.1
  have he := xe_lt hI.pg
  have base : ∀ (v : Int), zL (d + 20) 87 [.inr (.inr 0), .inl a] SH mm = zok v mm → zR (d + 19) 158 4 [some (.inr (.inr 45)), some (.inl a), some (.inl (zcnt (fun p => decide (0 ≤ mm 14 p)) (mm 12 2).toNat)), some (.inl (mm 12 2))] [] SH m = zok v m → zBoth d 87 158 [.inl a] m mm := fun v hx hm => zBoth_0 v h hx (t_count_known (d + 19) a v hR hI hm)
  by_cases c0 : a = 0
  · refine base (mm 6 3) ?_ ?_
    · rw [ze_X8_count, zb_X8_count_0, if_pos c0]
    · rw [zb_X9_count_4, hR.sz, if_neg (by omega), if_pos c0, hR.mn]
  by_cases c1 : a = 1
  · have e : zcnt (xal mm) 6 = xlv mm := by
      unfold xlv
      have : ∀ k n : Nat, n + k = 6 → (∀ c, n ≤ c → xal mm c = false) → zcnt (xal mm) 6 = zcnt (xal mm) n := by
        intro k
        induction k with
        | zero => intro n hn _; rw [show n = 6 by omega]
        | succ k ih =>
          intro n hn hc
          rw [ih (n + 1) (by omega) (fun c hc' => hc c (by omega)), zcnt_s, hc n (Nat.le_refl n)]
          rfl
      refine this (6 - (mm 6 3).toNat) _ (by omega) (fun c hc => ?_)
      unfold xal
      rw [decide_eq_false (by omega)]
      rfl
    refine base (xlv mm) ?_ ?_
    · rw [ze_X8_count, zb_X8_count_0, if_neg c0, if_pos c1, s_living _ hn, zcI_ok, zb_X8_count_69, s_bitCount, zcI_ok, zb_X8_count_72, e]
    · rw [zb_X9_count_4, hR.sz, if_neg (by omega), if_neg c0, if_pos c1, t_living _ hR hI, zcI_ok, zb_X9_count_93]
  by_cases c2 : a = 2
  · refine base (mm 12 2) ?_ ?_
    · rw [ze_X8_count, zb_X8_count_0, if_neg c0, if_neg c1, if_pos c2]
    · rw [zb_X9_count_4, hR.sz, if_neg (by omega), if_neg c0, if_neg c1, if_pos c2]
  by_cases c3 : a = 3
  · refine base (mm 2 3) ?_ ?_
    · rw [ze_X8_count, zb_X8_count_0, if_neg c0, if_neg c1, if_neg c2, if_pos c3]
    · rw [zb_X9_count_4, hR.sz, if_neg (by omega), if_neg c0, if_neg c1, if_neg c2, if_pos c3, hR.lm]
  by_cases c4 : a = 4
  · refine base (zcnt (fun p => decide (0 ≤ mm 14 p)) (mm 12 2).toNat) ?_ ?_
    · rw [ze_X8_count, zb_X8_count_0, if_neg c0, if_neg c1, if_neg c2, if_neg c3, if_pos c4, s_known _ hI.pg, zcI_ok, zb_X8_count_105]
    · rw [zb_X9_count_4, hR.sz, if_neg (by omega), if_neg c0, if_neg c1, if_neg c2, if_neg c3, if_pos c4]
  by_cases c5 : a = 5
  · refine base (if mks (fun w => zmay (mm 3) (mm 4) (mm 5) 4 (xe mm) w (mm 2 3).toNat) 8 = 0 then 1 else 0) ?_ ?_
    · rw [ze_X8_count, zb_X8_count_0, if_neg c0, if_neg c1, if_neg c2, if_neg c3, if_neg c4, if_pos c5, s_slip0 _ hI, zcI_ok, zb_X8_count_123, s_mayCome _ (xe mm) 4 he hI.tg (by decide), zcI_ok, zb_X8_count_127]
      generalize mks (fun w => zmay (mm 3) (mm 4) (mm 5) 4 (xe mm) w (mm 2 3).toNat) 8 = x
      by_cases c : x = 0
      · rw [if_pos c, if_pos c, s_bit, zcI_ok, zb_X8_count_138]
        rfl
      · rw [if_neg c, if_neg c, s_bit, zcI_ok, zb_X8_count_138]
        rfl
    · rw [zb_X9_count_4, hR.sz, if_neg (by omega), if_neg c0, if_neg c1, if_neg c2, if_neg c3, if_neg c4, if_pos c5, t_isStuck _ hR hI, zcI_ok, zb_X9_count_110]
      generalize mks (fun w => zmay (mm 3) (mm 4) (mm 5) 4 (xe mm) w (mm 2 3).toNat) 8 = x
      by_cases c : x = 0
      · rw [if_pos c, if_neg (by decide)]
      · rw [if_neg c, if_pos rfl]
  by_cases c6 : a = 6
  · obtain ⟨N, st, hN, hst, hs, hN6, ⟨hz, ht⟩ | ⟨hz, hlt, t, ht, htn, hal⟩⟩ := zseat hI
    · refine base (-4) ?_ ?_
      · rw [ze_X8_count, zb_X8_count_0, if_neg c0, if_neg c1, if_neg c2, if_neg c3, if_neg c4, if_neg c5, if_pos c6, s_seatOfTurn _ st N hN hn hI.se hst hs, ht, zcI_ok, zb_X8_count_156, s_cellOnN _ (-4) hn (by omega), zcI_ok, zb_X8_count_159]
      · rw [zb_X9_count_4, hR.sz, if_neg (by omega), if_neg c0, if_neg c1, if_neg c2, if_neg c3, if_neg c4, if_neg c5, if_pos c6, t_living _ hR hI, zcI_ok, zb_X9_count_123, if_pos hz]
    · refine base (mm 11 t) ?_ ?_
      · rw [ze_X8_count, zb_X8_count_0, if_neg c0, if_neg c1, if_neg c2, if_neg c3, if_neg c4, if_neg c5, if_pos c6, s_seatOfTurn _ st N hN hn hI.se hst hs, ht, zcI_ok, zb_X8_count_156, s_cellOn _ t hn (by omega), zcI_ok, zb_X8_count_159]
      · rw [zb_X9_count_4, hR.sz, if_neg (by omega), if_neg c0, if_neg c1, if_neg c2, if_neg c3, if_neg c4, if_neg c5, if_pos c6, t_living _ hR hI, zcI_ok, zb_X9_count_123, if_neg (by omega), t_turnSeat _ N st t hN hst hlt ht hR hI, zcI_ok, zb_X9_count_139, if_pos (by omega), Int.toNat_natCast, hR.ce]
  by_cases c7 : a = 7
  · refine base (mm 10 3) ?_ ?_
    · rw [ze_X8_count, zb_X8_count_0, if_neg c0, if_neg c1, if_neg c2, if_neg c3, if_neg c4, if_neg c5, if_neg c6, if_pos c7]
    · rw [zb_X9_count_4, hR.sz, if_neg (by omega), if_neg c0, if_neg c1, if_neg c2, if_neg c3, if_neg c4, if_neg c5, if_neg c6, if_pos c7, hR.tn]
  · refine base (-1) ?_ ?_
    · rw [ze_X8_count, zb_X8_count_0, if_neg c0, if_neg c1, if_neg c2, if_neg c3, if_neg c4, if_neg c5, if_neg c6, if_neg c7]
    · rw [zb_X9_count_4, hR.sz, if_neg (by omega), if_neg c0, if_neg c1, if_neg c2, if_neg c3, if_neg c4, if_neg c5, if_neg c6, if_neg c7]
theorem op_guess (d : Nat) (a : Int) (h : zRel m mm) : zBoth d 100 180 [.inl a] m mm := by
  obtain ⟨hI, hR, _⟩ := id h
  have hn : xN mm := ⟨hI.ce.1, hI.ce.2.1⟩
  have h0 := hI.pg.1
  have h60 := hI.pg.2.1
  by_cases c : 0 ≤ a ∧ a < mm 12 2
  · obtain ⟨p, rfl⟩ : ∃ p : Nat, a = p := ⟨a.toNat, by omega⟩
    by_cases c3 : mm 14 p < 0
    · refine zBoth_0 (zbst (mm 7) (zlik (mm 13) (mm 14) (mm 12 2).toNat (mm 13 p)) (mm 6 3).toNat).1 h ?_ ?_
      · rw [ze_X8_guess, zb_X8_guess_0, s_phas _ _ hI.pg, zcI_ok, zb_X8_guess_11, if_pos c, if_neg (by decide), s_writerAt _ p hI.pg c.2, zcI_ok, zb_X8_guess_27, if_pos c3, s_wordAt _ p hI.pg c.2, zcI_ok, zb_X8_guess_48, s_likeliestWriter _ _ hI.pg hn, zcI_ok, zb_X8_guess_51]
      · rw [ze_X9_guess, zb_X9_guess_0, hR.sz, zw_id (x := mm 12 2 - 1) (by omega) (by omega), t_in, zcI_ok, zb_X9_guess_13, if_pos (show 0 ≤ (p : Int) ∧ (p : Int) ≤ mm 12 2 - 1 by omega), if_neg (by decide), if_pos (by omega), Int.toNat_natCast, hR.wr, if_pos c3, t_guess_loop _ p c.2 hR hI]
    · refine zBoth_0 (-2) h ?_ ?_
      · rw [ze_X8_guess, zb_X8_guess_0, s_phas _ _ hI.pg, zcI_ok, zb_X8_guess_11, if_pos c, if_neg (by decide), s_writerAt _ p hI.pg c.2, zcI_ok, zb_X8_guess_27, if_neg c3]
      · rw [ze_X9_guess, zb_X9_guess_0, hR.sz, zw_id (x := mm 12 2 - 1) (by omega) (by omega), t_in, zcI_ok, zb_X9_guess_13, if_pos (show 0 ≤ (p : Int) ∧ (p : Int) ≤ mm 12 2 - 1 by omega), if_neg (by decide), if_pos (by omega), Int.toNat_natCast, hR.wr, if_neg c3]
  · refine zBoth_0 (-1) h ?_ ?_
    · rw [ze_X8_guess, zb_X8_guess_0, s_phas _ _ hI.pg, zcI_ok, zb_X8_guess_11, if_neg c, if_pos rfl]
    · rw [ze_X9_guess, zb_X9_guess_0, hR.sz, zw_id (x := mm 12 2 - 1) (by omega) (by omega), t_in, zcI_ok, zb_X9_guess_13, if_neg (show ¬ (0 ≤ a ∧ a ≤ mm 12 2 - 1) by omega), if_pos rfl]
theorem op_odds (d : Nat) (a b p : Int) (h : zRel m mm) : zBoth d 90 162 [.inl a, .inl b, .inl p] m mm := by
  obtain ⟨hI, hR, _⟩ := id h
  have hn : xN mm := ⟨hI.ce.1, hI.ce.2.1⟩
  have h6 := hn.2
  have he := xe_lt hI.pg
  by_cases c1 : 0 ≤ a ∧ a < mm 6 3
  · by_cases c2 : 0 ≤ b ∧ b < 8
    · by_cases c3 : 0 ≤ p ∧ p ≤ 1
      · obtain ⟨c, rfl⟩ : ∃ c : Nat, a = c := ⟨a.toNat, by omega⟩
        obtain ⟨w, rfl⟩ : ∃ w : Nat, b = w := ⟨b.toNat, by omega⟩
        have hx : ∀ r, zR (d + 19) 90 58 [some (.inr (.inr 0)), some (.inl (c : Int)), some (.inl (w : Int)), some (.inl p), some (.inl (mks (xcm mm c (xe mm)) 8)), none, none, none, none] [.inl (if xcm mm c (xe mm) w then 1 else 0)] SH mm = r → zL (d + 20) 90 [.inr (.inr 0), .inl (c : Int), .inl (w : Int), .inl p] SH mm = r := by
          intro r hr
          rw [ze_X8_odds, zb_X8_odds_0, s_has _ _ hn, zcI_ok, zb_X8_odds_11, if_pos c1, if_neg (by decide), s_isWord, zcI_ok, zb_X8_odds_18, if_pos c2, if_neg (by decide), if_neg (by omega), if_neg (by omega), s_slip0 _ hI, zcI_ok, zb_X8_odds_47, s_canCome _ c (xe mm) c1.2 he hI.ce hI.tg, zcI_ok, zb_X8_odds_50, s_holds _ _ w (by omega), zcI_ok, mks_bit _ 8 (by decide), decide_eq_true (show w < 8 by omega), Bool.true_and]
          exact hr
        have hm : ∀ r, zR (d + 19) 162 48 [some (.inr (.inr 45)), some (.inl (c : Int)), some (.inl (w : Int)), some (.inl p), some (.inl (mks (xcm mm c (xe mm)) 8)), none, none] [.inl (if xcm mm c (xe mm) w then 1 else 0)] SH m = r → zL (d + 20) 162 [.inr (.inr 45), .inl (c : Int), .inl (w : Int), .inl p] SH m = r := by
          intro r hr
          rw [ze_X9_odds, zb_X9_odds_0, t_isCell _ _ hR hI, zcI_ok, zb_X9_odds_5, if_pos c1, if_neg (by decide), t_isWord, zcI_ok, zb_X9_odds_12, if_pos c2, if_neg (by decide), t_in, zcI_ok, zb_X9_odds_22, if_pos c3, if_neg (by decide), hR.sz, t_end0 _ hR hI, zcI_ok, zb_X9_odds_37, t_comesBy _ c (xe mm) c1.2 he hR hI, zcI_ok, zb_X9_odds_40, t_has _ _ w (by omega), zcI_ok, mks_bit _ 8 (by decide), decide_eq_true (show w < 8 by omega), Bool.true_and]
          exact hr
        cases hq : xcm mm c (xe mm) w with
        | false =>
          rw [hq] at hx hm
          refine zBoth_0 (-4) h (hx _ ?_) (hm _ ?_)
          · rw [zb_X8_odds_58, if_pos (by decide)]
          · rw [zb_X9_odds_48, if_pos (by decide)]
        | true =>
          rw [hq] at hx hm
          have hW := hI.ce.2.2.2.1
          have hpos := xcm_w (mm := mm) c (xe mm) w hq
          have h9 := hW (8 * c + w)
          have hne : mks (xcm mm c (xe mm)) 8 ≠ 0 := fun z => by
            have := (mks_0 (by decide)).mp z w (by omega)
            rw [hq] at this
            cases this
          have hsum := zcmw_p hW (xcm_w (mm := mm)) hne
          have hs72 := zwt_r hW (xcm mm c (xe mm)) c 8
          obtain ⟨A, hA⟩ : ∃ A : Nat, mm 9 (8 * c + w) = A := ⟨(mm 9 (8 * c + w)).toNat, by omega⟩
          obtain ⟨B, hB⟩ : ∃ B : Nat, zsum (zwt (mm 9) (xcm mm c (xe mm)) c) 8 = B := ⟨(zsum (zwt (mm 9) (xcm mm c (xe mm)) c) 8).toNat, by omega⟩
          have hg := zgd_gcd A (by omega) B (by omega) (by omega) (by omega)
          have hgp : 0 < Nat.gcd B A := Nat.gcd_pos_of_pos_left A (by omega)
          have hgp2 : (0 : Int) < ((Nat.gcd B A : Nat) : Int) := by omega
          have hgp3 : ¬ (((Nat.gcd B A : Nat) : Int) = 0) := by omega
          have hA3 : A < 1000 := by omega
          have hB3 : B < 1000 := by omega
          have hA4 : A ≤ 1000 := by omega
          have hB4 : B ≤ 1000 := by omega
          have hw8 : w < 8 := by omega
          have h48 : 0 ≤ ((8 * c + w : Nat) : Int) ∧ ((8 * c + w : Nat) : Int) < 48 := by omega
          have h8n : ((8 * c + w : Nat) : Int) < 8 * mm 6 3 := by omega
          have ez : zw (zw (8 * (c : Int)) + (w : Int)) = ((8 * c + w : Nat) : Int) := by
            clear hs72 hsum hg hgp hA hB h9 hpos
            rw [zw_id (x := 8 * (c : Int)) (by omega) (by omega), zw_id (by omega) (by omega)]
            omega
          have hcom : zL (d + 19) 161 [.inl (A : Int), .inl (B : Int)] SH m = zok (Nat.gcd B A) m := by
            rw [ze_X9_common, zb_X9_common_0]
            exact zR_weak (by repeat first | exact zle_nil | apply zle_c | apply zle_n) (t_common (d + 18) B A hA3 hB3 m)
          have hx2 : ∀ r, zR (d + 19) 90 100 [some (.inr (.inr 0)), some (.inl (c : Int)), some (.inl (w : Int)), some (.inl p), some (.inl (mks (xcm mm c (xe mm)) 8)), some (.inl (A : Int)), some (.inl (B : Int)), none, none] [.inl ((Nat.gcd B A : Nat) : Int)] SH mm = r → zL (d + 20) 90 [.inr (.inr 0), .inl (c : Int), .inl (w : Int), .inl p] SH mm = r := by
            intro r hr
            refine hx r ?_
            rw [zb_X8_odds_58, if_neg (by decide), s_weightOf _ c w hn c1.2 hw8, zcI_ok, zb_X8_odds_76, s_weightOfSet _ c _ hn c1.2 hW, zcI_ok, zb_X8_odds_91, hA, hB, s_commonDivisor _ A B hA4 hB4, zcI_ok, hg]
            exact hr
          have hm2 : ∀ r, zR (d + 19) 162 94 [some (.inr (.inr 45)), some (.inl (c : Int)), some (.inl (w : Int)), some (.inl p), some (.inl (mks (xcm mm c (xe mm)) 8)), some (.inl (A : Int)), some (.inl (B : Int))] [.inl ((Nat.gcd B A : Nat) : Int), .inl (if p = 0 then (A : Int) else B)] SH m = r → zL (d + 20) 162 [.inr (.inr 45), .inl (c : Int), .inl (w : Int), .inl p] SH m = r := by
            intro r hr
            refine hm r ?_
            rw [zb_X9_odds_48, if_neg (by decide), ez, if_pos h48, Int.toNat_natCast, hR.we _ h8n, t_weightOf _ c _ c1.2 hR hI, zcI_ok, zb_X9_odds_74, hA, hB]
            by_cases c5 : p = 0
            · rw [if_pos c5] at hr ⊢
              rw [hcom, zcI_ok]
              exact hr
            · rw [if_neg c5] at hr ⊢
              rw [hcom, zcI_ok]
              exact hr
          refine zBoth_0 (zdiv (if p = 0 then (A : Int) else B) ((Nat.gcd B A : Nat) : Int)) h (hx2 _ ?_) (hm2 _ ?_)
          · rw [zb_X8_odds_100]
            by_cases c5 : p = 0
            · rw [if_pos c5, if_pos hgp2, if_neg hgp3, if_pos c5]
            · rw [if_neg c5, if_pos hgp2, if_neg hgp3, if_neg c5]
          · rw [zb_X9_odds_94, if_neg hgp3]
      · refine zBoth_0 (-1) h ?_ ?_
        · rw [ze_X8_odds, zb_X8_odds_0, s_has _ _ hn, zcI_ok, zb_X8_odds_11, if_pos c1, if_neg (by decide), s_isWord, zcI_ok, zb_X8_odds_18, if_pos c2, if_neg (by decide)]
          by_cases c4 : p < 0
          · rw [if_pos c4]
          · rw [if_neg c4, if_pos (by omega)]
        · rw [ze_X9_odds, zb_X9_odds_0, t_isCell _ _ hR hI, zcI_ok, zb_X9_odds_5, if_pos c1, if_neg (by decide), t_isWord, zcI_ok, zb_X9_odds_12, if_pos c2, if_neg (by decide), t_in, zcI_ok, zb_X9_odds_22, if_neg c3, if_pos rfl]
    · refine zBoth_0 (-1) h ?_ ?_
      · rw [ze_X8_odds, zb_X8_odds_0, s_has _ _ hn, zcI_ok, zb_X8_odds_11, if_pos c1, if_neg (by decide), s_isWord, zcI_ok, zb_X8_odds_18, if_neg c2, if_pos rfl]
      · rw [ze_X9_odds, zb_X9_odds_0, t_isCell _ _ hR hI, zcI_ok, zb_X9_odds_5, if_pos c1, if_neg (by decide), t_isWord, zcI_ok, zb_X9_odds_12, if_neg c2, if_pos rfl]
  · refine zBoth_0 (-1) h ?_ ?_
    · rw [ze_X8_odds, zb_X8_odds_0, s_has _ _ hn, zcI_ok, zb_X8_odds_11, if_neg c1, if_pos rfl]
    · rw [ze_X9_odds, zb_X9_odds_0, t_isCell _ _ hR hI, zcI_ok, zb_X9_odds_5, if_neg c1, if_pos rfl]
end
