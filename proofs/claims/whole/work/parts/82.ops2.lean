theorem zpo_all : ∀ N, N < 7 → ∀ st, st < N → ∀ s, s < N → (∃ i, i < N ∧ (st + (i + 1) * 1) % N = s) ∧ ∃ i, i < N ∧ (st + (i + 1) * (N - 1)) % N = s := by decide +kernel
theorem zcnt_0 {P : Nat → Bool} : ∀ {n : Nat}, (∀ c, c < n → P c = false) → zcnt P n = 0
  | 0, _ => rfl
  | n + 1, h => by
    rw [zcnt_s, h n (by omega), zcnt_0 (fun c hc => h c (by omega))]
    rfl
theorem zcnt_pos {P : Nat → Bool} {c : Nat} (h : P c = true) : ∀ {n : Nat}, c < n → 0 < zcnt P n
  | n + 1, hn => by
    have := zcnt_r P n
    rw [zcnt_s]
    by_cases q : c = n
    · subst q
      rw [h]
      simp only [if_true]
      omega
    · have := zcnt_pos h (show c < n by omega)
      split <;> omega
section
variable {m mm : zMm}
/-- none lives, or there is a seat whose turn it is -/
theorem zseat (hI : xI mm) : ∃ N st : Nat, mm 6 3 = N ∧ mm 10 2 = st ∧ (st < N ∨ N = 0) ∧ N ≤ 6 ∧ ((xlv mm = 0 ∧ zturn (xas mm) N (zstep1 (mm 10 4) N) st = -4) ∨ (0 < xlv mm ∧ st < N ∧ ∃ t : Nat, zturn (xas mm) N (zstep1 (mm 10 4) N) st = t ∧ t < N ∧ xas mm t = true)) := by
  have h0 := hI.ce.1
  have h6 := hI.ce.2.1
  have hst := hI.st
  obtain ⟨N, hN⟩ : ∃ N : Nat, mm 6 3 = N := ⟨(mm 6 3).toNat, by omega⟩
  obtain ⟨st, hs⟩ : ∃ st : Nat, mm 10 2 = st := ⟨(mm 10 2).toNat, by omega⟩
  by_cases c0 : N = 0
  · refine ⟨N, st, hN, hs, .inr c0, by omega, .inl ⟨?_, ?_⟩⟩
    · unfold xlv
      rw [hN, c0]
      rfl
    · unfold zturn
      rw [if_pos c0]
  · have hlt : st < N := by omega
    refine ⟨N, st, hN, hs, .inl hlt, by omega, ?_⟩
    rcases zturn_r (al := xas mm) (n := N) (k := zstep1 (mm 10 4) N) (st := st) (.inl hlt) with q | ⟨t, q, q2, q3⟩
    · refine .inl ⟨?_, q⟩
      unfold xlv
      refine zcnt_0 (fun c hc => ?_)
      obtain ⟨s, hs1, hs2⟩ := hI.se.2.2 c (by omega)
      have e : xal mm c = xas mm s := by
        unfold xas
        rw [hs2, Int.toNat_natCast]
      rw [e]
      unfold zturn at q
      rw [if_neg c0] at q
      cases hal : xas mm st with
      | true =>
        rw [hal] at q
        simp only [if_true] at q
        omega
      | false =>
        rw [hal] at q
        simp only [Bool.false_eq_true, if_false] at q
        have hn := zfind_n (al := xas mm) (n := N) (k := zstep1 (mm 10 4) N) (seat := st) (f := N) (i := 1) q
        obtain ⟨⟨i1, a1, b1⟩, ⟨i2, a2, b2⟩⟩ := zpo_all N (by omega) st hlt s (by omega)
        unfold zstep1 at hn
        by_cases hb : mm 10 4 = 0
        · rw [if_pos hb] at hn
          have := hn (i1 + 1) (by omega) (by omega)
          unfold zpo at this
          rw [b1] at this
          exact this
        · rw [if_neg hb] at hn
          have := hn (i2 + 1) (by omega) (by omega)
          unfold zpo at this
          rw [b2] at this
          exact this
    · refine .inr ⟨?_, hlt, t, q, q2, q3⟩
      have h11 := hI.se.1 t (by omega)
      unfold xlv
      exact zcnt_pos (c := (mm 11 t).toNat) q3 (by omega)
theorem op_seed (d : Nat) (a : Int) (ha : a < 2147483648) (h : zRel m mm) : zBoth d 93 168 [.inl a] m mm := by
  obtain ⟨hI, hR, _⟩ := id h
  by_cases c : a < 0
  · refine zBoth_0 (-1) h ?_ ?_
    · rw [ze_X8_seed, zb_X8_seed_0, if_pos c]
    · rw [ze_X9_seed, zb_X9_seed_0, if_pos c]
  · refine ⟨mm 1 4, zu mm 1 4 a, zu m 45 15 a, ?_, ?_, ?_, fun k hk => by first | rfl | simp (disch := omega) only [zu_k], fun k hk => by first | rfl | simp (disch := omega) only [zu_k]⟩
    · rw [ze_X8_seed, zb_X8_seed_0, if_neg c]
    · rw [ze_X9_seed, zb_X9_seed_0, if_neg c, hR.dr]
    · refine zRel_now h (by first | rfl | simp (disch := decide) only [zu_k, zu_j]) (fun k hk => by first | rfl | simp (disch := omega) only [zu_k]) (by first | rfl | simp (disch := decide) only [zu_k, zu_j]) (by first | rfl | simp (disch := decide) only [zu_k, zu_j]) (fun k hk => by first | rfl | simp (disch := omega) only [zu_k]) ?_ ?_
      · exact ⟨(by first | exact hI.ce | (simp (disch := decide) only [zu_k, zu_j]; exact hI.ce)), (by first | exact hI.tg | (simp (disch := decide) only [zu_k, zu_j]; exact hI.tg)), (by first | exact hI.tl | (simp (disch := decide) only [zu_k, zu_j]; exact hI.tl)), (by first | exact hI.se | (simp (disch := decide) only [zu_k, zu_j]; exact hI.se)), (by first | exact hI.st | (simp (disch := decide) only [zu_k, zu_j]; exact hI.st)), (by first | exact hI.bk | (simp (disch := decide) only [zu_k, zu_j]; exact hI.bk)), (by first | exact hI.pg | (unfold xP; simp (disch := decide) only [zu_k, zu_j]; exact hI.pg)), (by first | exact hI.wr | (simp (disch := decide) only [zu_k, zu_j]; exact hI.wr)), (by first | exact hI.wo | (simp (disch := decide) only [zu_k, zu_j]; exact hI.wo)), (by first | exact hI.dd | (simp (disch := decide) only [zu_k, zu_j]; exact hI.dd)), (by rw [zu_s]; omega)⟩
      · exact ⟨(by first | exact hR.fo | (simp (disch := decide) only [zu_k, zu_j]; exact hR.fo)), (by first | exact hR.lw | (simp (disch := decide) only [zu_k, zu_j]; exact hR.lw)), (by first | exact hR.ll | (simp (disch := decide) only [zu_k, zu_j]; exact hR.ll)), (by first | exact hR.ki | (simp (disch := decide) only [zu_k, zu_j]; exact hR.ki)), (by first | exact hR.we | (simp (disch := decide) only [zu_k, zu_j]; exact hR.we)), (by first | exact hR.de | (simp (disch := decide) only [zu_k, zu_j]; exact hR.de)), (by first | exact hR.ce | (simp (disch := decide) only [zu_k, zu_j]; exact hR.ce)), (by first | exact hR.bo | (simp (disch := decide) only [zu_k, zu_j]; exact hR.bo)), (by first | exact hR.wr | (simp (disch := decide) only [zu_k, zu_j]; exact hR.wr)), (by first | exact hR.lm | (simp (disch := decide) only [zu_k, zu_j]; exact hR.lm)), (by first | exact hR.mn | (simp (disch := decide) only [zu_k, zu_j]; exact hR.mn)), (by first | exact hR.sz | (simp (disch := decide) only [zu_k, zu_j]; exact hR.sz)), (by first | exact hR.st | (simp (disch := decide) only [zu_k, zu_j]; exact hR.st)), (by first | exact hR.bk | (simp (disch := decide) only [zu_k, zu_j]; exact hR.bk)), (by first | exact hR.tn | (simp (disch := decide) only [zu_k, zu_j]; exact hR.tn)), (by rw [zu_s, zu_s])⟩
theorem op_undo (d : Nat) (a : Int) (h : zRel m mm) : zBoth d 94 169 [.inl a] m mm := by
  obtain ⟨hI, hR, _⟩ := id h
  have h0 := hI.pg.1
  have h60 := hI.pg.2.1
  by_cases c : 1 ≤ a ∧ a ≤ 60
  · by_cases c2 : mm 12 2 < a
    · refine zBoth_0 (-2) h ?_ ?_
      · rw [ze_X8_undo, zb_X8_undo_0, if_neg (by omega), if_neg (by omega), if_pos c2]
      · rw [ze_X9_undo, zb_X9_undo_0, t_in, zcI_ok, zb_X9_undo_9, if_pos c, if_neg (by decide), hR.sz, if_pos c2]
    · refine ⟨mm 12 2 - a, zu mm 12 2 (mm 12 2 - a), zu m 45 11 (mm 12 2 - a), ?_, ?_, ?_, fun k hk => by first | rfl | simp (disch := omega) only [zu_k], fun k hk => by first | rfl | simp (disch := omega) only [zu_k]⟩
      · rw [ze_X8_undo, zb_X8_undo_0, if_neg (by omega), if_neg (by omega), if_neg c2, zw_id (by omega) (by omega)]
      · rw [ze_X9_undo, zb_X9_undo_0, t_in, zcI_ok, zb_X9_undo_9, if_pos c, if_neg (by decide), hR.sz, if_neg c2, zw_id (by omega) (by omega)]
      · refine zRel_now h (by first | rfl | simp (disch := decide) only [zu_k, zu_j]) (fun k hk => by first | rfl | simp (disch := omega) only [zu_k]) (by first | rfl | simp (disch := decide) only [zu_k, zu_j]) (by first | rfl | simp (disch := decide) only [zu_k, zu_j]) (fun k hk => by first | rfl | simp (disch := omega) only [zu_k]) ?_ ?_
        · exact ⟨(by first | exact hI.ce | (simp (disch := decide) only [zu_k, zu_j]; exact hI.ce)), (by first | exact hI.tg | (simp (disch := decide) only [zu_k, zu_j]; exact hI.tg)), (by first | exact hI.tl | (simp (disch := decide) only [zu_k, zu_j]; exact hI.tl)), (by first | exact hI.se | (simp (disch := decide) only [zu_k, zu_j]; exact hI.se)), (by first | exact hI.st | (simp (disch := decide) only [zu_k, zu_j]; exact hI.st)), (by first | exact hI.bk | (simp (disch := decide) only [zu_k, zu_j]; exact hI.bk)), (by
            unfold xP
            simp (disch := decide) only [zu_k, zu_s]
            exact ⟨by omega, by omega, fun p hp => hI.pg.2.2 p (by omega)⟩), (by
            simp (disch := decide) only [zu_k, zu_s]
            exact fun p hp => hI.wr p (by omega)), (by first | exact hI.wo | (simp (disch := decide) only [zu_k, zu_j]; exact hI.wo)), (by first | exact hI.dd | (simp (disch := decide) only [zu_k, zu_j]; exact hI.dd)), (by first | exact hI.lt | (simp (disch := decide) only [zu_k, zu_j]; exact hI.lt))⟩
        · exact ⟨(by first | exact hR.fo | (simp (disch := decide) only [zu_k, zu_j]; exact hR.fo)), (by first | exact hR.lw | (simp (disch := decide) only [zu_k, zu_j]; exact hR.lw)), (by first | exact hR.ll | (simp (disch := decide) only [zu_k, zu_j]; exact hR.ll)), (by first | exact hR.ki | (simp (disch := decide) only [zu_k, zu_j]; exact hR.ki)), (by first | exact hR.we | (simp (disch := decide) only [zu_k, zu_j]; exact hR.we)), (by first | exact hR.de | (simp (disch := decide) only [zu_k, zu_j]; exact hR.de)), (by first | exact hR.ce | (simp (disch := decide) only [zu_k, zu_j]; exact hR.ce)), (by first | exact hR.bo | (simp (disch := decide) only [zu_k, zu_j]; exact hR.bo)), (by first | exact hR.wr | (simp (disch := decide) only [zu_k, zu_j]; exact hR.wr)), (by first | exact hR.lm | (simp (disch := decide) only [zu_k, zu_j]; exact hR.lm)), (by first | exact hR.mn | (simp (disch := decide) only [zu_k, zu_j]; exact hR.mn)), (by rw [zu_s, zu_s]), (by first | exact hR.st | (simp (disch := decide) only [zu_k, zu_j]; exact hR.st)), (by first | exact hR.bk | (simp (disch := decide) only [zu_k, zu_j]; exact hR.bk)), (by first | exact hR.tn | (simp (disch := decide) only [zu_k, zu_j]; exact hR.tn)), (by first | exact hR.dr | (simp (disch := decide) only [zu_k, zu_j]; exact hR.dr))⟩
  · refine zBoth_0 (-1) h ?_ ?_
    · rw [ze_X8_undo, zb_X8_undo_0]
      by_cases c3 : a < 1
      · rw [if_pos c3]
      · rw [if_neg c3, if_pos (by omega)]
    · rw [ze_X9_undo, zb_X9_undo_0, t_in, zcI_ok, zb_X9_undo_9, if_neg c, if_pos rfl]
theorem op_read (d : Nat) (a b : Int) (h : zRel m mm) : zBoth d 88 159 [.inl a, .inl b] m mm := by
  obtain ⟨hI, hR, _⟩ := id h
  have h0 := hI.pg.1
  have h60 := hI.pg.2.1
  by_cases c : 0 ≤ a ∧ a < mm 12 2
  · obtain ⟨p, rfl⟩ : ∃ p : Nat, a = p := ⟨a.toNat, by omega⟩
    by_cases c2 : 0 ≤ b ∧ b ≤ 1
    · by_cases c3 : b = 0
      · refine zBoth_0 (mm 13 p) h ?_ ?_
        · rw [ze_X8_read, zb_X8_read_0, s_phas _ _ hI.pg, zcI_ok, zb_X8_read_11, if_pos c, if_neg (by decide), if_neg (by omega), if_neg (by omega), if_pos c3, s_wordAt _ p hI.pg c.2, zcI_ok, zb_X8_read_40]
        · rw [ze_X9_read, zb_X9_read_0, hR.sz, zw_id (x := mm 12 2 - 1) (by omega) (by omega), t_in, zcI_ok, zb_X9_read_13, if_pos (show 0 ≤ (p : Int) ∧ (p : Int) ≤ mm 12 2 - 1 by omega), if_neg (by decide), t_in, zcI_ok, zb_X9_read_23, if_pos c2, if_neg (by decide), if_pos c3, if_pos (by omega), Int.toNat_natCast, hR.bo]
      · refine zBoth_0 (mm 14 p) h ?_ ?_
        · rw [ze_X8_read, zb_X8_read_0, s_phas _ _ hI.pg, zcI_ok, zb_X8_read_11, if_pos c, if_neg (by decide), if_neg (by omega), if_neg (by omega), if_neg c3, s_writerAt _ p hI.pg c.2, zcI_ok, zb_X8_read_54]
        · rw [ze_X9_read, zb_X9_read_0, hR.sz, zw_id (x := mm 12 2 - 1) (by omega) (by omega), t_in, zcI_ok, zb_X9_read_13, if_pos (show 0 ≤ (p : Int) ∧ (p : Int) ≤ mm 12 2 - 1 by omega), if_neg (by decide), t_in, zcI_ok, zb_X9_read_23, if_pos c2, if_neg (by decide), if_neg c3, if_pos (by omega), Int.toNat_natCast, hR.wr]
    · refine zBoth_0 (-1) h ?_ ?_
      · rw [ze_X8_read, zb_X8_read_0, s_phas _ _ hI.pg, zcI_ok, zb_X8_read_11, if_pos c, if_neg (by decide)]
        by_cases c3 : b < 0
        · rw [if_pos c3]
        · rw [if_neg c3, if_pos (by omega)]
      · rw [ze_X9_read, zb_X9_read_0, hR.sz, zw_id (x := mm 12 2 - 1) (by omega) (by omega), t_in, zcI_ok, zb_X9_read_13, if_pos (show 0 ≤ (p : Int) ∧ (p : Int) ≤ mm 12 2 - 1 by omega), if_neg (by decide), t_in, zcI_ok, zb_X9_read_23, if_neg c2, if_pos rfl]
  · refine zBoth_0 (-1) h ?_ ?_
    · rw [ze_X8_read, zb_X8_read_0, s_phas _ _ hI.pg, zcI_ok, zb_X8_read_11, if_neg c, if_pos rfl]
    · rw [ze_X9_read, zb_X9_read_0, hR.sz, zw_id (x := mm 12 2 - 1) (by omega) (by omega), t_in, zcI_ok, zb_X9_read_13, if_neg (show ¬ (0 ≤ a ∧ a ≤ mm 12 2 - 1) by omega), if_pos rfl]
theorem op_forget (d : Nat) (a : Int) (h : zRel m mm) : zBoth d 98 177 [.inl a] m mm := by
  obtain ⟨hI, hR, _⟩ := id h
  have h0 := hI.pg.1
  have h60 := hI.pg.2.1
  by_cases c : 0 ≤ a ∧ a < mm 12 2
  · obtain ⟨p, rfl⟩ : ∃ p : Nat, a = p := ⟨a.toNat, by omega⟩
    by_cases c3 : mm 14 p < 0
    · refine zBoth_0 (-2) h ?_ ?_
      · rw [ze_X8_forget, zb_X8_forget_0, s_phas _ _ hI.pg, zcI_ok, zb_X8_forget_11, if_pos c, if_neg (by decide), s_writerAt _ p hI.pg c.2, zcI_ok, zb_X8_forget_27, if_pos c3]
      · rw [ze_X9_forget, zb_X9_forget_0, hR.sz, zw_id (x := mm 12 2 - 1) (by omega) (by omega), t_in, zcI_ok, zb_X9_forget_13, if_pos (show 0 ≤ (p : Int) ∧ (p : Int) ≤ mm 12 2 - 1 by omega), if_neg (by decide), if_pos (by omega), Int.toNat_natCast, hR.wr, if_pos c3]
    · refine ⟨mm 14 p, zu mm 14 p (-4), zu m 54 p (-4), ?_, ?_, ?_, fun k hk => by first | rfl | simp (disch := omega) only [zu_k], fun k hk => by first | rfl | simp (disch := omega) only [zu_k]⟩
      · rw [ze_X8_forget, zb_X8_forget_0, s_phas _ _ hI.pg, zcI_ok, zb_X8_forget_11, if_pos c, if_neg (by decide), s_writerAt _ p hI.pg c.2, zcI_ok, zb_X8_forget_27, if_neg c3, s_forgetWriter _ p hI.pg c.2, zcV_vd, zb_X8_forget_46]
      · rw [ze_X9_forget, zb_X9_forget_0, hR.sz, zw_id (x := mm 12 2 - 1) (by omega) (by omega), t_in, zcI_ok, zb_X9_forget_13, if_pos (show 0 ≤ (p : Int) ∧ (p : Int) ≤ mm 12 2 - 1 by omega), if_neg (by decide), if_pos (by omega), Int.toNat_natCast, hR.wr, if_neg c3, if_pos (by omega), if_pos (by omega)]
      · refine zRel_now h (by first | rfl | simp (disch := decide) only [zu_k, zu_j]) (fun k hk => by first | rfl | simp (disch := omega) only [zu_k]) (by first | rfl | simp (disch := decide) only [zu_k, zu_j]) (by first | rfl | simp (disch := decide) only [zu_k, zu_j]) (fun k hk => by first | rfl | simp (disch := omega) only [zu_k]) ?_ ?_
        · exact ⟨(by first | exact hI.ce | (simp (disch := decide) only [zu_k, zu_j]; exact hI.ce)), (by first | exact hI.tg | (simp (disch := decide) only [zu_k, zu_j]; exact hI.tg)), (by first | exact hI.tl | (simp (disch := decide) only [zu_k, zu_j]; exact hI.tl)), (by first | exact hI.se | (simp (disch := decide) only [zu_k, zu_j]; exact hI.se)), (by first | exact hI.st | (simp (disch := decide) only [zu_k, zu_j]; exact hI.st)), (by first | exact hI.bk | (simp (disch := decide) only [zu_k, zu_j]; exact hI.bk)), (by first | exact hI.pg | (unfold xP; simp (disch := decide) only [zu_k, zu_j]; exact hI.pg)), (by
            simp (disch := decide) only [zu_k]
            intro x hx
            by_cases q : x = p
            · rw [q, zu_s]
              exact .inl rfl
            · rw [zu_j _ _ q]
              exact hI.wr x hx), (by first | exact hI.wo | (simp (disch := decide) only [zu_k, zu_j]; exact hI.wo)), (by first | exact hI.dd | (simp (disch := decide) only [zu_k, zu_j]; exact hI.dd)), (by first | exact hI.lt | (simp (disch := decide) only [zu_k, zu_j]; exact hI.lt))⟩
        · exact ⟨(by first | exact hR.fo | (simp (disch := decide) only [zu_k, zu_j]; exact hR.fo)), (by first | exact hR.lw | (simp (disch := decide) only [zu_k, zu_j]; exact hR.lw)), (by first | exact hR.ll | (simp (disch := decide) only [zu_k, zu_j]; exact hR.ll)), (by first | exact hR.ki | (simp (disch := decide) only [zu_k, zu_j]; exact hR.ki)), (by first | exact hR.we | (simp (disch := decide) only [zu_k, zu_j]; exact hR.we)), (by first | exact hR.de | (simp (disch := decide) only [zu_k, zu_j]; exact hR.de)), (by first | exact hR.ce | (simp (disch := decide) only [zu_k, zu_j]; exact hR.ce)), (by first | exact hR.bo | (simp (disch := decide) only [zu_k, zu_j]; exact hR.bo)), zu_row hR.wr _ _, (by first | exact hR.lm | (simp (disch := decide) only [zu_k, zu_j]; exact hR.lm)), (by first | exact hR.mn | (simp (disch := decide) only [zu_k, zu_j]; exact hR.mn)), (by first | exact hR.sz | (simp (disch := decide) only [zu_k, zu_j]; exact hR.sz)), (by first | exact hR.st | (simp (disch := decide) only [zu_k, zu_j]; exact hR.st)), (by first | exact hR.bk | (simp (disch := decide) only [zu_k, zu_j]; exact hR.bk)), (by first | exact hR.tn | (simp (disch := decide) only [zu_k, zu_j]; exact hR.tn)), (by first | exact hR.dr | (simp (disch := decide) only [zu_k, zu_j]; exact hR.dr))⟩
  · refine zBoth_0 (-1) h ?_ ?_
    · rw [ze_X8_forget, zb_X8_forget_0, s_phas _ _ hI.pg, zcI_ok, zb_X8_forget_11, if_neg c, if_pos rfl]
    · rw [ze_X9_forget, zb_X9_forget_0, hR.sz, zw_id (x := mm 12 2 - 1) (by omega) (by omega), t_in, zcI_ok, zb_X9_forget_13, if_neg (show ¬ (0 ≤ a ∧ a ≤ mm 12 2 - 1) by omega), if_pos rfl]
theorem op_habit (d : Nat) (a b : Int) (h : zRel m mm) : zBoth d 99 179 [.inl a, .inl b] m mm := by
  obtain ⟨hI, hR, _⟩ := id h
  have hn : xN mm := ⟨hI.ce.1, hI.ce.2.1⟩
  by_cases c1 : 0 ≤ a ∧ a < mm 6 3
  · by_cases c2 : 0 ≤ b ∧ b < 8
    · refine zBoth_0 (zcnt (zhab (mm 13) (mm 14) a b) (mm 12 2).toNat) h ?_ ?_
      · rw [ze_X8_habit, zb_X8_habit_0, s_has _ _ hn, zcI_ok, zb_X8_habit_11, if_pos c1, if_neg (by decide), s_isWord, zcI_ok, zb_X8_habit_18, if_pos c2, if_neg (by decide), s_habitOf _ a b hI.pg, zcI_ok, zb_X8_habit_35]
      · rw [ze_X9_habit, zb_X9_habit_0, t_isCell _ _ hR hI, zcI_ok, zb_X9_habit_5, if_pos c1, if_neg (by decide), t_isWord, zcI_ok, zb_X9_habit_12, if_pos c2, if_neg (by decide), t_habitOf _ a b c2.1 hR hI, zcI_ok, zb_X9_habit_21]
    · refine zBoth_0 (-1) h ?_ ?_
      · rw [ze_X8_habit, zb_X8_habit_0, s_has _ _ hn, zcI_ok, zb_X8_habit_11, if_pos c1, if_neg (by decide), s_isWord, zcI_ok, zb_X8_habit_18, if_neg c2, if_pos rfl]
      · rw [ze_X9_habit, zb_X9_habit_0, t_isCell _ _ hR hI, zcI_ok, zb_X9_habit_5, if_pos c1, if_neg (by decide), t_isWord, zcI_ok, zb_X9_habit_12, if_neg c2, if_pos rfl]
  · refine zBoth_0 (-1) h ?_ ?_
    · rw [ze_X8_habit, zb_X8_habit_0, s_has _ _ hn, zcI_ok, zb_X8_habit_11, if_neg c1, if_pos rfl]
    · rw [ze_X9_habit, zb_X9_habit_0, t_isCell _ _ hR hI, zcI_ok, zb_X9_habit_5, if_neg c1, if_pos rfl]
theorem t_end0 (d : Nat) (hR : mR m mm) (hI : xI mm) : zL (d + 3) 149 [.inr (.inr 45), .inl (mm 12 2)] SH m = zok (xe mm) m := by
  have h0 := hI.pg.1
  have := t_endAt (m := m) d (mm 12 2).toNat hR hI (by omega)
  rw [show (((mm 12 2).toNat : Nat) : Int) = mm 12 2 by omega] at this
  exact this
theorem s_slip0 (d : Nat) (hI : xI mm) : zL (d + 4) 36 [.inr (.inr 12)] SH mm = zok (zsl (xe mm)) mm := s_slip d hI.pg
theorem op_come (d : Nat) (a : Int) (h : zRel m mm) : zBoth d 89 160 [.inl a] m mm := by
  obtain ⟨hI, hR, _⟩ := id h
  have hn : xN mm := ⟨hI.ce.1, hI.ce.2.1⟩
  have he := xe_lt hI.pg
  by_cases c1 : 0 ≤ a ∧ a < mm 6 3
  · obtain ⟨c, rfl⟩ : ∃ c : Nat, a = c := ⟨a.toNat, by omega⟩
    refine zBoth_0 (mks (xcm mm c (xe mm)) 8) h ?_ ?_
    · rw [ze_X8_come, zb_X8_come_0, s_has _ _ hn, zcI_ok, zb_X8_come_11, if_pos c1, if_neg (by decide), s_slip0 _ hI, zcI_ok, zb_X8_come_31, s_canCome _ c (xe mm) c1.2 he hI.ce hI.tg, zcI_ok, zb_X8_come_34]
    · rw [ze_X9_come, zb_X9_come_0, t_isCell _ _ hR hI, zcI_ok, zb_X9_come_5, if_pos c1, if_neg (by decide), hR.sz, t_end0 _ hR hI, zcI_ok, zb_X9_come_18, t_comesBy _ c (xe mm) c1.2 he hR hI, zcI_ok, zb_X9_come_21]
  · refine zBoth_0 (-1) h ?_ ?_
    · rw [ze_X8_come, zb_X8_come_0, s_has _ _ hn, zcI_ok, zb_X8_come_11, if_neg c1, if_pos rfl]
    · rw [ze_X9_come, zb_X9_come_0, t_isCell _ _ hR hI, zcI_ok, zb_X9_come_5, if_neg c1, if_pos rfl]
end
