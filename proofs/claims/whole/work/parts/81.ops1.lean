section
variable {m mm : zMm}
theorem op_follow (d : Nat) (a b : Int) (h : zRel m mm) : zBoth d 76 131 [.inl a, .inl b] m mm := by
  obtain ⟨hI, hR, _⟩ := id h
  by_cases c1 : 0 ≤ a ∧ a < 8
  · by_cases c2 : 0 ≤ b ∧ b ≤ 255
    · obtain ⟨w, rfl⟩ : ∃ w : Nat, a = w := ⟨a.toNat, by omega⟩
      refine ⟨mm 3 w, zu mm 3 w b, zu m 46 w b, ?_, ?_, ?_, fun k hk => by first | rfl | simp (disch := omega) only [zu_k], fun k hk => by first | rfl | simp (disch := omega) only [zu_k]⟩
      · rw [ze_X8_follow, zb_X8_follow_0, s_isWord, zcI_ok, zb_X8_follow_4, if_pos c1, if_neg (by decide), if_neg (by omega), if_neg (by omega), s_changeFollowing _ w b (by omega), zcI_ok, zb_X8_follow_32]
      · rw [ze_X9_follow, zb_X9_follow_0, t_isWord, zcI_ok, zb_X9_follow_4, if_pos c1, if_neg (by decide), t_in, zcI_ok, zb_X9_follow_16, if_pos c2, if_neg (by decide), if_pos c1, if_pos c1, Int.toNat_natCast, hR.fo]
      · refine zRel_now h (by first | rfl | simp (disch := decide) only [zu_k, zu_j]) (fun k hk => by first | rfl | simp (disch := omega) only [zu_k]) (by first | rfl | simp (disch := decide) only [zu_k, zu_j]) (by first | rfl | simp (disch := decide) only [zu_k, zu_j]) (fun k hk => by first | rfl | simp (disch := omega) only [zu_k]) ?_ ?_
        · exact ⟨(by first | exact hI.ce | (simp (disch := decide) only [zu_k, zu_j]; exact hI.ce)), (by
            obtain ⟨t1, t2, t3, t4⟩ := hI.tg
            simp (disch := decide) only [zu_k, zu_j]
            refine ⟨t1, t2, fun x hx => ?_, t4⟩
            by_cases q : x = w
            · subst q
              rw [zu_s]
              omega
            · rw [zu_j _ _ q]
              exact t3 x hx), (by first | exact hI.tl | (simp (disch := decide) only [zu_k, zu_j]; exact hI.tl)), (by first | exact hI.se | (simp (disch := decide) only [zu_k, zu_j]; exact hI.se)), (by first | exact hI.st | (simp (disch := decide) only [zu_k, zu_j]; exact hI.st)), (by first | exact hI.bk | (simp (disch := decide) only [zu_k, zu_j]; exact hI.bk)), (by first | exact hI.pg | (unfold xP; simp (disch := decide) only [zu_k, zu_j]; exact hI.pg)), (by first | exact hI.wr | (simp (disch := decide) only [zu_k, zu_j]; exact hI.wr)), (by first | exact hI.wo | (simp (disch := decide) only [zu_k, zu_j]; exact hI.wo)), (by first | exact hI.dd | (simp (disch := decide) only [zu_k, zu_j]; exact hI.dd)), (by first | exact hI.lt | (simp (disch := decide) only [zu_k, zu_j]; exact hI.lt))⟩
        · exact ⟨zu_row hR.fo _ _, (by first | exact hR.lw | (simp (disch := decide) only [zu_k, zu_j]; exact hR.lw)), (by first | exact hR.ll | (simp (disch := decide) only [zu_k, zu_j]; exact hR.ll)), (by first | exact hR.ki | (simp (disch := decide) only [zu_k, zu_j]; exact hR.ki)), (by first | exact hR.we | (simp (disch := decide) only [zu_k, zu_j]; exact hR.we)), (by first | exact hR.de | (simp (disch := decide) only [zu_k, zu_j]; exact hR.de)), (by first | exact hR.ce | (simp (disch := decide) only [zu_k, zu_j]; exact hR.ce)), (by first | exact hR.bo | (simp (disch := decide) only [zu_k, zu_j]; exact hR.bo)), (by first | exact hR.wr | (simp (disch := decide) only [zu_k, zu_j]; exact hR.wr)), (by first | exact hR.lm | (simp (disch := decide) only [zu_k, zu_j]; exact hR.lm)), (by first | exact hR.mn | (simp (disch := decide) only [zu_k, zu_j]; exact hR.mn)), (by first | exact hR.sz | (simp (disch := decide) only [zu_k, zu_j]; exact hR.sz)), (by first | exact hR.st | (simp (disch := decide) only [zu_k, zu_j]; exact hR.st)), (by first | exact hR.bk | (simp (disch := decide) only [zu_k, zu_j]; exact hR.bk)), (by first | exact hR.tn | (simp (disch := decide) only [zu_k, zu_j]; exact hR.tn)), (by first | exact hR.dr | (simp (disch := decide) only [zu_k, zu_j]; exact hR.dr))⟩
    · refine zBoth_0 (-1) h ?_ ?_
      · rw [ze_X8_follow, zb_X8_follow_0, s_isWord, zcI_ok, zb_X8_follow_4, if_pos c1, if_neg (by decide)]
        by_cases c3 : b < 0
        · rw [if_pos c3]
        · rw [if_neg c3, if_pos (by omega)]
      · rw [ze_X9_follow, zb_X9_follow_0, t_isWord, zcI_ok, zb_X9_follow_4, if_pos c1, if_neg (by decide), t_in, zcI_ok, zb_X9_follow_16, if_neg c2, if_pos rfl]
  · refine zBoth_0 (-1) h ?_ ?_
    · rw [ze_X8_follow, zb_X8_follow_0, s_isWord, zcI_ok, zb_X8_follow_4, if_neg c1, if_pos rfl]
    · rw [ze_X9_follow, zb_X9_follow_0, t_isWord, zcI_ok, zb_X9_follow_4, if_neg c1, if_pos rfl]
theorem op_line (d : Nat) (a b : Int) (h : zRel m mm) : zBoth d 77 132 [.inl a, .inl b] m mm := by
  obtain ⟨hI, hR, _⟩ := id h
  have ht := hI.tg
  have ht0 := ht.1
  have ht6 := ht.2.1
  by_cases c1 : zrow a b 4 = true
  · have c2 := c1
    unfold zrow at c2
    simp only [decide_eq_true_eq] at c2
    by_cases c3 : mm 2 3 < 6
    · have hp := zp8 (n := b.toNat) (by omega)
      have h4096 : 8 ^ b.toNat ≤ 4096 := by
        have : ∀ n, n < 5 → 8 ^ n ≤ 4096 := by decide
        exact this _ (by omega)
      refine ⟨mm 2 3, zu (zu (zu mm 4 (mm 2 3).toNat a) 5 (mm 2 3).toNat b) 2 3 (mm 2 3 + 1), zu (zu (zu m 47 (mm 2 3).toNat a) 48 (mm 2 3).toNat b) 45 3 (mm 2 3 + 1), ?_, ?_, ?_, fun k hk => by first | rfl | simp (disch := omega) only [zu_k], fun k hk => by first | rfl | simp (disch := omega) only [zu_k]⟩
      · rw [ze_X8_line, zb_X8_line_0, s_isRowOfWords _ _ _ 4 (by decide), zcI_ok, zb_X8_line_6, c1, if_pos rfl, if_neg (by decide), s_appendLine _ a b ⟨ht.1, ht.2.1⟩, if_pos c3, zcI_ok, zb_X8_line_23]
      · rw [ze_X9_line, zb_X9_line_0, t_isRow _ _ _ 4 (by decide), zcI_ok, zb_X9_line_6, c1, if_pos rfl, if_neg (by decide), hR.lm, if_neg (by omega), if_pos (by omega), if_pos (by omega), zw_id (x := mm 2 3 + 1) (by omega) (by omega), zw_id (by omega) (by omega), show mm 2 3 + 1 - 1 = mm 2 3 by omega]
      · refine zRel_now h (by first | rfl | simp (disch := decide) only [zu_k, zu_j]) (fun k hk => by first | rfl | simp (disch := omega) only [zu_k]) (by first | rfl | simp (disch := decide) only [zu_k, zu_j]) (by first | rfl | simp (disch := decide) only [zu_k, zu_j]) (fun k hk => by first | rfl | simp (disch := omega) only [zu_k]) ?_ ?_
        · exact ⟨(by first | exact hI.ce | (simp (disch := decide) only [zu_k, zu_j]; exact hI.ce)), (by
            obtain ⟨t1, t2, t3, t4⟩ := ht
            simp (disch := decide) only [zu_k, zu_j, zu_s]
            refine ⟨by omega, by omega, t3, fun i hi => ?_⟩
            by_cases q : i = (mm 2 3).toNat
            · rw [q, zu_s, zu_s]
              omega
            · rw [zu_j _ _ q, zu_j _ _ q]
              exact t4 i (by omega)), (by
            simp (disch := decide) only [zu_k, zu_j, zu_s]
            intro i hi
            by_cases q : i = (mm 2 3).toNat
            · rw [q, zu_s, zu_s]
              exact c2.2.2.2
            · rw [zu_j _ _ q, zu_j _ _ q]
              exact hI.tl i (by have := ht.1; omega)), (by first | exact hI.se | (simp (disch := decide) only [zu_k, zu_j]; exact hI.se)), (by first | exact hI.st | (simp (disch := decide) only [zu_k, zu_j]; exact hI.st)), (by first | exact hI.bk | (simp (disch := decide) only [zu_k, zu_j]; exact hI.bk)), (by first | exact hI.pg | (unfold xP; simp (disch := decide) only [zu_k, zu_j]; exact hI.pg)), (by first | exact hI.wr | (simp (disch := decide) only [zu_k, zu_j]; exact hI.wr)), (by first | exact hI.wo | (simp (disch := decide) only [zu_k, zu_j]; exact hI.wo)), (by first | exact hI.dd | (simp (disch := decide) only [zu_k, zu_j]; exact hI.dd)), (by first | exact hI.lt | (simp (disch := decide) only [zu_k, zu_j]; exact hI.lt))⟩
        · exact ⟨(by first | exact hR.fo | (simp (disch := decide) only [zu_k, zu_j]; exact hR.fo)), (by simp (disch := decide) only [zu_k, zu_j]; exact zu_row hR.lw _ _), (by simp (disch := decide) only [zu_k, zu_j]; exact zu_row (by rw [zu_k _ _ (by decide), zu_k _ _ (by decide)]; exact hR.ll) _ _), (by first | exact hR.ki | (simp (disch := decide) only [zu_k, zu_j]; exact hR.ki)), (by first | exact hR.we | (simp (disch := decide) only [zu_k, zu_j]; exact hR.we)), (by first | exact hR.de | (simp (disch := decide) only [zu_k, zu_j]; exact hR.de)), (by first | exact hR.ce | (simp (disch := decide) only [zu_k, zu_j]; exact hR.ce)), (by first | exact hR.bo | (simp (disch := decide) only [zu_k, zu_j]; exact hR.bo)), (by first | exact hR.wr | (simp (disch := decide) only [zu_k, zu_j]; exact hR.wr)), (by rw [zu_s, zu_s]), (by first | exact hR.mn | (simp (disch := decide) only [zu_k, zu_j]; exact hR.mn)), (by first | exact hR.sz | (simp (disch := decide) only [zu_k, zu_j]; exact hR.sz)), (by first | exact hR.st | (simp (disch := decide) only [zu_k, zu_j]; exact hR.st)), (by first | exact hR.bk | (simp (disch := decide) only [zu_k, zu_j]; exact hR.bk)), (by first | exact hR.tn | (simp (disch := decide) only [zu_k, zu_j]; exact hR.tn)), (by first | exact hR.dr | (simp (disch := decide) only [zu_k, zu_j]; exact hR.dr))⟩
    · refine zBoth_0 (-3) h ?_ ?_
      · rw [ze_X8_line, zb_X8_line_0, s_isRowOfWords _ _ _ 4 (by decide), zcI_ok, zb_X8_line_6, c1, if_pos rfl, if_neg (by decide), s_appendLine _ a b ⟨ht.1, ht.2.1⟩, if_neg c3, zcI_ok, zb_X8_line_23]
      · rw [ze_X9_line, zb_X9_line_0, t_isRow _ _ _ 4 (by decide), zcI_ok, zb_X9_line_6, c1, if_pos rfl, if_neg (by decide), hR.lm, if_pos (by have := ht.2.1; omega)]
  · have c1 : zrow a b 4 = false := by simpa using c1
    refine zBoth_0 (-1) h ?_ ?_
    · rw [ze_X8_line, zb_X8_line_0, s_isRowOfWords _ _ _ 4 (by decide), zcI_ok, zb_X8_line_6, c1, if_pos (by decide)]
    · rw [ze_X9_line, zb_X9_line_0, t_isRow _ _ _ 4 (by decide), zcI_ok, zb_X9_line_6, c1, if_pos (by decide)]
theorem op_weight (d : Nat) (a b v : Int) (h : zRel m mm) : zBoth d 79 134 [.inl a, .inl b, .inl v] m mm := by
  obtain ⟨hI, hR, _⟩ := id h
  have hn : xN mm := ⟨hI.ce.1, hI.ce.2.1⟩
  have h6 := hn.2
  by_cases c1 : 0 ≤ a ∧ a < mm 6 3
  · by_cases c2 : 0 ≤ b ∧ b < 8
    · by_cases c3 : 0 ≤ v ∧ v ≤ 9
      · obtain ⟨c, rfl⟩ : ∃ c : Nat, a = c := ⟨a.toNat, by omega⟩
        obtain ⟨w, rfl⟩ : ∃ w : Nat, b = w := ⟨b.toNat, by omega⟩
        have ez : zw (zw (8 * (c : Int)) + (w : Int)) = ((8 * c + w : Nat) : Int) := by
          rw [zw_id (x := 8 * (c : Int)) (by omega) (by omega), zw_id (by omega) (by omega)]
          omega
        refine ⟨mm 9 (8 * c + w), zu mm 9 (8 * c + w) v, zu m 50 (8 * c + w) v, ?_, ?_, ?_, fun k hk => by first | rfl | simp (disch := omega) only [zu_k], fun k hk => by first | rfl | simp (disch := omega) only [zu_k]⟩
        · rw [ze_X8_weight, zb_X8_weight_0, s_has _ _ hn, zcI_ok, zb_X8_weight_11, if_pos c1, if_neg (by decide), s_isWord, zcI_ok, zb_X8_weight_18, if_pos c2, if_neg (by decide), if_neg (by omega), if_neg (by omega), s_changeWeight _ c w v hn (by omega) (by omega), zcI_ok, zb_X8_weight_46]
        · rw [ze_X9_weight, zb_X9_weight_0, t_isCell _ _ hR hI, zcI_ok, zb_X9_weight_5, if_pos c1, if_neg (by decide), t_isWord, zcI_ok, zb_X9_weight_12, if_pos c2, if_neg (by decide), t_in, zcI_ok, zb_X9_weight_24, if_pos c3, if_neg (by decide), ez, if_pos (by omega), if_pos (by omega), Int.toNat_natCast, hR.we _ (by omega)]
        · refine zRel_now h (by first | rfl | simp (disch := decide) only [zu_k, zu_j]) (fun k hk => by first | rfl | simp (disch := omega) only [zu_k]) (by first | rfl | simp (disch := decide) only [zu_k, zu_j]) (by first | rfl | simp (disch := decide) only [zu_k, zu_j]) (fun k hk => by first | rfl | simp (disch := omega) only [zu_k]) ?_ ?_
          · exact ⟨(by
              obtain ⟨t1, t2, t3, t4, t5⟩ := hI.ce
              simp (disch := decide) only [zu_k, zu_j]
              refine ⟨t1, t2, t3, fun j => ?_, t5⟩
              by_cases q : j = 8 * c + w
              · rw [q, zu_s]
                omega
              · rw [zu_j _ _ q]
                exact t4 j), (by first | exact hI.tg | (simp (disch := decide) only [zu_k, zu_j]; exact hI.tg)), (by first | exact hI.tl | (simp (disch := decide) only [zu_k, zu_j]; exact hI.tl)), (by first | exact hI.se | (simp (disch := decide) only [zu_k, zu_j]; exact hI.se)), (by first | exact hI.st | (simp (disch := decide) only [zu_k, zu_j]; exact hI.st)), (by first | exact hI.bk | (simp (disch := decide) only [zu_k, zu_j]; exact hI.bk)), (by first | exact hI.pg | (unfold xP; simp (disch := decide) only [zu_k, zu_j]; exact hI.pg)), (by first | exact hI.wr | (simp (disch := decide) only [zu_k, zu_j]; exact hI.wr)), (by
              intro j hj h48
              rw [zu_k _ _ (show 6 ≠ 9 by decide)] at hj
              rw [zu_j _ _ (by omega)]
              exact hI.wo j hj h48), (by first | exact hI.dd | (simp (disch := decide) only [zu_k, zu_j]; exact hI.dd)), (by first | exact hI.lt | (simp (disch := decide) only [zu_k, zu_j]; exact hI.lt))⟩
          · exact ⟨(by first | exact hR.fo | (simp (disch := decide) only [zu_k, zu_j]; exact hR.fo)), (by first | exact hR.lw | (simp (disch := decide) only [zu_k, zu_j]; exact hR.lw)), (by first | exact hR.ll | (simp (disch := decide) only [zu_k, zu_j]; exact hR.ll)), (by first | exact hR.ki | (simp (disch := decide) only [zu_k, zu_j]; exact hR.ki)), (by
              intro j hj
              rw [zu_k _ _ (show 6 ≠ 9 by decide)] at hj
              by_cases q : j = 8 * c + w
              · rw [q, zu_s, zu_s]
              · rw [zu_j _ _ q, zu_j _ _ q]
                exact hR.we j hj), (by first | exact hR.de | (simp (disch := decide) only [zu_k, zu_j]; exact hR.de)), (by first | exact hR.ce | (simp (disch := decide) only [zu_k, zu_j]; exact hR.ce)), (by first | exact hR.bo | (simp (disch := decide) only [zu_k, zu_j]; exact hR.bo)), (by first | exact hR.wr | (simp (disch := decide) only [zu_k, zu_j]; exact hR.wr)), (by first | exact hR.lm | (simp (disch := decide) only [zu_k, zu_j]; exact hR.lm)), (by first | exact hR.mn | (simp (disch := decide) only [zu_k, zu_j]; exact hR.mn)), (by first | exact hR.sz | (simp (disch := decide) only [zu_k, zu_j]; exact hR.sz)), (by first | exact hR.st | (simp (disch := decide) only [zu_k, zu_j]; exact hR.st)), (by first | exact hR.bk | (simp (disch := decide) only [zu_k, zu_j]; exact hR.bk)), (by first | exact hR.tn | (simp (disch := decide) only [zu_k, zu_j]; exact hR.tn)), (by first | exact hR.dr | (simp (disch := decide) only [zu_k, zu_j]; exact hR.dr))⟩
      · refine zBoth_0 (-1) h ?_ ?_
        · rw [ze_X8_weight, zb_X8_weight_0, s_has _ _ hn, zcI_ok, zb_X8_weight_11, if_pos c1, if_neg (by decide), s_isWord, zcI_ok, zb_X8_weight_18, if_pos c2, if_neg (by decide)]
          by_cases c4 : v < 0
          · rw [if_pos c4]
          · rw [if_neg c4, if_pos (by omega)]
        · rw [ze_X9_weight, zb_X9_weight_0, t_isCell _ _ hR hI, zcI_ok, zb_X9_weight_5, if_pos c1, if_neg (by decide), t_isWord, zcI_ok, zb_X9_weight_12, if_pos c2, if_neg (by decide), t_in, zcI_ok, zb_X9_weight_24, if_neg c3, if_pos rfl]
    · refine zBoth_0 (-1) h ?_ ?_
      · rw [ze_X8_weight, zb_X8_weight_0, s_has _ _ hn, zcI_ok, zb_X8_weight_11, if_pos c1, if_neg (by decide), s_isWord, zcI_ok, zb_X8_weight_18, if_neg c2, if_pos rfl]
      · rw [ze_X9_weight, zb_X9_weight_0, t_isCell _ _ hR hI, zcI_ok, zb_X9_weight_5, if_pos c1, if_neg (by decide), t_isWord, zcI_ok, zb_X9_weight_12, if_neg c2, if_pos rfl]
  · refine zBoth_0 (-1) h ?_ ?_
    · rw [ze_X8_weight, zb_X8_weight_0, s_has _ _ hn, zcI_ok, zb_X8_weight_11, if_neg c1, if_pos rfl]
    · rw [ze_X9_weight, zb_X9_weight_0, t_isCell _ _ hR hI, zcI_ok, zb_X9_weight_5, if_neg c1, if_pos rfl]
theorem op_dead (d : Nat) (a b : Int) (hb : b = 0 ∨ b = 1) (h : zRel m mm) : zBoth d 80 135 [.inl a, .inl b] m mm := by
  obtain ⟨hI, hR, _⟩ := id h
  have hn : xN mm := ⟨hI.ce.1, hI.ce.2.1⟩
  have h6 := hn.2
  by_cases c1 : 0 ≤ a ∧ a < mm 6 3
  · obtain ⟨c, rfl⟩ : ∃ c : Nat, a = c := ⟨a.toNat, by omega⟩
    have hd := hI.ce.2.2.2.2 c
    refine ⟨mm 8 c, zu mm 8 c b, zu m 51 c b, ?_, ?_, ?_, fun k hk => by first | rfl | simp (disch := omega) only [zu_k], fun k hk => by first | rfl | simp (disch := omega) only [zu_k]⟩
    · rw [ze_X8_dead, zb_X8_dead_0, s_has _ _ hn, zcI_ok, zb_X8_dead_11, if_pos c1, if_neg (by decide), s_changeDead _ c b hn (by omega) hb hd, zcI_ok, zb_X8_dead_28, s_bit, zcI_ok, zb_X8_dead_31]
      rcases hd with q | q
      · rw [q]; rfl
      · rw [q]; rfl
    · rw [ze_X9_dead, zb_X9_dead_0, t_isCell _ _ hR hI, zcI_ok, zb_X9_dead_5, if_pos c1, if_neg (by decide), if_pos (by omega), hR.de]
      rcases hb with q | q
      · rw [if_pos q, if_pos (by omega), Int.toNat_natCast, q]
      · rw [if_neg (by omega), if_pos (by omega), Int.toNat_natCast, q]
    · refine zRel_now h (by first | rfl | simp (disch := decide) only [zu_k, zu_j]) (fun k hk => by first | rfl | simp (disch := omega) only [zu_k]) (by first | rfl | simp (disch := decide) only [zu_k, zu_j]) (by first | rfl | simp (disch := decide) only [zu_k, zu_j]) (fun k hk => by first | rfl | simp (disch := omega) only [zu_k]) ?_ ?_
      · exact ⟨(by
          obtain ⟨t1, t2, t3, t4, t5⟩ := hI.ce
          simp (disch := decide) only [zu_k, zu_j]
          refine ⟨t1, t2, t3, t4, fun j => ?_⟩
          by_cases q : j = c
          · rw [q, zu_s]
            exact hb
          · rw [zu_j _ _ q]
            exact t5 j), (by first | exact hI.tg | (simp (disch := decide) only [zu_k, zu_j]; exact hI.tg)), (by first | exact hI.tl | (simp (disch := decide) only [zu_k, zu_j]; exact hI.tl)), (by first | exact hI.se | (simp (disch := decide) only [zu_k, zu_j]; exact hI.se)), (by first | exact hI.st | (simp (disch := decide) only [zu_k, zu_j]; exact hI.st)), (by first | exact hI.bk | (simp (disch := decide) only [zu_k, zu_j]; exact hI.bk)), (by first | exact hI.pg | (unfold xP; simp (disch := decide) only [zu_k, zu_j]; exact hI.pg)), (by first | exact hI.wr | (simp (disch := decide) only [zu_k, zu_j]; exact hI.wr)), (by first | exact hI.wo | (simp (disch := decide) only [zu_k, zu_j]; exact hI.wo)), (by
          intro j hj
          rw [zu_k _ _ (show 6 ≠ 8 by decide)] at hj
          rw [zu_j _ _ (by omega)]
          exact hI.dd j hj), (by first | exact hI.lt | (simp (disch := decide) only [zu_k, zu_j]; exact hI.lt))⟩
      · exact ⟨(by first | exact hR.fo | (simp (disch := decide) only [zu_k, zu_j]; exact hR.fo)), (by first | exact hR.lw | (simp (disch := decide) only [zu_k, zu_j]; exact hR.lw)), (by first | exact hR.ll | (simp (disch := decide) only [zu_k, zu_j]; exact hR.ll)), (by first | exact hR.ki | (simp (disch := decide) only [zu_k, zu_j]; exact hR.ki)), (by first | exact hR.we | (simp (disch := decide) only [zu_k, zu_j]; exact hR.we)), zu_row hR.de _ _, (by first | exact hR.ce | (simp (disch := decide) only [zu_k, zu_j]; exact hR.ce)), (by first | exact hR.bo | (simp (disch := decide) only [zu_k, zu_j]; exact hR.bo)), (by first | exact hR.wr | (simp (disch := decide) only [zu_k, zu_j]; exact hR.wr)), (by first | exact hR.lm | (simp (disch := decide) only [zu_k, zu_j]; exact hR.lm)), (by first | exact hR.mn | (simp (disch := decide) only [zu_k, zu_j]; exact hR.mn)), (by first | exact hR.sz | (simp (disch := decide) only [zu_k, zu_j]; exact hR.sz)), (by first | exact hR.st | (simp (disch := decide) only [zu_k, zu_j]; exact hR.st)), (by first | exact hR.bk | (simp (disch := decide) only [zu_k, zu_j]; exact hR.bk)), (by first | exact hR.tn | (simp (disch := decide) only [zu_k, zu_j]; exact hR.tn)), (by first | exact hR.dr | (simp (disch := decide) only [zu_k, zu_j]; exact hR.dr))⟩
  · refine zBoth_0 (-1) h ?_ ?_
    · rw [ze_X8_dead, zb_X8_dead_0, s_has _ _ hn, zcI_ok, zb_X8_dead_11, if_neg c1, if_pos rfl]
    · rw [ze_X9_dead, zb_X9_dead_0, t_isCell _ _ hR hI, zcI_ok, zb_X9_dead_5, if_neg c1, if_pos rfl]
theorem op_turn (d : Nat) (b : Int) (hb : b = 0 ∨ b = 1) (h : zRel m mm) : zBoth d 82 138 [.inl b] m mm := by
  obtain ⟨hI, hR, _⟩ := id h
  refine ⟨mm 10 4, zu mm 10 4 b, zu m 45 13 b, ?_, ?_, ?_, fun k hk => by first | rfl | simp (disch := omega) only [zu_k], fun k hk => by first | rfl | simp (disch := omega) only [zu_k]⟩
  · rw [ze_X8_turn, zb_X8_turn_0, if_pos hb, s_bit, zcI_ok, zb_X8_turn_26]
    rcases hI.bk with q | q
    · rw [q]; rfl
    · rw [q]; rfl
  · rw [ze_X9_turn, zb_X9_turn_0, hR.bk, if_pos hb]
    rcases hI.bk with q | q
    · rw [q]; rfl
    · rw [q, if_neg (by decide), if_pos hb]
  · refine zRel_now h (by first | rfl | simp (disch := decide) only [zu_k, zu_j]) (fun k hk => by first | rfl | simp (disch := omega) only [zu_k]) (by first | rfl | simp (disch := decide) only [zu_k, zu_j]) (by first | rfl | simp (disch := decide) only [zu_k, zu_j]) (fun k hk => by first | rfl | simp (disch := omega) only [zu_k]) ?_ ?_
    · exact ⟨(by first | exact hI.ce | (simp (disch := decide) only [zu_k, zu_j]; exact hI.ce)), (by first | exact hI.tg | (simp (disch := decide) only [zu_k, zu_j]; exact hI.tg)), (by first | exact hI.tl | (simp (disch := decide) only [zu_k, zu_j]; exact hI.tl)), (by first | exact hI.se | (simp (disch := decide) only [zu_k, zu_j]; exact hI.se)), (by first | exact hI.st | (simp (disch := decide) only [zu_k, zu_j]; exact hI.st)), (by rw [zu_s]; exact hb), (by first | exact hI.pg | (unfold xP; simp (disch := decide) only [zu_k, zu_j]; exact hI.pg)), (by first | exact hI.wr | (simp (disch := decide) only [zu_k, zu_j]; exact hI.wr)), (by first | exact hI.wo | (simp (disch := decide) only [zu_k, zu_j]; exact hI.wo)), (by first | exact hI.dd | (simp (disch := decide) only [zu_k, zu_j]; exact hI.dd)), (by first | exact hI.lt | (simp (disch := decide) only [zu_k, zu_j]; exact hI.lt))⟩
    · exact ⟨(by first | exact hR.fo | (simp (disch := decide) only [zu_k, zu_j]; exact hR.fo)), (by first | exact hR.lw | (simp (disch := decide) only [zu_k, zu_j]; exact hR.lw)), (by first | exact hR.ll | (simp (disch := decide) only [zu_k, zu_j]; exact hR.ll)), (by first | exact hR.ki | (simp (disch := decide) only [zu_k, zu_j]; exact hR.ki)), (by first | exact hR.we | (simp (disch := decide) only [zu_k, zu_j]; exact hR.we)), (by first | exact hR.de | (simp (disch := decide) only [zu_k, zu_j]; exact hR.de)), (by first | exact hR.ce | (simp (disch := decide) only [zu_k, zu_j]; exact hR.ce)), (by first | exact hR.bo | (simp (disch := decide) only [zu_k, zu_j]; exact hR.bo)), (by first | exact hR.wr | (simp (disch := decide) only [zu_k, zu_j]; exact hR.wr)), (by first | exact hR.lm | (simp (disch := decide) only [zu_k, zu_j]; exact hR.lm)), (by first | exact hR.mn | (simp (disch := decide) only [zu_k, zu_j]; exact hR.mn)), (by first | exact hR.sz | (simp (disch := decide) only [zu_k, zu_j]; exact hR.sz)), (by first | exact hR.st | (simp (disch := decide) only [zu_k, zu_j]; exact hR.st)), (by rw [zu_s, zu_s]), (by first | exact hR.tn | (simp (disch := decide) only [zu_k, zu_j]; exact hR.tn)), (by first | exact hR.dr | (simp (disch := decide) only [zu_k, zu_j]; exact hR.dr))⟩
theorem op_told (d : Nat) (a b : Int) (h : zRel m mm) : zBoth d 83 139 [.inl a, .inl b] m mm := by
  obtain ⟨hI, hR, _⟩ := id h
  have hn : xN mm := ⟨hI.ce.1, hI.ce.2.1⟩
  have h6 := hn.2
  by_cases c1 : 0 ≤ a ∧ a < mm 6 3
  · by_cases c2 : 0 ≤ b ∧ b ≤ 10
    · obtain ⟨c, rfl⟩ : ∃ c : Nat, a = c := ⟨a.toNat, by omega⟩
      have hc : (c : Int) < mm 6 3 := c1.2
      have hx : zL (d + 20) 83 [.inr (.inr 0), .inl (c : Int), .inl b] SH mm = zR (d + 19) 83 11 [some (.inr (.inr 0)), some (.inl (c : Int)), some (.inl b)] [.inl 1] SH mm := by
        rw [ze_X8_told, zb_X8_told_0, s_has _ _ hn, zcI_ok, if_pos c1]
      have hm : zL (d + 20) 139 [.inr (.inr 45), .inl (c : Int), .inl b] SH m = zR (d + 19) 139 17 [some (.inr (.inr 45)), some (.inl (c : Int)), some (.inl b)] [.inl 1] SH m := by
        rw [ze_X9_told, zb_X9_told_0, t_isCell _ _ hR hI, zcI_ok, zb_X9_told_5, if_pos c1, if_neg (by decide), t_in, zcI_ok, if_pos c2]
      by_cases c3 : b = 0
      · refine zBoth_0 (mm 7 c) h (hx.trans ?_) (hm.trans ?_)
        · rw [zb_X8_told_11, if_neg (by decide), if_neg (by omega), if_neg (by omega), if_pos c3, s_kindOf _ c hn hc, zcI_ok, zb_X8_told_63]
        · rw [zb_X9_told_17, if_neg (by decide), if_pos c3, if_pos (by omega), Int.toNat_natCast, hR.ki]
      · by_cases c4 : b = 1
        · obtain ⟨s, hs, e⟩ := hI.se.2.2 c hc
          refine zBoth_0 s h (hx.trans ?_) (hm.trans ?_)
          · rw [zb_X8_told_11, if_neg (by decide), if_neg (by omega), if_neg (by omega), if_neg c3, if_pos c4, s_seatOf _ s c hn hI.se hs e, zcI_ok, zb_X8_told_75]
          · rw [zb_X9_told_17, if_neg (by decide), if_neg c3, if_pos c4, t_seatOf _ s c hR hI hs e, zcI_ok, zb_X9_told_45]
        · by_cases c5 : b = 2
          · refine zBoth_0 (mm 8 c) h (hx.trans ?_) (hm.trans ?_)
            · rw [zb_X8_told_11, if_neg (by decide), if_neg (by omega), if_neg (by omega), if_neg c3, if_neg c4, if_pos c5, s_isAlive _ c hn, zcI_ok, zb_X8_told_87]
              have hal : xal mm c = decide (mm 8 c = 0) := by
                unfold xal
                rw [decide_eq_true hc, Bool.true_and]
              rw [hal]
              rcases hI.ce.2.2.2.2 c with q | q
              · rw [q, if_neg (by decide), s_bit, zcI_ok, zb_X8_told_98]
                rfl
              · rw [q, if_pos (by decide), s_bit, zcI_ok, zb_X8_told_98]
                rfl
            · rw [zb_X9_told_17, if_neg (by decide), if_neg c3, if_neg c4, if_pos c5, if_pos (by omega), Int.toNat_natCast, hR.de]
          · obtain ⟨w, hw⟩ : ∃ w : Nat, b = w + 3 := ⟨(b - 3).toNat, by omega⟩
            refine zBoth_0 (mm 9 (8 * c + w)) h (hx.trans ?_) (hm.trans ?_)
            · rw [zb_X8_told_11, if_neg (by decide), if_neg (by omega), if_neg (by omega), if_neg c3, if_neg c4, if_neg c5, show zw (b - 3) = (w : Int) by rw [zw_id (by omega) (by omega)]; omega, s_weightOf _ c w hn hc (by omega), zcI_ok, zb_X8_told_113]
            · have ez : zw (zw (zw (8 * (c : Int)) + b) - 3) = ((8 * c + w : Nat) : Int) := by
                rw [zw_id (x := 8 * (c : Int)) (by omega) (by omega), zw_id (x := 8 * (c : Int) + b) (by omega) (by omega), zw_id (by omega) (by omega)]
                omega
              rw [zb_X9_told_17, if_neg (by decide), if_neg c3, if_neg c4, if_neg c5, ez, if_pos (by omega), Int.toNat_natCast, hR.we _ (by omega)]
    · refine zBoth_0 (-1) h ?_ ?_
      · rw [ze_X8_told, zb_X8_told_0, s_has _ _ hn, zcI_ok, if_pos c1, zb_X8_told_11, if_neg (by decide)]
        by_cases c4 : b < 0
        · rw [if_pos c4]
        · rw [if_neg c4, if_pos (by omega)]
      · rw [ze_X9_told, zb_X9_told_0, t_isCell _ _ hR hI, zcI_ok, zb_X9_told_5, if_pos c1, if_neg (by decide), t_in, zcI_ok, zb_X9_told_17, if_neg c2, if_pos rfl]
  · refine zBoth_0 (-1) h ?_ ?_
    · rw [ze_X8_told, zb_X8_told_0, s_has _ _ hn, zcI_ok, zb_X8_told_11, if_neg c1, if_pos rfl]
    · rw [ze_X9_told, zb_X9_told_0, t_isCell _ _ hR hI, zcI_ok, zb_X9_told_5, if_neg c1, if_pos rfl]
end
