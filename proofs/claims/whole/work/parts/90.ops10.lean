section
variable {m mm : zMm}
theorem s_hasRow (d : Nat) (a n : Int) (hp : xP mm) (hn : 1 ≤ n ∧ n ≤ 24) : zL (d + 1) 29 [.inr (.inr 12), .inl a, .inl n] SH mm = zok (if 0 ≤ a ∧ a ≤ mm 12 2 - n then 1 else 0) mm := by
  have h0 := hp.1
  have h60 := hp.2.1
  rw [ze_X2_hasRow, zb_X2_hasRow_0, zw_id (x := mm 12 2 - n) (by omega) (by omega)]
  by_cases c : a < 0
  · rw [if_pos c, if_neg (by omega)]
  · by_cases c2 : mm 12 2 - n < a
    · rw [if_neg c, if_pos c2, if_neg (by omega)]
    · rw [if_neg c, if_neg c2, if_pos (by omega)]
theorem op_film (d : Nat) (a n u b f : Int) (h : zRel m mm) : zBoth d 110 197 [.inl a, .inl n, .inl u, .inl b, .inl f] m mm := by
  obtain ⟨hI, hR, hT, hK, hS⟩ := id h
  have hp0 := hI.pg.1
  have hp60 := hI.pg.2.1
  by_cases cn : 1 ≤ n ∧ n ≤ 24
  · by_cases ca : 0 ≤ a ∧ a ≤ mm 12 2 - n
    · by_cases c : (0 ≤ u ∧ u < 4) ∧ 0 ≤ b ∧ b < 3
      · obtain ⟨s, rfl⟩ : ∃ s : Nat, u = s := ⟨u.toNat, by omega⟩
        have hs : s < 4 := by omega
        obtain ⟨h1, h2, h3, h4, h5⟩ := hS s hs
        have hx0 : ∀ r, zR (d + 19) 110 51 [some (.inr (.inr 0)), some (.inl a), some (.inl n), some (.inl (s : Int)), some (.inl b), some (.inl f), none, none] [.inl (zref (mm (37 + 2 * s) 1) (mm (37 + 2 * s) 2) b f n)] SH mm = r → zL (d + 20) 110 [.inr (.inr 0), .inl a, .inl n, .inl (s : Int), .inl b, .inl f] SH mm = r := fun r hr => by
          rw [ze_X8_film, zb_X8_film_0, s_isSheetAndLane, zcI_ok, if_pos c, zb_X8_film_6, if_neg (by decide), if_neg (by omega), if_neg (by omega), s_hasRow _ a n hI.pg cn, zcI_ok, if_pos ca, zb_X8_film_32, if_neg (by decide), zb_X8_filmS_37 _ _ _ _ _ s hs, s_refusalOf _ s b f n hs h4 (by omega), zcI_ok]
          exact hr
        have hm0 : ∀ r, zR (d + 19) 197 49 [some (.inr (.inr 45)), some (.inl a), some (.inl n), some (.inl (s : Int)), some (.inl b), some (.inl f), none, none] [.inl (zref (mm (37 + 2 * s) 1) (mm (37 + 2 * s) 2) b f n)] SH m = r → zL (d + 20) 197 [.inr (.inr 45), .inl a, .inl n, .inl (s : Int), .inl b, .inl f] SH m = r := fun r hr => by
          rw [ze_X9_film, zb_X9_film_0, t_in, zcI_ok, if_pos cn, zb_X9_film_9, if_neg (by decide), hR.sz, zw_id (x := mm 12 2 - n) (by omega) (by omega), t_in, zcI_ok, if_pos ca, zb_X9_film_25, if_neg (by decide), t_isSheet, zcI_ok, if_pos c, zb_X9_film_34, if_neg (by decide), t_lacksRow _ s b f n hs c.2.1 (by omega) hS, zcI_ok]
          exact hr
        by_cases c2 : zref (mm (37 + 2 * s) 1) (mm (37 + 2 * s) 2) b f n < 0
        · refine zBoth_0 (zref (mm (37 + 2 * s) 1) (mm (37 + 2 * s) 2) b f n) h (hx0 _ ?_) (hm0 _ ?_)
          · rw [zb_X8_filmS_51 _ _ _ _ _ _ s hs, if_pos c2]
          · rw [zb_X9_film_49, if_pos c2]
        · obtain ⟨r1, r2, r3⟩ := zref_n c.2.1 c2
          obtain ⟨f, rfl⟩ : ∃ i : Nat, f = i := ⟨f.toNat, by omega⟩
          obtain ⟨p, rfl⟩ : ∃ i : Nat, a = i := ⟨a.toNat, by omega⟩
          obtain ⟨n, rfl⟩ : ∃ i : Nat, n = i := ⟨n.toNat, by omega⟩
          have hw : ∀ k, k < n → 0 ≤ mm 13 (p + k) ∧ mm 13 (p + k) < 8 := fun k hk => hI.pg.2.2 (p + k) (by omega)
          refine ⟨n, zur mm (38 + 2 * s) (fun j => if f ≤ j ∧ j < f + n then mm 13 (p + (j - f)) else mm (38 + 2 * s) j), zur m 67 (fun j => if 24 * s + f ≤ j ∧ j < 24 * s + f + n then mm 13 (p + (j - (24 * s + f))) else m 67 j), hx0 _ ?_, hm0 _ ?_, ?_, fun k hk => zur_k _ _ (by omega), fun k hk => zur_k _ _ (by omega)⟩
          · rw [zb_X8_filmS_51 _ _ _ _ _ _ s hs, if_neg c2]
            have key : ∀ k : Nat, k ≤ n → zR (d + 19) 110 64 [some (.inr (.inr 0)), some (.inl (p : Int)), some (.inl (n : Int)), some (.inl (s : Int)), none, some (.inl (f : Int)), none, some (.inl (k : Int))] [] SH (zur mm (38 + 2 * s) (fun j => if f ≤ j ∧ j < f + k then mm 13 (p + (j - f)) else mm (38 + 2 * s) j)) = zok n (zur mm (38 + 2 * s) (fun j => if f ≤ j ∧ j < f + n then mm 13 (p + (j - f)) else mm (38 + 2 * s) j)) := by
              refine zup ?_ ?_
              · rw [zb_X8_filmS_64 _ _ _ _ _ s hs, if_neg (by omega)]
              · intro k hk ih
                have e12 : ∀ R, zur mm (38 + 2 * s) R 12 = mm 12 := fun R => zur_k _ _ (by omega)
                have e13 : ∀ R, zur mm (38 + 2 * s) R 13 = mm 13 := fun R => zur_k _ _ (by omega)
                have hpp : ∀ R, xP (zur mm (38 + 2 * s) R) := fun R => by
                  unfold xP
                  rw [e12, e13]
                  exact hI.pg
                have e : zset (fun j => if f ≤ j ∧ j < f + k then mm 13 (p + (j - f)) else mm (38 + 2 * s) j) (f + k) (mm 13 (p + k)) = fun j => if f ≤ j ∧ j < f + (k + 1) then mm 13 (p + (j - f)) else mm (38 + 2 * s) j := by
                  funext j
                  unfold zset
                  dsimp only
                  by_cases q : j = f + k
                  · rw [if_pos q, if_pos (by omega), show p + (j - f) = p + k by omega]
                  · rw [if_neg q]
                    by_cases q2 : f ≤ j ∧ j < f + k
                    · rw [if_pos q2, if_pos (by omega)]
                    · rw [if_neg q2, if_neg (by omega)]
                rw [zb_X8_filmS_64 _ _ _ _ _ s hs, if_pos (by omega), show zw ((p : Int) + k) = ((p + k : Nat) : Int) by rw [zw_id (by omega) (by omega)]; omega, s_wordAt _ (p + k) (hpp _) (by rw [e12]; omega), zcI_ok, zb_X8_filmS_95 _ _ _ _ _ _ _ s hs, show zw ((f : Int) + k) = ((f + k : Nat) : Int) by rw [zw_id (by omega) (by omega)]; omega, s_put _ s (f + k) _ hs (by omega), zcV_vd, zb_X8_filmS_98 _ _ _ _ _ s hs, e13, zput_w (hw k hk).1 (hw k hk).2, zu_zur, e, zw_inc k (by omega)]
                exact ih
            have k0 := key 0 (by omega)
            have e0 : zur mm (38 + 2 * s) (fun j => if f ≤ j ∧ j < f + 0 then mm 13 (p + (j - f)) else mm (38 + 2 * s) j) = mm := by
              have : (fun j => if f ≤ j ∧ j < f + 0 then mm 13 (p + (j - f)) else mm (38 + 2 * s) j) = mm (38 + 2 * s) := by
                funext j
                rw [if_neg (by omega)]
              rw [this, zur_id]
            rw [e0] at k0
            exact zR_weak (by repeat first | exact zle_nil | apply zle_c | apply zle_n) k0
          · rw [zb_X9_film_49, if_neg c2]
            have key : ∀ k : Nat, k ≤ n → zR (d + 19) 197 62 [some (.inr (.inr 45)), some (.inl (p : Int)), some (.inl (n : Int)), some (.inl (s : Int)), none, some (.inl (f : Int)), none, some (.inl (k : Int))] [] SH (zur m 67 (fun j => if 24 * s + f ≤ j ∧ j < 24 * s + f + k then mm 13 (p + (j - (24 * s + f))) else m 67 j)) = zok n (zur m 67 (fun j => if 24 * s + f ≤ j ∧ j < 24 * s + f + n then mm 13 (p + (j - (24 * s + f))) else m 67 j)) := by
              refine zup ?_ ?_
              · rw [zb_X9_film_62, if_neg (by omega)]
              · intro k hk ih
                have e53 : ∀ R, zur m 67 R 53 = mm 13 := fun R => by rw [zur_k _ _ (by decide), hR.bo]
                have e : zset (fun j => if 24 * s + f ≤ j ∧ j < 24 * s + f + k then mm 13 (p + (j - (24 * s + f))) else m 67 j) (24 * s + f + k) (mm 13 (p + k)) = fun j => if 24 * s + f ≤ j ∧ j < 24 * s + f + (k + 1) then mm 13 (p + (j - (24 * s + f))) else m 67 j := by
                  funext j
                  unfold zset
                  dsimp only
                  by_cases q : j = 24 * s + f + k
                  · rw [if_pos q, if_pos (by omega), show p + (j - (24 * s + f)) = p + k by omega]
                  · rw [if_neg q]
                    by_cases q2 : 24 * s + f ≤ j ∧ j < 24 * s + f + k
                    · rw [if_pos q2, if_pos (by omega)]
                    · rw [if_neg q2, if_neg (by omega)]
                rw [zb_X9_film_62, if_pos (by omega), show zw ((p : Int) + k) = ((p + k : Nat) : Int) by rw [zw_id (by omega) (by omega)]; omega, if_pos (by omega), zw_id (x := 24 * (s : Int)) (by omega) (by omega), zw_id (x := 24 * (s : Int) + f) (by omega) (by omega), zw_id (x := 24 * (s : Int) + f + k) (by omega) (by omega), if_pos (by omega), show (24 * (s : Int) + f + k).toNat = 24 * s + f + k by omega, Int.toNat_natCast, e53, zu_zur, e, zw_inc k (by omega)]
                exact ih
            have k0 := key 0 (by omega)
            have e0 : zur m 67 (fun j => if 24 * s + f ≤ j ∧ j < 24 * s + f + 0 then mm 13 (p + (j - (24 * s + f))) else m 67 j) = m := by
              have : (fun j => if 24 * s + f ≤ j ∧ j < 24 * s + f + 0 then mm 13 (p + (j - (24 * s + f))) else m 67 j) = m 67 := by
                funext j
                rw [if_neg (by omega)]
              rw [this, zur_id]
            rw [e0] at k0
            exact zR_weak (by repeat first | exact zle_nil | apply zle_c | apply zle_n) k0
          · refine zRel_sheet h hs (fun k a b => zur_k _ _ b) (fun k a b c => zur_k _ _ c) (fun s' hs' q => ⟨by rw [zur_k _ _ (by decide)], by rw [zur_k _ _ (by decide)], fun j hj => by rw [zur_s, if_neg (by omega)]⟩) ⟨?_, ?_, ?_, ?_, fun j hj => ?_⟩
            · rw [zur_k _ _ (by decide), zur_k _ _ (by omega)]
              exact h1
            · rw [zur_k _ _ (by decide), zur_k _ _ (by omega)]
              exact h2
            · rw [zur_k _ _ (by omega)]
              exact h3
            · rw [zur_k _ _ (by omega)]
              exact h4
            · rw [zur_s, zur_s]
              by_cases q : f ≤ j ∧ j < f + n
              · rw [if_pos (by omega), if_pos q, show 24 * s + j - (24 * s + f) = j - f by omega]
              · rw [if_neg (by omega), if_neg q]
                exact h5 j hj
      · refine zBoth_0 (-1) h ?_ ?_
        · rw [ze_X8_film, zb_X8_film_0, s_isSheetAndLane, zcI_ok, if_neg c, zb_X8_film_6, if_pos rfl]
        · rw [ze_X9_film, zb_X9_film_0, t_in, zcI_ok, if_pos cn, zb_X9_film_9, if_neg (by decide), hR.sz, zw_id (x := mm 12 2 - n) (by omega) (by omega), t_in, zcI_ok, if_pos ca, zb_X9_film_25, if_neg (by decide), t_isSheet, zcI_ok, if_neg c, zb_X9_film_34, if_pos rfl]
    · refine zBoth_0 (-1) h ?_ ?_
      · rw [ze_X8_film, zb_X8_film_0, s_isSheetAndLane, zcI_ok, zb_X8_film_6]
        by_cases c : (0 ≤ u ∧ u < 4) ∧ 0 ≤ b ∧ b < 3
        · rw [if_pos c, if_neg (by decide), if_neg (by omega), if_neg (by omega), s_hasRow _ a n hI.pg cn, zcI_ok, if_neg ca, zb_X8_film_32, if_pos rfl]
        · rw [if_neg c, if_pos rfl]
      · rw [ze_X9_film, zb_X9_film_0, t_in, zcI_ok, if_pos cn, zb_X9_film_9, if_neg (by decide), hR.sz, zw_id (x := mm 12 2 - n) (by omega) (by omega), t_in, zcI_ok, if_neg ca, zb_X9_film_25, if_pos rfl]
  · refine zBoth_0 (-1) h ?_ ?_
    · rw [ze_X8_film, zb_X8_film_0, s_isSheetAndLane, zcI_ok, zb_X8_film_6]
      by_cases c : (0 ≤ u ∧ u < 4) ∧ 0 ≤ b ∧ b < 3
      · rw [if_pos c, if_neg (by decide)]
        by_cases c2 : n < 1
        · rw [if_pos c2]
        · rw [if_neg c2, if_pos (by omega)]
      · rw [if_neg c, if_pos rfl]
    · rw [ze_X9_film, zb_X9_film_0, t_in, zcI_ok, if_neg cn, zb_X9_film_9, if_pos rfl]
theorem op_differ (d : Nat) (a u b f n : Int) (h : zRel m mm) : zBoth d 106 196 [.inl a, .inl u, .inl b, .inl f, .inl n] m mm := by
  obtain ⟨hI, hR, hT, hK, hS⟩ := id h
  have hp0 := hI.pg.1
  have hp60 := hI.pg.2.1
  by_cases ca : 0 ≤ a ∧ a ≤ 60
  · by_cases c : (0 ≤ u ∧ u < 4) ∧ 0 ≤ b ∧ b < 3
    · by_cases cn : 1 ≤ n ∧ n ≤ 24
      · obtain ⟨s, rfl⟩ : ∃ s : Nat, u = s := ⟨u.toNat, by omega⟩
        have hs : s < 4 := by omega
        obtain ⟨h1, h2, h3, h4, h5⟩ := hS s hs
        have hx0 : ∀ r, zR (d + 19) 106 51 [some (.inr (.inr 0)), some (.inl a), some (.inl (s : Int)), some (.inl b), some (.inl f), some (.inl n), some (.inr (.inr (37 + 2 * s))), none, none, none] [.inl (zref (mm (37 + 2 * s) 1) (mm (37 + 2 * s) 2) b f n)] SH mm = r → zL (d + 20) 106 [.inr (.inr 0), .inl a, .inl (s : Int), .inl b, .inl f, .inl n] SH mm = r := fun r hr => by
          rw [ze_X8_differ, zb_X8_differ_0, if_neg (by omega), if_neg (by omega), s_isSheetAndLane, zcI_ok, if_pos c, zb_X8_differ_15, if_neg (by decide), if_neg (by omega), if_neg (by omega), zb_X8_differS_33 _ _ _ _ _ s hs, s_refusalOf _ s b f n hs h4 (by omega), zcI_ok]
          exact hr
        have hm0 : ∀ r, zR (d + 19) 196 45 [some (.inr (.inr 45)), some (.inl a), some (.inl (s : Int)), some (.inl b), some (.inl f), some (.inl n), none, none, none, none] [.inl (zref (mm (37 + 2 * s) 1) (mm (37 + 2 * s) 2) b f n)] SH m = r → zL (d + 20) 196 [.inr (.inr 45), .inl a, .inl (s : Int), .inl b, .inl f, .inl n] SH m = r := fun r hr => by
          rw [ze_X9_differ, zb_X9_differ_0, t_in, zcI_ok, if_pos ca, zb_X9_differ_9, if_neg (by decide), t_isSheet, zcI_ok, if_pos c, zb_X9_differ_17, if_neg (by decide), t_in, zcI_ok, if_pos cn, zb_X9_differ_30, if_neg (by decide), t_lacksRow _ s b f n hs c.2.1 (by omega) hS, zcI_ok]
          exact hr
        by_cases c2 : zref (mm (37 + 2 * s) 1) (mm (37 + 2 * s) 2) b f n < 0
        · refine zBoth_0 (zref (mm (37 + 2 * s) 1) (mm (37 + 2 * s) 2) b f n) h (hx0 _ ?_) (hm0 _ ?_)
          · rw [zb_X8_differS_51 _ _ _ _ _ _ s hs, if_pos c2]
          · rw [zb_X9_differ_45, if_pos c2]
        · obtain ⟨r1, r2, r3⟩ := zref_n c.2.1 c2
          obtain ⟨f, rfl⟩ : ∃ i : Nat, f = i := ⟨f.toNat, by omega⟩
          obtain ⟨p, rfl⟩ : ∃ i : Nat, a = i := ⟨a.toNat, by omega⟩
          obtain ⟨n, rfl⟩ : ∃ i : Nat, n = i := ⟨n.toNat, by omega⟩
          have hc := fun k => zcnt_r (fun i => !(decide (((p + i : Nat) : Int) < mm 12 2) && decide (mm 13 (p + i) = mm (38 + 2 * s) (f + i)))) k
          refine zBoth_0 (zcnt (fun i => !(decide (((p + i : Nat) : Int) < mm 12 2) && decide (mm 13 (p + i) = mm (38 + 2 * s) (f + i)))) n) h (hx0 _ ?_) (hm0 _ ?_)
          · rw [zb_X8_differS_51 _ _ _ _ _ _ s hs, if_neg c2]
            have key : ∀ k : Nat, k ≤ n → zR (d + 19) 106 67 [some (.inr (.inr 0)), some (.inl (p : Int)), none, none, some (.inl (f : Int)), some (.inl (n : Int)), some (.inr (.inr (37 + 2 * s))), none, some (.inl (zcnt (fun i => !(decide (((p + i : Nat) : Int) < mm 12 2) && decide (mm 13 (p + i) = mm (38 + 2 * s) (f + i)))) k)), some (.inl (k : Int))] [] SH mm = zok (zcnt (fun i => !(decide (((p + i : Nat) : Int) < mm 12 2) && decide (mm 13 (p + i) = mm (38 + 2 * s) (f + i)))) n) mm := by
              refine zup ?_ ?_
              · rw [zb_X8_differS_67 _ _ _ _ _ _ s hs, if_neg (by omega)]
              · intro k hk ih
                have hck := hc k
                rw [zcnt_s] at ih
                rw [zb_X8_differS_67 _ _ _ _ _ _ s hs, if_pos (by omega), show zw ((p : Int) + k) = ((p + k : Nat) : Int) by rw [zw_id (by omega) (by omega)]; omega, s_phas _ _ hI.pg, zcI_ok, zb_X8_differS_88 _ _ _ _ _ _ _ s hs]
                generalize zcnt (fun i => !(decide (((p + i : Nat) : Int) < mm 12 2) && decide (mm 13 (p + i) = mm (38 + 2 * s) (f + i)))) k = x at hck ih ⊢
                by_cases q : ((p + k : Nat) : Int) < mm 12 2
                · rw [if_pos (show 0 ≤ ((p + k : Nat) : Int) ∧ ((p + k : Nat) : Int) < mm 12 2 from ⟨by omega, q⟩), if_neg (by decide), show zw ((f : Int) + k) = ((f + k : Nat) : Int) by rw [zw_id (by omega) (by omega)]; omega, s_itemAt _ s (f + k) hs (by omega), zcI_ok, zb_X8_differS_101 _ _ _ _ _ _ _ s hs, show zw ((p : Int) + k) = ((p + k : Nat) : Int) by rw [zw_id (by omega) (by omega)]; omega, s_wordAt _ (p + k) hI.pg q, zcI_ok, zb_X8_differS_115 _ _ _ _ _ _ _ _ s hs, zw_inc k (by omega)]
                  rw [decide_eq_true q, Bool.true_and] at ih
                  by_cases q2 : mm (38 + 2 * s) (f + k) = mm 13 (p + k)
                  · rw [decide_eq_true q2.symm] at ih
                    rw [if_pos q2]
                    exact ih
                  · rw [decide_eq_false (fun z => q2 z.symm)] at ih
                    rw [if_neg q2, zw_id (x := x + 1) (by omega) (by omega)]
                    exact ih
                · rw [decide_eq_false q] at ih
                  rw [if_neg (show ¬ (0 ≤ ((p + k : Nat) : Int) ∧ ((p + k : Nat) : Int) < mm 12 2) from fun z => q z.2), if_pos rfl, zw_id (x := x + 1) (by omega) (by omega), zw_inc k (by omega)]
                  exact ih
            exact zR_weak (by repeat first | exact zle_nil | apply zle_c | apply zle_n) (key 0 (by omega))
          · rw [zb_X9_differ_45, if_neg c2]
            have key : ∀ k : Nat, k ≤ n → zR (d + 19) 196 61 [some (.inr (.inr 45)), some (.inl (p : Int)), some (.inl (s : Int)), none, some (.inl (f : Int)), some (.inl (n : Int)), none, some (.inl (zcnt (fun i => !(decide (((p + i : Nat) : Int) < mm 12 2) && decide (mm 13 (p + i) = mm (38 + 2 * s) (f + i)))) k)), some (.inl (k : Int)), none] [] SH m = zok (zcnt (fun i => !(decide (((p + i : Nat) : Int) < mm 12 2) && decide (mm 13 (p + i) = mm (38 + 2 * s) (f + i)))) n) m := by
              refine zup ?_ ?_
              · rw [zb_X9_differ_61, if_neg (by omega)]
              · intro k hk ih
                have hck := hc k
                rw [zcnt_s] at ih
                generalize zcnt (fun i => !(decide (((p + i : Nat) : Int) < mm 12 2) && decide (mm 13 (p + i) = mm (38 + 2 * s) (f + i)))) k = x at hck ih ⊢
                rw [zb_X9_differ_61, if_pos (by omega), show zw ((p : Int) + k) = ((p + k : Nat) : Int) by rw [zw_id (by omega) (by omega)]; omega, hR.sz]
                by_cases q : ((p + k : Nat) : Int) < mm 12 2
                · rw [if_pos q, if_pos (by omega), zw_id (x := 24 * (s : Int)) (by omega) (by omega), zw_id (x := 24 * (s : Int) + f) (by omega) (by omega), zw_id (x := 24 * (s : Int) + f + k) (by omega) (by omega), if_pos (by omega), show (24 * (s : Int) + f + k).toNat = 24 * s + (f + k) by omega, Int.toNat_natCast, hR.bo, h5 (f + k) (by omega), zw_inc k (by omega)]
                  rw [decide_eq_true q, Bool.true_and] at ih
                  by_cases q2 : mm 13 (p + k) = mm (38 + 2 * s) (f + k)
                  · rw [decide_eq_true q2] at ih
                    rw [if_pos q2, zw_id (x := x + 0) (by omega) (by omega), Int.add_zero]
                    exact zR_weak (by repeat first | exact zle_nil | apply zle_c | apply zle_n) ih
                  · rw [decide_eq_false q2] at ih
                    rw [if_neg q2, zw_id (x := x + 1) (by omega) (by omega)]
                    exact zR_weak (by repeat first | exact zle_nil | apply zle_c | apply zle_n) ih
                · rw [decide_eq_false q] at ih
                  rw [if_neg q, zw_id (x := x + 1) (by omega) (by omega), zw_inc k (by omega)]
                  exact zR_weak (by repeat first | exact zle_nil | apply zle_c | apply zle_n) ih
            exact zR_weak (by repeat first | exact zle_nil | apply zle_c | apply zle_n) (key 0 (by omega))
      · refine zBoth_0 (-1) h ?_ ?_
        · rw [ze_X8_differ, zb_X8_differ_0, if_neg (by omega), if_neg (by omega), s_isSheetAndLane, zcI_ok, if_pos c, zb_X8_differ_15, if_neg (by decide)]
          by_cases c2 : n < 1
          · rw [if_pos c2]
          · rw [if_neg c2, if_pos (by omega)]
        · rw [ze_X9_differ, zb_X9_differ_0, t_in, zcI_ok, if_pos ca, zb_X9_differ_9, if_neg (by decide), t_isSheet, zcI_ok, if_pos c, zb_X9_differ_17, if_neg (by decide), t_in, zcI_ok, if_neg cn, zb_X9_differ_30, if_pos rfl]
    · refine zBoth_0 (-1) h ?_ ?_
      · rw [ze_X8_differ, zb_X8_differ_0, if_neg (by omega), if_neg (by omega), s_isSheetAndLane, zcI_ok, if_neg c, zb_X8_differ_15, if_pos rfl]
      · rw [ze_X9_differ, zb_X9_differ_0, t_in, zcI_ok, if_pos ca, zb_X9_differ_9, if_neg (by decide), t_isSheet, zcI_ok, if_neg c, zb_X9_differ_17, if_pos rfl]
  · refine zBoth_0 (-1) h ?_ ?_
    · rw [ze_X8_differ, zb_X8_differ_0]
      by_cases c2 : a < 0
      · rw [if_pos c2]
      · rw [if_neg c2, if_pos (by omega)]
    · rw [ze_X9_differ, zb_X9_differ_0, t_in, zcI_ok, if_neg ca, zb_X9_differ_9, if_pos rfl]
end
