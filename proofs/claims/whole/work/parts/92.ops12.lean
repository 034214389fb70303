theorem zdrw_lt (P : Nat → Bool) (Wt : Nat → Int) (c : Nat) : ∀ (f w : Nat) (v : Int), 0 ≤ v → v < zsum (zwt Wt P c) (w + f) - zsum (zwt Wt P c) w → zdrw P Wt c f w v < w + f
  | 0, w, v, h0, h => by
    rw [Nat.add_zero] at h
    omega
  | f + 1, w, v, h0, h => by
    rw [zdrw_s]
    have hs := zsum_s (zwt Wt P c) w
    cases h2 : (P w && decide (v < Wt (8 * c + w))) with
    | true =>
      rw [if_pos rfl]
      omega
    | false =>
      rw [if_neg (by decide)]
      have hv : 0 ≤ v - zwt Wt P c w := by
        unfold zwt
        cases hp : P w with
        | false =>
          rw [if_neg (by decide)]
          omega
        | true =>
          rw [hp, Bool.true_and] at h2
          have := of_decide_eq_false h2
          rw [if_pos rfl]
          omega
      have := zdrw_lt P Wt c f (w + 1) (v - zwt Wt P c w) hv (by rw [show w + 1 + f = w + (f + 1) by omega]; omega)
      omega
section
variable {m mm : zMm}
theorem xas_fr {mc : zMm} (h6 : mc 6 = mm 6) (h8 : mc 8 = mm 8) (h11 : mc 11 = mm 11) : xas mc = xas mm := by
  funext s
  unfold xas xal
  rw [h6, h8, h11]
theorem xlv_fr {mc : zMm} (h6 : mc 6 = mm 6) (h8 : mc 8 = mm 8) : xlv mc = xlv mm := by
  unfold xlv
  have : xal mc = xal mm := by
    funext c
    unfold xal
    rw [h6, h8]
  rw [this, h6]
theorem zRel_lot (v : Int) (hv : 0 ≤ v ∧ v < 2147483648) (h : zRel m mm) : zRel (zu m 45 15 v) (zu mm 1 4 v) := by
  obtain ⟨hI, hR, _⟩ := id h
  refine zRel_now h (by first | rfl | simp (disch := decide) only [zu_k, zu_j]) (fun k hk => by first | rfl | simp (disch := omega) only [zu_k]) (by first | rfl | simp (disch := decide) only [zu_k, zu_j]) (by first | rfl | simp (disch := decide) only [zu_k, zu_j]) (fun k hk => by first | rfl | simp (disch := omega) only [zu_k]) ?_ ?_
  · exact ⟨(by first | exact hI.ce | (simp (disch := decide) only [zu_k, zu_j]; exact hI.ce)), (by first | exact hI.tg | (simp (disch := decide) only [zu_k, zu_j]; exact hI.tg)), (by first | exact hI.tl | (simp (disch := decide) only [zu_k, zu_j]; exact hI.tl)), (by first | exact hI.se | (simp (disch := decide) only [zu_k, zu_j]; exact hI.se)), (by first | exact hI.st | (simp (disch := decide) only [zu_k, zu_j]; exact hI.st)), (by first | exact hI.bk | (simp (disch := decide) only [zu_k, zu_j]; exact hI.bk)), (by first | exact hI.pg | (unfold xP; simp (disch := decide) only [zu_k, zu_j]; exact hI.pg)), (by first | exact hI.wr | (simp (disch := decide) only [zu_k, zu_j]; exact hI.wr)), (by first | exact hI.wo | (simp (disch := decide) only [zu_k, zu_j]; exact hI.wo)), (by first | exact hI.dd | (simp (disch := decide) only [zu_k, zu_j]; exact hI.dd)), (by rw [zu_s]; exact hv)⟩
  · exact ⟨(by first | exact hR.fo | (simp (disch := decide) only [zu_k, zu_j]; exact hR.fo)), (by first | exact hR.lw | (simp (disch := decide) only [zu_k, zu_j]; exact hR.lw)), (by first | exact hR.ll | (simp (disch := decide) only [zu_k, zu_j]; exact hR.ll)), (by first | exact hR.ki | (simp (disch := decide) only [zu_k, zu_j]; exact hR.ki)), (by first | exact hR.we | (simp (disch := decide) only [zu_k, zu_j]; exact hR.we)), (by first | exact hR.de | (simp (disch := decide) only [zu_k, zu_j]; exact hR.de)), (by first | exact hR.ce | (simp (disch := decide) only [zu_k, zu_j]; exact hR.ce)), (by first | exact hR.bo | (simp (disch := decide) only [zu_k, zu_j]; exact hR.bo)), (by first | exact hR.wr | (simp (disch := decide) only [zu_k, zu_j]; exact hR.wr)), (by first | exact hR.lm | (simp (disch := decide) only [zu_k, zu_j]; exact hR.lm)), (by first | exact hR.mn | (simp (disch := decide) only [zu_k, zu_j]; exact hR.mn)), (by first | exact hR.sz | (simp (disch := decide) only [zu_k, zu_j]; exact hR.sz)), (by first | exact hR.st | (simp (disch := decide) only [zu_k, zu_j]; exact hR.st)), (by first | exact hR.bk | (simp (disch := decide) only [zu_k, zu_j]; exact hR.bk)), (by first | exact hR.tn | (simp (disch := decide) only [zu_k, zu_j]; exact hR.tn)), (by rw [zu_s, zu_s])⟩
theorem zRel_write (w c : Int) (hw : 0 ≤ w ∧ w < 8) (hc : c = -4 ∨ (0 ≤ c ∧ c < mm 6 3)) (hs : mm 12 2 < 60) (h : zRel m mm) : zRel (zu (zu (zu m 53 (mm 12 2).toNat w) 54 (mm 12 2).toNat c) 45 11 (mm 12 2 + 1)) (zu (zu (zu mm 13 (mm 12 2).toNat w) 14 (mm 12 2).toNat c) 12 2 (mm 12 2 + 1)) := by
  obtain ⟨hI, hR, _⟩ := id h
  have h0 := hI.pg.1
  refine zRel_now h (by first | rfl | simp (disch := decide) only [zu_k, zu_j]) (fun k hk => by first | rfl | simp (disch := omega) only [zu_k]) (by first | rfl | simp (disch := decide) only [zu_k, zu_j]) (by first | rfl | simp (disch := decide) only [zu_k, zu_j]) (fun k hk => by first | rfl | simp (disch := omega) only [zu_k]) ?_ ?_
  · exact ⟨(by first | exact hI.ce | (simp (disch := decide) only [zu_k, zu_j]; exact hI.ce)), (by first | exact hI.tg | (simp (disch := decide) only [zu_k, zu_j]; exact hI.tg)), (by first | exact hI.tl | (simp (disch := decide) only [zu_k, zu_j]; exact hI.tl)), (by first | exact hI.se | (simp (disch := decide) only [zu_k, zu_j]; exact hI.se)), (by first | exact hI.st | (simp (disch := decide) only [zu_k, zu_j]; exact hI.st)), (by first | exact hI.bk | (simp (disch := decide) only [zu_k, zu_j]; exact hI.bk)), (by
      unfold xP
      simp (disch := decide) only [zu_k, zu_s]
      refine ⟨by omega, by omega, fun p hp => ?_⟩
      by_cases q : p = (mm 12 2).toNat
      · rw [q, zu_s]
        exact hw
      · rw [zu_j _ _ q]
        exact hI.pg.2.2 p (by omega)), (by
      simp (disch := decide) only [zu_k, zu_s]
      intro p hp
      by_cases q : p = (mm 12 2).toNat
      · rw [q, zu_s]
        exact hc
      · rw [zu_j _ _ q, zu_k _ _ (by decide)]
        exact hI.wr p (by omega)), (by first | exact hI.wo | (simp (disch := decide) only [zu_k, zu_j]; exact hI.wo)), (by first | exact hI.dd | (simp (disch := decide) only [zu_k, zu_j]; exact hI.dd)), (by first | exact hI.lt | (simp (disch := decide) only [zu_k, zu_j]; exact hI.lt))⟩
  · exact ⟨(by first | exact hR.fo | (simp (disch := decide) only [zu_k, zu_j]; exact hR.fo)), (by first | exact hR.lw | (simp (disch := decide) only [zu_k, zu_j]; exact hR.lw)), (by first | exact hR.ll | (simp (disch := decide) only [zu_k, zu_j]; exact hR.ll)), (by first | exact hR.ki | (simp (disch := decide) only [zu_k, zu_j]; exact hR.ki)), (by first | exact hR.we | (simp (disch := decide) only [zu_k, zu_j]; exact hR.we)), (by first | exact hR.de | (simp (disch := decide) only [zu_k, zu_j]; exact hR.de)), (by first | exact hR.ce | (simp (disch := decide) only [zu_k, zu_j]; exact hR.ce)), (by simp (disch := decide) only [zu_k]; exact zu_row hR.bo _ _), (by simp (disch := decide) only [zu_k]; exact zu_row (by rw [zu_k _ _ (by decide), zu_k _ _ (by decide)]; exact hR.wr) _ _), (by first | exact hR.lm | (simp (disch := decide) only [zu_k, zu_j]; exact hR.lm)), (by first | exact hR.mn | (simp (disch := decide) only [zu_k, zu_j]; exact hR.mn)), (by rw [zu_s, zu_s]), (by first | exact hR.st | (simp (disch := decide) only [zu_k, zu_j]; exact hR.st)), (by first | exact hR.bk | (simp (disch := decide) only [zu_k, zu_j]; exact hR.bk)), (by first | exact hR.tn | (simp (disch := decide) only [zu_k, zu_j]; exact hR.tn)), (by first | exact hR.dr | (simp (disch := decide) only [zu_k, zu_j]; exact hR.dr))⟩
theorem zRel_goOn (u : Nat) (x : Int) (hu : (u : Int) < mm 6 3) (h : zRel m mm) : zRel (zu (zu m 45 12 u) 45 14 x) (zu (zu mm 10 2 u) 10 3 x) := by
  obtain ⟨hI, hR, _⟩ := id h
  refine zRel_now h (by first | rfl | simp (disch := decide) only [zu_k, zu_j]) (fun k hk => by first | rfl | simp (disch := omega) only [zu_k]) (by first | rfl | simp (disch := decide) only [zu_k, zu_j]) (by first | rfl | simp (disch := decide) only [zu_k, zu_j]) (fun k hk => by first | rfl | simp (disch := omega) only [zu_k]) ?_ ?_
  · exact ⟨(by first | exact hI.ce | (simp (disch := decide) only [zu_k, zu_j]; exact hI.ce)), (by first | exact hI.tg | (simp (disch := decide) only [zu_k, zu_j]; exact hI.tg)), (by first | exact hI.tl | (simp (disch := decide) only [zu_k, zu_j]; exact hI.tl)), (by first | exact hI.se | (simp (disch := decide) only [zu_k, zu_j]; exact hI.se)), (by
      simp (disch := decide) only [zu_k, zu_j, zu_s]
      exact ⟨by omega, .inl hu⟩), (by first | exact hI.bk | (simp (disch := decide) only [zu_k, zu_j]; exact hI.bk)), (by first | exact hI.pg | (unfold xP; simp (disch := decide) only [zu_k, zu_j]; exact hI.pg)), (by first | exact hI.wr | (simp (disch := decide) only [zu_k, zu_j]; exact hI.wr)), (by first | exact hI.wo | (simp (disch := decide) only [zu_k, zu_j]; exact hI.wo)), (by first | exact hI.dd | (simp (disch := decide) only [zu_k, zu_j]; exact hI.dd)), (by first | exact hI.lt | (simp (disch := decide) only [zu_k, zu_j]; exact hI.lt))⟩
  · exact ⟨(by first | exact hR.fo | (simp (disch := decide) only [zu_k, zu_j]; exact hR.fo)), (by first | exact hR.lw | (simp (disch := decide) only [zu_k, zu_j]; exact hR.lw)), (by first | exact hR.ll | (simp (disch := decide) only [zu_k, zu_j]; exact hR.ll)), (by first | exact hR.ki | (simp (disch := decide) only [zu_k, zu_j]; exact hR.ki)), (by first | exact hR.we | (simp (disch := decide) only [zu_k, zu_j]; exact hR.we)), (by first | exact hR.de | (simp (disch := decide) only [zu_k, zu_j]; exact hR.de)), (by first | exact hR.ce | (simp (disch := decide) only [zu_k, zu_j]; exact hR.ce)), (by first | exact hR.bo | (simp (disch := decide) only [zu_k, zu_j]; exact hR.bo)), (by first | exact hR.wr | (simp (disch := decide) only [zu_k, zu_j]; exact hR.wr)), (by first | exact hR.lm | (simp (disch := decide) only [zu_k, zu_j]; exact hR.lm)), (by first | exact hR.mn | (simp (disch := decide) only [zu_k, zu_j]; exact hR.mn)), (by first | exact hR.sz | (simp (disch := decide) only [zu_k, zu_j]; exact hR.sz)), (by simp (disch := decide) only [zu_j, zu_s]), (by first | exact hR.bk | (simp (disch := decide) only [zu_k, zu_j]; exact hR.bk)), (by rw [zu_s, zu_s]), (by first | exact hR.dr | (simp (disch := decide) only [zu_k, zu_j]; exact hR.dr))⟩
/-- going on, both -/
theorem zgoOn (d N st t : Nat) (hN : mm 6 3 = N) (hst : mm 10 2 = st) (hlt : st < N) (ht : zturn (xas mm) N (zstep1 (mm 10 4) N) st = t) (htn : t < N) (hal : xas mm t = true) (h : zRel m mm) : ∃ u : Nat, zL (d + 6) 74 [.inr (.inr 10)] SH mm = zvd (zu (zu mm 10 2 u) 10 3 (zw (mm 10 3 + 1))) ∧ zL (d + 6) 164 [.inr (.inr 45)] SH m = zvd (zu (zu m 45 12 u) 45 14 (zw (mm 10 3 + 1))) ∧ zRel (zu (zu m 45 12 u) 45 14 (zw (mm 10 3 + 1))) (zu (zu mm 10 2 u) 10 3 (zw (mm 10 3 + 1))) := by
  obtain ⟨hI, hR, _⟩ := id h
  obtain ⟨u, e2, e3, e4⟩ := zliv_al (k := zstep1 (mm 10 4) N) htn hal
  have hx := s_goOn (mm := mm) d st N t hN ⟨hI.ce.1, hI.ce.2.1⟩ hI.se hst (.inl hlt) ht htn
  rw [e2] at hx
  exact ⟨u, hx, t_goOn (m := m) (d + 3) N st t u hN hst hlt ht htn e2 hR hI, zRel_goOn u _ (by omega) h⟩
theorem op_add (d : Nat) (a : Int) (h : zRel m mm) : zBoth d 91 165 [.inl a] m mm := by
  obtain ⟨hI, hR, _⟩ := id h
  have hn : xN mm := ⟨hI.ce.1, hI.ce.2.1⟩
  have h6 := hn.2
  have hp0 := hI.pg.1
  have hp60 := hI.pg.2.1
  have he := xe_lt hI.pg
  by_cases c1 : 0 ≤ a ∧ a < 8
  · obtain ⟨w, rfl⟩ : ∃ w : Nat, a = w := ⟨a.toNat, by omega⟩
    obtain ⟨N, st, hN, hst, hs, hN6, ⟨hz, ht⟩ | ⟨hz, hlt, t, ht, htn, hal⟩⟩ := zseat hI
    · refine zBoth_0 (-4) h ?_ ?_
      · rw [ze_X8_add, zb_X8_add_0, s_isWord, zcI_ok, zb_X8_add_4, if_pos c1, if_neg (by decide), s_seatOfTurn _ st N hN hn hI.se hst hs, ht, zcI_ok, zb_X8_add_26, s_cellOnN _ (-4) hn (by omega), zcI_ok, zb_X8_add_29, if_pos (by decide)]
      · rw [ze_X9_add, zb_X9_add_0, t_isWord, zcI_ok, zb_X9_add_4, if_pos c1, if_neg (by decide), t_living _ hR hI, zcI_ok, zb_X9_add_13, if_pos hz]
    · have h11 := hI.se.1 t (by omega)
      obtain ⟨c, hc⟩ : ∃ c : Nat, mm 11 t = c := ⟨(mm 11 t).toNat, by omega⟩
      have hcl : (c : Int) < mm 6 3 := by omega
      have hx0 : ∀ r, zR (d + 19) 91 47 [some (.inr (.inr 0)), some (.inl (w : Int)), some (.inl (c : Int))] [.inl (if mm 12 2 < 60 then 0 else 1)] SH mm = r → zL (d + 20) 91 [.inr (.inr 0), .inl (w : Int)] SH mm = r := fun r hr => by
        rw [ze_X8_add, zb_X8_add_0, s_isWord, zcI_ok, zb_X8_add_4, if_pos c1, if_neg (by decide), s_seatOfTurn _ st N hN hn hI.se hst hs, ht, zcI_ok, zb_X8_add_26, s_cellOn _ t hn (by omega), zcI_ok, zb_X8_add_29, hc, if_neg (by omega), s_isFull, zcI_ok]
        exact hr
      have hm0 : ∀ r, zR (d + 19) 165 13 [some (.inr (.inr 45)), some (.inl (w : Int)), none] [.inl (xlv mm)] SH m = r → zL (d + 20) 165 [.inr (.inr 45), .inl (w : Int)] SH m = r := fun r hr => by
        rw [ze_X9_add, zb_X9_add_0, t_isWord, zcI_ok, zb_X9_add_4, if_pos c1, if_neg (by decide), t_living _ hR hI, zcI_ok]
        exact hr
      by_cases c2 : mm 12 2 < 60
      · have hx1 : ∀ r, zR (d + 19) 91 75 [some (.inr (.inr 0)), some (.inl (w : Int)), some (.inl (c : Int))] [.inl (if xcm mm c (xe mm) w then 1 else 0)] SH mm = r → zL (d + 20) 91 [.inr (.inr 0), .inl (w : Int)] SH mm = r := fun r hr => by
          refine hx0 _ ?_
          rw [if_pos c2, zb_X8_add_47, if_pos rfl, s_slip0 _ hI, zcI_ok, zb_X8_add_68, s_canCome _ c (xe mm) hcl he hI.ce hI.tg, zcI_ok, zb_X8_add_71, s_holds _ _ w (by omega), zcI_ok, mks_bit _ 8 (by decide), decide_eq_true (show w < 8 by omega), Bool.true_and]
          exact hr
        have hm1 : ∀ r, zR (d + 19) 165 58 [some (.inr (.inr 45)), some (.inl (w : Int)), some (.inl (c : Int))] [.inl (if xcm mm c (xe mm) w then 1 else 0)] SH m = r → zL (d + 20) 165 [.inr (.inr 45), .inl (w : Int)] SH m = r := fun r hr => by
          refine hm0 _ ?_
          rw [zb_X9_add_13, if_neg (by omega), hR.sz, if_neg (by omega), t_turnSeat _ N st t hN hst hlt ht hR hI, zcI_ok, zb_X9_add_39, if_pos (by omega), hR.sz, t_end0 _ hR hI, zcI_ok, zb_X9_add_51, Int.toNat_natCast, hR.ce, hc, t_comesBy _ c (xe mm) hcl he hR hI, zcI_ok, zb_X9_add_54, t_has _ _ w (by omega), zcI_ok, mks_bit _ 8 (by decide), decide_eq_true (show w < 8 by omega), Bool.true_and]
          exact hr
        cases hq : xcm mm c (xe mm) w with
        | false =>
          rw [hq] at hx1 hm1
          refine zBoth_0 (-2) h (hx1 _ ?_) (hm1 _ ?_)
          · rw [zb_X8_add_75, if_pos (by decide)]
          · rw [zb_X9_add_58, if_pos (by decide)]
        | true =>
          rw [hq] at hx1 hm1
          have hW := zRel_write (m := m) (mm := mm) (w : Int) (c : Int) c1 (.inr ⟨by omega, hcl⟩) c2 h
          obtain ⟨u, g1, g2, g3⟩ := zgoOn (m := zu (zu (zu m 53 (mm 12 2).toNat (w : Int)) 54 (mm 12 2).toNat (c : Int)) 45 11 (mm 12 2 + 1)) (mm := zu (zu (zu mm 13 (mm 12 2).toNat (w : Int)) 14 (mm 12 2).toNat (c : Int)) 12 2 (mm 12 2 + 1)) (d + 13) N st t (by simp (disch := decide) only [zu_k]; exact hN) (by simp (disch := decide) only [zu_k]; exact hst) hlt (by rw [xas_fr (mm := mm) (by simp (disch := decide) only [zu_k]) (by simp (disch := decide) only [zu_k]) (by simp (disch := decide) only [zu_k])]; simp (disch := decide) only [zu_k]; exact ht) htn (by rw [xas_fr (mm := mm) (by simp (disch := decide) only [zu_k]) (by simp (disch := decide) only [zu_k]) (by simp (disch := decide) only [zu_k])]; exact hal) hW
          refine ⟨c, _, _, hx1 _ ?_, hm1 _ ?_, g3, fun k hk => by simp (disch := omega) only [zu_k], fun k hk => by simp (disch := omega) only [zu_k]⟩
          · rw [zb_X8_add_75, if_neg (by decide), s_pappend _ _ _ hI.pg c2, zcV_vd, zb_X8_add_93]
            refine (congrArg (fun r => zcV r _) g1).trans ?_
            rw [zcV_vd, zb_X8_add_103]
          · rw [zb_X9_add_58, if_neg (by decide), t_write _ _ _ c2 hR hI, zcV_vd, zb_X9_add_70]
            refine (congrArg (fun r => zcV r _) g2).trans ?_
            rw [zcV_vd, zb_X9_add_74]
      · refine zBoth_0 (-3) h (hx0 _ ?_) (hm0 _ ?_)
        · rw [if_neg c2, zb_X8_add_47, if_neg (by decide)]
        · rw [zb_X9_add_13, if_neg (by omega), hR.sz, if_pos (by omega)]
  · refine zBoth_0 (-1) h ?_ ?_
    · rw [ze_X8_add, zb_X8_add_0, s_isWord, zcI_ok, zb_X8_add_4, if_neg c1, if_pos rfl]
    · rw [ze_X9_add, zb_X9_add_0, t_isWord, zcI_ok, zb_X9_add_4, if_neg c1, if_pos rfl]
end
