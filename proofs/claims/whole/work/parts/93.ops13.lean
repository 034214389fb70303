section
theorem zdraw_step (d : Nat) (m mm : zMm) (h : zRel m mm) (hz : 0 < xlv mm) : ∃ mc m' : zMm, (∀ (a b k : Int) r, k < a → zR (d + 7) 92 42 [some (.inr (.inr 0)), some (.inl a), some (.inl b), some (.inl (zw (k + 1)))] [] SH mc = r → zR (d + 7) 92 42 [some (.inr (.inr 0)), some (.inl a), some (.inl b), some (.inl k)] [] SH mm = r) ∧ (∀ (a b k : Int) r, k < a → zR (d + 7) 167 31 [some (.inr (.inr 45)), some (.inl a), some (.inl b), some (.inl (zw (k + 1))), none, none] [] SH m' = some r → zR (d + 7) 167 31 [some (.inr (.inr 45)), some (.inl a), some (.inl b), some (.inl k), none, none] [] SH m = some r) ∧ zRel m' mc ∧ xlv mc = xlv mm ∧ (∀ k, 45 ≤ k → mc k = mm k) ∧ ∀ k, (k < 45 ∨ 68 ≤ k) → m' k = m k := by
  obtain ⟨hI, hR, _⟩ := id h
  have hn : xN mm := ⟨hI.ce.1, hI.ce.2.1⟩
  have h6 := hn.2
  have he := xe_lt hI.pg
  obtain ⟨N, st, hN, hst, hs, hN6, ⟨hz0, ht⟩ | ⟨_, hlt, t, ht, htn, hal⟩⟩ := zseat hI
  · omega
  · have h11 := hI.se.1 t (by omega)
    have hadd := s_addDrawnWord (mm := mm) (d + 1) st N t hN hI.se hst hs ht htn hI.pg hI.ce hI.tg
    obtain ⟨c, hc⟩ : ∃ c : Nat, mm 11 t = c := ⟨(mm 11 t).toNat, by omega⟩
    have hcl : (c : Int) < mm 6 3 := by omega
    have hm0 : ∀ (a b k : Int) r, k < a → zR (d + 7) 167 61 [some (.inr (.inr 45)), some (.inl a), some (.inl b), some (.inl k), some (.inl (c : Int)), none] [.inl (mks (xcm mm c (xe mm)) 8)] SH m = r → zR (d + 7) 167 31 [some (.inr (.inr 45)), some (.inl a), some (.inl b), some (.inl k), none, none] [] SH m = r := fun a b k r hk hr => by
      rw [zb_X9_draw_31, if_pos hk, t_turnSeat _ N st t hN hst hlt ht hR hI, zcI_ok, zb_X9_draw_44, if_pos (by omega), hR.sz, t_end0 _ hR hI, zcI_ok, zb_X9_draw_58, Int.toNat_natCast, hR.ce, hc, t_comesBy _ c (xe mm) hcl he hR hI, zcI_ok]
      exact hr
    rw [hc, Int.toNat_natCast] at hadd
    by_cases cc : mks (xcm mm c (xe mm)) 8 ≠ 0 ∧ mm 12 2 < 60
    · rw [if_pos cc] at hadd
      have hW := hI.ce.2.2.2.1
      have hsum := zcmw_p hW (xcm_w (mm := mm)) cc.1
      have hlot := zlot_r (mm 1 4)
      have hv0 : 0 ≤ zlot (mm 1 4) / 65536 % zsum (zwt (mm 9) (xcm mm c (xe mm)) c) 8 := Int.emod_nonneg _ (by omega)
      have hv1 : zlot (mm 1 4) / 65536 % zsum (zwt (mm 9) (xcm mm c (xe mm)) c) 8 < zsum (zwt (mm 9) (xcm mm c (xe mm)) c) 8 := Int.emod_lt_of_pos _ hsum
      have hwlt := zdrw_lt (xcm mm c (xe mm)) (mm 9) c 8 0 _ hv0 (by show _ < zsum _ 8 - zsum _ 0; rw [show zsum (zwt (mm 9) (xcm mm c (xe mm)) c) 0 = 0 from rfl]; omega)
      have hdo := t_drawOf (m := m) (mm := mm) (d + 4) c (xcm mm c (xe mm)) hcl hsum hR hI
      generalize zdrw (xcm mm c (xe mm)) (mm 9) c 8 0 (zlot (mm 1 4) / 65536 % zsum (zwt (mm 9) (xcm mm c (xe mm)) c) 8) = w at hadd hwlt hdo
      clear hv0 hv1 hsum
      generalize zlot (mm 1 4) = lo at hadd hlot hdo
      have h1 := zRel_lot lo hlot h
      have h2 := zRel_write (m := zu m 45 15 lo) (mm := zu mm 1 4 lo) (w : Int) (c : Int) (by omega) (.inr ⟨by omega, by rw [zu_k _ _ (by decide)]; exact hcl⟩) (by rw [zu_k _ _ (by decide)]; exact cc.2) h1
      have e12 : zu mm 1 4 lo 12 = mm 12 := zu_k _ _ (by decide)
      have hwr := t_write (m := zu m 45 15 lo) (mm := zu mm 1 4 lo) (d + 6) (c : Int) (w : Int) (by rw [e12]; exact cc.2) h1.2.1 h1.1
      rw [e12] at h2 hwr
      obtain ⟨u, g1, g2, g3⟩ := zgoOn (m := zu (zu (zu (zu m 45 15 lo) 53 (mm 12 2).toNat (w : Int)) 54 (mm 12 2).toNat (c : Int)) 45 11 (mm 12 2 + 1)) (mm := zu (zu (zu (zu mm 1 4 lo) 13 (mm 12 2).toNat (w : Int)) 14 (mm 12 2).toNat (c : Int)) 12 2 (mm 12 2 + 1)) (d + 1) N st t (by simp (disch := decide) only [zu_k]; exact hN) (by simp (disch := decide) only [zu_k]; exact hst) hlt (by rw [xas_fr (mm := mm) (by simp (disch := decide) only [zu_k]) (by simp (disch := decide) only [zu_k]) (by simp (disch := decide) only [zu_k])]; simp (disch := decide) only [zu_k]; exact ht) htn (by rw [xas_fr (mm := mm) (by simp (disch := decide) only [zu_k]) (by simp (disch := decide) only [zu_k]) (by simp (disch := decide) only [zu_k])]; exact hal) h2
      refine ⟨_, _, fun a b k r hk hr => ?_, fun a b k r hk hr => hm0 a b k _ hk ?_, g3, ?_, fun k hk => by simp (disch := omega) only [zu_k], fun k hk => by simp (disch := omega) only [zu_k]⟩
      · rw [zb_X8_draw_42, if_pos hk, hadd, zcV_vd, zb_X8_draw_54]
        refine (congrArg (fun r => zcV r _) g1).trans ?_
        rw [zcV_vd, zb_X8_draw_64]
        exact hr
      · rw [zb_X9_draw_61, if_neg cc.1, hR.sz, if_pos cc.2, hdo, zcI_ok, zb_X9_draw_88, hwr, zcV_vd, zb_X9_draw_91]
        refine (congrArg (fun r => zcV r _) g2).trans ?_
        rw [zcV_vd, zb_X9_draw_95]
        exact zR_weak (by repeat first | exact zle_nil | apply zle_c | apply zle_n) hr
      · exact xlv_fr (by simp (disch := decide) only [zu_k]) (by simp (disch := decide) only [zu_k])
    · rw [if_neg cc] at hadd
      obtain ⟨u, g1, g2, g3⟩ := zgoOn (m := m) (mm := mm) (d + 1) N st t hN hst hlt ht htn hal h
      refine ⟨_, _, fun a b k r hk hr => ?_, fun a b k r hk hr => hm0 a b k _ hk ?_, g3, ?_, fun k hk => by simp (disch := omega) only [zu_k], fun k hk => by simp (disch := omega) only [zu_k]⟩
      · rw [zb_X8_draw_42, if_pos hk, hadd, zcV_vd, zb_X8_draw_54]
        refine (congrArg (fun r => zcV r _) g1).trans ?_
        rw [zcV_vd, zb_X8_draw_64]
        exact hr
      · rw [zb_X9_draw_61]
        have fin : ∀ s : Int, zcV (zL (d + 7) 164 [.inr (.inr 45)] SH m) (fun sh' mm' => zR (d + 7) 167 95 [some (.inr (.inr 45)), some (.inl a), some (.inl b), some (.inl k), some (.inl (c : Int)), some (.inl s)] [] sh' mm') = some r := fun s => by
          refine (congrArg (fun r => zcV r _) g2).trans ?_
          rw [zcV_vd, zb_X9_draw_95]
          exact zR_weak (by repeat first | exact zle_nil | apply zle_c | apply zle_n) hr
        by_cases c0 : mks (xcm mm c (xe mm)) 8 = 0
        · rw [if_pos c0]
          exact fin _
        · rw [if_neg c0, hR.sz, if_neg (fun z => cc ⟨c0, z⟩)]
          exact fin _
      · exact xlv_fr (by simp (disch := decide) only [zu_k]) (by simp (disch := decide) only [zu_k])
variable {m mm : zMm}
theorem op_draw (d : Nat) (a : Int) (h : zRel m mm) : zBoth d 92 167 [.inl a] m mm := by
  obtain ⟨hI, hR, _⟩ := id h
  have hn : xN mm := ⟨hI.ce.1, hI.ce.2.1⟩
  by_cases c1 : 1 ≤ a ∧ a ≤ 60
  · obtain ⟨n, rfl⟩ : ∃ w : Nat, a = w := ⟨a.toNat, by omega⟩
    obtain ⟨N, st, hN, hst, hs, hN6, ⟨hz, ht⟩ | ⟨hz, hlt, t, ht, htn, hal⟩⟩ := zseat hI
    · refine zBoth_0 (-4) h ?_ ?_
      · rw [ze_X8_draw, zb_X8_draw_0, if_neg (by omega), if_neg (by omega), s_seatOfTurn _ st N hN hn hI.se hst hs, ht, zcI_ok, zb_X8_draw_23, if_pos (by decide)]
      · rw [ze_X9_draw, zb_X9_draw_0, t_in, zcI_ok, zb_X9_draw_9, if_pos c1, if_neg (by decide), t_living _ hR hI, zcI_ok, zb_X9_draw_18, if_pos hz]
    · have key : ∀ (f k : Nat) (m1 mm1 : zMm), k + f = n → zRel m1 mm1 → 0 < xlv mm1 → ∃ (v : Int) (mc m' : zMm), zR (d + 19) 92 42 [some (.inr (.inr 0)), some (.inl (n : Int)), some (.inl (mm 12 2)), some (.inl (k : Int))] [] SH mm1 = zok v mc ∧ zR (d + 19) 167 31 [some (.inr (.inr 45)), some (.inl (n : Int)), some (.inl (mm 12 2)), some (.inl (k : Int)), none, none] [] SH m1 = zok v m' ∧ zRel m' mc ∧ (∀ k, 45 ≤ k → mc k = mm1 k) ∧ ∀ k, (k < 45 ∨ 68 ≤ k) → m' k = m1 k := by
        intro f
        induction f with
        | zero =>
          intro k m1 mm1 hk h1 hz1
          refine ⟨zw (mm1 12 2 - mm 12 2), mm1, m1, ?_, ?_, h1, fun _ _ => rfl, fun _ _ => rfl⟩
          · rw [zb_X8_draw_42, if_neg (by omega)]
          · rw [zb_X9_draw_31, if_neg (by omega), h1.2.1.sz]
        | succ f ih =>
          intro k m1 mm1 hk h1 hz1
          obtain ⟨mc, m', s1, s2, s3, s4, s5, s6⟩ := zdraw_step (d + 12) m1 mm1 h1 hz1
          obtain ⟨v, mc2, m2, r1, r2, r3, r4, r5⟩ := ih (k + 1) m' mc (by omega) s3 (by omega)
          refine ⟨v, mc2, m2, s1 _ _ _ _ (by omega) ?_, s2 _ _ _ _ (by omega) ?_, r3, fun k hk => (r4 k hk).trans (s5 k hk), fun k hk => (r5 k hk).trans (s6 k hk)⟩
          · rw [zw_inc k (by omega)]
            exact r1
          · rw [zw_inc k (by omega)]
            exact r2
      obtain ⟨v, mc, m', r1, r2, r3, r4, r5⟩ := key n 0 m mm (by omega) h hz
      refine ⟨v, mc, m', ?_, ?_, r3, r4, r5⟩
      · rw [ze_X8_draw, zb_X8_draw_0, if_neg (by omega), if_neg (by omega), s_seatOfTurn _ st N hN hn hI.se hst hs, ht, zcI_ok, zb_X8_draw_23, if_neg (by omega)]
        exact r1
      · rw [ze_X9_draw, zb_X9_draw_0, t_in, zcI_ok, zb_X9_draw_9, if_pos c1, if_neg (by decide), t_living _ hR hI, zcI_ok, zb_X9_draw_18, if_neg (by omega), hR.sz]
        exact r2
  · refine zBoth_0 (-1) h ?_ ?_
    · rw [ze_X8_draw, zb_X8_draw_0]
      by_cases c2 : a < 1
      · rw [if_pos c2]
      · rw [if_neg c2, if_pos (by omega)]
    · rw [ze_X9_draw, zb_X9_draw_0, t_in, zcI_ok, zb_X9_draw_9, if_neg c1, if_pos rfl]
end
