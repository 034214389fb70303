section
variable {m mm : zMm}
theorem op_ways (d : Nat) (a b f n : Int) (h : zRel m mm) : zBoth d 105 195 [.inl a, .inl b, .inl f, .inl n] m mm := by
  obtain ⟨hI, hR, hT, hK, hS⟩ := id h
  have hn : xN mm := ⟨hI.ce.1, hI.ce.2.1⟩
  have hn0 := hn.1
  have hn6 := hn.2
  by_cases c : (0 ≤ a ∧ a < 4) ∧ 0 ≤ b ∧ b < 3
  · by_cases cn : 1 ≤ n ∧ n ≤ 12
    · obtain ⟨s, rfl⟩ : ∃ s : Nat, a = s := ⟨a.toNat, by omega⟩
      have hs : s < 4 := by omega
      obtain ⟨h1, h2, h3, h4, h5⟩ := hS s hs
      have hx0 : ∀ r, zR (d + 19) 105 40 [some (.inr (.inr 0)), some (.inl (s : Int)), some (.inl b), some (.inl f), some (.inl n), some (.inr (.inr (37 + 2 * s))), none, none] [.inl (zref (mm (37 + 2 * s) 1) (mm (37 + 2 * s) 2) b f n)] SH mm = r → zL (d + 20) 105 [.inr (.inr 0), .inl (s : Int), .inl b, .inl f, .inl n] SH mm = r := fun r hr => by
        rw [ze_X8_ways, zb_X8_ways_0, s_isSheetAndLane, zcI_ok, if_pos c, zb_X8_ways_5, if_neg (by decide), if_neg (by omega), if_neg (by omega), zb_X8_waysS_23 _ _ _ _ s hs, s_refusalOf _ s b f n hs h4 (by omega), zcI_ok]
        exact hr
      have hm0 : ∀ r, zR (d + 19) 195 32 [some (.inr (.inr 45)), some (.inl (s : Int)), some (.inl b), some (.inl f), some (.inl n), none, none, none] [.inl (zref (mm (37 + 2 * s) 1) (mm (37 + 2 * s) 2) b f n)] SH m = r → zL (d + 20) 195 [.inr (.inr 45), .inl (s : Int), .inl b, .inl f, .inl n] SH m = r := fun r hr => by
        rw [ze_X9_ways, zb_X9_ways_0, t_isSheet, zcI_ok, if_pos c, zb_X9_ways_5, if_neg (by decide), t_in, zcI_ok, if_pos cn, zb_X9_ways_18, if_neg (by decide), t_lacksRow _ s b f n hs c.2.1 (by omega) hS, zcI_ok]
        exact hr
      by_cases c2 : zref (mm (37 + 2 * s) 1) (mm (37 + 2 * s) 2) b f n < 0
      · refine zBoth_0 (zref (mm (37 + 2 * s) 1) (mm (37 + 2 * s) 2) b f n) h (hx0 _ ?_) (hm0 _ ?_)
        · rw [zb_X8_waysS_40 _ _ _ _ _ s hs, if_pos c2]
        · rw [zb_X9_ways_32, if_pos c2]
      · obtain ⟨r1, r2, r3⟩ := zref_n c.2.1 c2
        obtain ⟨f, rfl⟩ : ∃ i : Nat, f = i := ⟨f.toNat, by omega⟩
        obtain ⟨n, rfl⟩ : ∃ i : Nat, n = i := ⟨n.toNat, by omega⟩
        have hx1 : ∀ r, zR (d + 19) 105 53 [some (.inr (.inr 0)), none, none, some (.inl (f : Int)), some (.inl (n : Int)), some (.inr (.inr (37 + 2 * s))), none, some (.inl (f : Int))] [] SH mm = some r → zL (d + 20) 105 [.inr (.inr 0), .inl (s : Int), .inl b, .inl (f : Int), .inl (n : Int)] SH mm = some r := fun r hr => by
          refine hx0 _ ?_
          rw [zb_X8_waysS_40 _ _ _ _ _ s hs, if_neg c2]
          exact zR_weak (by repeat first | exact zle_nil | apply zle_c | apply zle_n) hr
        have e24 : zw (zw (24 * (s : Int)) + (f : Int)) = ((24 * s + f : Nat) : Int) := by
          rw [zw_id (x := 24 * (s : Int)) (by omega) (by omega), zw_id (by omega) (by omega)]
          omega
        have hm1 : ∀ r, zR (d + 19) 195 53 [some (.inr (.inr 45)), none, none, none, some (.inl (n : Int)), none, some (.inl ((24 * s + f : Nat) : Int)), some (.inl 0)] [] SH m = some r → zL (d + 20) 195 [.inr (.inr 45), .inl (s : Int), .inl b, .inl (f : Int), .inl (n : Int)] SH m = some r := fun r hr => by
          refine hm0 _ ?_
          rw [zb_X9_ways_32, if_neg c2, e24]
          exact zR_weak (by repeat first | exact zle_nil | apply zle_c | apply zle_n) hr
        clear e24 hx0 hm0
        -- the cell told at a place lives
        let P : Nat → Bool := fun k => decide (0 ≤ mm (38 + 2 * s) (f + k) ∧ mm (38 + 2 * s) (f + k) < mm 6 3 ∧ mm 8 (mm (38 + 2 * s) (f + k)).toNat = 0)
        have hstep : ∀ k, k < n → ∀ D : Nat, zL (D + 2) 5 [.inr (.inr 6), .inl (mm (38 + 2 * s) (f + k))] SH mm = zok (if P k then 1 else 0) mm := fun k hk D => by
          by_cases q : 0 ≤ mm (38 + 2 * s) (f + k) ∧ mm (38 + 2 * s) (f + k) < mm 6 3
          · have hal := s_isAlive (mm := mm) D (mm (38 + 2 * s) (f + k)).toNat hn
            rw [show (((mm (38 + 2 * s) (f + k)).toNat : Nat) : Int) = mm (38 + 2 * s) (f + k) by omega] at hal
            rw [hal]
            have : xal mm (mm (38 + 2 * s) (f + k)).toNat = P k := by
              unfold xal
              rw [decide_eq_true (show (((mm (38 + 2 * s) (f + k)).toNat : Nat) : Int) < mm 6 3 by omega), Bool.true_and]
              exact decide_eq_decide.mpr ⟨fun z => ⟨q.1, q.2, z⟩, fun z => z.2.2⟩
            rw [this]
          · rw [s_isAliveN D _ hn q]
            have : P k = false := decide_eq_false (fun z => q ⟨z.1, z.2.1⟩)
            rw [this]
            rfl
        by_cases hall : ∀ k, k < n → P k = true
        · -- all live
          have hseat : ∀ i, ∃ x : Nat, f ≤ i → i < f + n → x < (mm 6 3).toNat ∧ mm 11 x = mm (38 + 2 * s) i := fun i => by
            by_cases hk : f ≤ i ∧ i < f + n
            · have hp := of_decide_eq_true (hall (i - f) (by omega))
              rw [show f + (i - f) = i by omega] at hp
              obtain ⟨x, hx, e⟩ := hI.se.2.2 (mm (38 + 2 * s) i).toNat (by omega)
              exact ⟨x, fun _ _ => ⟨by omega, by rw [e]; omega⟩⟩
            · exact ⟨0, fun z z2 => absurd ⟨z, z2⟩ hk⟩
          let q : Nat → Nat := fun i => Classical.choose (hseat i)
          have hq : ∀ k, k < n → q (f + k) < (mm 6 3).toNat ∧ mm 11 (q (f + k)) = mm (38 + 2 * s) (f + k) := fun k hk => Classical.choose_spec (hseat (f + k)) (by omega) (by omega)
          have hN : mm 6 3 = ((mm 6 3).toNat : Nat) := by omega
          have hxf := s_fewestChanges (mm := mm) (d + 15) s f n (mm 6 3).toNat q hs hN hn hI.se (by omega) (by omega) (fun i a b => by
            have := hq (i - f) (by omega)
            rw [show f + (i - f) = i by omega] at this
            exact this)
          have hmf := t_ways_loop (m := m) (mm := mm) (d + 17) (24 * s + f) f n (mm 6 3).toNat q hN (by omega) hR hI (fun k hk => by
            have hp := of_decide_eq_true (hall k hk)
            obtain ⟨a1, a2⟩ := hq k hk
            refine ⟨a1, ?_, ?_⟩
            · rw [xas_x _ (by omega) hI, a2]
              exact decide_eq_true hp.2.2
            · rw [show 24 * s + f + k = 24 * s + (f + k) by omega, h5 (f + k) (by omega), a2]) (n - 1) 1 (0, 0) (by omega) (by omega) (by decide) (by decide)
          have hr := zway_r (xas mm) (mm 6 3).toNat q (n - 1) (f + 1) 0 (0, 0) (0, 0) (by omega) (.inl ⟨rfl, by decide, by decide⟩) (.inl ⟨rfl, by decide, by decide⟩)
          have hmc : zL (d + 19) 194 [.inr (.inr 45), .inl ((24 * s + f : Nat) : Int), .inl (n : Int)] SH m = zok (if zmn (zway (xas mm) (mm 6 3).toNat 13 q (n - 1) (f + 1) (0, 0)).1 (zway (xas mm) (mm 6 3).toNat 13 q (n - 1) (f + 1) (0, 0)).2 < 13 then zmn (zway (xas mm) (mm 6 3).toNat 13 q (n - 1) (f + 1) (0, 0)).1 (zway (xas mm) (mm 6 3).toNat 13 q (n - 1) (f + 1) (0, 0)).2 else -4) m := by
            rw [ze_X9_changesOf, zb_X9_changesOf_0]
            refine Eq.trans (Eq.trans hmf ?_) rfl
            generalize zway (xas mm) (mm 6 3).toNat 13 q (n - 1) (f + 1) (0, 0) = v at hr ⊢
            generalize zway (xas mm) (mm 6 3).toNat 1000 q (n - 1) (f + 1) (0, 0) = w at hr ⊢
            refine congrArg (fun x => zok x m) ?_
            obtain ⟨g1, g2⟩ := hr
            obtain ⟨v1, v2⟩ := v
            obtain ⟨w1, w2⟩ := w
            dsimp only at g1 g2 ⊢
            clear hxf hmf
            unfold zwr at g1 g2
            unfold zmn
            (repeat' split) <;> omega
          refine zBoth_0 (if zmn (zway (xas mm) (mm 6 3).toNat 13 q (n - 1) (f + 1) (0, 0)).1 (zway (xas mm) (mm 6 3).toNat 13 q (n - 1) (f + 1) (0, 0)).2 < 13 then zmn (zway (xas mm) (mm 6 3).toNat 13 q (n - 1) (f + 1) (0, 0)).1 (zway (xas mm) (mm 6 3).toNat 13 q (n - 1) (f + 1) (0, 0)).2 else -4) h (hx1 _ ?_) (hm1 _ ?_)
          · have key : ∀ k : Nat, k ≤ n → zR (d + 19) 105 53 [some (.inr (.inr 0)), none, none, some (.inl (f : Int)), some (.inl (n : Int)), some (.inr (.inr (37 + 2 * s))), none, some (.inl ((f + k : Nat) : Int))] [] SH mm = zok (if zmn (zway (xas mm) (mm 6 3).toNat 13 q (n - 1) (f + 1) (0, 0)).1 (zway (xas mm) (mm 6 3).toNat 13 q (n - 1) (f + 1) (0, 0)).2 < 13 then zmn (zway (xas mm) (mm 6 3).toNat 13 q (n - 1) (f + 1) (0, 0)).1 (zway (xas mm) (mm 6 3).toNat 13 q (n - 1) (f + 1) (0, 0)).2 else -4) mm := by
              refine zup ?_ ?_
              · rw [zb_X8_waysS_53 _ _ _ _ s hs, zw_id (x := (f : Int) + n) (by omega) (by omega), if_neg (by omega), hxf, zcI_ok, zb_X8_waysS_100 _ _ _ _ _ s hs]
              · intro k hk ih
                rw [zb_X8_waysS_53 _ _ _ _ s hs, zw_id (x := (f : Int) + n) (by omega) (by omega), if_pos (by omega), s_itemAt _ s (f + k) hs (by omega), zcI_ok, zb_X8_waysS_76 _ _ _ _ _ s hs, hstep k hk (d + 17), hall k hk, zcI_ok, zb_X8_waysS_79 _ _ _ _ _ s hs, if_neg (by decide), zw_inc (f + k) (by omega)]
                exact ih
            exact key 0 (by omega)
          · have key : ∀ k : Nat, k ≤ n → zR (d + 19) 195 53 [some (.inr (.inr 45)), none, none, none, some (.inl (n : Int)), none, some (.inl ((24 * s + f : Nat) : Int)), some (.inl (k : Int))] [] SH m = zok (if zmn (zway (xas mm) (mm 6 3).toNat 13 q (n - 1) (f + 1) (0, 0)).1 (zway (xas mm) (mm 6 3).toNat 13 q (n - 1) (f + 1) (0, 0)).2 < 13 then zmn (zway (xas mm) (mm 6 3).toNat 13 q (n - 1) (f + 1) (0, 0)).1 (zway (xas mm) (mm 6 3).toNat 13 q (n - 1) (f + 1) (0, 0)).2 else -4) m := by
              refine zup ?_ ?_
              · rw [zb_X9_ways_53, if_neg (by omega), hmc, zcI_ok, zb_X9_ways_113]
              · intro k hk ih
                have hp := of_decide_eq_true (hall k hk)
                have e67 : m 67 (24 * s + f + k) = mm (38 + 2 * s) (f + k) := by rw [show 24 * s + f + k = 24 * s + (f + k) by omega, h5 (f + k) (by omega)]
                have hb96 : 0 ≤ ((24 * s + f + k : Nat) : Int) ∧ ((24 * s + f + k : Nat) : Int) < 96 := by omega
                have hb6 : 0 ≤ mm (38 + 2 * s) (f + k) ∧ mm (38 + 2 * s) (f + k) < 6 := by omega
                have hpp : 0 ≤ mm (38 + 2 * s) (f + k) ∧ mm (38 + 2 * s) (f + k) < mm 6 3 := ⟨hp.1, hp.2.1⟩
                have hkn : (k : Int) < n := by omega
                have ei : zw ((k : Int) + 1) = ((k + 1 : Nat) : Int) := zw_inc k (by omega)
                have e : zw (((24 * s + f : Nat) : Int) + (k : Int)) = ((24 * s + f + k : Nat) : Int) := by clear ei; rw [zw_id (by omega) (by omega)]; omega
                rw [zb_X9_ways_53, if_pos hkn, e, if_pos hb96, Int.toNat_natCast, e67, t_isCell _ _ hR hI, zcI_ok, zb_X9_ways_74, if_pos hpp, if_neg (by decide), e, if_pos hb96, Int.toNat_natCast, e67, if_pos hb6, hR.de, hp.2.2, if_neg (by decide), ei]
                exact ih
            exact key 0 (by omega)
        · -- the first that doesn't
          have hex : ∃ k, k < n ∧ P k = false ∧ ∀ j, j < k → P j = true := by
            have : ∀ g, g ≤ n → (∀ j, j < g → P j = true) ∨ ∃ k, k < g ∧ P k = false ∧ ∀ j, j < k → P j = true := by
              intro g
              induction g with
              | zero => exact fun _ => .inl (fun j hj => absurd hj (Nat.not_lt_zero j))
              | succ g ih =>
                intro hg
                rcases ih (by omega) with q | ⟨k, q1, q2, q3⟩
                · cases hp : P g with
                  | true =>
                    refine .inl (fun j hj => ?_)
                    by_cases r : j = g
                    · rw [r]; exact hp
                    · exact q j (by omega)
                  | false => exact .inr ⟨g, by omega, hp, q⟩
                · exact .inr ⟨k, by omega, q2, q3⟩
            rcases this n (Nat.le_refl n) with q | q
            · exact absurd q hall
            · exact q
          obtain ⟨k0, hk0, hP0, hPj⟩ := hex
          refine zBoth_0 (-2) h (hx1 _ ?_) (hm1 _ ?_)
          · have key : ∀ k : Nat, k ≤ k0 → zR (d + 19) 105 53 [some (.inr (.inr 0)), none, none, some (.inl (f : Int)), some (.inl (n : Int)), some (.inr (.inr (37 + 2 * s))), none, some (.inl ((f + k : Nat) : Int))] [] SH mm = zok (-2) mm := by
              refine zup ?_ ?_
              · rw [zb_X8_waysS_53 _ _ _ _ s hs, zw_id (x := (f : Int) + n) (by omega) (by omega), if_pos (by omega), s_itemAt _ s (f + k0) hs (by omega), zcI_ok, zb_X8_waysS_76 _ _ _ _ _ s hs, hstep k0 hk0 (d + 17), hP0, zcI_ok, zb_X8_waysS_79 _ _ _ _ _ s hs, if_pos (by decide)]
              · intro k hk ih
                rw [zb_X8_waysS_53 _ _ _ _ s hs, zw_id (x := (f : Int) + n) (by omega) (by omega), if_pos (by omega), s_itemAt _ s (f + k) hs (by omega), zcI_ok, zb_X8_waysS_76 _ _ _ _ _ s hs, hstep k (by omega) (d + 17), hPj k hk, zcI_ok, zb_X8_waysS_79 _ _ _ _ _ s hs, if_neg (by decide), zw_inc (f + k) (by omega)]
                exact ih
            exact key 0 (by omega)
          · have key : ∀ k : Nat, k ≤ k0 → zR (d + 19) 195 53 [some (.inr (.inr 45)), none, none, none, some (.inl (n : Int)), none, some (.inl ((24 * s + f : Nat) : Int)), some (.inl (k : Int))] [] SH m = zok (-2) m := by
              refine zup ?_ ?_
              · have hp := of_decide_eq_false hP0
                have e67 : m 67 (24 * s + f + k0) = mm (38 + 2 * s) (f + k0) := by rw [show 24 * s + f + k0 = 24 * s + (f + k0) by omega, h5 (f + k0) (by omega)]
                have hb96 : 0 ≤ ((24 * s + f + k0 : Nat) : Int) ∧ ((24 * s + f + k0 : Nat) : Int) < 96 := by omega
                have hkn : (k0 : Int) < n := by omega
                have e : zw (((24 * s + f : Nat) : Int) + (k0 : Int)) = ((24 * s + f + k0 : Nat) : Int) := by rw [zw_id (by omega) (by omega)]; omega
                rw [zb_X9_ways_53, if_pos hkn, e, if_pos hb96, Int.toNat_natCast, e67, t_isCell _ _ hR hI, zcI_ok, zb_X9_ways_74]
                by_cases q : 0 ≤ mm (38 + 2 * s) (f + k0) ∧ mm (38 + 2 * s) (f + k0) < mm 6 3
                · have hd := hI.ce.2.2.2.2 (mm (38 + 2 * s) (f + k0)).toNat
                  have hd1 : mm 8 (mm (38 + 2 * s) (f + k0)).toNat = 1 := by
                    rcases hd with z | z
                    · exact absurd ⟨q.1, q.2, z⟩ hp
                    · exact z
                  rw [if_pos q, if_neg (by decide), e, if_pos hb96, Int.toNat_natCast, e67, if_pos (by clear e; omega), hR.de, if_pos hd1]
                · rw [if_neg q, if_pos rfl]
              · intro k hk ih
                have hp := of_decide_eq_true (hPj k hk)
                have e67 : m 67 (24 * s + f + k) = mm (38 + 2 * s) (f + k) := by rw [show 24 * s + f + k = 24 * s + (f + k) by omega, h5 (f + k) (by omega)]
                have hb96 : 0 ≤ ((24 * s + f + k : Nat) : Int) ∧ ((24 * s + f + k : Nat) : Int) < 96 := by omega
                have hb6 : 0 ≤ mm (38 + 2 * s) (f + k) ∧ mm (38 + 2 * s) (f + k) < 6 := by omega
                have hpp : 0 ≤ mm (38 + 2 * s) (f + k) ∧ mm (38 + 2 * s) (f + k) < mm 6 3 := ⟨hp.1, hp.2.1⟩
                have hkn : (k : Int) < n := by omega
                have ei : zw ((k : Int) + 1) = ((k + 1 : Nat) : Int) := zw_inc k (by omega)
                have e : zw (((24 * s + f : Nat) : Int) + (k : Int)) = ((24 * s + f + k : Nat) : Int) := by clear ei; rw [zw_id (by omega) (by omega)]; omega
                rw [zb_X9_ways_53, if_pos hkn, e, if_pos hb96, Int.toNat_natCast, e67, t_isCell _ _ hR hI, zcI_ok, zb_X9_ways_74, if_pos hpp, if_neg (by decide), e, if_pos hb96, Int.toNat_natCast, e67, if_pos hb6, hR.de, hp.2.2, if_neg (by decide), ei]
                exact ih
            exact key 0 (by omega)
    · refine zBoth_0 (-1) h ?_ ?_
      · rw [ze_X8_ways, zb_X8_ways_0, s_isSheetAndLane, zcI_ok, if_pos c, zb_X8_ways_5, if_neg (by decide)]
        by_cases c2 : n < 1
        · rw [if_pos c2]
        · rw [if_neg c2, if_pos (by omega)]
      · rw [ze_X9_ways, zb_X9_ways_0, t_isSheet, zcI_ok, if_pos c, zb_X9_ways_5, if_neg (by decide), t_in, zcI_ok, if_neg cn, zb_X9_ways_18, if_pos rfl]
  · refine zBoth_0 (-1) h ?_ ?_
    · rw [ze_X8_ways, zb_X8_ways_0, s_isSheetAndLane, zcI_ok, if_neg c, zb_X8_ways_5, if_pos rfl]
    · rw [ze_X9_ways, zb_X9_ways_0, t_isSheet, zcI_ok, if_neg c, zb_X9_ways_5, if_pos rfl]
end
