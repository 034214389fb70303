theorem zdig_s (B : Nat → Int) (p n : Nat) (r : Int) : zdig B p (n + 1) r = (decide (B p = r % 8) && zdig B (p - 1) n (r / 8)) := rfl
section
variable {m mm : zMm}
theorem t_isStuck (d : Nat) (hr : mR m mm) (hI : xI mm) : zL (d + 4) 157 [.inr (.inr 45)] SH m = zok (if mks (fun w => zmay (mm 3) (mm 4) (mm 5) 4 (xe mm) w (mm 2 3).toNat) 8 = 0 then 1 else 0) m := by
  have hp := hI.pg
  have he := xe_lt hp
  have h0 := hp.1
  have hend := t_endAt (m := m) (mm := mm) d (mm 12 2).toNat hr hI (by omega)
  rw [show (((mm 12 2).toNat : Nat) : Int) = mm 12 2 by omega] at hend
  have key : ∀ i : Nat, i ≤ 8 → zR (d + 3) 157 4 [some (.inr (.inr 45)), some (.inl (if mks (fun w => zmay (mm 3) (mm 4) (mm 5) 4 (xe mm) w (mm 2 3).toNat) i = 0 then 1 else 0)), some (.inl (i : Int))] [] SH m = zok (if mks (fun w => zmay (mm 3) (mm 4) (mm 5) 4 (xe mm) w (mm 2 3).toNat) 8 = 0 then 1 else 0) m := by
    refine zup ?_ ?_
    · rw [zb_X9_isStuck_4, if_neg (by decide), if_pos (by split <;> simp)]
    · intro i hi ih
      have e1 : (mks (fun w => zmay (mm 3) (mm 4) (mm 5) 4 (xe mm) w (mm 2 3).toNat) (i + 1) = 0) ↔ (mks (fun w => zmay (mm 3) (mm 4) (mm 5) 4 (xe mm) w (mm 2 3).toNat) i = 0 ∧ zmay (mm 3) (mm 4) (mm 5) 4 (xe mm) i (mm 2 3).toNat = false) := by
        rw [mks_0 (by omega), mks_0 (by omega)]
        constructor
        · intro q
          exact ⟨fun j hj => q j (by omega), q i (by omega)⟩
        · rintro ⟨q1, q2⟩ j hj
          by_cases r : j = i
          · rw [r]; exact q2
          · exact q1 j (by omega)
      rw [zb_X9_isStuck_4, if_pos (by omega), hr.sz, zw_inc i (by omega)]
      by_cases c : mks (fun w => zmay (mm 3) (mm 4) (mm 5) 4 (xe mm) w (mm 2 3).toNat) i = 0
      · rw [if_pos c, if_neg (by decide), hend, zcI_ok, zb_X9_isStuck_23]
        have hmc := t_mayCome (m := m) (mm := mm) d (xe mm) i 0 (by decide) he hi hr hI
        rw [decide_eq_false (show ¬ ((0 : Int) = 1) by decide), Bool.false_or, if_neg (show ¬ ((0 : Int) = 2) by decide)] at hmc
        have hmc2 : zL (d + 3) 151 [.inr (.inr 45), .inl (zend (mm 13) (mm 12 2).toNat : Nat), .inl (i : Int), .inl 0] SH m = _ := hmc
        rw [hmc2, zcI_ok, zb_X9_isStuck_28, zw_inc i (by omega)]
        cases hz : zmay (mm 3) (mm 4) (mm 5) 4 (xe mm) i (mm 2 3).toNat with
        | true =>
          rw [if_neg (fun q => by have := (e1.mp q).2; rw [hz] at this; cases this)] at ih
          rw [if_neg (by decide)]
          exact ih
        | false =>
          rw [if_pos (e1.mpr ⟨c, hz⟩)] at ih
          rw [if_pos (by decide)]
          exact ih
      · rw [if_neg c, if_pos rfl]
        rw [if_neg (fun q => c (e1.mp q).1)] at ih
        exact ih
  rw [ze_X9_isStuck, zb_X9_isStuck_0]
  exact key 0 (by omega)
theorem t_habitOf (d : Nat) (a b : Int) (hb : 0 ≤ b) (hr : mR m mm) (hI : xI mm) : zL (d + 1) 178 [.inr (.inr 45), .inl a, .inl b] SH m = zok (zcnt (zhab (mm 13) (mm 14) a b) (mm 12 2).toNat) m := by
  have h0 := hI.pg.1
  have h60 := hI.pg.2.1
  rw [ze_X9_habitOf, zb_X9_habitOf_0]
  refine zup (P := fun i => zR d 178 5 [some (.inr (.inr 45)), some (.inl a), some (.inl b), some (.inl (zcnt (zhab (mm 13) (mm 14) a b) i)), some (.inl (i : Int))] [] SH m = _) (n := (mm 12 2).toNat) ?_ ?_ 0 (by omega)
  · rw [zb_X9_habitOf_5, hr.sz, if_neg (by omega)]
  · intro i hi ih
    have hc := zcnt_r (zhab (mm 13) (mm 14) a b) i
    rw [zcnt_s] at ih
    rw [zb_X9_habitOf_5, hr.sz, hr.wr, hr.bo, if_pos (by omega), if_pos (by omega), Int.toNat_natCast, zw_inc i (by omega), Int.add_zero, zw_id (x := zcnt (zhab (mm 13) (mm 14) a b) i) (by omega) (by omega), zw_id (by omega) (by omega)]
    by_cases h : mm 14 i = a
    · rw [if_pos h, if_neg (by omega), if_pos (by omega)]
      by_cases h2 : mm 13 i = b
      · rw [if_pos h2]
        simp only [zhab, h, h2, decide_true, Bool.and_self, if_true] at ih
        exact ih
      · rw [if_neg h2]
        simp only [zhab, h2, decide_false, Bool.and_false, Bool.false_eq_true, if_false] at ih
        exact ih
    · rw [if_neg h]
      simp only [zhab, h, decide_false, Bool.false_and, Bool.false_eq_true, if_false] at ih
      exact ih
theorem t_habitAll (d : Nat) (a : Int) (hr : mR m mm) (hI : xI mm) : zL (d + 1) 178 [.inr (.inr 45), .inl a, .inl (-1)] SH m = zok (zcnt (fun p => decide (mm 14 p = a)) (mm 12 2).toNat) m := by
  have h0 := hI.pg.1
  have h60 := hI.pg.2.1
  rw [ze_X9_habitOf, zb_X9_habitOf_0]
  refine zup (P := fun i => zR d 178 5 [some (.inr (.inr 45)), some (.inl a), some (.inl (-1)), some (.inl (zcnt (fun p => decide (mm 14 p = a)) i)), some (.inl (i : Int))] [] SH m = _) (n := (mm 12 2).toNat) ?_ ?_ 0 (by omega)
  · rw [zb_X9_habitOf_5, hr.sz, if_neg (by omega)]
  · intro i hi ih
    have hc := zcnt_r (fun p => decide (mm 14 p = a)) i
    rw [zcnt_s] at ih
    rw [zb_X9_habitOf_5, hr.sz, hr.wr, hr.bo, if_pos (by omega), if_pos (by omega), Int.toNat_natCast, zw_inc i (by omega), Int.add_zero, zw_id (x := zcnt (fun p => decide (mm 14 p = a)) i) (by omega) (by omega), zw_id (by omega) (by omega)]
    by_cases h : mm 14 i = a
    · rw [if_pos h, if_pos (by decide)]
      simp only [h, decide_true, if_true] at ih
      exact ih
    · rw [if_neg h]
      simp only [h, decide_false, Bool.false_eq_true, if_false] at ih
      exact ih
theorem t_write (d : Nat) (a b : Int) (h : mm 12 2 < 60) (hr : mR m mm) (hI : xI mm) : zL (d + 1) 163 [.inr (.inr 45), .inl a, .inl b] SH m = zvd (zu (zu (zu m 53 (mm 12 2).toNat b) 54 (mm 12 2).toNat a) 45 11 (mm 12 2 + 1)) := by
  have h0 := hI.pg.1
  rw [ze_X9_write, zb_X9_write_0, hr.sz, if_pos (by omega), if_pos (by omega), zw_id (by omega) (by omega)]
theorem t_lineAt (d p : Nat) (hp : (p : Int) < mm 12 2) (hr : mR m mm) (hI : xI mm) : zL (d + 1) 181 [.inr (.inr 45), .inl p] SH m = zok (zline (mm 13) (mm 4) (mm 5) (mm 2 3).toNat p) m := by
  obtain ⟨t0, t6, tF, tL⟩ := hI.tg
  have h60 := hI.pg.2.1
  have inner : ∀ (l : Nat) (R : zRes), (l : Int) < mm 2 3 → (∀ o3 o4 o5 : Option zV, zR d 181 2 [some (.inr (.inr 45)), some (.inl (p : Int)), some (.inl ((l + 1 : Nat) : Int)), o3, o4, o5] [] SH m = R) → ∀ (f k : Nat) (r : Int), k + f = (mm 5 l).toNat → mm 5 l ≤ (p : Int) + 1 → 0 ≤ r → r < 4096 → zR d 181 39 [some (.inr (.inr 45)), some (.inl (p : Int)), some (.inl (l : Int)), some (.inl 1), some (.inl r), some (.inl (k : Int))] [] SH m = if zdig (mm 13) (p - k) f r then zok l m else R := by
    intro l R hl hR f
    induction f with
    | zero =>
      intro k r h1 h2 h3 h4
      obtain ⟨l1, l2, _⟩ := tL l hl
      rw [zb_X9_lineAt_39, hr.ll, if_pos (by omega), Int.toNat_natCast, if_neg (by omega), if_neg (by decide)]
      rfl
    | succ f ih =>
      intro k r h1 h2 h3 h4
      obtain ⟨l1, l2, _⟩ := tL l hl
      rw [zb_X9_lineAt_39, hr.ll, hr.bo, if_pos (by omega), Int.toNat_natCast, if_pos (by omega), if_neg (by decide), zw_id (x := (p : Int) - k) (by omega) (by omega), if_pos (by omega), zrem_n h3 (by omega) (by decide) (by decide), zdiv_n h3 (by omega) (by decide) (by decide), zw_inc k (by omega), show ((p : Int) - k).toNat = p - k by omega, zdig_s]
      by_cases c : mm 13 (p - k) = r % 8
      · rw [if_pos c, decide_eq_true c, Bool.true_and, ih (k + 1) (r / 8) (by omega) h2 (by omega) (by omega), show p - (k + 1) = p - k - 1 by omega]
      · rw [if_neg c, decide_eq_false c, Bool.false_and, zb_X9_lineAt_39, hr.ll, if_pos (by omega), Int.toNat_natCast, zw_inc l (by omega)]
        simp only [if_true, hR, Bool.false_eq_true, if_false]
        split <;> rfl
  have key : ∀ (f l : Nat), l + f = (mm 2 3).toNat → ∀ o3 o4 o5 : Option zV, zR d 181 2 [some (.inr (.inr 45)), some (.inl (p : Int)), some (.inl (l : Int)), o3, o4, o5] [] SH m = zok (zfst (zlm (mm 13) (mm 4) (mm 5) p) f l) m := by
    intro f
    induction f with
    | zero =>
      intro l h o3 o4 o5
      refine zR_weak (ls := [some (.inr (.inr 45)), some (.inl (p : Int)), some (.inl (l : Int)), none, none, none]) (by repeat first | exact zle_nil | apply zle_c | apply zle_n) ?_
      rw [zb_X9_lineAt_2, hr.lm, if_neg (by omega)]
      rfl
    | succ f ih =>
      intro l h o3 o4 o5
      obtain ⟨l1, l2, l3, l4⟩ := tL l (by omega)
      refine zR_weak (ls := [some (.inr (.inr 45)), some (.inl (p : Int)), some (.inl (l : Int)), none, none, none]) (by repeat first | exact zle_nil | apply zle_c | apply zle_n) ?_
      rw [zb_X9_lineAt_2, hr.lm, hr.ll, hr.lw, if_pos (by omega), if_pos (by omega), Int.toNat_natCast, zw_inc p (by omega), zfst_s]
      have hR := ih (l + 1) (by omega)
      by_cases c : mm 5 l ≤ (p : Int) + 1
      · have hin := inner l _ (by omega) hR (mm 5 l).toNat 0 (mm 4 l) (by omega) c l3 l4
        have ez : zlm (mm 13) (mm 4) (mm 5) p l = zdig (mm 13) p (mm 5 l).toNat (mm 4 l) := by
          unfold zlm
          rw [decide_eq_true c, Bool.true_and]
        rw [if_neg (by omega), if_pos (by omega), ez]
        refine Eq.trans hin ?_
        rw [Nat.sub_zero]
        split <;> rfl
      · have ez : zlm (mm 13) (mm 4) (mm 5) p l = false := by
          unfold zlm
          rw [decide_eq_false c, Bool.false_and]
        rw [if_pos (by omega), if_pos (by omega), ez, zb_X9_lineAt_39, hr.ll, if_pos (by omega), Int.toNat_natCast, zw_inc l (by omega)]
        simp only [if_true, hR, Bool.false_eq_true, if_false]
        split <;> rfl
  rw [ze_X9_lineAt, zb_X9_lineAt_0]
  exact key _ 0 (by omega) none none none
end
