section
variable {m mm : zMm}
theorem t_prv_loop (d : Nat) (a : Int) (p : Nat) (hp : (p : Int) < mm 12 2) (hR : mR m mm) (hI : xI mm) : ∀ (f k : Nat) (s : Int), k + f = p + 1 → zr32 s → zR (d + 5) 182 65 [some (.inr (.inr 45)), some (.inl a), some (.inl (p : Int)), some (.inl s), some (.inl (k : Int)), none] [] SH m = zok (if a = 0 then (p : Int) else zprv (xcm mm) (mm 13) (mm 14) f k s) m := by
  have h60 := hI.pg.2.1
  intro f
  induction f with
  | zero =>
    intro k s h hs
    rw [zb_X9_prevented_65, if_pos (by omega)]
    by_cases c : a = 0
    · rw [if_pos c, if_pos c]
    · rw [if_neg c, if_neg c]
      rfl
  | succ f ih =>
    intro k s h hs
    have hw := hI.wr k (by omega)
    have hb := hI.pg.2.2 k (by omega)
    have h6 := hI.ce.2.1
    rw [zb_X9_prevented_65, if_neg (by omega), if_pos (by omega), Int.toNat_natCast, hR.wr]
    rw [show zprv (xcm mm) (mm 13) (mm 14) (f + 1) k s = zprv (xcm mm) (mm 13) (mm 14) f (k + 1) (if 0 ≤ mm 14 k ∧ zelse (xcm mm) (mm 13) (mm 14 k).toNat k ≠ 0 then zor s (zshl 1 (mm 14 k)) else s) from rfl]
    by_cases c : mm 14 k < 0
    · rw [if_pos c, zor_0 hs, zw_inc k (by omega), if_neg (show ¬ (0 ≤ mm 14 k ∧ zelse (xcm mm) (mm 13) (mm 14 k).toNat k ≠ 0) from fun q => absurd q.1 (by omega))]
      exact zR_weak (by repeat first | exact zle_nil | apply zle_c | apply zle_n) (ih (k + 1) s (by omega) hs)
    · obtain ⟨x, hx⟩ : ∃ x : Nat, mm 14 k = x := ⟨(mm 14 k).toNat, by omega⟩
      have he : zend (mm 13) k < 585 := zend_lt fun q hq => hI.pg.2.2 q (by omega)
      rw [if_neg c, t_endAt _ k hR hI (by omega), zcI_ok, zb_X9_prevented_95, hx, t_comesBy _ x _ (by omega) he hR hI, zcI_ok, zb_X9_prevented_98, if_pos (by omega), Int.toNat_natCast, hR.bo, Int.toNat_natCast]
      show (if zelse (xcm mm) (mm 13) x k = 0 then _ else _) = _
      by_cases c2 : zelse (xcm mm) (mm 13) x k = 0
      · rw [if_pos c2, zor_0 hs, zw_inc k (by omega), if_neg (show ¬ (0 ≤ (x : Int) ∧ zelse (xcm mm) (mm 13) x k ≠ 0) from fun q => q.2 c2)]
        exact zR_weak (by repeat first | exact zle_nil | apply zle_c | apply zle_n) (ih (k + 1) s (by omega) hs)
      · rw [if_neg c2, zw_inc k (by omega), if_pos (show 0 ≤ (x : Int) ∧ zelse (xcm mm) (mm 13) x k ≠ 0 from ⟨by omega, c2⟩)]
        exact zR_weak (by repeat first | exact zle_nil | apply zle_c | apply zle_n) (ih (k + 1) _ (by omega) (zr_or _ _))
theorem op_prevented (d : Nat) (a : Int) (h : zRel m mm) : zBoth d 101 182 [.inl a] m mm := by
  obtain ⟨hI, hR, _⟩ := id h
  have h0 := hI.pg.1
  have h60 := hI.pg.2.1
  have hl6 := hI.tg.2.1
  by_cases c1 : 0 ≤ a ∧ a ≤ 1
  · have hx0 : ∀ r, zR (d + 19) 101 18 [some (.inr (.inr 0)), some (.inl a), none] [.inl (zfle (mm 13) (mm 4) (mm 5) (mm 2 3).toNat (mm 12 2).toNat)] SH mm = r → zL (d + 20) 101 [.inr (.inr 0), .inl a] SH mm = r := fun r hr => by
      rw [ze_X8_prevented, zb_X8_prevented_0, if_neg (by omega), if_neg (by omega), s_firstLineEnd _ hI.pg hI.tg hI.tl, zcI_ok]
      exact hr
    have hm0 : ∀ r, zR (d + 19) 182 14 [some (.inr (.inr 45)), some (.inl a), some (.inl 0), none, none, none] [] SH m = r → zL (d + 20) 182 [.inr (.inr 45), .inl a] SH m = r := fun r hr => by
      rw [ze_X9_prevented, zb_X9_prevented_0, t_in, zcI_ok, if_pos c1, zb_X9_prevented_7, if_neg (by decide)]
      exact hr
    -- the model's search for the place
    have find : ∀ (f i : Nat), i + f = (mm 12 2).toNat → (zfst (fun p => decide (0 ≤ zline (mm 13) (mm 4) (mm 5) (mm 2 3).toNat p)) f i = -4 ∧ zR (d + 19) 182 14 [some (.inr (.inr 45)), some (.inl a), some (.inl (i : Int)), none, none, none] [] SH m = zok (-4) m) ∨ ∃ p l : Nat, zfst (fun p => decide (0 ≤ zline (mm 13) (mm 4) (mm 5) (mm 2 3).toNat p)) f i = p ∧ (p : Int) < mm 12 2 ∧ zline (mm 13) (mm 4) (mm 5) (mm 2 3).toNat p = l ∧ ∀ r, zR (d + 19) 182 59 [some (.inr (.inr 45)), some (.inl a), some (.inl (p : Int)), some (.inl 0), none, none] [.inl (l : Int), .inr (.inr 48), .inl (p : Int)] SH m = r → zR (d + 19) 182 14 [some (.inr (.inr 45)), some (.inl a), some (.inl (i : Int)), none, none, none] [] SH m = r := by
      intro f
      induction f with
      | zero =>
        intro i hi
        refine .inl ⟨rfl, ?_⟩
        rw [zb_X9_prevented_14, hR.sz, if_neg (by omega), if_pos (by omega)]
      | succ f ih =>
        intro i hi
        have hla := t_lineAt (m := m) (mm := mm) (d + 18) i (by omega) hR hI
        rw [zfst_s]
        by_cases c : zline (mm 13) (mm 4) (mm 5) (mm 2 3).toNat i < 0
        · rw [decide_eq_false (by omega), if_neg (by decide)]
          have step : ∀ r, zR (d + 19) 182 14 [some (.inr (.inr 45)), some (.inl a), some (.inl ((i + 1 : Nat) : Int)), none, none, none] [] SH m = r → zR (d + 19) 182 14 [some (.inr (.inr 45)), some (.inl a), some (.inl (i : Int)), none, none, none] [] SH m = r := fun r hr => by
            rw [zb_X9_prevented_14, hR.sz, if_pos (by omega), hla, zcI_ok, zb_X9_prevented_27, if_pos c, zw_inc i (by omega)]
            exact hr
          rcases ih (i + 1) (by omega) with ⟨q1, q2⟩ | ⟨p, l, q1, q2, q3, q4⟩
          · exact .inl ⟨q1, step _ q2⟩
          · exact .inr ⟨p, l, q1, q2, q3, fun r hr => step _ (q4 r hr)⟩
        · obtain ⟨l, hl⟩ : ∃ l : Nat, zline (mm 13) (mm 4) (mm 5) (mm 2 3).toNat i = l := ⟨(zline (mm 13) (mm 4) (mm 5) (mm 2 3).toNat i).toNat, by omega⟩
          refine .inr ⟨i, l, by rw [decide_eq_true (by omega), if_pos rfl], by omega, hl, fun r hr => ?_⟩
          rw [zb_X9_prevented_14, hR.sz, if_pos (by omega), hla, zcI_ok, zb_X9_prevented_27, if_neg c, hR.sz, if_neg (by omega), hla, zcI_ok, hl]
          exact hr
    rcases find (mm 12 2).toNat 0 (by omega) with ⟨q1, q2⟩ | ⟨p, l, q1, q2, q3, q4⟩
    · refine zBoth_0 (-4) h (hx0 _ ?_) (hm0 _ q2)
      rw [show zfle (mm 13) (mm 4) (mm 5) (mm 2 3).toNat (mm 12 2).toNat = -4 from q1, zb_X8_prevented_18, if_pos (by decide)]
    · have hz : zfle (mm 13) (mm 4) (mm 5) (mm 2 3).toNat (mm 12 2).toNat = p := q1
      have hl : (l : Int) < mm 2 3 ∧ mm 5 l ≤ (p : Int) + 1 := by
        rcases zfst_r (zlm (mm 13) (mm 4) (mm 5) p) (mm 2 3).toNat 0 with z | ⟨j, z, z1, z2, z3⟩
        · have : zline (mm 13) (mm 4) (mm 5) (mm 2 3).toNat p = -4 := z
          omega
        · have : zline (mm 13) (mm 4) (mm 5) (mm 2 3).toNat p = j := z
          obtain rfl : j = l := by omega
          unfold zlm at z3
          rw [Bool.and_eq_true] at z3
          exact ⟨by omega, of_decide_eq_true z3.1⟩
      have hll := hI.tg.2.2.2 l hl.1
      have hlp := t_prv_loop (m := m) (mm := mm) (d + 14) a p q2 hR hI (mm 5 l).toNat (p + 1 - (mm 5 l).toNat) 0 (by omega) (by unfold zr32; omega)
      have hmm : zL (d + 20) 182 [.inr (.inr 45), .inl a] SH m = zok (if a = 0 then (p : Int) else zprv (xcm mm) (mm 13) (mm 14) (mm 5 l).toNat (p + 1 - (mm 5 l).toNat) 0) m := by
        refine hm0 _ (q4 _ ?_)
        rw [zb_X9_prevented_59, if_pos (by omega), Int.toNat_natCast, hR.ll, zw_id (x := (p : Int) - mm 5 l) (by omega) (by omega), zw_id (by omega) (by omega), show (p : Int) - mm 5 l + 1 = ((p + 1 - (mm 5 l).toNat : Nat) : Int) by omega]
        exact hlp
      refine zBoth_0 (if a = 0 then (p : Int) else zprv (xcm mm) (mm 13) (mm 14) (mm 5 l).toNat (p + 1 - (mm 5 l).toNat) 0) h (hx0 _ ?_) hmm
      rw [hz, zb_X8_prevented_18, if_neg (by omega)]
      by_cases c0 : a = 0
      · rw [if_pos c0, if_pos c0]
      · rw [if_neg c0, if_neg c0, s_preventers _ p hI.pg q2 hI.ce hI.tg hI.tl hI.wr l q3, zcI_ok, zb_X8_prevented_42]
  · refine zBoth_0 (-1) h ?_ ?_
    · rw [ze_X8_prevented, zb_X8_prevented_0]
      by_cases c2 : a < 0
      · rw [if_pos c2]
      · rw [if_neg c2, if_pos (by omega)]
    · rw [ze_X9_prevented, zb_X9_prevented_0, t_in, zcI_ok, zb_X9_prevented_7, if_neg c1, if_pos rfl]
end
