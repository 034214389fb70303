/-- of two, the less -/
def zmn (a b : Int) : Int := if b < a then b else a
/-- a step of a way: by how few changes, its last step forwards, its last step backwards -/
def zwst (al : Nat → Bool) (n : Nat) (never : Int) (s t : Nat) (v : Int × Int) : Int × Int := (if zliv al n 1 s = t then zmn v.1 (v.2 + 1) else never, if zliv al n (n - 1) s = t then zmn v.2 (v.1 + 1) else never)
def zway (al : Nat → Bool) (n : Nat) (never : Int) (q : Nat → Nat) : Nat → Nat → Int × Int → Int × Int
  | 0, _, v => v
  | f + 1, i, v => zway al n never q f (i + 1) (zwst al n never (q (i - 1)) (q i) v)
theorem zway_s (al : Nat → Bool) (n : Nat) (never : Int) (q : Nat → Nat) (f i : Nat) (v : Int × Int) : zway al n never q (f + 1) i v = zway al n never q f (i + 1) (zwst al n never (q (i - 1)) (q i) v) := rfl
theorem zmn_r {a b m : Int} (ha : 0 ≤ a ∧ a ≤ m) (hb : 0 ≤ b) : 0 ≤ zmn a b ∧ zmn a b ≤ m := by
  unfold zmn
  split <;> omega
section
variable {mm : zMm}
theorem s_ways_loop (d s from_ last N : Nat) (q : Nat → Nat) (a3 : Int) (hs : s < 4) (hnn : mm 6 3 = N) (hn : xN mm) (hS : zSe (mm 11) (mm 6 3)) (hlast : last ≤ 24) (hf : zw ((from_ : Int) + a3) = last) (hq : ∀ i, from_ ≤ i → i < last → q i < N ∧ mm 38 0 = mm 38 0 ∧ mm 11 (q i) = mm (38 + 2 * s) i) : ∀ (f i : Nat) (v : Int × Int), i + f = last → from_ < i → (0 ≤ v.1 ∧ v.1 ≤ 13) → (0 ≤ v.2 ∧ v.2 ≤ 13) →
    zR (d + 3) 124 15 [some (.inr (.inr 0)), some (.inr (.inr (37 + 2 * s))), some (.inl (from_ : Int)), some (.inl a3), some (.inl 13), some (.inl v.1), some (.inl v.2), some (.inl (i : Int)), none, none, none, none, none] [] SH mm = zok (if zmn (zway (xas mm) N 13 q f i v).1 (zway (xas mm) N 13 q f i v).2 < 13 then zmn (zway (xas mm) N 13 q f i v).1 (zway (xas mm) N 13 q f i v).2 else -4) mm
  | 0, i, v, h, h2, h3, h4 => by
    rw [zb_X8_fewestChanges_15 _ _ _ _ _ _ _ s hs, hf, if_neg (by omega), s_min, zcI_ok, zb_X8_fewestChanges_170 _ _ _ _ _ _ _ _ s hs]
    unfold zway zmn
    (repeat' split) <;> first | rfl | (exfalso; omega)
  | f + 1, i, v, h, h2, h3, h4 => by
    have hn6 := hn.2
    obtain ⟨p1, _, p2⟩ := hq (i - 1) (by omega) (by omega)
    obtain ⟨q1, _, q2⟩ := hq i (by omega) (by omega)
    have c1 := hS.1 (q (i - 1)) (by omega)
    have c2 := hS.1 (q i) (by omega)
    have e1 : mm (38 + 2 * s) (i - 1) = ((mm 11 (q (i - 1))).toNat : Int) := by omega
    have e2 : mm (38 + 2 * s) i = ((mm 11 (q i)).toNat : Int) := by omega
    have ei : zw ((i : Int) - 1) = ((i - 1 : Nat) : Int) := by rw [zw_id (by omega) (by omega)]; omega
    have m1 := zmn_r (a := v.1) (b := v.2 + 1) (m := 13) h3 (by omega)
    have m2 := zmn_r (a := v.2) (b := v.1 + 1) (m := 13) h4 (by omega)
    rw [zb_X8_fewestChanges_15 _ _ _ _ _ _ _ s hs, hf, if_pos (by omega), ei, s_itemAt (d + 2) s (i - 1) hs (by omega), zcI_ok, zb_X8_fewestChanges_38 _ _ _ _ _ _ _ _ s hs, e1, s_seatOf d (q (i - 1)) _ hn hS (by omega) (by omega), zcI_ok, zb_X8_fewestChanges_41 _ _ _ _ _ _ _ _ s hs, s_itemAt (d + 2) s i hs (by omega), zcI_ok, zb_X8_fewestChanges_56 _ _ _ _ _ _ _ _ _ s hs, e2, s_seatOf d (q i) _ hn hS (by omega) (by omega), zcI_ok, zb_X8_fewestChanges_59 _ _ _ _ _ _ _ _ _ s hs, s_livingSeatPast d (q (i - 1)) N 1 1 hnn hn hS (Or.inl p1) (Or.inl ⟨rfl, rfl⟩), zcI_ok, zb_X8_fewestChanges_74 _ _ _ _ _ _ _ _ _ _ s hs, s_livingSeatPast d (q (i - 1)) N (N - 1) (-1) hnn hn hS (Or.inl p1) (Or.inr ⟨rfl, rfl⟩), zcI_ok, zcI_ok, zway_s]
    unfold zwst
    have ih := s_ways_loop d s from_ last N q a3 hs hnn hn hS hlast hf hq f (i + 1)
    by_cases x1 : zliv (xas mm) N 1 (q (i - 1)) = (q i : Int)
    · by_cases x2 : zliv (xas mm) N (N - 1) (q (i - 1)) = (q i : Int)
      · have ih2 := ih (zmn v.1 (v.2 + 1), zmn v.2 (v.1 + 1)) (by omega) (by omega) m1 m2
        rw [if_pos x1, if_pos x1, if_pos x2, zb_X8_fewestChanges_99 _ _ _ _ _ _ _ _ _ _ _ s hs, if_pos x2, if_neg (by decide), zw_id (x := v.2 + 1) (by omega) (by omega), s_min, zcI_ok, zb_X8_fewestChanges_125 _ _ _ _ _ _ _ _ _ _ _ _ s hs, if_neg (by decide), zw_id (x := v.1 + 1) (by omega) (by omega), s_min, zcI_ok, zb_X8_fewestChanges_146 _ _ _ _ _ _ _ _ _ _ _ _ _ s hs, zw_inc i (by omega)]
        exact zR_weak (by repeat first | exact zle_nil | apply zle_c | apply zle_n) ih2
      · have ih2 := ih (zmn v.1 (v.2 + 1), 13) (by omega) (by omega) m1 (by simp)
        rw [if_pos x1, if_pos x1, if_neg x2, zb_X8_fewestChanges_99 _ _ _ _ _ _ _ _ _ _ _ s hs, if_neg x2, if_neg (by decide), zw_id (x := v.2 + 1) (by omega) (by omega), s_min, zcI_ok, zb_X8_fewestChanges_125 _ _ _ _ _ _ _ _ _ _ _ _ s hs, if_pos rfl, zw_inc i (by omega)]
        exact zR_weak (by repeat first | exact zle_nil | apply zle_c | apply zle_n) ih2
    · by_cases x2 : zliv (xas mm) N (N - 1) (q (i - 1)) = (q i : Int)
      · have ih2 := ih (13, zmn v.2 (v.1 + 1)) (by omega) (by omega) (by simp) m2
        rw [if_neg x1, if_neg x1, if_pos x2, zb_X8_fewestChanges_99 _ _ _ _ _ _ _ _ _ _ _ s hs, if_pos x2, if_pos rfl, zw_id (x := v.1 + 1) (by omega) (by omega), s_min, zcI_ok, zb_X8_fewestChanges_146 _ _ _ _ _ _ _ _ _ _ _ _ _ s hs, zw_inc i (by omega)]
        exact zR_weak (by repeat first | exact zle_nil | apply zle_c | apply zle_n) ih2
      · have ih2 := ih (13, 13) (by omega) (by omega) (by simp) (by simp)
        rw [if_neg x1, if_neg x1, if_neg x2, zb_X8_fewestChanges_99 _ _ _ _ _ _ _ _ _ _ _ s hs, if_neg x2, if_pos rfl, zw_inc i (by omega)]
        exact zR_weak (by repeat first | exact zle_nil | apply zle_c | apply zle_n) ih2
theorem s_fewestChanges (d s from_ n N : Nat) (q : Nat → Nat) (hs : s < 4) (hnn : mm 6 3 = N) (hn : xN mm) (hS : zSe (mm 11) (mm 6 3)) (hlast : from_ + n ≤ 24) (h1 : 1 ≤ n) (hq : ∀ i, from_ ≤ i → i < from_ + n → q i < N ∧ mm 11 (q i) = mm (38 + 2 * s) i) : zL (d + 4) 124 [.inr (.inr 0), .inr (.inr (37 + 2 * s)), .inl from_, .inl n] SH mm = zok (if zmn (zway (xas mm) N 13 q (n - 1) (from_ + 1) (0, 0)).1 (zway (xas mm) N 13 q (n - 1) (from_ + 1) (0, 0)).2 < 13 then zmn (zway (xas mm) N 13 q (n - 1) (from_ + 1) (0, 0)).1 (zway (xas mm) N 13 q (n - 1) (from_ + 1) (0, 0)).2 else -4) mm := by
  have h := s_ways_loop (mm := mm) d s from_ (from_ + n) N q n hs hnn hn hS hlast (by rw [zw_id (by omega) (by omega)]; omega) (fun i a b => ⟨(hq i a b).1, rfl, (hq i a b).2⟩) (n - 1) (from_ + 1) (0, 0) (by omega) (by omega) (by simp) (by simp)
  rw [ze_X8_fewestChanges, zb_X8_fewestChanges_0 _ _ _ s hs, zw_inc from_ (by omega)]
  exact h
end
