/-- far off in both ways of counting, or the same -/
def zwr (j : Nat) (x y : Int) : Prop := (x = y ∧ 0 ≤ x ∧ x ≤ j) ∨ (x = 13 ∧ y = 1000)
theorem zwr_s {j : Nat} (hj : j ≤ 11) {a b c e : Int} (h1 : zwr j a b) (h2 : zwr j c e) : zwr (j + 1) (zmn a (c + 1)) (zmn b (e + 1)) := by
  unfold zwr zmn at *
  (repeat' split) <;> omega
theorem zwr_w {j : Nat} {a b : Int} (h : zwr j a b) : zwr (j + 1) a b := by
  unfold zwr at *
  omega
theorem zway_r (al : Nat → Bool) (N : Nat) (q : Nat → Nat) : ∀ (f i j : Nat) (v u : Int × Int), f + j ≤ 12 → zwr j v.1 u.1 → zwr j v.2 u.2 → zwr (j + f) (zway al N 13 q f i v).1 (zway al N 1000 q f i u).1 ∧ zwr (j + f) (zway al N 13 q f i v).2 (zway al N 1000 q f i u).2
  | 0, i, j, v, u, h, h1, h2 => ⟨h1, h2⟩
  | f + 1, i, j, v, u, h, h1, h2 => by
    rw [zway_s, zway_s, show j + (f + 1) = j + 1 + f by omega]
    refine zway_r al N q f (i + 1) (j + 1) _ _ (by omega) ?_ ?_
    · unfold zwst
      show zwr (j + 1) (if _ then _ else _) (if _ then _ else _)
      by_cases c : zliv al N 1 (q (i - 1)) = (q i : Int)
      · rw [if_pos c, if_pos c]
        exact zwr_s (by omega) h1 h2
      · rw [if_neg c, if_neg c]
        exact Or.inr ⟨rfl, rfl⟩
    · unfold zwst
      show zwr (j + 1) (if _ then _ else _) (if _ then _ else _)
      by_cases c : zliv al N (N - 1) (q (i - 1)) = (q i : Int)
      · rw [if_pos c, if_pos c]
        exact zwr_s (by omega) h2 h1
      · rw [if_neg c, if_neg c]
        exact Or.inr ⟨rfl, rfl⟩
section
variable {m mm : zMm}
theorem t_ways_loop (d at_ from_ n N : Nat) (q : Nat → Nat) (hN : mm 6 3 = N) (hat : at_ + n ≤ 96) (hr : mR m mm) (hI : xI mm) (hq : ∀ k, k < n → q (from_ + k) < N ∧ xas mm (q (from_ + k)) = true ∧ m 67 (at_ + k) = mm 11 (q (from_ + k))) : ∀ (f k : Nat) (v : Int × Int), k + f = n → 1 ≤ k → (0 ≤ v.1 ∧ v.1 ≤ 1000) → (0 ≤ v.2 ∧ v.2 ≤ 1000) →
    zR (d + 1) 194 8 [some (.inr (.inr 45)), some (.inl (at_ : Int)), some (.inl (n : Int)), some (.inl v.1), some (.inl v.2), some (.inl (k : Int)), none, none, none, none] [] SH m = zok (if zmn (zway (xas mm) N 1000 q f (from_ + k) v).1 (zway (xas mm) N 1000 q f (from_ + k) v).2 < 1000 then zmn (zway (xas mm) N 1000 q f (from_ + k) v).1 (zway (xas mm) N 1000 q f (from_ + k) v).2 else -4) m
  | 0, k, v, h, h2, h3, h4 => by
    rw [zb_X9_changesOf_8, if_neg (by omega)]
    unfold zway zmn
    (repeat' split) <;> first | rfl | (exfalso; omega) | (congr 1; omega)
  | f + 1, k, v, h, h2, h3, h4 => by
    have hn6 := hI.ce.2.1
    obtain ⟨p1, p2, p3⟩ := hq (k - 1) (by omega)
    obtain ⟨q1, q2, q3⟩ := hq k (by omega)
    rw [show from_ + (k - 1) = from_ + k - 1 by omega] at p1 p2 p3
    have c1 := hI.se.1 (q (from_ + k - 1)) (by omega)
    have c2 := hI.se.1 (q (from_ + k)) (by omega)
    obtain ⟨t1, a1, a2, a3⟩ := zliv_al (al := xas mm) (k := zstep1 0 N) p1 p2
    obtain ⟨t2, b1, b2, b3⟩ := zliv_al (al := xas mm) (k := zstep1 1 N) p1 p2
    have m1 := zmn_r (a := v.1) (b := v.2 + 1) (m := 1000) h3 (by omega)
    have m2 := zmn_r (a := v.2) (b := v.1 + 1) (m := 1000) h4 (by omega)
    have ih := t_ways_loop d at_ from_ n N q hN hat hr hI hq f (k + 1)
    have n1 := t_nextSeat (m := m) (mm := mm) d (q (from_ + k - 1)) N t1 0 (Or.inl rfl) hN p1 a1 hr hI
    have n2 := t_nextSeat (m := m) (mm := mm) d (q (from_ + k - 1)) N t2 1 (Or.inr rfl) hN p1 b1 hr hI
    have a1' : zliv (xas mm) N 1 (q (from_ + k - 1)) = t1 := a1
    have b1' : zliv (xas mm) N (N - 1) (q (from_ + k - 1)) = t2 := b1
    have s1 := t_seatOf (m := m) (mm := mm) d (q (from_ + k - 1)) (mm 11 (q (from_ + k - 1))).toNat hr hI (by omega) (by omega)
    have s2 := t_seatOf (m := m) (mm := mm) d (q (from_ + k)) (mm 11 (q (from_ + k))).toNat hr hI (by omega) (by omega)
    rw [show (((mm 11 (q (from_ + k - 1))).toNat : Nat) : Int) = mm 11 (q (from_ + k - 1)) by omega] at s1
    rw [show (((mm 11 (q (from_ + k))).toNat : Nat) : Int) = mm 11 (q (from_ + k)) by omega] at s2
    have fin : zR (d + 1) 194 89 [some (.inr (.inr 45)), some (.inl (at_ : Int)), some (.inl (n : Int)), some (.inl v.1), some (.inl v.2), some (.inl (k : Int)), some (.inl (q (from_ + k - 1) : Nat)), some (.inl (q (from_ + k) : Nat)), some (.inl (zmn v.1 (v.2 + 1))), some (.inl (zmn v.2 (v.1 + 1)))] [.inl (t1 : Int)] SH m = zok (if zmn (zway (xas mm) N 1000 q (f + 1) (from_ + k) v).1 (zway (xas mm) N 1000 q (f + 1) (from_ + k) v).2 < 1000 then zmn (zway (xas mm) N 1000 q (f + 1) (from_ + k) v).1 (zway (xas mm) N 1000 q (f + 1) (from_ + k) v).2 else -4) m := by
      rw [zway_s]
      unfold zwst
      rw [a1', b1', zb_X9_changesOf_89, n2, zcI_ok, zcI_ok]
      by_cases x1 : (t1 : Int) = (q (from_ + k) : Nat)
      · by_cases x2 : (t2 : Int) = (q (from_ + k) : Nat)
        · have ih2 := ih (zmn v.1 (v.2 + 1), zmn v.2 (v.1 + 1)) (by omega) (by omega) m1 m2
          rw [if_pos x1, if_pos x1, if_pos x2, zb_X9_changesOf_110, if_pos x2, zw_inc k (by omega)]
          exact zR_weak (by repeat first | exact zle_nil | apply zle_c | apply zle_n) ih2
        · have ih2 := ih (zmn v.1 (v.2 + 1), 1000) (by omega) (by omega) m1 (by simp)
          rw [if_pos x1, if_pos x1, if_neg x2, zb_X9_changesOf_110, if_neg x2, zw_inc k (by omega)]
          exact zR_weak (by repeat first | exact zle_nil | apply zle_c | apply zle_n) ih2
      · by_cases x2 : (t2 : Int) = (q (from_ + k) : Nat)
        · have ih2 := ih (1000, zmn v.2 (v.1 + 1)) (by omega) (by omega) (by simp) m2
          rw [if_neg x1, if_neg x1, if_pos x2, zb_X9_changesOf_110, if_pos x2, zw_inc k (by omega)]
          exact zR_weak (by repeat first | exact zle_nil | apply zle_c | apply zle_n) ih2
        · have ih2 := ih (1000, 1000) (by omega) (by omega) (by simp) (by simp)
          rw [if_neg x1, if_neg x1, if_neg x2, zb_X9_changesOf_110, if_neg x2, zw_inc k (by omega)]
          exact zR_weak (by repeat first | exact zle_nil | apply zle_c | apply zle_n) ih2
    rw [zb_X9_changesOf_8, if_pos (by omega), zw_id (x := (at_ : Int) + k) (by omega) (by omega), zw_id (x := (at_ : Int) + k - 1) (by omega) (by omega), if_pos (by omega), show ((at_ : Int) + k - 1).toNat = at_ + (k - 1) by omega, p3, s1, zcI_ok, zb_X9_changesOf_29, zw_id (x := (at_ : Int) + k) (by omega) (by omega), if_pos (by omega), show ((at_ : Int) + k).toNat = at_ + k by omega, q3, s2, zcI_ok, zb_X9_changesOf_44, n1, zcI_ok, zcI_ok, zcI_ok, zcI_ok, zw_id (x := v.2 + 1) (by omega) (by omega), zw_id (x := v.1 + 1) (by omega) (by omega)]
    have z1 : ∀ c, c = zmn v.1 (v.2 + 1) → ∀ e, e = zmn v.2 (v.1 + 1) → zR (d + 1) 194 89 [some (.inr (.inr 45)), some (.inl (at_ : Int)), some (.inl (n : Int)), some (.inl v.1), some (.inl v.2), some (.inl (k : Int)), some (.inl (q (from_ + k - 1) : Nat)), some (.inl (q (from_ + k) : Nat)), some (.inl c), some (.inl e)] [.inl (t1 : Int)] SH m = zok (if zmn (zway (xas mm) N 1000 q (f + 1) (from_ + k) v).1 (zway (xas mm) N 1000 q (f + 1) (from_ + k) v).2 < 1000 then zmn (zway (xas mm) N 1000 q (f + 1) (from_ + k) v).1 (zway (xas mm) N 1000 q (f + 1) (from_ + k) v).2 else -4) m := by
      rintro c rfl e rfl
      exact fin
    clear fin ih s1 s2 n1 n2
    by_cases y1 : v.1 < v.2 + 1
    · rw [if_pos y1]
      by_cases y2 : v.2 < v.1 + 1
      · rw [if_pos y2]
        exact z1 _ (by unfold zmn; rw [if_neg (by omega)]) _ (by unfold zmn; rw [if_neg (by omega)])
      · rw [if_neg y2]
        refine z1 _ (by unfold zmn; rw [if_neg (by omega)]) _ ?_
        unfold zmn
        split <;> omega
    · rw [if_neg y1]
      have e1 : v.2 + 1 = zmn v.1 (v.2 + 1) := by unfold zmn; split <;> omega
      by_cases y2 : v.2 < v.1 + 1
      · rw [if_pos y2]
        exact z1 _ e1 _ (by unfold zmn; rw [if_neg (by omega)])
      · rw [if_neg y2]
        refine z1 _ e1 _ ?_
        unfold zmn
        split <;> omega
end
