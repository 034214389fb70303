/-- a row of the memory, all of it -/
def zur (m : zMm) (k : Nat) (R : Nat → Int) : zMm := fun a => if a = k then R else m a
/-- one of a row -/
def zset (R : Nat → Int) (j : Nat) (v : Int) : Nat → Int := fun i => if i = j then v else R i
theorem zur_s (m : zMm) (k : Nat) (R : Nat → Int) : zur m k R k = R := if_pos rfl
theorem zur_k (m : zMm) {k a : Nat} (R : Nat → Int) (h : a ≠ k) : zur m k R a = m a := if_neg h
theorem zur_id (m : zMm) (k : Nat) : zur m k (m k) = m := by
  funext a
  unfold zur
  split
  · rename_i h; rw [h]
  · rfl
theorem zu_zur (m : zMm) (k j : Nat) (R : Nat → Int) (v : Int) : zu (zur m k R) k j v = zur m k (zset R j v) := by
  funext a b
  unfold zu zur zset
  by_cases h : a = k
  · subst h
    by_cases q : b = j <;> simp [q]
  · simp [h]
theorem zset_s (R : Nat → Int) (j : Nat) (v : Int) : zset R j v j = v := if_pos rfl
theorem zset_j (R : Nat → Int) {j i : Nat} (v : Int) (h : i ≠ j) : zset R j v i = R i := if_neg h
/-- all are so -/
def zall (P : Nat → Bool) : Nat → Bool
  | 0 => true
  | n + 1 => zall P n && P n
theorem zall_f {P : Nat → Bool} {i : Nat} (h : P i = false) : ∀ {n : Nat}, i < n → zall P n = false
  | n + 1, hn => by
    by_cases q : i = n
    · subst q
      unfold zall
      rw [h, Bool.and_false]
    · unfold zall
      rw [zall_f h (show i < n by omega), Bool.false_and]
theorem zall_i {P : Nat → Bool} : ∀ {n : Nat}, zall P n = true ↔ ∀ j, j < n → P j = true
  | 0 => by simp [zall]
  | n + 1 => by
    unfold zall
    rw [Bool.and_eq_true, zall_i]
    constructor
    · intro h j hj
      by_cases q : j = n
      · rw [q]; exact h.2
      · exact h.1 j (by omega)
    · intro h
      exact ⟨fun j hj => h j (by omega), h n (by omega)⟩
/-- a byte of a long -/
def zby (x : Int) (i : Nat) : Int := zand (zw (zlshr x (8 * i))) 255
def zbok (x : Int) (i : Nat) : Bool := decide (32 ≤ zby x i) && decide (zby x i ≤ 126)
/-- the tape -/
def xT (mm : zMm) : Prop := 0 ≤ mm 29 2 ∧ mm 29 2 ≤ 80 ∧ ∀ i : Nat, (i : Int) < mm 29 2 → 32 ≤ mm 30 i ∧ mm 30 i ≤ 126
/-- a text put behind a tape, m bytes of it -/
def ztp (mm : zMm) (T C c : Nat) (x : Int) (n L m : Nat) : zMm := fun k j => if k = T ∧ L ≤ j ∧ j < L + m then zby x (n - 1 - (j - L)) else if k = C ∧ j = c then ((L + m : Nat) : Int) else mm k j
theorem ztp_s {mm : zMm} {T C c : Nat} {x : Int} {n L m : Nat} (h : T ≠ C) : zu (zu (ztp mm T C c x n L m) T (L + m) (zby x (n - 1 - m))) C c ((L + m + 1 : Nat) : Int) = ztp mm T C c x n L (m + 1) := by
  funext k j
  unfold zu ztp
  by_cases k1 : k = C
  · subst k1
    by_cases q : j = c
    · subst q
      simp [Ne.symm h, Nat.add_assoc]
    · simp [Ne.symm h, q]
  · by_cases k2 : k = T
    · subst k2
      by_cases q : j = L + m
      · subst q
        simp [k1, show L + m - L = m by omega]
      · by_cases r : L ≤ j ∧ j < L + m
        · simp [k1, q, r, show j < L + (m + 1) by omega]
        · simp [k1, q, r, show ¬ (L ≤ j ∧ j < L + (m + 1)) by omega]
    · simp [k1, k2]
/-- a book that is typed: the answer, and the row of words -/
def zpb (T : Nat → Int) : Nat → Nat → Nat → (Nat → Int) → Int × (Nat → Int)
  | 0, _, w, R => (w, R)
  | f + 1, i, w, R => if T i = 32 then zpb T f (i + 1) w R else if 97 ≤ T i ∧ T i < 105 ∧ w < 24 then zpb T f (i + 1) (w + 1) (zset R w (T i - 97)) else (-20 - (i : Int), R)
theorem zpb_s (T : Nat → Int) (f i w : Nat) (R : Nat → Int) : zpb T (f + 1) i w R = if T i = 32 then zpb T f (i + 1) w R else if 97 ≤ T i ∧ T i < 105 ∧ w < 24 then zpb T f (i + 1) (w + 1) (zset R w (T i - 97)) else (-20 - (i : Int), R) := rfl
/-- a tongue that is typed -/
def zpt (T : Nat → Int) (n : Nat) : Nat → Nat → Nat → Int → Int → (Nat → Int) → Int × (Nat → Int)
  | 0, _, w, _, b, R => (if b = 0 then -20 - (n : Int) else w + 1, R)
  | f + 1, i, w, l, b, R => if T i = 32 then zpt T n f (i + 1) w l b R else if T i = 59 ∧ b ≠ 0 ∧ w < 7 then zpt T n f (i + 1) (w + 1) 0 0 (zset R (w + 1) 0) else if T i = 45 ∧ b = 0 then zpt T n f (i + 1) w 8 1 R else if l ≤ T i - 97 ∧ T i - 97 < 8 then zpt T n f (i + 1) w (T i - 97 + 1) 1 (zset R w (zor (R w) (zshl 1 (T i - 97)))) else (-20 - (i : Int), R)
theorem zpt_s (T : Nat → Int) (n f i w : Nat) (l b : Int) (R : Nat → Int) : zpt T n (f + 1) i w l b R = if T i = 32 then zpt T n f (i + 1) w l b R else if T i = 59 ∧ b ≠ 0 ∧ w < 7 then zpt T n f (i + 1) (w + 1) 0 0 (zset R (w + 1) 0) else if T i = 45 ∧ b = 0 then zpt T n f (i + 1) w 8 1 R else if l ≤ T i - 97 ∧ T i - 97 < 8 then zpt T n f (i + 1) w (T i - 97 + 1) 1 (zset R w (zor (R w) (zshl 1 (T i - 97)))) else (-20 - (i : Int), R) := rfl
section
variable {mm : zMm}
theorem s_byteOf (d : Nat) (x : Int) (i : Nat) (hi : i < 8) : zL (d + 1) 51 [.inr (.inl x), .inl i] SH mm = zok (zby x i) mm := by
  rw [ze_X5_byteOf, zb_X5_byteOf_0, zw_id (x := 8 * (i : Int)) (by omega) (by omega)]
  rfl
theorem s_canHold (d : Nat) (x : Int) (n : Nat) (hn : n ≤ 8) : zL (d + 2) 52 [.inr (.inl x), .inl n] SH mm = zok (if zall (zbok x) n then 1 else 0) mm := by
  rw [ze_X5_canHold, zb_X5_canHold_0]
  refine (zup (P := fun i => zall (zbok x) i = true → zR (d + 1) 52 2 [some (.inr (.inl x)), none, some (.inl (n : Int)), some (.inl (i : Int))] [] SH mm = zok (if zall (zbok x) n then 1 else 0) mm) (n := n) ?_ ?_ 0 (by omega)) rfl
  · intro h
    rw [zb_X5_canHold_2, if_neg (by omega), h]
    rfl
  · intro i hi ih hl
    have e1 : zw ((i : Int) + 1) = ((i + 1 : Nat) : Int) := by rw [zw_id (by omega) (by omega)]; omega
    rw [zb_X5_canHold_2, if_pos (by omega), s_byteOf d x i (by omega), zcI_ok, zb_X5_canHold_12]
    by_cases c1 : zby x i < 32
    · rw [if_pos c1, zall_f (show zbok x i = false by unfold zbok; simp; omega) hi]
      rfl
    · rw [if_neg c1, s_byteOf d x i (by omega), zcI_ok, zb_X5_canHold_22]
      by_cases c2 : 126 < zby x i
      · rw [if_pos c2, zall_f (show zbok x i = false by unfold zbok; simp; omega) hi]
        rfl
      · rw [if_neg c2, e1]
        refine ih ?_
        unfold zall
        rw [hl]
        unfold zbok
        simp
        omega
theorem s_tappend (d : Nat) (x : Int) (n : Nat) (h1 : 1 ≤ n) (h8 : n ≤ 8) (hT : 0 ≤ mm 29 2 ∧ mm 29 2 ≤ 80) : zL (d + 2) 53 [.inr (.inr 29), .inr (.inl x), .inl n] SH mm = if mm 29 2 + n ≤ 80 then zok (mm 29 2 + n) (ztp mm 30 29 2 x n (mm 29 2).toNat n) else zok (-3) mm := by
  rw [ze_X5_append, zb_X5_append_0, if_neg (by omega), zw_id (x := 80 - (n : Int)) (by omega) (by omega), zw_id (by omega) (by omega)]
  by_cases c : mm 29 2 + n ≤ 80
  · rw [if_pos c, if_neg (by omega)]
    have key : ∀ (f m : Nat), m + f = n → zR (d + 1) 53 26 [some (.inr (.inr 29)), some (.inr (.inl x)), none, none, some (.inl ((f : Int) - 1))] [] SH (ztp mm 30 29 2 x n (mm 29 2).toNat m) = zok (mm 29 2 + n) (ztp mm 30 29 2 x n (mm 29 2).toNat n) := by
      intro f
      induction f with
      | zero =>
        intro m h
        obtain rfl : m = n := by omega
        rw [zb_X5_append_26, if_pos (by decide)]
        have : ztp mm 30 29 2 x m (mm 29 2).toNat m 29 2 = (((mm 29 2).toNat + m : Nat) : Int) := by unfold ztp; simp
        rw [this]
        congr 1
        omega
      | succ f ih =>
        intro m h
        have e0 : ((f + 1 : Nat) : Int) - 1 = (f : Nat) := by omega
        have e2 : ztp mm 30 29 2 x n (mm 29 2).toNat m 29 2 = (((mm 29 2).toNat + m : Nat) : Int) := by unfold ztp; simp
        rw [e0, zb_X5_append_26, if_neg (by omega), e2, if_pos (by omega), s_byteOf d x f (by omega), zcI_ok, zb_X5_append_54, if_pos (by omega), e2, Int.toNat_natCast, zw_id (by omega) (by omega), zw_id (by omega) (by omega)]
        have e3 : zby x f = zby x (n - 1 - m) := by rw [show n - 1 - m = f by omega]
        have e4 : (((mm 29 2).toNat + m : Nat) : Int) + 1 = (((mm 29 2).toNat + m + 1 : Nat) : Int) := by omega
        rw [e3, e4, ztp_s (by decide)]
        exact ih (m + 1) (by omega)
    have e5 : ztp mm 30 29 2 x n (mm 29 2).toNat 0 = mm := by
      funext k j
      unfold ztp
      by_cases q : k = 29 ∧ j = 2
      · rw [q.1, q.2]
        simp
        omega
      · rw [if_neg (by omega), if_neg q]
    have k0 := key n 0 (by omega)
    rw [e5] at k0
    exact zR_weak (by repeat first | exact zle_nil | apply zle_c | apply zle_n) k0
  · rw [if_neg c, if_pos (by omega)]
theorem s_setParsed (d w : Nat) (v : Int) (R : Nat → Int) (hw : w < 24) : zL (d + 1) 55 [.inr (.inr 29), .inl w, .inl v] SH (zur mm 31 R) = zvd (zur mm 31 (zset R w v)) := by
  rw [ze_X5_setParsed, zb_X5_setParsed_0]
  simp (disch := omega) only [if_pos, if_neg, Int.toNat_natCast, zu_zur]
theorem s_parsedAt (d w : Nat) (hw : w < 24) : zL (d + 1) 54 [.inr (.inr 29), .inl w] SH mm = zok (mm 31 w) mm := by
  rw [ze_X5_parsedAt, zb_X5_parsedAt_0]
  simp (disch := omega) only [if_pos, if_neg, Int.toNat_natCast]
theorem s_parseBook_loop (d : Nat) (hT : xT mm) : ∀ (f i w : Nat) (R : Nat → Int), i + f = (mm 29 2).toNat → w ≤ 24 → zR (d + 1) 57 4 [some (.inr (.inr 29)), some (.inl (w : Int)), some (.inl (i : Int)), none] [] SH (zur mm 31 R) = zok (zpb (mm 30) f i w R).1 (zur mm 31 (zpb (mm 30) f i w R).2)
  | 0, i, w, R, h, hw => by
    have m29 : zur mm 31 R 29 = mm 29 := zur_k _ _ (by decide)
    rw [zb_X5_parseBook_4, m29, if_neg (by omega)]
    rfl
  | f + 1, i, w, R, h, hw => by
    obtain ⟨t0, t80, tb⟩ := hT
    have hx := tb i (by omega)
    have m29 : zur mm 31 R 29 = mm 29 := zur_k _ _ (by decide)
    have m30 : zur mm 31 R 30 = mm 30 := zur_k _ _ (by decide)
    have e1 : zw ((i : Int) + 1) = ((i + 1 : Nat) : Int) := by rw [zw_id (by omega) (by omega)]; omega
    have e2 : zw ((w : Int) + 1) = ((w + 1 : Nat) : Int) := by rw [zw_id (by omega) (by omega)]; omega
    rw [zb_X5_parseBook_4, m29, m30, Int.toNat_natCast, e1, zw_id (x := mm 30 i - 97) (by omega) (by omega), if_pos (by omega), if_pos (by omega), if_pos (by omega), if_pos (by omega), zpb_s]
    by_cases c1 : mm 30 i = 32
    · rw [if_pos c1, if_pos c1]
      exact zR_weak (by repeat first | exact zle_nil | apply zle_c | apply zle_n) (s_parseBook_loop d ⟨t0, t80, tb⟩ f (i + 1) w R (by omega) hw)
    · rw [if_neg c1, if_neg c1, s_isWord, zcI_ok, zb_X5_parseBook_46, zw_id (by omega) (by omega)]
      by_cases c2 : 97 ≤ mm 30 i ∧ mm 30 i < 105
      · rw [if_pos (show 0 ≤ mm 30 i - 97 ∧ mm 30 i - 97 < 8 by omega), if_neg (by decide)]
        by_cases c3 : w < 24
        · rw [if_pos (by omega), if_pos ⟨c2.1, c2.2, c3⟩, s_setParsed d w _ R c3, zcV_vd, zb_X5_parseBook_66, e1, e2]
          exact zR_weak (by repeat first | exact zle_nil | apply zle_c | apply zle_n) (s_parseBook_loop d ⟨t0, t80, tb⟩ f (i + 1) (w + 1) _ (by omega) (by omega))
        · rw [if_neg (by omega), if_neg (by omega)]
      · rw [if_neg (show ¬ (0 ≤ mm 30 i - 97 ∧ mm 30 i - 97 < 8) by omega), if_pos rfl, if_neg (by omega)]
theorem s_parseBook (d : Nat) (hT : xT mm) : zL (d + 2) 57 [.inr (.inr 29)] SH mm = zok (zpb (mm 30) (mm 29 2).toNat 0 0 (mm 31)).1 (zur mm 31 (zpb (mm 30) (mm 29 2).toNat 0 0 (mm 31)).2) := by
  have h := s_parseBook_loop (mm := mm) d hT (mm 29 2).toNat 0 0 (mm 31) (by omega) (by omega)
  rw [zur_id] at h
  rw [ze_X5_parseBook, zb_X5_parseBook_0]
  exact h
theorem s_parseTongue_loop (d : Nat) (hT : xT mm) : ∀ (f i w : Nat) (l b : Int) (R : Nat → Int), i + f = (mm 29 2).toNat → w ≤ 7 → 0 ≤ l → l ≤ 8 → zR (d + 1) 56 15 [some (.inr (.inr 29)), some (.inl (w : Int)), some (.inl l), some (.inl b), some (.inl (i : Int)), none] [] SH (zur mm 31 R) = zok (zpt (mm 30) (mm 29 2).toNat f i w l b R).1 (zur mm 31 (zpt (mm 30) (mm 29 2).toNat f i w l b R).2)
  | 0, i, w, l, b, R, h, hw, hl0, hl8 => by
    obtain ⟨t0, t80, tb⟩ := hT
    have m29 : zur mm 31 R 29 = mm 29 := zur_k _ _ (by decide)
    rw [zb_X5_parseTongue_15, m29, if_neg (by omega), zw_id (x := (w : Int) + 1) (by omega) (by omega), zw_id (by omega) (by omega)]
    unfold zpt
    rw [Int.toNat_of_nonneg t0]
    by_cases c : b = 0
    · rw [if_pos c, if_pos c]
    · rw [if_neg c, if_neg c]
  | f + 1, i, w, l, b, R, h, hw, hl0, hl8 => by
    obtain ⟨t0, t80, tb⟩ := hT
    have hx := tb i (by omega)
    have m29 : zur mm 31 R 29 = mm 29 := zur_k _ _ (by decide)
    have m30 : zur mm 31 R 30 = mm 30 := zur_k _ _ (by decide)
    have e1 : zw ((i : Int) + 1) = ((i + 1 : Nat) : Int) := by rw [zw_id (by omega) (by omega)]; omega
    have e2 : zw ((w : Int) + 1) = ((w + 1 : Nat) : Int) := by rw [zw_id (by omega) (by omega)]; omega
    have e3 : zw (mm 30 i - 97) = mm 30 i - 97 := zw_id (by omega) (by omega)
    have e4 : zw (-20 - (i : Int)) = -20 - (i : Int) := zw_id (by omega) (by omega)
    have ih := s_parseTongue_loop d ⟨t0, t80, tb⟩ f (i + 1)
    rw [zb_X5_parseTongue_15, m29, m30, Int.toNat_natCast, e1, e2, e3, e4, zpt_s]
    by_cases c1 : mm 30 i = 32
    · rw [if_pos c1]
      simp (disch := omega) only [if_pos, if_neg]
      exact zR_weak (by repeat first | exact zle_nil | apply zle_c | apply zle_n) (ih w l b R (by omega) hw hl0 hl8)
    · rw [if_neg c1]
      by_cases c2 : mm 30 i = 59 ∧ b ≠ 0 ∧ w < 7
      · rw [if_pos c2]
        simp (disch := omega) only [if_pos, if_neg]
        rw [s_setParsed d (w + 1) _ R (by omega), zcV_vd, zb_X5_parseTongue_89, e1]
        exact zR_weak (by repeat first | exact zle_nil | apply zle_c | apply zle_n) (ih (w + 1) 0 0 _ (by omega) (by omega) (by omega) (by omega))
      · rw [if_neg c2]
        by_cases c3 : mm 30 i = 45 ∧ b = 0
        · rw [if_pos c3]
          simp (disch := omega) only [if_pos, if_neg]
          exact zR_weak (by repeat first | exact zle_nil | apply zle_c | apply zle_n) (ih w 8 1 R (by omega) hw (by omega) (by omega))
        · rw [if_neg c3]
          by_cases c4 : l ≤ mm 30 i - 97 ∧ mm 30 i - 97 < 8
          · rw [if_pos c4]
            simp (disch := omega) only [if_pos, if_neg]
            rw [s_parsedAt d w (by omega), zcI_ok, zb_X5_parseTongue_140, zur_s, s_setParsed d w _ R (by omega), zcV_vd, zb_X5_parseTongue_148, e1, zw_id (by omega) (by omega)]
            exact zR_weak (by repeat first | exact zle_nil | apply zle_c | apply zle_n) (ih w _ 1 _ (by omega) hw (by omega) (by omega))
          · rw [if_neg c4]
            by_cases q1 : mm 30 i = 59
            · by_cases q2 : b = 0
              · simp (disch := omega) only [if_pos, if_neg]
              · simp (disch := omega) only [if_pos, if_neg]
            · by_cases q3 : mm 30 i = 45
              · simp (disch := omega) only [if_pos, if_neg]
              · by_cases q4 : mm 30 i - 97 < l
                · simp (disch := omega) only [if_pos, if_neg]
                · simp (disch := omega) only [if_pos, if_neg]
theorem s_parseTongue (d : Nat) (hT : xT mm) : zL (d + 2) 56 [.inr (.inr 29)] SH mm = zok (zpt (mm 30) (mm 29 2).toNat (mm 29 2).toNat 0 0 0 0 (zset (mm 31) 0 0)).1 (zur mm 31 (zpt (mm 30) (mm 29 2).toNat (mm 29 2).toNat 0 0 0 0 (zset (mm 31) 0 0)).2) := by
  have h := s_parseTongue_loop (mm := mm) d hT (mm 29 2).toNat 0 0 0 0 (zset (mm 31) 0 0) (by omega) (by omega) (by omega) (by omega)
  have h2 := s_setParsed (mm := mm) d 0 0 (mm 31) (by omega)
  rw [zur_id] at h2
  rw [ze_X5_parseTongue, zb_X5_parseTongue_0]
  refine (congrArg (fun r => zcV r _) h2).trans ?_
  rw [zcV_vd, zb_X5_parseTongue_12]
  exact h
end
