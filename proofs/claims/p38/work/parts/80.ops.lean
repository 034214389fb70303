theorem xI_fr {mm mc : zMm} (f : ∀ k, 1 ≤ k → k ≤ 14 → mc k = mm k) (h : xI mm) : xI mc := by
  have h' := h
  unfold xI xP at h' ⊢
  rw [f 1 (by decide) (by decide), f 2 (by decide) (by decide), f 3 (by decide) (by decide), f 4 (by decide) (by decide), f 5 (by decide) (by decide), f 6 (by decide) (by decide), f 7 (by decide) (by decide), f 8 (by decide) (by decide), f 9 (by decide) (by decide), f 10 (by decide) (by decide), f 11 (by decide) (by decide), f 12 (by decide) (by decide), f 13 (by decide) (by decide), f 14 (by decide) (by decide)]
  exact h'
/-- a run comes to an end with a number and a memory that are so -/
def zE (P : Int → zMm → Prop) (r : zRes) : Prop := ∃ x M, r = zok x M ∧ P x M
section
variable {P : Int → zMm → Prop}
theorem zE.c {a : zRes} {x : Int} {mm : zMm} {f : Int → List zSh → zMm → zRes} (h : a = zok x mm) (k : zE P (f x SH mm)) : zE P (zcI a f) := by rw [h]; exact k
theorem zE.v {a : zRes} {mm : zMm} {f : List zSh → zMm → zRes} (h : a = zvd mm) (k : zE P (f SH mm)) : zE P (zcV a f) := by rw [h]; exact k
theorem zE.e {a b : zRes} (h : a = b) (k : zE P b) : zE P a := h ▸ k
theorem zE.p {c : Prop} [Decidable c] {a b : zRes} (h : c) (k : zE P a) : zE P (if c then a else b) := by rw [if_pos h]; exact k
theorem zE.n {c : Prop} [Decidable c] {a b : zRes} (h : ¬ c) (k : zE P b) : zE P (if c then a else b) := by rw [if_neg h]; exact k
theorem zE.i {c : Prop} [Decidable c] {a b : zRes} (h1 : c → zE P a) (h2 : ¬ c → zE P b) : zE P (if c then a else b) := by
  by_cases h : c
  · rw [if_pos h]; exact h1 h
  · rw [if_neg h]; exact h2 h
theorem zE.w {d i pc : Nat} {ls ls' : zLs} {st : List zV} {sh : List zSh} {mm : zMm} (hl : zle ls ls') (h : zE P (zR d i pc ls st sh mm)) : zE P (zR d i pc ls' st sh mm) := by
  obtain ⟨x, M, h1, h2⟩ := h
  exact ⟨x, M, zR_weak hl h1, h2⟩
theorem zE.o {x : Int} {M : zMm} (h : P x M) : zE P (zok x M) := ⟨x, M, rfl, h⟩
end
theorem o_some (d : Nat) (v n : Int) (hn : 0 < n ∧ n < 2147483648) (mm : zMm) : ∃ x, zL (d + 1) 90 [.inl v, .inl n] SH mm = zok x mm ∧ 0 ≤ x ∧ x < n := by
  refine ⟨zrem (zand v 2147483647) n, ?_, ?_⟩
  · rw [ze_L_some, zb_L_some_0, if_neg (by omega)]
  · rw [zand_low, zrem_n (by omega) (by omega) hn.1 hn.2]
    exact ⟨Int.emod_nonneg _ (by omega), Int.emod_lt_of_pos _ hn.1⟩
theorem o_cell1 (d : Nat) (k : Int) (mm : zMm) (hk : 0 ≤ k) (hs : ∀ j, zr32 (mm 999 j)) : ∃ x, zL (d + 1) 89 [.inr (.inr 999), .inl k] SH mm = zok x mm ∧ zr32 x := by
  by_cases h : k < mm 998 0
  · exact ⟨mm 999 k.toNat, by rw [ze_L_cell, zb_L_cell_0, if_pos h, if_pos ⟨hk, h⟩], hs _⟩
  · exact ⟨_, by rw [ze_L_cell, zb_L_cell_0, if_neg h], zw_r _⟩
section
variable {mm : zMm}
theorem o_follow (d w : Nat) (b : Int) (hw : w < 8) (hb : 0 ≤ b ∧ b ≤ 255) : zL (d + 20) 59 [.inr (.inr 0), .inl w, .inl b] SH mm = zok (mm 3 w) (zu mm 3 w b) := by
  rw [ze_X8_follow, zb_X8_follow_0, s_isWord, zcI_ok, zb_X8_follow_4, if_pos (show 0 ≤ (w : Int) ∧ (w : Int) < 8 by omega), if_neg (by decide), if_neg (by omega), if_neg (by omega), s_changeFollowing _ w b (by omega), zcI_ok, zb_X8_follow_32]
theorem I_follow {w : Nat} {b : Int} (hI : xI mm) (hb : 0 ≤ b ∧ b ≤ 255) : xI (zu mm 3 w b) :=
  ⟨(by first | exact hI.ce | (simp (disch := decide) only [zu_k, zu_j]; exact hI.ce)), (by
    obtain ⟨t1, t2, t3, t4⟩ := hI.tg
    simp (disch := decide) only [zu_k, zu_j]
    refine ⟨t1, t2, fun x hx => ?_, t4⟩
    by_cases q : x = w
    · subst q
      rw [zu_s]
      omega
    · rw [zu_j _ _ q]
      exact t3 x hx), (by first | exact hI.tl | (simp (disch := decide) only [zu_k, zu_j]; exact hI.tl)), (by first | exact hI.se | (simp (disch := decide) only [zu_k, zu_j]; exact hI.se)), (by first | exact hI.st | (simp (disch := decide) only [zu_k, zu_j]; exact hI.st)), (by first | exact hI.bk | (simp (disch := decide) only [zu_k, zu_j]; exact hI.bk)), (by first | exact hI.pg | (unfold xP; simp (disch := decide) only [zu_k, zu_j]; exact hI.pg)), (by first | exact hI.wr | (simp (disch := decide) only [zu_k, zu_j]; exact hI.wr)), (by first | exact hI.wo | (simp (disch := decide) only [zu_k, zu_j]; exact hI.wo)), (by first | exact hI.dd | (simp (disch := decide) only [zu_k, zu_j]; exact hI.dd)), (by first | exact hI.lt | (simp (disch := decide) only [zu_k, zu_j]; exact hI.lt))⟩
theorem o_line (d : Nat) (a b : Int) (hr : zrow a b 4 = true) (hI : xI mm) (h6 : mm 2 3 < 6) : zL (d + 20) 60 [.inr (.inr 0), .inl a, .inl b] SH mm = zok (mm 2 3) (zu (zu (zu mm 4 (mm 2 3).toNat a) 5 (mm 2 3).toNat b) 2 3 (mm 2 3 + 1)) := by
  have ht := hI.tg
  rw [ze_X8_line, zb_X8_line_0, s_isRowOfWords _ _ _ 4 (by decide), zcI_ok, zb_X8_line_6, hr, if_pos rfl, if_neg (by decide), s_appendLine _ a b ⟨ht.1, ht.2.1⟩, if_pos h6, zcI_ok, zb_X8_line_23]
theorem I_line {a b : Int} (hr : zrow a b 4 = true) (hI : xI mm) (h6 : mm 2 3 < 6) : xI (zu (zu (zu mm 4 (mm 2 3).toNat a) 5 (mm 2 3).toNat b) 2 3 (mm 2 3 + 1)) := by
  have ht := hI.tg
  have ht0 := ht.1
  have c2 := hr
  unfold zrow at c2
  simp only [decide_eq_true_eq] at c2
  have h4096 : 8 ^ b.toNat ≤ 4096 := by
    have : ∀ n, n < 5 → 8 ^ n ≤ 4096 := by decide
    exact this _ (by omega)
  exact ⟨(by first | exact hI.ce | (simp (disch := decide) only [zu_k, zu_j]; exact hI.ce)), (by
    obtain ⟨t1, t2, t3, t4⟩ := ht
    simp (disch := decide) only [zu_k, zu_j, zu_s]
    refine ⟨by omega, by omega, t3, fun i hi => ?_⟩
    by_cases q : i = (mm 2 3).toNat
    · rw [q, zu_s, zu_s]
      omega
    · rw [zu_j _ _ q, zu_j _ _ q]
      exact t4 i (by omega)), (by
    simp (disch := decide) only [zu_k, zu_j, zu_s]
    intro i hi
    by_cases q : i = (mm 2 3).toNat
    · rw [q, zu_s, zu_s]
      exact c2.2.2.2
    · rw [zu_j _ _ q, zu_j _ _ q]
      exact hI.tl i (by have := ht.1; omega)), (by first | exact hI.se | (simp (disch := decide) only [zu_k, zu_j]; exact hI.se)), (by first | exact hI.st | (simp (disch := decide) only [zu_k, zu_j]; exact hI.st)), (by first | exact hI.bk | (simp (disch := decide) only [zu_k, zu_j]; exact hI.bk)), (by first | exact hI.pg | (unfold xP; simp (disch := decide) only [zu_k, zu_j]; exact hI.pg)), (by first | exact hI.wr | (simp (disch := decide) only [zu_k, zu_j]; exact hI.wr)), (by first | exact hI.wo | (simp (disch := decide) only [zu_k, zu_j]; exact hI.wo)), (by first | exact hI.dd | (simp (disch := decide) only [zu_k, zu_j]; exact hI.dd)), (by first | exact hI.lt | (simp (disch := decide) only [zu_k, zu_j]; exact hI.lt))⟩
theorem o_weight (d c w : Nat) (v : Int) (hI : xI mm) (hc : (c : Int) < mm 6 3) (hw : w < 8) (hv : 0 ≤ v ∧ v ≤ 9) : zL (d + 20) 62 [.inr (.inr 0), .inl c, .inl w, .inl v] SH mm = zok (mm 9 (8 * c + w)) (zu mm 9 (8 * c + w) v) := by
  have hn : xN mm := ⟨hI.ce.1, hI.ce.2.1⟩
  rw [ze_X8_weight, zb_X8_weight_0, s_has _ _ hn, zcI_ok, zb_X8_weight_11, if_pos (show 0 ≤ (c : Int) ∧ (c : Int) < mm 6 3 by omega), if_neg (by decide), s_isWord, zcI_ok, zb_X8_weight_18, if_pos (show 0 ≤ (w : Int) ∧ (w : Int) < 8 by omega), if_neg (by decide), if_neg (by omega), if_neg (by omega), s_changeWeight _ c w v hn (by omega) (by omega), zcI_ok, zb_X8_weight_46]
theorem I_weight {c w : Nat} {v : Int} (hI : xI mm) (hc : (c : Int) < mm 6 3) (hw : w < 8) (hv : 0 ≤ v ∧ v ≤ 9) : xI (zu mm 9 (8 * c + w) v) :=
  ⟨(by
    obtain ⟨t1, t2, t3, t4, t5⟩ := hI.ce
    simp (disch := decide) only [zu_k, zu_j]
    refine ⟨t1, t2, t3, fun j => ?_, t5⟩
    by_cases q : j = 8 * c + w
    · rw [q, zu_s]
      omega
    · rw [zu_j _ _ q]
      exact t4 j), (by first | exact hI.tg | (simp (disch := decide) only [zu_k, zu_j]; exact hI.tg)), (by first | exact hI.tl | (simp (disch := decide) only [zu_k, zu_j]; exact hI.tl)), (by first | exact hI.se | (simp (disch := decide) only [zu_k, zu_j]; exact hI.se)), (by first | exact hI.st | (simp (disch := decide) only [zu_k, zu_j]; exact hI.st)), (by first | exact hI.bk | (simp (disch := decide) only [zu_k, zu_j]; exact hI.bk)), (by first | exact hI.pg | (unfold xP; simp (disch := decide) only [zu_k, zu_j]; exact hI.pg)), (by first | exact hI.wr | (simp (disch := decide) only [zu_k, zu_j]; exact hI.wr)), (by
    intro j hj h48
    rw [zu_k _ _ (show 6 ≠ 9 by decide)] at hj
    rw [zu_j _ _ (by omega)]
    exact hI.wo j hj h48), (by first | exact hI.dd | (simp (disch := decide) only [zu_k, zu_j]; exact hI.dd)), (by first | exact hI.lt | (simp (disch := decide) only [zu_k, zu_j]; exact hI.lt))⟩
theorem o_dead (d c : Nat) (hI : xI mm) (hc : (c : Int) < mm 6 3) : zL (d + 20) 63 [.inr (.inr 0), .inl c, .inl 1] SH mm = zok (mm 8 c) (zu mm 8 c 1) := by
  have hn : xN mm := ⟨hI.ce.1, hI.ce.2.1⟩
  have hd := hI.ce.2.2.2.2 c
  rw [ze_X8_dead, zb_X8_dead_0, s_has _ _ hn, zcI_ok, zb_X8_dead_11, if_pos (show 0 ≤ (c : Int) ∧ (c : Int) < mm 6 3 by omega), if_neg (by decide), s_changeDead _ c 1 hn (by omega) (.inr rfl) hd, zcI_ok, zb_X8_dead_28, s_bit, zcI_ok, zb_X8_dead_31]
  rcases hd with q | q
  · rw [q]; rfl
  · rw [q]; rfl
theorem I_dead {c : Nat} (hI : xI mm) (hc : (c : Int) < mm 6 3) : xI (zu mm 8 c 1) :=
  ⟨(by
    obtain ⟨t1, t2, t3, t4, t5⟩ := hI.ce
    simp (disch := decide) only [zu_k, zu_j]
    refine ⟨t1, t2, t3, t4, fun j => ?_⟩
    by_cases q : j = c
    · rw [q, zu_s]
      exact .inr rfl
    · rw [zu_j _ _ q]
      exact t5 j), (by first | exact hI.tg | (simp (disch := decide) only [zu_k, zu_j]; exact hI.tg)), (by first | exact hI.tl | (simp (disch := decide) only [zu_k, zu_j]; exact hI.tl)), (by first | exact hI.se | (simp (disch := decide) only [zu_k, zu_j]; exact hI.se)), (by first | exact hI.st | (simp (disch := decide) only [zu_k, zu_j]; exact hI.st)), (by first | exact hI.bk | (simp (disch := decide) only [zu_k, zu_j]; exact hI.bk)), (by first | exact hI.pg | (unfold xP; simp (disch := decide) only [zu_k, zu_j]; exact hI.pg)), (by first | exact hI.wr | (simp (disch := decide) only [zu_k, zu_j]; exact hI.wr)), (by first | exact hI.wo | (simp (disch := decide) only [zu_k, zu_j]; exact hI.wo)), (by
    intro j hj
    rw [zu_k _ _ (show 6 ≠ 8 by decide)] at hj
    rw [zu_j _ _ (by omega)]
    exact hI.dd j hj), (by first | exact hI.lt | (simp (disch := decide) only [zu_k, zu_j]; exact hI.lt))⟩
theorem o_turn (d : Nat) (b : Int) (hb : b = 0 ∨ b = 1) (hI : xI mm) : zL (d + 20) 65 [.inr (.inr 0), .inl b] SH mm = zok (mm 10 4) (zu mm 10 4 b) := by
  rw [ze_X8_turn, zb_X8_turn_0, if_pos hb, s_bit, zcI_ok, zb_X8_turn_26]
  rcases hI.bk with q | q
  · rw [q]; rfl
  · rw [q]; rfl
theorem I_turn {b : Int} (hb : b = 0 ∨ b = 1) (hI : xI mm) : xI (zu mm 10 4 b) :=
  ⟨(by first | exact hI.ce | (simp (disch := decide) only [zu_k, zu_j]; exact hI.ce)), (by first | exact hI.tg | (simp (disch := decide) only [zu_k, zu_j]; exact hI.tg)), (by first | exact hI.tl | (simp (disch := decide) only [zu_k, zu_j]; exact hI.tl)), (by first | exact hI.se | (simp (disch := decide) only [zu_k, zu_j]; exact hI.se)), (by first | exact hI.st | (simp (disch := decide) only [zu_k, zu_j]; exact hI.st)), (by rw [zu_s]; exact hb), (by first | exact hI.pg | (unfold xP; simp (disch := decide) only [zu_k, zu_j]; exact hI.pg)), (by first | exact hI.wr | (simp (disch := decide) only [zu_k, zu_j]; exact hI.wr)), (by first | exact hI.wo | (simp (disch := decide) only [zu_k, zu_j]; exact hI.wo)), (by first | exact hI.dd | (simp (disch := decide) only [zu_k, zu_j]; exact hI.dd)), (by first | exact hI.lt | (simp (disch := decide) only [zu_k, zu_j]; exact hI.lt))⟩
end
/-- two seats changed -/
theorem zSe_swap {S : Nat → Int} {n : Int} {s t : Nat} (h : zSe S n) (hs : (s : Int) < n) (ht : (t : Int) < n) (hst : s ≠ t) : zSe (fun j => if j = t then S s else if j = s then S t else S j) n := by
  obtain ⟨h1, h2, h3⟩ := h
  refine ⟨fun j hj => ?_, fun i j hi hj e => ?_, fun c hc => ?_⟩
  · show 0 ≤ (if j = t then S s else if j = s then S t else S j) ∧ (if j = t then S s else if j = s then S t else S j) < n
    split
    · exact h1 s hs
    · split
      · exact h1 t ht
      · exact h1 j hj
  · have e : (if i = t then S s else if i = s then S t else S i) = (if j = t then S s else if j = s then S t else S j) := e
    by_cases a1 : i = t
    · rw [if_pos a1] at e
      by_cases b1 : j = t
      · omega
      · rw [if_neg b1] at e
        by_cases b2 : j = s
        · rw [if_pos b2] at e
          have := h2 s t hs ht e
          omega
        · rw [if_neg b2] at e
          have := h2 s j hs hj e
          omega
    · rw [if_neg a1] at e
      by_cases a2 : i = s
      · rw [if_pos a2] at e
        by_cases b1 : j = t
        · rw [if_pos b1] at e
          have := h2 t s ht hs e
          omega
        · rw [if_neg b1] at e
          by_cases b2 : j = s
          · omega
          · rw [if_neg b2] at e
            have := h2 t j ht hj e
            omega
      · rw [if_neg a2] at e
        by_cases b1 : j = t
        · rw [if_pos b1] at e
          have := h2 i s hi hs e
          omega
        · rw [if_neg b1] at e
          by_cases b2 : j = s
          · rw [if_pos b2] at e
            have := h2 i t hi ht e
            omega
          · rw [if_neg b2] at e
            exact h2 i j hi hj e
  · obtain ⟨x, hx, e⟩ := h3 c hc
    by_cases a1 : x = s
    · refine ⟨t, ht, ?_⟩
      show (if t = t then S s else _) = _
      rw [if_pos rfl, ← a1, e]
    · by_cases a2 : x = t
      · refine ⟨s, hs, ?_⟩
        show (if s = t then S s else if s = s then S t else _) = _
        rw [if_neg hst, if_pos rfl, ← a2, e]
      · refine ⟨x, hx, ?_⟩
        show (if x = t then S s else if x = s then S t else S x) = _
        rw [if_neg a2, if_neg a1, e]
theorem zu_swap (mm : zMm) (k s t : Nat) (a b : Int) : zu (zu mm k s b) k t a k = fun j => if j = t then a else if j = s then b else mm k j := by
  funext j
  unfold zu
  simp
section
variable {mm : zMm}
theorem o_swap (d x y s t : Nat) (hI : xI mm) (hxy : x ≠ y) (hs : (s : Int) < mm 6 3) (es : mm 11 s = x) (ht : (t : Int) < mm 6 3) (et : mm 11 t = y) : zL (d + 20) 64 [.inr (.inr 0), .inl x, .inl y] SH mm = zok t (zu (zu mm 11 s y) 11 t x) ∧ xI (zu (zu mm 11 s y) 11 t x) := by
  have hn : xN mm := ⟨hI.ce.1, hI.ce.2.1⟩
  have h6 := hn.2
  have c1 := hI.se.1 s hs
  have c2 := hI.se.1 t ht
  rw [es] at c1
  rw [et] at c2
  have hst : s ≠ t := fun z => by rw [z, et] at es; omega
  have hSe : zSe (zu (zu mm 11 s y) 11 t x 11) (zu (zu mm 11 s y) 11 t x 6 3) := by
    rw [zu_swap, zu_k _ _ (by decide), zu_k _ _ (by decide), ← es, ← et]
    exact zSe_swap hI.se hs ht hst
  have hse := s_seatOf (mm := zu (zu mm 11 s y) 11 t x) (d + 16) t x (by unfold xN; rw [zu_k _ _ (by decide), zu_k _ _ (by decide)]; exact hn) hSe (by rw [zu_k _ _ (by decide), zu_k _ _ (by decide)]; exact ht) (zu_s _ _ _ _)
  refine ⟨?_, ⟨(by first | exact hI.ce | (simp (disch := decide) only [zu_k, zu_j]; exact hI.ce)), (by first | exact hI.tg | (simp (disch := decide) only [zu_k, zu_j]; exact hI.tg)), (by first | exact hI.tl | (simp (disch := decide) only [zu_k, zu_j]; exact hI.tl)), hSe, (by first | exact hI.st | (simp (disch := decide) only [zu_k, zu_j]; exact hI.st)), (by first | exact hI.bk | (simp (disch := decide) only [zu_k, zu_j]; exact hI.bk)), (by first | exact hI.pg | (unfold xP; simp (disch := decide) only [zu_k, zu_j]; exact hI.pg)), (by first | exact hI.wr | (simp (disch := decide) only [zu_k, zu_j]; exact hI.wr)), (by first | exact hI.wo | (simp (disch := decide) only [zu_k, zu_j]; exact hI.wo)), (by first | exact hI.dd | (simp (disch := decide) only [zu_k, zu_j]; exact hI.dd)), (by first | exact hI.lt | (simp (disch := decide) only [zu_k, zu_j]; exact hI.lt))⟩⟩
  rw [ze_X8_swap, zb_X8_swap_0, s_has _ _ hn, zcI_ok, zb_X8_swap_11, if_pos c1, if_neg (by decide), s_has _ _ hn, zcI_ok, zb_X8_swap_25, if_pos c2, if_neg (by decide), if_neg (by omega), s_changeSeats _ s t x y hn hI.se hs ht es et, zcV_vd, zb_X8_swap_47, hse, zcI_ok, zb_X8_swap_58]
theorem o_cell (d n : Nat) (a : Int) (hI : xI mm) (hN : mm 6 3 = n) (hn6 : n < 6) (ha : 0 ≤ a ∧ a ≤ 3) : zL (d + 20) 61 [.inr (.inr 0), .inl a] SH mm = zok n (zu (zu (zu mm 7 n a) 6 3 (n + 1)) 11 n n) ∧ xI (zu (zu (zu mm 7 n a) 6 3 (n + 1)) 11 n n) := by
  have hn : xN mm := ⟨hI.ce.1, hI.ce.2.1⟩
  refine ⟨?_, ⟨(by
      obtain ⟨t1, t2, t3, t4, t5⟩ := hI.ce
      simp (disch := decide) only [zu_k, zu_s]
      refine ⟨by omega, by omega, fun c => ?_, t4, t5⟩
      by_cases q : c = n
      · rw [q, zu_s]
        exact ha
      · rw [zu_j _ _ q]
        exact t3 c), (by first | exact hI.tg | (simp (disch := decide) only [zu_k, zu_j]; exact hI.tg)), (by first | exact hI.tl | (simp (disch := decide) only [zu_k, zu_j]; exact hI.tl)), (by
      obtain ⟨t1, t2, t3⟩ := hI.se
      simp (disch := decide) only [zu_k, zu_s]
      refine ⟨fun s hs => ?_, fun s t hs ht e => ?_, fun c hc => ?_⟩
      · by_cases q : s = n
        · rw [q, zu_s]
          omega
        · rw [zu_j _ _ q]
          simp (disch := decide) only [zu_k]
          have := t1 s (by omega)
          omega
      · by_cases q : s = n
        · by_cases q2 : t = n
          · omega
          · rw [q, zu_s, zu_j _ _ q2] at e
            simp (disch := decide) only [zu_k] at e
            have := t1 t (by omega)
            omega
        · by_cases q2 : t = n
          · rw [q2, zu_s, zu_j _ _ q] at e
            simp (disch := decide) only [zu_k] at e
            have := t1 s (by omega)
            omega
          · rw [zu_j _ _ q, zu_j _ _ q2] at e
            simp (disch := decide) only [zu_k] at e
            exact t2 s t (by omega) (by omega) e
      · by_cases q : c = n
        · exact ⟨n, by omega, by rw [zu_s, q]⟩
        · obtain ⟨s, hs, e⟩ := t3 c (by omega)
          refine ⟨s, by omega, ?_⟩
          rw [zu_j _ _ (by omega)]
          simp (disch := decide) only [zu_k]
          exact e), (by
      have := hI.st
      simp (disch := decide) only [zu_k, zu_s]
      omega), (by first | exact hI.bk | (simp (disch := decide) only [zu_k, zu_j]; exact hI.bk)), (by first | exact hI.pg | (unfold xP; simp (disch := decide) only [zu_k, zu_j]; exact hI.pg)), (by
      simp (disch := decide) only [zu_k, zu_s]
      intro p hp
      have := hI.wr p hp
      omega), (by
      simp (disch := decide) only [zu_k, zu_s]
      exact fun j hj h48 => hI.wo j (by omega) h48), (by
      simp (disch := decide) only [zu_k, zu_s]
      exact fun c hc => hI.dd c (by omega)), (by first | exact hI.lt | (simp (disch := decide) only [zu_k, zu_j]; exact hI.lt))⟩⟩
  rw [ze_X8_cell, zb_X8_cell_0, if_neg (by omega), if_neg (by omega), s_cappend _ a hn, if_pos (by omega), zcI_ok, zb_X8_cell_22, hN, if_neg (by omega), s_takeSeat _ n (by omega), zcV_vd, zb_X8_cell_38, Int.toNat_natCast]
end
