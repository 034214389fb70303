theorem mR_both {m m' mm mc : zMm} (f : ∀ k, 1 ≤ k → k ≤ 14 → mc k = mm k) (g : ∀ k, 46 ≤ k → k ≤ 54 → m' k = m k) (g2 : ∀ j, j ≤ 15 → m' 45 j = m 45 j) (h : mR m mm) : mR m' mc := by
  have r := mR_fr (m' := m') g g2 h
  unfold mR at r ⊢
  rw [f 1 (by decide) (by decide), f 2 (by decide) (by decide), f 3 (by decide) (by decide), f 4 (by decide) (by decide), f 5 (by decide) (by decide), f 6 (by decide) (by decide), f 7 (by decide) (by decide), f 8 (by decide) (by decide), f 9 (by decide) (by decide), f 10 (by decide) (by decide), f 11 (by decide) (by decide), f 12 (by decide) (by decide), f 13 (by decide) (by decide), f 14 (by decide) (by decide)]
  exact r
theorem mks_256 (P : Nat → Bool) : 0 ≤ mks P 8 ∧ mks P 8 < 256 := by
  unfold mks mks mks mks mks mks mks mks mks
  generalize P 0 = a0
  generalize P 1 = a1
  generalize P 2 = a2
  generalize P 3 = a3
  generalize P 4 = a4
  generalize P 5 = a5
  generalize P 6 = a6
  generalize P 7 = a7
  revert a0 a1 a2 a3 a4 a5 a6 a7
  decide +kernel
theorem zor_256 {x : Int} {k : Nat} (h0 : 0 ≤ x) (h1 : x < 256) (hk : k < 8) : 0 ≤ zor x (zshl 1 (k : Int)) ∧ zor x (zshl 1 (k : Int)) < 256 := by
  rw [zr_256 h0 h1, mks_or1 _ (by decide) hk]
  exact mks_256 _
theorem zpt_256 (T : Nat → Int) (n : Nat) : ∀ (f i w : Nat) (l b : Int) (R : Nat → Int), 0 ≤ l → (∀ k, k ≤ w → 0 ≤ R k ∧ R k < 256) → ∀ k : Nat, (k : Int) < (zpt T n f i w l b R).1 → 0 ≤ (zpt T n f i w l b R).2 k ∧ (zpt T n f i w l b R).2 k < 256
  | 0, i, w, l, b, R, hl, h, k, hk => by
    have hk : (k : Int) < (if b = 0 then -20 - (n : Int) else w + 1) := hk
    refine h k ?_
    by_cases c : b = 0
    · rw [if_pos c] at hk
      omega
    · rw [if_neg c] at hk
      omega
  | f + 1, i, w, l, b, R, hl, h, k, hk => by
    rw [zpt_s] at hk ⊢
    by_cases c1 : T i = 32
    · rw [if_pos c1] at hk ⊢
      exact zpt_256 T n f (i + 1) w l b R hl h k hk
    · rw [if_neg c1] at hk ⊢
      by_cases c2 : T i = 59 ∧ b ≠ 0 ∧ w < 7
      · rw [if_pos c2] at hk ⊢
        refine zpt_256 T n f (i + 1) (w + 1) 0 0 _ (by decide) (fun k' hk' => ?_) k hk
        unfold zset
        by_cases q : k' = w + 1
        · rw [if_pos q]
          decide
        · rw [if_neg q]
          exact h k' (by omega)
      · rw [if_neg c2] at hk ⊢
        by_cases c3 : T i = 45 ∧ b = 0
        · rw [if_pos c3] at hk ⊢
          exact zpt_256 T n f (i + 1) w 8 1 R (by decide) h k hk
        · rw [if_neg c3] at hk ⊢
          by_cases c4 : l ≤ T i - 97 ∧ T i - 97 < 8
          · rw [if_pos c4] at hk ⊢
            refine zpt_256 T n f (i + 1) w _ 1 _ (by omega) (fun k' hk' => ?_) k hk
            unfold zset
            by_cases q : k' = w
            · rw [if_pos q]
              have hw := h w (Nat.le_refl w)
              have := zor_256 (k := (T i - 97).toNat) hw.1 hw.2 (by omega)
              rw [show (((T i - 97).toNat : Nat) : Int) = T i - 97 by omega] at this
              exact this
            · rw [if_neg q]
              exact h k' hk'
          · rw [if_neg c4] at hk
            have hk : (k : Int) < -20 - (i : Int) := hk
            omega
/-- two seats changed -/
theorem zSe_swap {S : Nat → Int} {n : Int} {s t : Nat} (h : zSe S n) (hs : (s : Int) < n) (ht : (t : Int) < n) (hst : s ≠ t) : zSe (fun j => if j = t then S s else if j = s then S t else S j) n := by
  obtain ⟨h1, h2, h3⟩ := h
  refine ⟨fun j hj => ?_, fun i j hi hj e => ?_, fun c hc => ?_⟩
  · show 0 ≤ (if j = t then S s else if j = s then S t else S j) ∧ (if j = t then S s else if j = s then S t else S j) < n
    split
    · exact h1 s hs
    · split
      · exact h1 t ht
      · exact h1 j hj
  · have e : (if i = t then S s else if i = s then S t else S i) = (if j = t then S s else if j = s then S t else S j) := e
    by_cases a1 : i = t
    · rw [if_pos a1] at e
      by_cases b1 : j = t
      · omega
      · rw [if_neg b1] at e
        by_cases b2 : j = s
        · rw [if_pos b2] at e
          have := h2 s t hs ht e
          omega
        · rw [if_neg b2] at e
          have := h2 s j hs hj e
          omega
    · rw [if_neg a1] at e
      by_cases a2 : i = s
      · rw [if_pos a2] at e
        by_cases b1 : j = t
        · rw [if_pos b1] at e
          have := h2 t s ht hs e
          omega
        · rw [if_neg b1] at e
          by_cases b2 : j = s
          · omega
          · rw [if_neg b2] at e
            have := h2 t j ht hj e
            omega
      · rw [if_neg a2] at e
        by_cases b1 : j = t
        · rw [if_pos b1] at e
          have := h2 i s hi hs e
          omega
        · rw [if_neg b1] at e
          by_cases b2 : j = s
          · rw [if_pos b2] at e
            have := h2 i t hi ht e
            omega
          · rw [if_neg b2] at e
            exact h2 i j hi hj e
  · obtain ⟨x, hx, e⟩ := h3 c hc
    by_cases a1 : x = s
    · refine ⟨t, ht, ?_⟩
      show (if t = t then S s else _) = _
      rw [if_pos rfl, ← a1, e]
    · by_cases a2 : x = t
      · refine ⟨s, hs, ?_⟩
        show (if s = t then S s else if s = s then S t else _) = _
        rw [if_neg hst, if_pos rfl, ← a2, e]
      · refine ⟨x, hx, ?_⟩
        show (if x = t then S s else if x = s then S t else S x) = _
        rw [if_neg a2, if_neg a1, e]
theorem zu_swap (mm : zMm) (k s t : Nat) (a b : Int) : zu (zu mm k s b) k t a k = fun j => if j = t then a else if j = s then b else mm k j := by
  funext j
  unfold zu
  simp
section
variable {m mm : zMm}
theorem op_swap (d : Nat) (a b : Int) (h : zRel m mm) : zBoth d 81 137 [.inl a, .inl b] m mm := by
  obtain ⟨hI, hR, _⟩ := id h
  have hn : xN mm := ⟨hI.ce.1, hI.ce.2.1⟩
  have h6 := hn.2
  by_cases c1 : 0 ≤ a ∧ a < mm 6 3
  · by_cases c2 : 0 ≤ b ∧ b < mm 6 3
    · by_cases c3 : a = b
      · refine zBoth_0 (-1) h ?_ ?_
        · rw [ze_X8_swap, zb_X8_swap_0, s_has _ _ hn, zcI_ok, zb_X8_swap_11, if_pos c1, if_neg (by decide), s_has _ _ hn, zcI_ok, zb_X8_swap_25, if_pos c2, if_neg (by decide), if_pos c3]
        · rw [ze_X9_swap, zb_X9_swap_0, t_isCell _ _ hR hI, zcI_ok, zb_X9_swap_5, if_pos c1, if_neg (by decide), t_isCell _ _ hR hI, zcI_ok, zb_X9_swap_13, if_pos c2, if_neg (by decide), if_pos c3]
      · obtain ⟨x, rfl⟩ : ∃ x : Nat, a = x := ⟨a.toNat, by omega⟩
        obtain ⟨y, rfl⟩ : ∃ y : Nat, b = y := ⟨b.toNat, by omega⟩
        obtain ⟨s, hs, es⟩ := hI.se.2.2 x c1.2
        obtain ⟨t, ht, et⟩ := hI.se.2.2 y c2.2
        have hst : s ≠ t := fun z => by rw [z, et] at es; omega
        have hSe : zSe (zu (zu mm 11 s y) 11 t x 11) (zu (zu mm 11 s y) 11 t x 6 3) := by
          rw [zu_swap, zu_k _ _ (by decide), zu_k _ _ (by decide), ← es, ← et]
          exact zSe_swap hI.se hs ht hst
        have hse := s_seatOf (mm := zu (zu mm 11 s y) 11 t x) (d + 16) t x (by unfold xN; rw [zu_k _ _ (by decide), zu_k _ _ (by decide)]; exact hn) hSe (by rw [zu_k _ _ (by decide), zu_k _ _ (by decide)]; exact ht) (zu_s _ _ _ _)
        refine ⟨t, zu (zu mm 11 s y) 11 t x, zu (zu m 52 s y) 52 t x, ?_, ?_, ?_, fun k hk => by first | rfl | simp (disch := omega) only [zu_k], fun k hk => by first | rfl | simp (disch := omega) only [zu_k]⟩
        · rw [ze_X8_swap, zb_X8_swap_0, s_has _ _ hn, zcI_ok, zb_X8_swap_11, if_pos c1, if_neg (by decide), s_has _ _ hn, zcI_ok, zb_X8_swap_25, if_pos c2, if_neg (by decide), if_neg c3, s_changeSeats _ s t x y hn hI.se hs ht es et, zcV_vd, zb_X8_swap_47, hse, zcI_ok, zb_X8_swap_58]
        · rw [ze_X9_swap, zb_X9_swap_0, t_isCell _ _ hR hI, zcI_ok, zb_X9_swap_5, if_pos c1, if_neg (by decide), t_isCell _ _ hR hI, zcI_ok, zb_X9_swap_13, if_pos c2, if_neg (by decide), if_neg c3, t_seatOf _ s x hR hI hs es, zcI_ok, zb_X9_swap_28, t_seatOf _ t y hR hI ht et, zcI_ok, zb_X9_swap_34, if_pos (by omega), if_pos (by omega), Int.toNat_natCast, Int.toNat_natCast]
        · refine zRel_now h (by first | rfl | simp (disch := decide) only [zu_k, zu_j]) (fun k hk => by first | rfl | simp (disch := omega) only [zu_k]) (by first | rfl | simp (disch := decide) only [zu_k, zu_j]) (by first | rfl | simp (disch := decide) only [zu_k, zu_j]) (fun k hk => by first | rfl | simp (disch := omega) only [zu_k]) ?_ ?_
          · exact ⟨(by first | exact hI.ce | (simp (disch := decide) only [zu_k, zu_j]; exact hI.ce)), (by first | exact hI.tg | (simp (disch := decide) only [zu_k, zu_j]; exact hI.tg)), (by first | exact hI.tl | (simp (disch := decide) only [zu_k, zu_j]; exact hI.tl)), hSe, (by first | exact hI.st | (simp (disch := decide) only [zu_k, zu_j]; exact hI.st)), (by first | exact hI.bk | (simp (disch := decide) only [zu_k, zu_j]; exact hI.bk)), (by first | exact hI.pg | (unfold xP; simp (disch := decide) only [zu_k, zu_j]; exact hI.pg)), (by first | exact hI.wr | (simp (disch := decide) only [zu_k, zu_j]; exact hI.wr)), (by first | exact hI.wo | (simp (disch := decide) only [zu_k, zu_j]; exact hI.wo)), (by first | exact hI.dd | (simp (disch := decide) only [zu_k, zu_j]; exact hI.dd)), (by first | exact hI.lt | (simp (disch := decide) only [zu_k, zu_j]; exact hI.lt))⟩
          · exact ⟨(by first | exact hR.fo | (simp (disch := decide) only [zu_k, zu_j]; exact hR.fo)), (by first | exact hR.lw | (simp (disch := decide) only [zu_k, zu_j]; exact hR.lw)), (by first | exact hR.ll | (simp (disch := decide) only [zu_k, zu_j]; exact hR.ll)), (by first | exact hR.ki | (simp (disch := decide) only [zu_k, zu_j]; exact hR.ki)), (by first | exact hR.we | (simp (disch := decide) only [zu_k, zu_j]; exact hR.we)), (by first | exact hR.de | (simp (disch := decide) only [zu_k, zu_j]; exact hR.de)), (zu_row (zu_row hR.ce _ _) _ _), (by first | exact hR.bo | (simp (disch := decide) only [zu_k, zu_j]; exact hR.bo)), (by first | exact hR.wr | (simp (disch := decide) only [zu_k, zu_j]; exact hR.wr)), (by first | exact hR.lm | (simp (disch := decide) only [zu_k, zu_j]; exact hR.lm)), (by first | exact hR.mn | (simp (disch := decide) only [zu_k, zu_j]; exact hR.mn)), (by first | exact hR.sz | (simp (disch := decide) only [zu_k, zu_j]; exact hR.sz)), (by first | exact hR.st | (simp (disch := decide) only [zu_k, zu_j]; exact hR.st)), (by first | exact hR.bk | (simp (disch := decide) only [zu_k, zu_j]; exact hR.bk)), (by first | exact hR.tn | (simp (disch := decide) only [zu_k, zu_j]; exact hR.tn)), (by first | exact hR.dr | (simp (disch := decide) only [zu_k, zu_j]; exact hR.dr))⟩
    · refine zBoth_0 (-1) h ?_ ?_
      · rw [ze_X8_swap, zb_X8_swap_0, s_has _ _ hn, zcI_ok, zb_X8_swap_11, if_pos c1, if_neg (by decide), s_has _ _ hn, zcI_ok, zb_X8_swap_25, if_neg c2, if_pos rfl]
      · rw [ze_X9_swap, zb_X9_swap_0, t_isCell _ _ hR hI, zcI_ok, zb_X9_swap_5, if_pos c1, if_neg (by decide), t_isCell _ _ hR hI, zcI_ok, zb_X9_swap_13, if_neg c2, if_pos rfl]
  · refine zBoth_0 (-1) h ?_ ?_
    · rw [ze_X8_swap, zb_X8_swap_0, s_has _ _ hn, zcI_ok, zb_X8_swap_11, if_neg c1, if_pos rfl]
    · rw [ze_X9_swap, zb_X9_swap_0, t_isCell _ _ hR hI, zcI_ok, zb_X9_swap_5, if_neg c1, if_pos rfl]
/-- the model's weights of a new cell, so far -/
def znewc (m : zMm) (n i : Nat) : zMm := zur m 50 (fun j => if 8 * n ≤ j ∧ j < 8 * n + i then 1 else m 50 j)
theorem op_cell (d : Nat) (a : Int) (h : zRel m mm) : zBoth d 78 133 [.inl a] m mm := by
  obtain ⟨hI, hR, _⟩ := id h
  have hn : xN mm := ⟨hI.ce.1, hI.ce.2.1⟩
  have h0 := hn.1
  have h6 := hn.2
  by_cases c1 : 0 ≤ a ∧ a ≤ 3
  · by_cases c2 : mm 6 3 < 6
    · obtain ⟨n, hN⟩ : ∃ n : Nat, mm 6 3 = n := ⟨(mm 6 3).toNat, by omega⟩
      have hdd := hI.dd n (by omega)
      have e51 : zu m 51 n 0 = m := zu_id m 51 n (by rw [hR.de, hdd])
      have hloop : ∀ M : zMm, M 45 8 = n → ∀ k : Nat, k ≤ 8 → zR (d + 19) 133 61 [some (.inr (.inr 45)), none, some (.inl (k : Int))] [] SH (znewc M n k) = zok n (zu (znewc M n 8) 45 8 (n + 1)) := by
        intro M hM
        refine zup ?_ ?_
        · have e : znewc M n 8 45 8 = n := by
            unfold znewc
            rw [zur_k _ _ (by decide), hM]
          rw [zb_X9_cell_61, if_neg (by decide), e, zw_id (x := (n : Int) + 1) (by omega) (by omega), zw_id (by omega) (by omega), show (n : Int) + 1 - 1 = n by omega]
        · intro k hk ih
          have e : znewc M n k 45 8 = n := by
            unfold znewc
            rw [zur_k _ _ (by decide), hM]
          have e2 : zu (znewc M n k) 50 (8 * n + k) 1 = znewc M n (k + 1) := by
            unfold znewc
            rw [zu_zur]
            congr 1
            funext j
            unfold zset
            by_cases q : j = 8 * n + k
            · rw [if_pos q, if_pos (by omega)]
            · rw [if_neg q]
              dsimp only
              by_cases c : 8 * n ≤ j ∧ j < 8 * n + k
              · rw [if_pos c, if_pos (by omega)]
              · rw [if_neg c, if_neg (by omega)]
          rw [zb_X9_cell_61, if_pos (by omega), e, zw_id (x := 8 * (n : Int)) (by omega) (by omega), zw_id (x := 8 * (n : Int) + k) (by omega) (by omega), if_pos (by omega), show (8 * (n : Int) + k).toNat = 8 * n + k by omega, e2, zw_inc k (by omega)]
          exact ih
      have z0 : ∀ M : zMm, znewc M n 0 = M := fun M => by
        unfold znewc
        have : (fun j => if 8 * n ≤ j ∧ j < 8 * n + 0 then 1 else M 50 j) = M 50 := by
          funext j
          rw [if_neg (by omega)]
        rw [this, zur_id]
      refine ⟨n, zu (zu (zu mm 7 n a) 6 3 (n + 1)) 11 n n, zu (znewc (zu (zu m 49 n a) 52 n n) n 8) 45 8 (n + 1), ?_, ?_, ?_, fun k hk => by first | rfl | simp (disch := omega) only [zu_k], ?_⟩
      · rw [ze_X8_cell, zb_X8_cell_0, if_neg (by omega), if_neg (by omega), s_cappend _ a hn, if_pos c2, zcI_ok, zb_X8_cell_22, hN, if_neg (by omega), s_takeSeat _ n (by omega), zcV_vd, zb_X8_cell_38, Int.toNat_natCast]
      · have hk := hloop (zu (zu m 49 n a) 52 n n) (by rw [zu_k _ _ (by decide), zu_k _ _ (by decide), hR.mn, hN]) 0 (by omega)
        rw [z0] at hk
        have e51' : zu (zu m 49 n a) 51 n 0 = zu m 49 n a := zu_id _ 51 n (by rw [zu_k _ _ (by decide), hR.de, hdd])
        rw [ze_X9_cell, zb_X9_cell_0, t_in, zcI_ok, zb_X9_cell_9, if_pos c1, if_neg (by decide), hR.mn, hN, if_neg (by omega), if_pos (by omega), if_pos (by omega), if_pos (by omega), Int.toNat_natCast, e51']
        exact zR_weak (by repeat first | exact zle_nil | apply zle_c | apply zle_n) hk
      · have f50 : ∀ k, k ≠ 50 → znewc (zu (zu m 49 n a) 52 n n) n 8 k = zu (zu m 49 n a) 52 n n k := fun k hk => by
          unfold znewc
          exact zur_k _ _ hk
        refine zRel_now h (by simp (disch := decide) only [zu_k, zu_j]) (fun k hk => by simp (disch := omega) only [zu_k]) ?_ ?_ (fun k hk => ?_) ?_ ?_
        · rw [zu_j _ _ (by decide), f50 _ (by decide), zu_k _ _ (by decide), zu_k _ _ (by decide)]
        · rw [zu_j _ _ (by decide), f50 _ (by decide), zu_k _ _ (by decide), zu_k _ _ (by decide)]
        · rw [zu_k _ _ (by omega), f50 _ (by omega), zu_k _ _ (by omega), zu_k _ _ (by omega)]
        · exact ⟨(by
            obtain ⟨t1, t2, t3, t4, t5⟩ := hI.ce
            simp (disch := decide) only [zu_k, zu_s]
            refine ⟨by omega, by omega, fun c => ?_, t4, t5⟩
            by_cases q : c = n
            · rw [q, zu_s]
              exact c1
            · rw [zu_j _ _ q]
              exact t3 c), (by first | exact hI.tg | (simp (disch := decide) only [zu_k, zu_j]; exact hI.tg)), (by first | exact hI.tl | (simp (disch := decide) only [zu_k, zu_j]; exact hI.tl)), (by
            obtain ⟨t1, t2, t3⟩ := hI.se
            simp (disch := decide) only [zu_k, zu_s]
            refine ⟨fun s hs => ?_, fun s t hs ht e => ?_, fun c hc => ?_⟩
            · by_cases q : s = n
              · rw [q, zu_s]
                omega
              · rw [zu_j _ _ q]
                simp (disch := decide) only [zu_k]
                have := t1 s (by omega)
                omega
            · by_cases q : s = n
              · by_cases q2 : t = n
                · omega
                · rw [q, zu_s, zu_j _ _ q2] at e
                  simp (disch := decide) only [zu_k] at e
                  have := t1 t (by omega)
                  omega
              · by_cases q2 : t = n
                · rw [q2, zu_s, zu_j _ _ q] at e
                  simp (disch := decide) only [zu_k] at e
                  have := t1 s (by omega)
                  omega
                · rw [zu_j _ _ q, zu_j _ _ q2] at e
                  simp (disch := decide) only [zu_k] at e
                  exact t2 s t (by omega) (by omega) e
            · by_cases q : c = n
              · exact ⟨n, by omega, by rw [zu_s, q]⟩
              · obtain ⟨s, hs, e⟩ := t3 c (by omega)
                refine ⟨s, by omega, ?_⟩
                rw [zu_j _ _ (by omega)]
                simp (disch := decide) only [zu_k]
                exact e), (by
            have := hI.st
            simp (disch := decide) only [zu_k, zu_s]
            omega), (by first | exact hI.bk | (simp (disch := decide) only [zu_k, zu_j]; exact hI.bk)), (by first | exact hI.pg | (unfold xP; simp (disch := decide) only [zu_k, zu_j]; exact hI.pg)), (by
            simp (disch := decide) only [zu_k, zu_s]
            intro p hp
            have := hI.wr p hp
            omega), (by
            simp (disch := decide) only [zu_k, zu_s]
            exact fun j hj h48 => hI.wo j (by omega) h48), (by
            simp (disch := decide) only [zu_k, zu_s]
            exact fun c hc => hI.dd c (by omega)), (by first | exact hI.lt | (simp (disch := decide) only [zu_k, zu_j]; exact hI.lt))⟩
        · have r1 : ∀ k, k ≠ 45 → k ≠ 50 → k ≠ 49 → k ≠ 52 → zu (znewc (zu (zu m 49 n a) 52 n n) n 8) 45 8 ((n : Int) + 1) k = m k := fun k a1 a2 a3 a4 => by
            rw [zu_k _ _ a1, f50 _ a2, zu_k _ _ a4, zu_k _ _ a3]
          have r2 : ∀ j, j ≠ 8 → zu (znewc (zu (zu m 49 n a) 52 n n) n 8) 45 8 ((n : Int) + 1) 45 j = m 45 j := fun j hj => by
            rw [zu_j _ _ hj, f50 _ (by decide), zu_k _ _ (by decide), zu_k _ _ (by decide)]
          refine ⟨?_, ?_, ?_, ?_, ?_, ?_, ?_, ?_, ?_, ?_, ?_, ?_, ?_, ?_, ?_, ?_⟩
          · rw [r1 46 (by decide) (by decide) (by decide) (by decide)]; simp (disch := decide) only [zu_k]; exact hR.fo
          · rw [r1 47 (by decide) (by decide) (by decide) (by decide)]; simp (disch := decide) only [zu_k]; exact hR.lw
          · rw [r1 48 (by decide) (by decide) (by decide) (by decide)]; simp (disch := decide) only [zu_k]; exact hR.ll
          · rw [zu_k _ _ (by decide), f50 _ (by decide)]
            simp (disch := decide) only [zu_k]
            exact zu_row hR.ki _ _
          · intro j hj
            simp (disch := decide) only [zu_k, zu_s] at hj ⊢
            unfold znewc
            rw [zur_s]
            by_cases c : 8 * n ≤ j ∧ j < 8 * n + 8
            · rw [if_pos c, hI.wo j (by omega) (by omega)]
            · rw [if_neg c]
              simp (disch := decide) only [zu_k]
              exact hR.we j (by omega)
          · rw [r1 51 (by decide) (by decide) (by decide) (by decide)]; simp (disch := decide) only [zu_k]; exact hR.de
          · rw [zu_k _ _ (by decide), f50 _ (by decide)]
            exact zu_row (by simp (disch := decide) only [zu_k]; exact hR.ce) _ _
          · rw [r1 53 (by decide) (by decide) (by decide) (by decide)]; simp (disch := decide) only [zu_k]; exact hR.bo
          · rw [r1 54 (by decide) (by decide) (by decide) (by decide)]; simp (disch := decide) only [zu_k]; exact hR.wr
          · rw [r2 3 (by decide)]; simp (disch := decide) only [zu_k]; exact hR.lm
          · rw [zu_s]; simp (disch := decide) only [zu_k, zu_s]
          · rw [r2 11 (by decide)]; simp (disch := decide) only [zu_k]; exact hR.sz
          · rw [r2 12 (by decide)]; simp (disch := decide) only [zu_k]; exact hR.st
          · rw [r2 13 (by decide)]; simp (disch := decide) only [zu_k]; exact hR.bk
          · rw [r2 14 (by decide)]; simp (disch := decide) only [zu_k]; exact hR.tn
          · rw [r2 15 (by decide)]; simp (disch := decide) only [zu_k]; exact hR.dr
      · intro k hk
        rw [zu_k _ _ (by omega)]
        unfold znewc
        rw [zur_k _ _ (by omega), zu_k _ _ (by omega), zu_k _ _ (by omega)]
    · refine zBoth_0 (-3) h ?_ ?_
      · rw [ze_X8_cell, zb_X8_cell_0, if_neg (by omega), if_neg (by omega), s_cappend _ a hn, if_neg c2, zcI_ok, zb_X8_cell_22, if_pos (by decide)]
      · rw [ze_X9_cell, zb_X9_cell_0, t_in, zcI_ok, zb_X9_cell_9, if_pos c1, if_neg (by decide), hR.mn, if_pos (by omega)]
  · refine zBoth_0 (-1) h ?_ ?_
    · rw [ze_X8_cell, zb_X8_cell_0]
      by_cases c4 : a < 0
      · rw [if_pos c4]
      · rw [if_neg c4, if_pos (by omega)]
    · rw [ze_X9_cell, zb_X9_cell_0, t_in, zcI_ok, zb_X9_cell_9, if_neg c1, if_pos rfl]
end
