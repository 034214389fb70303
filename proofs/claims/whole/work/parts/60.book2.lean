/-- the model while it reads: the row read, how many, where -/
def zmt2 (m : zMm) (R : Nat → Int) (w p : Int) : zMm := fun k j => if k = 56 then R j else if k = 45 ∧ j = 19 then w else if k = 45 ∧ j = 18 then p else m k j
theorem zmt2_18 (m : zMm) (R : Nat → Int) (w p v : Int) : zu (zmt2 m R w p) 45 18 v = zmt2 m R w v := by
  funext a b
  unfold zu zmt2
  by_cases h : a = 45 ∧ b = 18
  · rw [if_pos h, h.1, h.2]
    simp
  · rw [if_neg h]
    by_cases h2 : a = 56
    · rw [if_pos h2, if_pos h2]
    · rw [if_neg h2, if_neg h2]
      by_cases h3 : a = 45 ∧ b = 19
      · rw [if_pos h3, if_pos h3]
      · rw [if_neg h3, if_neg h3, if_neg h, if_neg h]
theorem zmt2_19 (m : zMm) (R : Nat → Int) (w p v : Int) : zu (zmt2 m R w p) 45 19 v = zmt2 m R v p := by
  funext a b
  unfold zu zmt2
  by_cases h : a = 45 ∧ b = 19
  · rw [if_pos h, h.1, h.2]
    simp
  · rw [if_neg h]
    by_cases h2 : a = 56
    · rw [if_pos h2, if_pos h2]
    · rw [if_neg h2, if_neg h2, if_neg h, if_neg h]
theorem zmt2_56 (m : zMm) (R : Nat → Int) (w p : Int) (j : Nat) (v : Int) : zu (zmt2 m R w p) 56 j v = zmt2 m (zset R j v) w p := by
  funext a b
  unfold zu zmt2 zset
  by_cases h : a = 56
  · subst h
    by_cases q : b = j <;> simp [q]
  · simp [h]
theorem zmt2_0 (m : zMm) : zu (zu m 45 18 0) 45 19 0 = zmt2 m (m 56) 0 0 := by
  funext a b
  unfold zu zmt2
  by_cases h2 : a = 56
  · subst h2
    simp
  · simp [h2]
theorem zmt2_k (m : zMm) (R : Nat → Int) (w p : Int) {k : Nat} (h : k ≠ 56) (h2 : k ≠ 45) : zmt2 m R w p k = m k := by
  funext j
  unfold zmt2
  rw [if_neg h, if_neg (fun q => h2 q.1), if_neg (fun q => h2 q.1)]
theorem zmt2_j (m : zMm) (R : Nat → Int) (w p : Int) {j : Nat} (h : j ≠ 18) (h2 : j ≠ 19) : zmt2 m R w p 45 j = m 45 j := by
  unfold zmt2
  rw [if_neg (by decide), if_neg (fun q => h2 q.2), if_neg (fun q => h q.2)]
theorem zmt2_r (m : zMm) (R : Nat → Int) (w p : Int) : zmt2 m R w p 45 19 = w ∧ zmt2 m R w p 45 18 = p ∧ zmt2 m R w p 56 = R := by
  unfold zmt2
  exact ⟨by simp, by simp, by funext j; simp⟩
theorem t_next (d n p : Nat) (m : zMm) (R : Nat → Int) (w : Int) (hn : m 45 17 = n) (h80 : n ≤ 80) (hp : p ≤ n) : zL (d + 1) 141 [.inr (.inr 45)] SH (zmt2 m R w p) = zok (if zsk (m 55) (n - p) p < n then m 55 (zsk (m 55) (n - p) p) else -1) (zmt2 m R w (zsk (m 55) (n - p) p)) := by
  have h := t_nextByte d n (zmt2 m R w p) (by rw [zmt2_j _ _ _ _ (by decide) (by decide)]; exact hn) h80 (n - p) p (by omega)
  rw [zmt2_18, zmt2_18, zmt2_k _ _ _ _ (by decide) (by decide)] at h
  rw [ze_X9_nextByte]
  exact h
theorem zsk_at {T : Nat → Int} {f p : Nat} (h : T p ≠ 32) : zsk T f p = p := by
  cases f with
  | zero => rfl
  | succ f => rw [zsk_s, if_neg h]
theorem zpb_sk (T : Nat → Int) (w : Nat) (R : Nat → Int) : ∀ (f p : Nat), zpb T f p w R = if zsk T f p < p + f then (if 97 ≤ T (zsk T f p) ∧ T (zsk T f p) < 105 ∧ w < 24 then zpb T (p + f - zsk T f p - 1) (zsk T f p + 1) (w + 1) (zset R w (T (zsk T f p) - 97)) else (-20 - ((zsk T f p : Nat) : Int), R)) else ((w : Int), R)
  | 0, p => by
    show ((w : Int), R) = _
    rw [show zsk T 0 p = p from rfl, if_neg (by omega)]
  | f + 1, p => by
    rw [zpb_s, zsk_s]
    by_cases c : T p = 32
    · rw [if_pos c, if_pos c, zpb_sk T w R f (p + 1), show p + 1 + f = p + (f + 1) by omega]
    · rw [if_neg c, if_neg c, if_pos (show p < p + (f + 1) by omega), show p + (f + 1) - p - 1 = f by omega]
section
variable {m : zMm}
theorem t_book_loop (d n : Nat) (hn : m 45 17 = n) (h80 : n ≤ 80) (hT : ∀ i, i < n → 32 ≤ m 55 i ∧ m 55 i ≤ 126) : ∀ (f p w : Nat) (R : Nat → Int), n - p ≤ f → p ≤ n → w ≤ 24 → ∃ w' p' : Int,
    zR (d + 2) 145 10 [some (.inr (.inr 45)), none, none] [] SH (zmt2 m R w p) = if 0 ≤ (zpb (m 55) (n - p) p w R).1 then zR (d + 2) 145 111 [some (.inr (.inr 45)), some (.inl 1), some (.inl 0)] [] SH (zu (zu (zmt2 m (zpb (m 55) (n - p) p w R).2 (zpb (m 55) (n - p) p w R).1 p') 45 17 0) 45 11 (zpb (m 55) (n - p) p w R).1) else zok (zpb (m 55) (n - p) p w R).1 (zu (zmt2 m (zpb (m 55) (n - p) p w R).2 w' p') 45 17 0) := by
  intro f
  induction f with
  | zero =>
    intro p w R h hp hw
    obtain rfl : p = n := by omega
    have hnx := t_next (d + 1) p p m R w hn h80 (Nat.le_refl p)
    rw [Nat.sub_self, show zsk (m 55) 0 p = p from rfl, if_neg (Nat.lt_irrefl p)] at hnx
    refine ⟨0, p, ?_⟩
    rw [Nat.sub_self, show zpb (m 55) 0 p w R = ((w : Int), R) from rfl, if_pos (by omega), zb_X9_book_10, (zmt2_r m R w p).1]
    by_cases c : (w : Int) < 24
    · rw [if_pos c, hnx, zcI_ok, zb_X9_book_23, t_isWord, zcI_ok, zb_X9_book_29, if_pos (by decide +kernel), hnx, zcI_ok, zb_X9_book_75, if_pos (by decide)]
      rw [(zmt2_r m R w p).1]
    · rw [if_neg c, hnx, zcI_ok, zb_X9_book_75, if_pos (by decide)]
      rw [(zmt2_r m R w p).1]
  | succ f ih =>
    intro p w R h hp hw
    have hr := zsk_r (m 55) (n - p) p
    have hnx := t_next (d + 1) n p m R w hn h80 hp
    have hpb := zpb_sk (m 55) w R (n - p) p
    rw [show p + (n - p) = n by omega] at hpb hr
    generalize zsk (m 55) (n - p) p = q at hr hnx hpb
    by_cases c : q < n
    · have hx := hT q c
      have h32 := hr.2.2 c
      have hnq := t_next (d + 1) n q m R w hn h80 (by omega)
      rw [zsk_at h32, if_pos c] at hnq
      rw [if_pos c] at hnx hpb
      by_cases c2 : 97 ≤ m 55 q ∧ m 55 q < 105 ∧ w < 24
      · rw [if_pos c2] at hpb
        obtain ⟨w', p', hh⟩ := ih (q + 1) (w + 1) (zset R w (m 55 q - 97)) (by omega) (by omega) (by omega)
        refine ⟨w', p', ?_⟩
        rw [hpb, show n - q - 1 = n - (q + 1) by omega, ← hh, zb_X9_book_10, (zmt2_r m R w p).1, if_pos (by omega), hnx, zcI_ok, zb_X9_book_23, zw_id (x := m 55 q - 97) (by omega) (by omega), t_isWord, zcI_ok, zb_X9_book_29, if_pos (show 0 ≤ m 55 q - 97 ∧ m 55 q - 97 < 8 by omega), if_neg (by decide), hnq, zcI_ok, zb_X9_book_44, (zmt2_r m R w q).1, if_pos (by omega), Int.toNat_natCast, zw_id (x := m 55 q - 97) (by omega) (by omega), zmt2_56, zw_inc w (by omega), zmt2_19, (zmt2_r m R w q).2.1, zw_inc q (by omega), zmt2_18]
      · rw [if_neg c2] at hpb
        refine ⟨w, q, ?_⟩
        rw [hpb, if_neg (by show ¬ (0 ≤ -20 - (q : Int)); omega), zb_X9_book_10, (zmt2_r m R w p).1]
        by_cases c3 : w < 24
        · rw [if_pos (by omega), hnx, zcI_ok, zb_X9_book_23, zw_id (x := m 55 q - 97) (by omega) (by omega), t_isWord, zcI_ok, zb_X9_book_29, if_neg (show ¬ (0 ≤ m 55 q - 97 ∧ m 55 q - 97 < 8) by omega), if_pos rfl, hnq, zcI_ok, zb_X9_book_75, if_neg (by omega), (zmt2_r m R w q).2.1, zw_id (by omega) (by omega)]
        · rw [if_neg (by omega), hnx, zcI_ok, zb_X9_book_75, if_neg (by omega), (zmt2_r m R w q).2.1, zw_id (by omega) (by omega)]
    · obtain rfl : q = n := by omega
      have hnq := t_next (d + 1) q q m R w hn h80 (Nat.le_refl q)
      rw [Nat.sub_self, show zsk (m 55) 0 q = q from rfl, if_neg (Nat.lt_irrefl q)] at hnq
      rw [if_neg c] at hnx hpb
      refine ⟨0, q, ?_⟩
      rw [hpb, if_pos (by omega), zb_X9_book_10, (zmt2_r m R w p).1]
      by_cases c3 : (w : Int) < 24
      · rw [if_pos c3, hnx, zcI_ok, zb_X9_book_23, t_isWord, zcI_ok, zb_X9_book_29, if_pos (by decide +kernel), hnq, zcI_ok, zb_X9_book_75, if_pos (by decide)]
        rw [(zmt2_r m R w q).1]
      · rw [if_neg c3, hnx, zcI_ok, zb_X9_book_75, if_pos (by decide)]
        rw [(zmt2_r m R w q).1]
end
