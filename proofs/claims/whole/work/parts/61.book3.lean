theorem zpb_r (T : Nat → Int) : ∀ (f i w : Nat) (R : Nat → Int), w ≤ 24 → (zpb T f i w R).1 ≤ 24
  | 0, i, w, R, h => by show (w : Int) ≤ 24; omega
  | f + 1, i, w, R, h => by
    rw [zpb_s]
    by_cases c : T i = 32
    · rw [if_pos c]
      exact zpb_r T f (i + 1) w R h
    · rw [if_neg c]
      by_cases c2 : 97 ≤ T i ∧ T i < 105 ∧ w < 24
      · rw [if_pos c2]
        exact zpb_r T f (i + 1) (w + 1) _ (by omega)
      · rw [if_neg c2]
        show -20 - (i : Int) ≤ 24
        omega
/-- the book that is read, so far -/
def zbk (M : zMm) (R : Nat → Int) (k : Nat) : zMm := fun a j => if a = 53 ∧ j < k then R j else if a = 54 ∧ j < k then -4 else M a j
theorem zbk_s (M : zMm) (R : Nat → Int) (k : Nat) : zu (zu (zbk M R k) 53 k (R k)) 54 k (-4) = zbk M R (k + 1) := by
  funext a j
  unfold zu zbk
  by_cases h : a = 53
  · subst h
    by_cases q : j = k
    · subst q; simp
    · by_cases r : j < k
      · simp [q, r, show j < k + 1 by omega]
      · simp [q, r, show ¬ j < k + 1 by omega]
  · by_cases h2 : a = 54
    · subst h2
      by_cases q : j = k
      · subst q; simp
      · by_cases r : j < k
        · simp [q, r, show j < k + 1 by omega]
        · simp [q, r, show ¬ j < k + 1 by omega]
    · simp [h, h2]
theorem zbk_k (M : zMm) (R : Nat → Int) (k : Nat) {a : Nat} (h : a ≠ 53) (h2 : a ≠ 54) : zbk M R k a = M a := by
  funext j
  unfold zbk
  rw [if_neg (fun q => h q.1), if_neg (fun q => h2 q.1)]
section
variable {m : zMm}
theorem t_book_copy (d w : Nat) (M : zMm) (R : Nat → Int) (hw : w ≤ 24) (h19 : M 45 19 = w) (h11 : M 45 11 = w) (h56 : M 56 = R) : zR (d + 2) 145 111 [some (.inr (.inr 45)), some (.inl 1), some (.inl 0)] [] SH M = zok w (zbk M R w) := by
  have key : ∀ k : Nat, k ≤ w → zR (d + 2) 145 111 [some (.inr (.inr 45)), none, some (.inl (k : Int))] [] SH (zbk M R k) = zok w (zbk M R w) := by
    refine zup ?_ ?_
    · rw [zb_X9_book_111, zbk_k _ _ _ (by decide) (by decide), h19, h11, if_neg (by omega)]
    · intro k hk ih
      rw [zb_X9_book_111, zbk_k _ _ _ (by decide) (by decide), zbk_k _ _ _ (by decide) (by decide), h19, h56, if_pos (by omega), if_pos (by omega), if_pos (by omega), if_pos (by omega), Int.toNat_natCast, zbk_s, zw_inc k (by omega)]
      exact ih
  have e0 : zbk M R 0 = M := by
    funext a j
    unfold zbk
    simp
  have k0 := key 0 (by omega)
  rw [e0] at k0
  exact zR_weak (by repeat first | exact zle_nil | apply zle_c | apply zle_n) k0
theorem t_book (d n : Nat) (hn : m 45 17 = n) (h80 : n ≤ 80) (hT : ∀ i, i < n → 32 ≤ m 55 i ∧ m 55 i ≤ 126) : ∃ w' p' : Int, zL (d + 3) 145 [.inr (.inr 45)] SH m = if 0 ≤ (zpb (m 55) n 0 0 (m 56)).1 then zok (zpb (m 55) n 0 0 (m 56)).1 (zbk (zu (zu (zmt2 m (zpb (m 55) n 0 0 (m 56)).2 (zpb (m 55) n 0 0 (m 56)).1 p') 45 17 0) 45 11 (zpb (m 55) n 0 0 (m 56)).1) (zpb (m 55) n 0 0 (m 56)).2 (zpb (m 55) n 0 0 (m 56)).1.toNat) else zok (zpb (m 55) n 0 0 (m 56)).1 (zu (zmt2 m (zpb (m 55) n 0 0 (m 56)).2 w' p') 45 17 0) := by
  obtain ⟨w', p', h⟩ := t_book_loop d n hn h80 hT n 0 0 (m 56) (by omega) (by omega) (by omega)
  refine ⟨w', p', ?_⟩
  rw [Nat.sub_zero] at h
  have h24 := zpb_r (m 55) n 0 0 (m 56) (by omega)
  rw [ze_X9_book, zb_X9_book_0, zmt2_0]
  refine Eq.trans h ?_
  generalize zpb (m 55) n 0 0 (m 56) = o at h24 ⊢
  by_cases c : 0 ≤ o.1
  · rw [if_pos c, if_pos c]
    have := t_book_copy d o.1.toNat (zu (zu (zmt2 m o.2 o.1 p') 45 17 0) 45 11 o.1) o.2 (by omega) (by rw [zu_j _ _ (by decide), zu_j _ _ (by decide), (zmt2_r _ _ _ _).1]; omega) (by rw [zu_s]; omega) (by rw [zu_k _ _ (by decide), zu_k _ _ (by decide), (zmt2_r _ _ _ _).2.2])
    rw [show ((o.1.toNat : Nat) : Int) = o.1 by omega] at this
    exact this
  · rw [if_neg c, if_neg c]
end
