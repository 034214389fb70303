theorem zpt_R (T : Nat → Int) (n : Nat) : ∀ (f i w : Nat) (l b : Int) (R R' : Nat → Int), (∀ k, k ≤ w → R k = R' k) → (zpt T n f i w l b R).1 = (zpt T n f i w l b R').1 ∧ ∀ k : Nat, (k : Int) < (zpt T n f i w l b R).1 → (zpt T n f i w l b R).2 k = (zpt T n f i w l b R').2 k
  | 0, i, w, l, b, R, R', h => by
    refine ⟨rfl, fun k hk => ?_⟩
    have hk : (k : Int) < (if b = 0 then -20 - (n : Int) else w + 1) := hk
    refine h k ?_
    by_cases c : b = 0
    · rw [if_pos c] at hk
      omega
    · rw [if_neg c] at hk
      omega
  | f + 1, i, w, l, b, R, R', h => by
    rw [zpt_s, zpt_s]
    by_cases c1 : T i = 32
    · rw [if_pos c1, if_pos c1]
      exact zpt_R T n f (i + 1) w l b R R' h
    · rw [if_neg c1, if_neg c1]
      by_cases c2 : T i = 59 ∧ b ≠ 0 ∧ w < 7
      · rw [if_pos c2, if_pos c2]
        refine zpt_R T n f (i + 1) (w + 1) 0 0 _ _ (fun k hk => ?_)
        unfold zset
        by_cases q : k = w + 1
        · rw [if_pos q, if_pos q]
        · rw [if_neg q, if_neg q]
          exact h k (by omega)
      · rw [if_neg c2, if_neg c2]
        by_cases c3 : T i = 45 ∧ b = 0
        · rw [if_pos c3, if_pos c3]
          exact zpt_R T n f (i + 1) w 8 1 R R' h
        · rw [if_neg c3, if_neg c3]
          by_cases c4 : l ≤ T i - 97 ∧ T i - 97 < 8
          · rw [if_pos c4, if_pos c4]
            refine zpt_R T n f (i + 1) w _ 1 _ _ (fun k hk => ?_)
            unfold zset
            by_cases q : k = w
            · rw [if_pos q, if_pos q, h w (Nat.le_refl w)]
            · rw [if_neg q, if_neg q]
              exact h k hk
          · rw [if_neg c4, if_neg c4]
            refine ⟨rfl, fun k hk => ?_⟩
            have hk : (k : Int) < -20 - (i : Int) := hk
            omega
/-- blanks are passed over -/
theorem zpt_sk (T : Nat → Int) (n w : Nat) (l b : Int) (R : Nat → Int) : ∀ (f p : Nat), zpt T n f p w l b R = zpt T n (p + f - zsk T f p) (zsk T f p) w l b R
  | 0, p => by rw [show zsk T 0 p = p from rfl, show p + 0 - p = 0 by omega]
  | f + 1, p => by
    rw [zsk_s]
    by_cases c : T p = 32
    · rw [if_pos c, zpt_s, if_pos c, zpt_sk T n w l b R f (p + 1), show p + 1 + f = p + (f + 1) by omega]
    · rw [if_neg c, show p + (f + 1) - p = f + 1 by omega]
theorem zpb_R (T : Nat → Int) : ∀ (f i w : Nat) (R R' : Nat → Int), (∀ k, k < w → R k = R' k) → (zpb T f i w R).1 = (zpb T f i w R').1 ∧ ∀ k : Nat, (k : Int) < (zpb T f i w R).1 → (zpb T f i w R).2 k = (zpb T f i w R').2 k
  | 0, i, w, R, R', h => ⟨rfl, fun k hk => h k (by have : (k : Int) < (w : Int) := hk; omega)⟩
  | f + 1, i, w, R, R', h => by
    rw [zpb_s, zpb_s]
    by_cases c1 : T i = 32
    · rw [if_pos c1, if_pos c1]
      exact zpb_R T f (i + 1) w R R' h
    · rw [if_neg c1, if_neg c1]
      by_cases c2 : 97 ≤ T i ∧ T i < 105 ∧ w < 24
      · rw [if_pos c2, if_pos c2]
        refine zpb_R T f (i + 1) (w + 1) _ _ (fun k hk => ?_)
        unfold zset
        by_cases q : k = w
        · rw [if_pos q, if_pos q]
        · rw [if_neg q, if_neg q]
          exact h k (by omega)
      · rw [if_neg c2, if_neg c2]
        refine ⟨rfl, fun k hk => ?_⟩
        have hk : (k : Int) < -20 - (i : Int) := hk
        omega
