theorem zloop (L : Nat) (f : Nat → Int) (hL : L ≤ 3072) (hf : ∀ j, zr32 (f j)) : ∀ (n i : Nat) (M : zMm), L ≤ i + n → i ≤ L + 6 → zRel M M → M 998 0 = (L : Int) → (∀ j, M 999 j = f j) → ∃ M3, zR 60 202 18 [some (.inr (.inr 999)), some (.inr (.inr 0)), some (.inr (.inr 45)), some (.inl (i : Int))] [] SH M = zok 1 M3 := by
  intro n
  induction n with
  | zero =>
    intro i M h h2 hM h8 h9
    refine ⟨M, ?_⟩
    rw [zb_L_law_18, h8, zw_id (by omega) (by omega), if_pos (by omega)]
  | succ n ih =>
    intro i M h h2 hM h8 h9
    by_cases c : (L : Int) - 6 < i
    · refine ⟨M, ?_⟩
      rw [zb_L_law_18, h8, zw_id (by omega) (by omega), if_pos c]
    · have hK : ∀ M2, zRel M2 M2 → (∀ k, 68 ≤ k → M2 k = M k) → ∃ M3, zR 60 202 18 [some (.inr (.inr 999)), some (.inr (.inr 0)), some (.inr (.inr 45)), some (.inl (zw ((i : Int) + 6)))] [] SH M2 = zok 1 M3 := fun M2 q1 q2 => by
        have e6 : zw ((i : Int) + 6) = ((i + 6 : Nat) : Int) := by rw [zw_id (by omega) (by omega)]; omega
        rw [e6]
        clear e6
        exact ih (i + 6) M2 (by omega) (by omega) q1 (by rw [q2 998 (by decide)]; exact h8) (fun j => by rw [q2 999 (by decide)]; exact h9 j)
      have b1 : 0 ≤ zw ((i : Int) + 1) ∧ zw ((i : Int) + 1) < M 998 0 := by rw [h8]; exact zidx (k := 1) (by omega) hL
      have b2 : 0 ≤ zw ((i : Int) + 2) ∧ zw ((i : Int) + 2) < M 998 0 := by rw [h8]; exact zidx (k := 2) (by clear b1; omega) hL
      have b3 : 0 ≤ zw ((i : Int) + 3) ∧ zw ((i : Int) + 3) < M 998 0 := by rw [h8]; exact zidx (k := 3) (by clear b1 b2; omega) hL
      have b4 : 0 ≤ zw ((i : Int) + 4) ∧ zw ((i : Int) + 4) < M 998 0 := by rw [h8]; exact zidx (k := 4) (by clear b1 b2 b3; omega) hL
      have b5 : 0 ≤ zw ((i : Int) + 5) ∧ zw ((i : Int) + 5) < M 998 0 := by rw [h8]; exact zidx (k := 5) (by clear b1 b2 b3 b4; omega) hL
      have h31 : ∀ j, M 999 j < 2147483648 := fun j => by rw [h9]; exact (hf j).2
      have ex : zw (M 998 0 - 6) = (L : Int) - 6 := by
        clear b1 b2 b3 b4 b5
        rw [h8, zw_id (by omega) (by omega)]
      have hi : 0 ≤ (i : Int) ∧ (i : Int) < M 998 0 := by
        clear b1 b2 b3 b4 b5 ex
        omega
      rw [zb_L_law_18, ex, if_neg c, if_pos hi]
      clear ex
      by_cases c0 : zand (M 999 ((i : Int).toNat)) 63 = 0
      · rw [if_pos c0]
        exact zlaw_follow i M hM b1 b2 hK
      rw [if_neg c0]
      by_cases c1 : zand (M 999 ((i : Int).toNat)) 63 = 1
      · rw [if_pos c1]
        exact zlaw_line i M hM b1 b2 hK
      rw [if_neg c1]
      by_cases c2 : zand (M 999 ((i : Int).toNat)) 63 = 2
      · rw [if_pos c2]
        exact zlaw_cell i M hM b1 hK
      rw [if_neg c2]
      by_cases c3 : zand (M 999 ((i : Int).toNat)) 63 = 3
      · rw [if_pos c3]
        exact zlaw_weight i M hM b1 b2 b3 hK
      rw [if_neg c3]
      by_cases c4 : zand (M 999 ((i : Int).toNat)) 63 = 4
      · rw [if_pos c4]
        exact zlaw_dead i M hM b1 b2 hK
      rw [if_neg c4]
      by_cases c5 : zand (M 999 ((i : Int).toNat)) 63 = 5
      · rw [if_pos c5]
        exact zlaw_swap i M hM b1 b2 hK
      rw [if_neg c5]
      by_cases c6 : zand (M 999 ((i : Int).toNat)) 63 = 6
      · rw [if_pos c6]
        exact zlaw_turn i M hM b1 hK
      rw [if_neg c6]
      by_cases c7 : zand (M 999 ((i : Int).toNat)) 63 = 7
      · rw [if_pos c7]
        exact zlaw_told i M hM b1 b2 hK
      rw [if_neg c7]
      by_cases c8 : zand (M 999 ((i : Int).toNat)) 63 = 8
      · rw [if_pos c8]
        exact zlaw_type i M hM b1 b2 b3 hK
      rw [if_neg c8]
      by_cases c9 : zand (M 999 ((i : Int).toNat)) 63 = 9
      · rw [if_pos c9]
        exact zlaw_tongue i M hM hK
      rw [if_neg c9]
      by_cases c10 : zand (M 999 ((i : Int).toNat)) 63 = 10
      · rw [if_pos c10]
        exact zlaw_book i M hM hK
      rw [if_neg c10]
      by_cases c11 : zand (M 999 ((i : Int).toNat)) 63 = 11
      · rw [if_pos c11]
        exact zlaw_count i M hM b1 hK
      rw [if_neg c11]
      by_cases c12 : zand (M 999 ((i : Int).toNat)) 63 = 12
      · rw [if_pos c12]
        exact zlaw_read i M hM b1 b2 hK
      rw [if_neg c12]
      by_cases c13 : zand (M 999 ((i : Int).toNat)) 63 = 13
      · rw [if_pos c13]
        exact zlaw_come i M hM b1 hK
      rw [if_neg c13]
      by_cases c14 : zand (M 999 ((i : Int).toNat)) 63 = 14
      · rw [if_pos c14]
        exact zlaw_odds i M hM b1 b2 b3 hK
      rw [if_neg c14]
      by_cases c15 : zand (M 999 ((i : Int).toNat)) 63 = 15
      · rw [if_pos c15]
        exact zlaw_add i M hM b1 hK
      rw [if_neg c15]
      by_cases c16 : zand (M 999 ((i : Int).toNat)) 63 = 16
      · rw [if_pos c16]
        exact zlaw_draw i M hM b1 hK
      rw [if_neg c16]
      by_cases c17 : zand (M 999 ((i : Int).toNat)) 63 = 17
      · rw [if_pos c17]
        exact zlaw_seed i M hM b1 h31 hK
      rw [if_neg c17]
      by_cases c18 : zand (M 999 ((i : Int).toNat)) 63 = 18
      · rw [if_pos c18]
        exact zlaw_undo i M hM b1 hK
      rw [if_neg c18]
      by_cases c19 : zand (M 999 ((i : Int).toNat)) 63 = 19
      · rw [if_pos c19]
        exact zlaw_reach i M hM b1 b2 hK
      rw [if_neg c19]
      by_cases c20 : zand (M 999 ((i : Int).toNat)) 63 = 20
      · rw [if_pos c20]
        exact zlaw_end i M hM hK
      rw [if_neg c20]
      by_cases c21 : zand (M 999 ((i : Int).toNat)) 63 = 21
      · rw [if_pos c21]
        exact zlaw_soon i M hM b1 b2 hK
      rw [if_neg c21]
      by_cases c22 : zand (M 999 ((i : Int).toNat)) 63 = 22
      · rw [if_pos c22]
        exact zlaw_forget i M hM b1 hK
      rw [if_neg c22]
      by_cases c23 : zand (M 999 ((i : Int).toNat)) 63 = 23
      · rw [if_pos c23]
        exact zlaw_habit i M hM b1 b2 hK
      rw [if_neg c23]
      by_cases c24 : zand (M 999 ((i : Int).toNat)) 63 = 24
      · rw [if_pos c24]
        exact zlaw_guess i M hM b1 hK
      rw [if_neg c24]
      by_cases c25 : zand (M 999 ((i : Int).toNat)) 63 = 25
      · rw [if_pos c25]
        exact zlaw_prevented i M hM b1 hK
      rw [if_neg c25]
      by_cases c26 : zand (M 999 ((i : Int).toNat)) 63 = 26
      · rw [if_pos c26]
        exact zlaw_seated i M hM b1 b2 b3 hK
      rw [if_neg c26]
      by_cases c27 : zand (M 999 ((i : Int).toNat)) 63 = 27
      · rw [if_pos c27]
        exact zlaw_image i M hM hK
      rw [if_neg c27]
      by_cases c28 : zand (M 999 ((i : Int).toNat)) 63 = 28
      · rw [if_pos c28]
        exact zlaw_restore i M hM hK
      rw [if_neg c28]
      by_cases c29 : zand (M 999 ((i : Int).toNat)) 63 = 29
      · rw [if_pos c29]
        exact zlaw_ways i M hM b1 b2 b3 b4 hK
      rw [if_neg c29]
      by_cases c30 : zand (M 999 ((i : Int).toNat)) 63 = 30
      · rw [if_pos c30]
        exact zlaw_differ i M hM b1 b2 b3 b4 b5 hK
      rw [if_neg c30]
      by_cases c31 : zand (M 999 ((i : Int).toNat)) 63 = 31
      · rw [if_pos c31]
        exact zlaw_sheet i M hM b1 b2 b3 hK
      rw [if_neg c31]
      by_cases c32 : zand (M 999 ((i : Int).toNat)) 63 = 32
      · rw [if_pos c32]
        exact zlaw_drop i M hM b1 hK
      rw [if_neg c32]
      by_cases c33 : zand (M 999 ((i : Int).toNat)) 63 = 33
      · rw [if_pos c33]
        exact zlaw_item i M hM b1 b2 b3 b4 hK
      rw [if_neg c33]
      by_cases c34 : zand (M 999 ((i : Int).toNat)) 63 = 34
      · rw [if_pos c34]
        exact zlaw_film i M hM b1 b2 b3 b4 b5 hK
      rw [if_neg c34]
      exact hK M hM (fun _ _ => rfl)
