theorem zor_0 {x : Int} (hx : zr32 x) : zor x 0 = x := zbit_ext (zr_or _ _) hx fun j _ => by rw [zbit_or, zbit_0, Bool.or_false]
theorem zends_0 {e : Nat} {W : Int} (he : e < 585) (h0 : 0 ≤ W) (h8 : W < 8) : zends e (W / 8) 0 = true := by
  have := zsl_r he
  unfold zends
  rw [decide_eq_true (by simpa using this.1), decide_eq_true (by rw [Nat.pow_zero, Nat.mod_one]; omega)]
  rfl
theorem zmay_s (F LW LL : Nat → Int) (lim : Int) (e w i : Nat) : zmay F LW LL lim e w (i + 1) = (zmay F LW LL lim e w i && !zstands LW LL lim e w i) := rfl
section
variable {m mm : zMm}
theorem t_mayCome_loop (d e w : Nat) (kind : Int) (hk : 0 ≤ kind ∧ kind ≤ 2) (hk1 : kind ≠ 1) (he : e < 585) (hw : w < 8) (hr : mR m mm) (hI : xI mm) : ∀ i : Nat, i ≤ (mm 2 3).toNat → zR (d + 2) 151 43 [some (.inr (.inr 45)), some (.inl (e : Int)), some (.inl (w : Int)), some (.inl kind), some (.inl (if zmay (mm 3) (mm 4) (mm 5) (if kind = 2 then 2 else 4) e w i then 1 else 0)), some (.inl (i : Int)), none, none] [] SH m = zok (if zmay (mm 3) (mm 4) (mm 5) (if kind = 2 then 2 else 4) e w (mm 2 3).toNat then 1 else 0) m := by
  obtain ⟨t0, t6, tF, tL⟩ := hI.tg
  refine zup ?_ ?_
  · rw [zb_X9_mayCome_43, hr.lm, if_neg (by omega)]
    cases zmay (mm 3) (mm 4) (mm 5) (if kind = 2 then 2 else 4) e w (mm 2 3).toNat <;> rfl
  · intro i hi ih
    obtain ⟨l1, l2, l3, l4⟩ := tL i (by omega)
    have htl := hI.tl i (by omega)
    have hx : (if zmay (mm 3) (mm 4) (mm 5) (if kind = 2 then 2 else 4) e w (i + 1) then (1 : Int) else 0) = if zmay (mm 3) (mm 4) (mm 5) (if kind = 2 then 2 else 4) e w i = false then 0 else if ¬ (kind = 2 ∧ 2 < mm 5 i) ∧ mm 4 i % 8 = w ∧ (mm 5 i = 1 ∨ zends e (mm 4 i / 8) (mm 5 i - 1).toNat = true) then 0 else 1 := by
      rw [zmay_s]
      have hst : zstands (mm 4) (mm 5) (if kind = 2 then 2 else 4) e w i = decide (¬ (kind = 2 ∧ 2 < mm 5 i) ∧ mm 4 i % 8 = w ∧ (mm 5 i = 1 ∨ zends e (mm 4 i / 8) (mm 5 i - 1).toNat = true)) := by
        unfold zstands
        have e1 : (mm 5 i = 1 ∨ zends e (mm 4 i / 8) (mm 5 i - 1).toNat = true) ↔ zends e (mm 4 i / 8) (mm 5 i - 1).toNat = true := by
          constructor
          · intro q
            rcases q with q | q
            · rw [q]
              refine zends_0 he l3 ?_
              rw [q] at htl
              exact htl
            · exact q
          · exact Or.inr
        have e2 : (mm 5 i - 1 < if kind = 2 then 2 else 4) ↔ ¬ (kind = 2 ∧ 2 < mm 5 i) := by
          split <;> omega
        rw [Bool.eq_iff_iff, Bool.and_eq_true, Bool.and_eq_true, decide_eq_true_eq, decide_eq_true_eq, decide_eq_true_eq, e1, e2]
        constructor
        · rintro ⟨⟨a, b⟩, c⟩
          exact ⟨a, c, b⟩
        · rintro ⟨a, c, b⟩
          exact ⟨⟨a, b⟩, c⟩
      rw [hst]
      cases zmay (mm 3) (mm 4) (mm 5) (if kind = 2 then 2 else 4) e w i with
      | false => simp
      | true =>
        simp only [Bool.true_and, Bool.not_eq_true', decide_eq_false_iff_not, Bool.true_eq_false, if_false]
        by_cases q : ¬ (kind = 2 ∧ 2 < mm 5 i) ∧ mm 4 i % 8 = w ∧ (mm 5 i = 1 ∨ zends e (mm 4 i / 8) (mm 5 i - 1).toNat = true)
        · rw [if_neg (fun z => z q), if_pos q]
        · rw [if_pos q, if_neg q]
    rw [hx] at ih
    have ih2 : ∀ o6 o7 : Option zV, zR (d + 2) 151 43 [some (.inr (.inr 45)), some (.inl (e : Int)), some (.inl (w : Int)), some (.inl kind), some (.inl (if zmay (mm 3) (mm 4) (mm 5) (if kind = 2 then 2 else 4) e w i = false then 0 else if ¬ (kind = 2 ∧ 2 < mm 5 i) ∧ mm 4 i % 8 = w ∧ (mm 5 i = 1 ∨ zends e (mm 4 i / 8) (mm 5 i - 1).toNat = true) then 0 else 1)), some (.inl ((i + 1 : Nat) : Int)), o6, o7] [] SH m = zok (if zmay (mm 3) (mm 4) (mm 5) (if kind = 2 then 2 else 4) e w (mm 2 3).toNat then 1 else 0) m :=
      fun o6 o7 => zR_weak (by repeat first | exact zle_nil | apply zle_c | apply zle_n) ih
    generalize (zok (if zmay (mm 3) (mm 4) (mm 5) (if kind = 2 then 2 else 4) e w (mm 2 3).toNat then (1 : Int) else 0) m) = R at ih2 ⊢
    clear ih hx
    generalize (if kind = 2 then (2 : Int) else 4) = lim at ih2 ⊢
    have hze := t_endsIn (m := m) d e (mm 5 i - 1).toNat (mm 4 i / 8) he (by omega)
    rw [show (((mm 5 i - 1).toNat : Nat) : Int) = mm 5 i - 1 by omega] at hze
    rw [zb_X9_mayCome_43, hr.lm, hr.ll, hr.lw, zw_inc i (by omega), Int.toNat_natCast, zrem_n l3 (by omega) (by decide) (by decide), zdiv_n l3 (by omega) (by decide) (by decide), zw_id (x := mm 5 i - 1) (by omega) (by omega)]
    simp (disch := omega) only [if_pos]
    cases hm : zmay (mm 3) (mm 4) (mm 5) lim e w i with
    | false =>
      simp only [hm, if_true] at ih2
      simp only [Bool.false_eq_true, if_false, eq_self, if_true]
      (repeat' split) <;> exact ih2 _ _
    | true =>
      simp only [hm, Bool.true_eq_false, if_false] at ih2
      simp only [eq_self, if_true, show ¬ ((1 : Int) = 0) by decide, if_false]
      by_cases c1 : kind = 2 ∧ 2 < mm 5 i
      · rw [if_pos c1.1, if_pos c1.2]
        rw [if_neg (fun z => z.1 c1)] at ih2
        exact ih2 _ _
      · have tail : (if mm 4 i % 8 = (w : Int) then if mm 5 i = 1 then zR (d + 2) 151 43 [some (.inr (.inr 45)), some (.inl (e : Int)), some (.inl (w : Int)), some (.inl kind), some (.inl 0), some (.inl ((i + 1 : Nat) : Int)), some (.inl (mm 5 i)), some (.inl 1)] [] SH m else zcI (zL (d + 2) 150 [.inl (e : Int), .inl (mm 4 i / 8), .inl (mm 5 i - 1)] SH m) fun x sh' mm' => zR (d + 2) 151 127 [some (.inr (.inr 45)), some (.inl (e : Int)), some (.inl (w : Int)), some (.inl kind), some (.inl 1), some (.inl (i : Int)), some (.inl (mm 5 i)), some (.inl 1)] [.inl x] sh' mm' else zR (d + 2) 151 43 [some (.inr (.inr 45)), some (.inl (e : Int)), some (.inl (w : Int)), some (.inl kind), some (.inl 1), some (.inl ((i + 1 : Nat) : Int)), some (.inl (mm 5 i)), some (.inl 1)] [] SH m) = R := by
          by_cases c2 : mm 4 i % 8 = (w : Int)
          · rw [if_pos c2]
            by_cases c3 : mm 5 i = 1
            · rw [if_pos c3]
              rw [if_pos ⟨c1, c2, Or.inl c3⟩] at ih2
              exact ih2 _ _
            · rw [if_neg c3, hze, zcI_ok, zb_X9_mayCome_127, zw_inc i (by omega)]
              cases c4 : zends e (mm 4 i / 8) (mm 5 i - 1).toNat with
              | false =>
                rw [if_pos (by simp)]
                rw [if_neg (fun z => by rcases z.2.2 with q | q; exact c3 q; rw [c4] at q; cases q)] at ih2
                exact ih2 _ _
              | true =>
                rw [if_neg (by simp)]
                rw [if_pos ⟨c1, c2, Or.inr c4⟩] at ih2
                exact ih2 _ _
          · rw [if_neg c2]
            rw [if_neg (fun z => c2 z.2.1)] at ih2
            exact ih2 _ _
        by_cases k2 : kind = 2
        · rw [if_pos k2, if_neg (fun q => c1 ⟨k2, q⟩)]
          exact tail
        · rw [if_neg k2]
          exact tail
end
