section
variable {m mm : zMm}
theorem t_soonIn (d n s e word N : Nat) (hw : word < 8) (hN : mm 6 3 = N) (hs : s < N) (ha : xas mm s = true) (he : e < 585) (hr : mR m mm) (hI : xI mm) (h59 : ∀ e' s', e' < 585 → s' < N → xas mm s' = true → m 59 (6 * e' + s') = zsoon (xcm mm) (mm 9) (xS mm) (xnx mm) word n s' e') : zL (d + 5) 175 [.inr (.inr 45), .inl e, .inl s, .inl word] SH m = zok (zsoon (xcm mm) (mm 9) (xS mm) (xnx mm) word (n + 1) s e) m := by
  have hn6 := hI.ce.2.1
  have hW := hI.ce.2.2.2.1
  have h11 := hI.se.1 s (by omega)
  have e11 : mm 11 s = ((xS mm s : Nat) : Int) := by unfold xS; omega
  have hc : ((xS mm s : Nat) : Int) < mm 6 3 := by omega
  obtain ⟨nx, e2, e3, e4⟩ := zliv_al (k := zstep1 (mm 10 4) N) hs ha
  have enx : xnx mm s = nx := by unfold xnx; rw [hN, Int.toNat_natCast, e2, Int.toNat_natCast]
  rw [ze_X9_soonIn, zb_X9_soonIn_0, if_pos (by omega), Int.toNat_natCast, hr.ce, e11, t_comesBy d (xS mm s) e hc he hr hI, zcI_ok, zb_X9_soonIn_15, hr.bk, t_nextSeat (d + 3) s N nx _ hI.bk hN hs e2 hr hI, zcI_ok, zb_X9_soonIn_26, zw_id (x := 6 * (e : Int)) (by omega) (by omega), zw_id (x := 6 * (e : Int) + nx) (by omega) (by omega), show (6 * (e : Int) + nx).toNat = 6 * e + nx by omega, zsoon_s, enx]
  by_cases c0 : mks (xcm mm (xS mm s) e) 8 = 0
  · rw [if_pos c0, if_pos c0, if_pos (by omega), h59 e nx he e3 e4]
  · rw [if_neg c0, if_neg c0]
    have hpos := zcmw_p hW xcm_w c0
    have hV : ∀ w, 0 ≤ (if w = word then (1000 : Int) else zsoon (xcm mm) (mm 9) (xS mm) (xnx mm) word n nx (wpush e w)) ∧ (if w = word then (1000 : Int) else zsoon (xcm mm) (mm 9) (xS mm) (xnx mm) word n nx (wpush e w)) ≤ 1000 := fun w => by
      split
      · exact ⟨by decide, by decide⟩
      · exact zsoon_r hW n _ _
    have hv : (fun w => if w = word then (1000 : Int) else zsoon (xcm mm) (mm 9) (xS mm) (xnx mm) word n nx (wpush e w)) word = 1000 := if_pos rfl
    have hcall : ∀ w, w < 8 → w ≠ word → m 59 (6 * wpush e w + nx) = (fun w => if w = word then (1000 : Int) else zsoon (xcm mm) (mm 9) (xS mm) (xnx mm) word n nx (wpush e w)) w := fun w hw8 hne => by
      show _ = if w = word then (1000 : Int) else _
      rw [if_neg hne]
      exact h59 _ nx (wpush_lt he hw8) e3 e4
    have hV2 : ∀ w, 0 ≤ (fun w => if w = word then (1000 : Int) else zsoon (xcm mm) (mm 9) (xS mm) (xnx mm) word n nx (wpush e w)) w ∧ (fun w => if w = word then (1000 : Int) else zsoon (xcm mm) (mm 9) (xS mm) (xnx mm) word n nx (wpush e w)) w ≤ 1000 := hV
    clear hV
    generalize (fun w => if w = word then (1000 : Int) else zsoon (xcm mm) (mm 9) (xS mm) (xnx mm) word n nx (wpush e w)) = V at hv hcall hV2 ⊢
    have hft := zfw_r hW (P := xcm mm (xS mm s) e) (c := xS mm s) hV2
    have hf8 := zsum_mul hft
    refine zup (P := fun i => zR (d + 4) 175 52 [some (.inr (.inr 45)), some (.inl (e : Int)), none, some (.inl (word : Int)), some (.inl ((xS mm s : Nat) : Int)), some (.inl (mks (xcm mm (xS mm s) e) 8)), some (.inl (nx : Int)), some (.inl (zsum (zfw (mm 9) (xcm mm (xS mm s) e) (xS mm s) V) i)), some (.inl (i : Int))] [] SH m = _) (n := 8) ?_ ?_ 0 (by omega) |> fun h => zR_weak (by repeat first | exact zle_nil | apply zle_c | apply zle_n) h
    · have h8 := hf8 8
      have hg8 := zwt_r hW (xcm mm (xS mm s) e) (xS mm s) 8
      rw [zb_X9_soonIn_52, if_neg (by decide), t_weightOf (d + 2) (xS mm s) _ hc hr hI, zcI_ok, zb_X9_soonIn_133, if_neg (by omega), zdiv_n h8.1 (by omega) hpos (by omega)]
    · intro i hi ihl
      rw [zsum_s] at ihl
      have hwe := hr.we (8 * xS mm s + i) (by omega)
      have hgi := zwt_r hW (xcm mm (xS mm s) e) (xS mm s) i
      have hfi := hf8 i
      have hti := hft i
      have hwi := hW (8 * xS mm s + i)
      rw [zb_X9_soonIn_52, if_pos (by omega), t_has (d + 3) _ i (by omega), zcI_ok, zb_X9_soonIn_66, mks_bit _ 8 (by decide), decide_eq_true (show i < 8 by omega), Bool.true_and, zw_inc i (by omega)]
      cases hp : xcm mm (xS mm s) e i with
      | false =>
        rw [zfw_f hp, Int.add_zero] at ihl
        rw [if_pos (by simp)]
        exact ihl
      | true =>
        rw [zfw_t hp, zwt_t hp] at hti
        rw [zfw_t hp] at ihl
        rw [if_neg (by simp), zw_id (x := 8 * ((xS mm s : Nat) : Int)) (by omega) (by omega), zw_id (x := 8 * ((xS mm s : Nat) : Int) + i) (by omega) (by omega), show (8 * ((xS mm s : Nat) : Int) + i).toNat = 8 * xS mm s + i by omega, hwe, if_pos (by omega)]
        by_cases q : i = word
        · subst q
          rw [hv] at ihl hti
          rw [if_pos rfl, zw_id (x := mm 9 (8 * xS mm s + i) * 1000) (by omega) (by omega), zw_id (by omega) (by omega)]
          exact ihl
        · have hpl := wpush_lt he hi
          rw [if_neg (by omega), t_push (d + 2) e i he hi, zcI_ok, zb_X9_soonIn_108, zw_id (x := 6 * ((wpush e i : Nat) : Int)) (by omega) (by omega), zw_id (x := 6 * ((wpush e i : Nat) : Int) + nx) (by omega) (by omega), show (6 * ((wpush e i : Nat) : Int) + nx).toNat = 6 * wpush e i + nx by omega, if_pos (by omega), hcall i hi q, zw_inc i (by omega), zw_id (x := mm 9 (8 * xS mm s + i) * V i) (by omega) (by omega), zw_id (by omega) (by omega)]
          exact ihl
theorem t_isOver (d e : Nat) (he : e < 585) (hr : mR m mm) (hI : xI mm) : zL (d + 5) 173 [.inr (.inr 45), .inl e] SH m = zok (if zover (xal mm) (xcm mm) e then 1 else 0) m := by
  have h0 := hI.ce.1
  have hn6 := hI.ce.2.1
  have hx : (if zover (xal mm) (xcm mm) e then (1 : Int) else 0) = if zall (fun c => !(xal mm c && decide (mks (xcm mm c e) 8 ≠ 0))) (mm 6 3).toNat then 1 else 0 := by
    have : zover (xal mm) (xcm mm) e = zall (fun c => !(xal mm c && decide (mks (xcm mm c e) 8 ≠ 0))) (mm 6 3).toNat := by
      rw [Bool.eq_iff_iff, zall_i]
      unfold zover
      rw [decide_eq_true_eq]
      constructor
      · intro h j hj
        rw [h j (by omega)]
        rfl
      · intro h c hc
        by_cases q : c < (mm 6 3).toNat
        · have := h c q
          rw [Bool.not_eq_true'] at this
          exact this
        · have : xal mm c = false := by
            unfold xal
            rw [decide_eq_false (by omega), Bool.false_and]
          rw [this, Bool.false_and]
    rw [this]
  rw [ze_X9_isOver, zb_X9_isOver_0, hx]
  refine zup (P := fun i => zR (d + 4) 173 4 [some (.inr (.inr 45)), some (.inl (e : Int)), some (.inl (if zall (fun c => !(xal mm c && decide (mks (xcm mm c e) 8 ≠ 0))) i then 1 else 0)), some (.inl (i : Int))] [] SH m = _) (n := (mm 6 3).toNat) ?_ ?_ 0 (by omega)
  · rw [zb_X9_isOver_4, hr.mn, if_neg (by omega), if_pos (by split <;> simp)]
  · intro i hi ih
    have hd := hI.ce.2.2.2.2 i
    have hs : zall (fun c => !(xal mm c && decide (mks (xcm mm c e) 8 ≠ 0))) (i + 1) = (zall (fun c => !(xal mm c && decide (mks (xcm mm c e) 8 ≠ 0))) i && !(xal mm i && decide (mks (xcm mm i e) 8 ≠ 0))) := rfl
    have ha : xal mm i = decide (mm 8 i = 0) := by
      unfold xal
      rw [decide_eq_true (by omega), Bool.true_and]
    rw [hs, ha] at ih
    rw [zb_X9_isOver_4, hr.mn, hr.de, if_pos (by omega), zw_inc i (by omega), Int.toNat_natCast]
    cases hz : zall (fun c => !(xal mm c && decide (mks (xcm mm c e) 8 ≠ 0))) i with
    | false =>
      rw [hz] at ih
      rw [if_pos (by decide)]
      exact ih
    | true =>
      rw [hz] at ih
      rw [if_neg (by decide), if_pos (by omega)]
      by_cases q : mm 8 i = 1
      · rw [decide_eq_false (show ¬ (mm 8 i = 0) by omega)] at ih
        rw [if_pos q]
        exact ih
      · rw [decide_eq_true (show mm 8 i = 0 by omega)] at ih
        rw [if_neg q, t_comesBy d i e (by omega) he hr hI, zcI_ok, zb_X9_isOver_32, zw_inc i (by omega)]
        by_cases r : mks (xcm mm i e) 8 = 0
        · rw [decide_eq_false (fun z => z r)] at ih
          rw [if_pos r]
          exact ih
        · rw [decide_eq_true r] at ih
          rw [if_neg r]
          exact ih
end
