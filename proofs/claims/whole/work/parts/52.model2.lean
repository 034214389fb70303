theorem zpo_s (n k s i : Nat) : (zpo n k s i + k) % n = zpo n k s (i + 1) := by
  unfold zpo
  rw [Nat.mod_add_mod, Nat.succ_mul, Nat.add_assoc]
section
variable {m mm : zMm}
theorem t_mayCome (d e w : Nat) (kind : Int) (hk : 0 ≤ kind ∧ kind ≤ 2) (he : e < 585) (hw : w < 8) (hr : mR m mm) (hI : xI mm) : zL (d + 3) 151 [.inr (.inr 45), .inl e, .inl w, .inl kind] SH m = zok (if decide (kind = 1) || zmay (mm 3) (mm 4) (mm 5) (if kind = 2 then 2 else 4) e w (mm 2 3).toNat then 1 else 0) m := by
  rw [ze_X9_mayCome, zb_X9_mayCome_0]
  by_cases k1 : kind = 1
  · rw [if_pos k1, decide_eq_true k1]
    rfl
  · rw [if_neg k1, decide_eq_false k1, Bool.false_or]
    have key := t_mayCome_loop (m := m) (mm := mm) d e w kind hk k1 he hw hr hI 0 (by omega)
    have hz := zhow_r e
    have hfo : zfo (zhow e) ≤ 73 := by unfold zfo; (repeat' split) <;> omega
    by_cases c : e = 0
    · rw [if_neg (by omega)]
      have e0 : zmay (mm 3) (mm 4) (mm 5) (if kind = 2 then 2 else 4) e w 0 = true := by unfold zmay; simp [c]
      rw [e0] at key
      exact key
    · have ex : ((e : Int) - (zfo (zhow e) : Nat)) % 8 = ((zsl e % 8 : Nat) : Int) := by
        unfold zsl zfo zhow
        (repeat' split) <;> (try simp_all) <;> omega
      rw [if_pos (by omega), t_sizeIn, zcI_ok, zb_X9_mayCome_20, t_firstOf, zcI_ok, zb_X9_mayCome_23, zw_id (x := (e : Int) - (zfo (zhow e) : Nat)) (by omega) (by omega), zrem_n (by omega) (by omega) (by decide) (by decide), ex, if_pos (by omega), Int.toNat_natCast, hr.fo, t_has (d + 1) _ w (by omega), zcI_ok, zb_X9_mayCome_32]
      have e0 : zmay (mm 3) (mm 4) (mm 5) (if kind = 2 then 2 else 4) e w 0 = zbit (mm 3 (zsl e % 8)) w := by unfold zmay; simp [c]
      rw [e0] at key
      cases hb : zbit (mm 3 (zsl e % 8)) w with
      | true =>
        rw [hb] at key
        rw [if_neg (by decide)]
        exact key
      | false =>
        rw [if_pos (by decide)]
        have e1 : ∀ i, zmay (mm 3) (mm 4) (mm 5) (if kind = 2 then 2 else 4) e w i = false := by
          intro i
          induction i with
          | zero => rw [e0, hb]
          | succ i ih => rw [zmay_s, ih, Bool.false_and]
        rw [e1]
        rfl
theorem t_comesBy (d c e : Nat) (hc : (c : Int) < mm 6 3) (he : e < 585) (hr : mR m mm) (hI : xI mm) : zL (d + 4) 152 [.inr (.inr 45), .inl c, .inl e] SH m = zok (mks (xcm mm c e) 8) m := by
  have h6 := hI.ce.2.1
  have hK := hI.ce.2.2.1 c
  rw [ze_X9_comesBy, zb_X9_comesBy_0]
  by_cases k3 : mm 7 c = 3
  · rw [zb_X9_comesBy_5, if_pos (by decide), if_pos (by omega), Int.toNat_natCast, hr.ki, if_pos k3]
    rw [show mks (xcm mm c e) 8 = 0 from (mks_0 (by decide)).mpr fun w _ => by simp [xcm, zcome, k3]]
  · refine zup (P := fun i => zR (d + 3) 152 5 [some (.inr (.inr 45)), some (.inl (c : Int)), some (.inl (e : Int)), some (.inl (mks (xcm mm c e) i)), some (.inl (i : Int))] [] SH m = _) (n := 8) ?_ ?_ 0 (by omega)
    · rw [zb_X9_comesBy_5, if_neg (by decide)]
    · intro i hi ih
      have hwe := hr.we (8 * c + i) (by omega)
      have em : mks (xcm mm c e) (i + 1) = if xcm mm c e i then zor (mks (xcm mm c e) i) (zshl 1 i) else mks (xcm mm c e) i := rfl
      rw [em] at ih
      rw [zb_X9_comesBy_5, if_pos (by omega), if_pos (by omega), Int.toNat_natCast, hr.ki, if_neg k3, zw_id (x := 8 * (c : Int)) (by omega) (by omega), zw_id (x := 8 * (c : Int) + i) (by omega) (by omega), if_pos (by omega), show (8 * (c : Int) + i).toNat = 8 * c + i by omega, hwe, zw_inc i (by omega)]
      by_cases c1 : 0 < mm 9 (8 * c + i)
      · rw [if_pos c1, if_pos (by omega), t_mayCome d e i (mm 7 c) (by omega) he hi hr hI, zcI_ok, zb_X9_comesBy_51, zor_0 (mks_r _ _), zw_inc i (by omega)]
        have ex : xcm mm c e i = (decide (mm 7 c = 1) || zmay (mm 3) (mm 4) (mm 5) (if mm 7 c = 2 then 2 else 4) e i (mm 2 3).toNat) := by simp [xcm, zcome, k3, c1]
        rw [ex] at ih
        cases hz : (decide (mm 7 c = 1) || zmay (mm 3) (mm 4) (mm 5) (if mm 7 c = 2 then 2 else 4) e i (mm 2 3).toNat) with
        | true =>
          rw [hz] at ih
          rw [if_neg (by decide)]
          exact ih
        | false =>
          rw [hz] at ih
          rw [if_pos (by decide)]
          exact ih
      · rw [if_neg c1, zor_0 (mks_r _ _)]
        have ex : xcm mm c e i = false := by simp [xcm, zcome, c1]
        rw [ex] at ih
        exact ih
theorem t_weightOf (d c : Nat) (P : Nat → Bool) (hc : (c : Int) < mm 6 3) (hr : mR m mm) (hI : xI mm) : zL (d + 2) 153 [.inr (.inr 45), .inl c, .inl (mks P 8)] SH m = zok (zsum (zwt (mm 9) P c) 8) m := by
  have h6 := hI.ce.2.1
  have hW := hI.ce.2.2.2.1
  rw [ze_X9_weightOf, zb_X9_weightOf_0]
  refine zup (P := fun i => zR (d + 1) 153 5 [some (.inr (.inr 45)), some (.inl (c : Int)), some (.inl (mks P 8)), some (.inl (zsum (zwt (mm 9) P c) i)), some (.inl (i : Int))] [] SH m = _) (n := 8) ?_ ?_ 0 (by omega)
  · rw [zb_X9_weightOf_5, if_neg (by decide)]
  · intro i hi ih
    have hwe := hr.we (8 * c + i) (by omega)
    have hg := zwt_r hW P c i
    have hwi := hW (8 * c + i)
    rw [zsum_s] at ih
    rw [zb_X9_weightOf_5, if_pos (by omega), t_has d _ i (by omega), zcI_ok, zb_X9_weightOf_19, mks_bit P 8 (by decide), decide_eq_true hi, Bool.true_and, zw_inc i (by omega), Int.add_zero, zw_id (x := zsum (zwt (mm 9) P c) i) (by omega) (by omega), zw_id (x := 8 * (c : Int)) (by omega) (by omega), zw_id (x := 8 * (c : Int) + i) (by omega) (by omega), show (8 * (c : Int) + i).toNat = 8 * c + i by omega, hwe]
    cases hp : P i with
    | false =>
      rw [zwt_f hp, Int.add_zero] at ih
      rw [if_pos (by simp)]
      exact ih
    | true =>
      rw [zwt_t hp] at ih
      rw [if_neg (by simp), if_pos (by omega), zw_id (by omega) (by omega)]
      exact ih
/-- how many live -/
def xlv (mm : zMm) : Int := zcnt (xal mm) (mm 6 3).toNat
theorem t_living (d : Nat) (hr : mR m mm) (hI : xI mm) : zL (d + 1) 154 [.inr (.inr 45)] SH m = zok (xlv mm) m := by
  have h0 := hI.ce.1
  have h6 := hI.ce.2.1
  rw [ze_X9_living, zb_X9_living_0]
  refine zup (P := fun i => zR d 154 4 [some (.inr (.inr 45)), some (.inl (zcnt (xal mm) i)), some (.inl (i : Int))] [] SH m = _) (n := (mm 6 3).toNat) ?_ ?_ 0 (by omega)
  · rw [zb_X9_living_4, hr.mn, if_neg (by omega)]
    rfl
  · intro i hi ih
    have hd := hI.ce.2.2.2.2 i
    have hcr := zcnt_r (xal mm) i
    rw [zcnt_s] at ih
    rw [zb_X9_living_4, hr.mn, hr.de, if_pos (by omega), if_pos (by omega), Int.toNat_natCast, zw_inc i (by omega)]
    have hx : xal mm i = decide (mm 8 i = 0) := by
      unfold xal
      rw [decide_eq_true (by omega), Bool.true_and]
    rw [hx] at ih
    rcases hd with q | q
    · rw [q] at ih ⊢
      rw [show zw (1 - 0) = 1 by decide, zw_id (by omega) (by omega)]
      exact ih
    · rw [q] at ih ⊢
      rw [show zw (1 - 1) = 0 by decide, zw_id (by omega) (by omega), Int.add_zero]
      exact ih
theorem xas_x (s : Nat) (hs : (s : Int) < mm 6 3) (hI : xI mm) : xas mm s = decide (mm 8 (mm 11 s).toNat = 0) := by
  have := hI.se.1 s hs
  unfold xas xal
  rw [decide_eq_true (by omega), Bool.true_and]
theorem t_nextSeat (d s N t : Nat) (b : Int) (hb : b = 0 ∨ b = 1) (hN : mm 6 3 = N) (hs : s < N) (ht : zliv (xas mm) N (zstep1 b N) s = t) (hr : mR m mm) (hI : xI mm) : zL (d + 1) 155 [.inr (.inr 45), .inl s, .inl b] SH m = zok t m := by
  have h6 := hI.ce.2.1
  have key : ∀ (f i : Nat), zfind (xas mm) N (zstep1 b N) s f (i + 1) = t → zpo N (zstep1 b N) s i < N → zR d 155 5 [some (.inr (.inr 45)), none, some (.inl b), some (.inl (zpo N (zstep1 b N) s i : Nat)), some (.inl 1)] [] SH m = zok t m := by
    intro f
    induction f with
    | zero =>
      intro i h
      exact absurd h (by show ¬ ((-4 : Int) = t); omega)
    | succ f ih =>
      intro i h hlt
      have hnx : zpo N (zstep1 b N) s (i + 1) < N := zpo_lt (by omega)
      have hse := hI.se.1 (zpo N (zstep1 b N) s (i + 1)) (by omega)
      have hx := xas_x (zpo N (zstep1 b N) s (i + 1)) (by omega) hI
      have hd := hI.ce.2.2.2.2 (mm 11 (zpo N (zstep1 b N) s (i + 1))).toNat
      have hst : (if b = 0 then zrem (zw (((zpo N (zstep1 b N) s i : Nat) : Int) + 1)) N else zrem (zw (((zpo N (zstep1 b N) s i : Nat) : Int) + zw ((N : Int) - 1))) N) = ((zpo N (zstep1 b N) s (i + 1) : Nat) : Int) := by
        rw [← zpo_s]
        rcases hb with rfl | rfl
        · rw [if_pos rfl, zw_id (by omega) (by omega), zrem_n (by omega) (by omega) (by omega) (by omega)]
          show _ = (((zpo N (zstep1 0 N) s i + 1) % N : Nat) : Int)
          rw [Int.natCast_emod, Int.natCast_add]
          rfl
        · rw [if_neg (by decide), zw_id (x := (N : Int) - 1) (by omega) (by omega), zw_id (by omega) (by omega), zrem_n (by omega) (by omega) (by omega) (by omega)]
          show _ = (((zpo N (zstep1 1 N) s i + (N - 1)) % N : Nat) : Int)
          rw [Int.natCast_emod]
          congr 1
          omega
      unfold zfind at h
      have fin : (if mm 8 (mm 11 (zpo N (zstep1 b N) s (i + 1))).toNat = 1 then zR d 155 5 [some (.inr (.inr 45)), none, some (.inl b), some (.inl (zpo N (zstep1 b N) s (i + 1) : Nat)), some (.inl 1)] [] SH m else zR d 155 5 [some (.inr (.inr 45)), none, some (.inl b), some (.inl (zpo N (zstep1 b N) s (i + 1) : Nat)), some (.inl 0)] [] SH m) = zok t m := by
        by_cases q : mm 8 (mm 11 (zpo N (zstep1 b N) s (i + 1))).toNat = 1
        · rw [if_pos q]
          rw [hx, decide_eq_false (by omega)] at h
          simp only [Bool.false_eq_true, if_false] at h
          exact ih (i + 1) h hnx
        · rw [if_neg q, zb_X9_nextSeat_5, if_pos rfl]
          rw [hx, decide_eq_true (by omega)] at h
          simp only [if_true] at h
          rw [h]
      rw [zb_X9_nextSeat_5, hr.mn, hr.ce, hr.de, hN, if_neg (by decide)]
      rcases hb with rfl | rfl
      · rw [if_pos rfl] at hst ⊢
        rw [if_neg (by omega), hst, if_pos (by omega), Int.toNat_natCast, if_pos (by omega)]
        exact fin
      · rw [if_neg (by decide)] at hst ⊢
        rw [if_neg (by omega), hst, if_pos (by omega), Int.toNat_natCast, if_pos (by omega)]
        exact fin
  have e0 : zpo N (zstep1 b N) s 0 = s := by
    unfold zpo
    rw [Nat.zero_mul, Nat.add_zero, Nat.mod_eq_of_lt hs]
  have k0 := key N 0 ht (by rw [e0]; exact hs)
  rw [e0] at k0
  rw [ze_X9_nextSeat, zb_X9_nextSeat_0]
  exact zR_weak (by repeat first | exact zle_nil | apply zle_c | apply zle_n) k0
theorem t_turnSeat (d N st t : Nat) (hN : mm 6 3 = N) (hst : mm 10 2 = st) (hs : st < N) (ht : zturn (xas mm) N (zstep1 (mm 10 4) N) st = t) (hr : mR m mm) (hI : xI mm) : zL (d + 2) 156 [.inr (.inr 45)] SH m = zok t m := by
  have h6 := hI.ce.2.1
  have hse := hI.se.1 st (by omega)
  have hx := xas_x st (by omega) hI
  have hd := hI.ce.2.2.2.2 (mm 11 st).toNat
  unfold zturn at ht
  rw [if_neg (by omega)] at ht
  rw [ze_X9_turnSeat, zb_X9_turnSeat_0, hr.st, hr.ce, hr.de, hr.bk, hst, Int.toNat_natCast, if_pos (by omega), if_pos (by omega)]
  by_cases q : mm 8 (mm 11 st).toNat = 1
  · rw [hx, decide_eq_false (by omega)] at ht
    simp only [Bool.false_eq_true, if_false] at ht
    rw [if_pos q, t_nextSeat d st N t _ hI.bk hN hs ht hr hI, zcI_ok, zb_X9_turnSeat_30]
  · rw [hx, decide_eq_true (by omega)] at ht
    simp only [if_true] at ht
    rw [if_neg q, ht]
theorem t_goOn (d N st t u : Nat) (hN : mm 6 3 = N) (hst : mm 10 2 = st) (hs : st < N) (ht : zturn (xas mm) N (zstep1 (mm 10 4) N) st = t) (htn : t < N) (hu : zliv (xas mm) N (zstep1 (mm 10 4) N) t = u) (hr : mR m mm) (hI : xI mm) : zL (d + 3) 164 [.inr (.inr 45)] SH m = zvd (zu (zu m 45 12 u) 45 14 (zw (mm 10 3 + 1))) := by
  rw [ze_X9_goOn, zb_X9_goOn_0, t_turnSeat d N st t hN hst hs ht hr hI, zcI_ok, zb_X9_goOn_6, hr.bk, t_nextSeat (d + 1) t N u _ hI.bk hN htn hu hr hI, zcI_ok, zb_X9_goOn_13, hr.tn]
end
