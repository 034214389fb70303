theorem zpo_all : ∀ N, N < 7 → ∀ st, st < N → ∀ s, s < N → (∃ i, i < N ∧ (st + (i + 1) * 1) % N = s) ∧ ∃ i, i < N ∧ (st + (i + 1) * (N - 1)) % N = s := by decide +kernel
theorem zcnt_0 {P : Nat → Bool} : ∀ {n : Nat}, (∀ c, c < n → P c = false) → zcnt P n = 0
  | 0, _ => rfl
  | n + 1, h => by
    rw [zcnt_s, h n (by omega), zcnt_0 (fun c hc => h c (by omega))]
    rfl
theorem zcnt_pos {P : Nat → Bool} {c : Nat} (h : P c = true) : ∀ {n : Nat}, c < n → 0 < zcnt P n
  | n + 1, hn => by
    have := zcnt_r P n
    rw [zcnt_s]
    by_cases q : c = n
    · subst q
      rw [h]
      simp only [if_true]
      omega
    · have := zcnt_pos h (show c < n by omega)
      split <;> omega
section
variable {m mm : zMm}
/-- none lives, or there is a seat whose turn it is -/
theorem zseat (hI : xI mm) : ∃ N st : Nat, mm 6 3 = N ∧ mm 10 2 = st ∧ (st < N ∨ N = 0) ∧ N ≤ 6 ∧ ((xlv mm = 0 ∧ zturn (xas mm) N (zstep1 (mm 10 4) N) st = -4) ∨ (0 < xlv mm ∧ st < N ∧ ∃ t : Nat, zturn (xas mm) N (zstep1 (mm 10 4) N) st = t ∧ t < N ∧ xas mm t = true)) := by
  have h0 := hI.ce.1
  have h6 := hI.ce.2.1
  have hst := hI.st
  obtain ⟨N, hN⟩ : ∃ N : Nat, mm 6 3 = N := ⟨(mm 6 3).toNat, by omega⟩
  obtain ⟨st, hs⟩ : ∃ st : Nat, mm 10 2 = st := ⟨(mm 10 2).toNat, by omega⟩
  by_cases c0 : N = 0
  · refine ⟨N, st, hN, hs, .inr c0, by omega, .inl ⟨?_, ?_⟩⟩
    · unfold xlv
      rw [hN, c0]
      rfl
    · unfold zturn
      rw [if_pos c0]
  · have hlt : st < N := by omega
    refine ⟨N, st, hN, hs, .inl hlt, by omega, ?_⟩
    rcases zturn_r (al := xas mm) (n := N) (k := zstep1 (mm 10 4) N) (st := st) (.inl hlt) with q | ⟨t, q, q2, q3⟩
    · refine .inl ⟨?_, q⟩
      unfold xlv
      refine zcnt_0 (fun c hc => ?_)
      obtain ⟨s, hs1, hs2⟩ := hI.se.2.2 c (by omega)
      have e : xal mm c = xas mm s := by
        unfold xas
        rw [hs2, Int.toNat_natCast]
      rw [e]
      unfold zturn at q
      rw [if_neg c0] at q
      cases hal : xas mm st with
      | true =>
        rw [hal] at q
        simp only [if_true] at q
        omega
      | false =>
        rw [hal] at q
        simp only [Bool.false_eq_true, if_false] at q
        have hn := zfind_n (al := xas mm) (n := N) (k := zstep1 (mm 10 4) N) (seat := st) (f := N) (i := 1) q
        obtain ⟨⟨i1, a1, b1⟩, ⟨i2, a2, b2⟩⟩ := zpo_all N (by omega) st hlt s (by omega)
        unfold zstep1 at hn
        by_cases hb : mm 10 4 = 0
        · rw [if_pos hb] at hn
          have := hn (i1 + 1) (by omega) (by omega)
          unfold zpo at this
          rw [b1] at this
          exact this
        · rw [if_neg hb] at hn
          have := hn (i2 + 1) (by omega) (by omega)
          unfold zpo at this
          rw [b2] at this
          exact this
    · refine .inr ⟨?_, hlt, t, q, q2, q3⟩
      have h11 := hI.se.1 t (by omega)
      unfold xlv
      exact zcnt_pos (c := (mm 11 t).toNat) q3 (by omega)
end
theorem zdrw_lt (P : Nat → Bool) (Wt : Nat → Int) (c : Nat) : ∀ (f w : Nat) (v : Int), 0 ≤ v → v < zsum (zwt Wt P c) (w + f) - zsum (zwt Wt P c) w → zdrw P Wt c f w v < w + f
  | 0, w, v, h0, h => by
    rw [Nat.add_zero] at h
    omega
  | f + 1, w, v, h0, h => by
    rw [zdrw_s]
    have hs := zsum_s (zwt Wt P c) w
    cases h2 : (P w && decide (v < Wt (8 * c + w))) with
    | true =>
      rw [if_pos rfl]
      omega
    | false =>
      rw [if_neg (by decide)]
      have hv : 0 ≤ v - zwt Wt P c w := by
        unfold zwt
        cases hp : P w with
        | false =>
          rw [if_neg (by decide)]
          omega
        | true =>
          rw [hp, Bool.true_and] at h2
          have := of_decide_eq_false h2
          rw [if_pos rfl]
          omega
      have := zdrw_lt P Wt c f (w + 1) (v - zwt Wt P c w) hv (by rw [show w + 1 + f = w + (f + 1) by omega]; omega)
      omega
theorem zdrw_in (P : Nat → Bool) (Wt : Nat → Int) (c : Nat) : ∀ (f w : Nat) (v : Int), 0 ≤ v → v < zsum (zwt Wt P c) (w + f) - zsum (zwt Wt P c) w → P (zdrw P Wt c f w v) = true
  | 0, w, v, h0, h => by
    rw [Nat.add_zero] at h
    omega
  | f + 1, w, v, h0, h => by
    rw [zdrw_s]
    have hs := zsum_s (zwt Wt P c) w
    cases h2 : (P w && decide (v < Wt (8 * c + w))) with
    | true =>
      rw [if_pos rfl]
      simp only [Bool.and_eq_true] at h2
      exact h2.1
    | false =>
      rw [if_neg (by decide)]
      have hv : 0 ≤ v - zwt Wt P c w := by
        unfold zwt
        cases hp : P w with
        | false =>
          rw [if_neg (by decide)]
          omega
        | true =>
          rw [hp, Bool.true_and] at h2
          have := of_decide_eq_false h2
          rw [if_pos rfl]
          omega
      exact zdrw_in P Wt c f (w + 1) (v - zwt Wt P c w) hv (by rw [show w + 1 + f = w + (f + 1) by omega]; omega)
section
variable {mm : zMm}
theorem xas_fr {mc : zMm} (h6 : mc 6 = mm 6) (h8 : mc 8 = mm 8) (h11 : mc 11 = mm 11) : xas mc = xas mm := by
  funext s
  unfold xas xal
  rw [h6, h8, h11]
theorem xlv_fr {mc : zMm} (h6 : mc 6 = mm 6) (h8 : mc 8 = mm 8) : xlv mc = xlv mm := by
  unfold xlv
  have : xal mc = xal mm := by
    funext c
    unfold xal
    rw [h6, h8]
  rw [this, h6]
theorem s_slip0 (d : Nat) (hI : xI mm) : zL (d + 4) 31 [.inr (.inr 12)] SH mm = zok (zsl (xe mm)) mm := s_slip d hI.pg
/-- the seat whose turn it is, its cell, the seat behind, the word that falls -/
def xst (mm : zMm) : Nat := (zturn (xas mm) (mm 6 3).toNat (zstep1 (mm 10 4) (mm 6 3).toNat) (mm 10 2).toNat).toNat
def xc (mm : zMm) : Nat := (mm 11 (xst mm)).toNat
def xP1 (mm : zMm) : Nat → Bool := xcm mm (xc mm) (xe mm)
def xw (mm : zMm) : Nat := zdrw (xP1 mm) (mm 9) (xc mm) 8 0 (zlot (mm 1 4) / 65536 % zsum (zwt (mm 9) (xP1 mm) (xc mm)) 8)
def xad (mm : zMm) : zMm := if mks (xP1 mm) 8 ≠ 0 ∧ mm 12 2 < 60 then zu (zu (zu (zu mm 1 4 (zlot (mm 1 4))) 13 (mm 12 2).toNat (xw mm)) 14 (mm 12 2).toNat (mm 11 (xst mm))) 12 2 (mm 12 2 + 1) else mm
def xdr (mm : zMm) : zMm := zu (zu (xad mm) 10 2 (zliv (xas mm) (mm 6 3).toNat (zstep1 (mm 10 4) (mm 6 3).toNat) (xst mm))) 10 3 (zw (mm 10 3 + 1))
theorem xad_k {k : Nat} (h : k ≠ 1 ∧ k ≠ 12 ∧ k ≠ 13 ∧ k ≠ 14) : xad mm k = mm k := by
  unfold xad
  split
  · rw [zu_k _ _ h.2.1, zu_k _ _ h.2.2.2, zu_k _ _ h.2.2.1, zu_k _ _ h.1]
  · rfl
theorem xdr_k {k : Nat} (h : k ≠ 1 ∧ k ≠ 10 ∧ k ≠ 12 ∧ k ≠ 13 ∧ k ≠ 14) : xdr mm k = mm k := by
  unfold xdr
  rw [zu_k _ _ h.2.1, zu_k _ _ h.2.1, xad_k ⟨h.1, h.2.2⟩]
theorem xdr_lv : xlv (xdr mm) = xlv mm := xlv_fr (xdr_k (by decide)) (xdr_k (by decide))
theorem I_lot (v : Int) (hv : 0 ≤ v ∧ v < 2147483648) (hI : xI mm) : xI (zu mm 1 4 v) :=
  ⟨(by first | exact hI.ce | (simp (disch := decide) only [zu_k, zu_j]; exact hI.ce)), (by first | exact hI.tg | (simp (disch := decide) only [zu_k, zu_j]; exact hI.tg)), (by first | exact hI.tl | (simp (disch := decide) only [zu_k, zu_j]; exact hI.tl)), (by first | exact hI.se | (simp (disch := decide) only [zu_k, zu_j]; exact hI.se)), (by first | exact hI.st | (simp (disch := decide) only [zu_k, zu_j]; exact hI.st)), (by first | exact hI.bk | (simp (disch := decide) only [zu_k, zu_j]; exact hI.bk)), (by first | exact hI.pg | (unfold xP; simp (disch := decide) only [zu_k, zu_j]; exact hI.pg)), (by first | exact hI.wr | (simp (disch := decide) only [zu_k, zu_j]; exact hI.wr)), (by first | exact hI.wo | (simp (disch := decide) only [zu_k, zu_j]; exact hI.wo)), (by first | exact hI.dd | (simp (disch := decide) only [zu_k, zu_j]; exact hI.dd)), (by rw [zu_s]; exact hv)⟩
theorem I_write (w c : Int) (hw : 0 ≤ w ∧ w < 8) (hc : c = -4 ∨ (0 ≤ c ∧ c < mm 6 3)) (hs : mm 12 2 < 60) (hI : xI mm) : xI (zu (zu (zu mm 13 (mm 12 2).toNat w) 14 (mm 12 2).toNat c) 12 2 (mm 12 2 + 1)) := by
  have h0 := hI.pg.1
  exact ⟨(by first | exact hI.ce | (simp (disch := decide) only [zu_k, zu_j]; exact hI.ce)), (by first | exact hI.tg | (simp (disch := decide) only [zu_k, zu_j]; exact hI.tg)), (by first | exact hI.tl | (simp (disch := decide) only [zu_k, zu_j]; exact hI.tl)), (by first | exact hI.se | (simp (disch := decide) only [zu_k, zu_j]; exact hI.se)), (by first | exact hI.st | (simp (disch := decide) only [zu_k, zu_j]; exact hI.st)), (by first | exact hI.bk | (simp (disch := decide) only [zu_k, zu_j]; exact hI.bk)), (by
      unfold xP
      simp (disch := decide) only [zu_k, zu_s]
      refine ⟨by omega, by omega, fun p hp => ?_⟩
      by_cases q : p = (mm 12 2).toNat
      · rw [q, zu_s]
        exact hw
      · rw [zu_j _ _ q]
        exact hI.pg.2.2 p (by omega)), (by
      simp (disch := decide) only [zu_k, zu_s]
      intro p hp
      by_cases q : p = (mm 12 2).toNat
      · rw [q, zu_s]
        exact hc
      · rw [zu_j _ _ q, zu_k _ _ (by decide)]
        exact hI.wr p (by omega)), (by first | exact hI.wo | (simp (disch := decide) only [zu_k, zu_j]; exact hI.wo)), (by first | exact hI.dd | (simp (disch := decide) only [zu_k, zu_j]; exact hI.dd)), (by first | exact hI.lt | (simp (disch := decide) only [zu_k, zu_j]; exact hI.lt))⟩
theorem I_goOn (u : Nat) (x : Int) (hu : (u : Int) < mm 6 3) (hI : xI mm) : xI (zu (zu mm 10 2 u) 10 3 x) :=
  ⟨(by first | exact hI.ce | (simp (disch := decide) only [zu_k, zu_j]; exact hI.ce)), (by first | exact hI.tg | (simp (disch := decide) only [zu_k, zu_j]; exact hI.tg)), (by first | exact hI.tl | (simp (disch := decide) only [zu_k, zu_j]; exact hI.tl)), (by first | exact hI.se | (simp (disch := decide) only [zu_k, zu_j]; exact hI.se)), (by
      simp (disch := decide) only [zu_k, zu_j, zu_s]
      exact ⟨by omega, .inl hu⟩), (by first | exact hI.bk | (simp (disch := decide) only [zu_k, zu_j]; exact hI.bk)), (by first | exact hI.pg | (unfold xP; simp (disch := decide) only [zu_k, zu_j]; exact hI.pg)), (by first | exact hI.wr | (simp (disch := decide) only [zu_k, zu_j]; exact hI.wr)), (by first | exact hI.wo | (simp (disch := decide) only [zu_k, zu_j]; exact hI.wo)), (by first | exact hI.dd | (simp (disch := decide) only [zu_k, zu_j]; exact hI.dd)), (by first | exact hI.lt | (simp (disch := decide) only [zu_k, zu_j]; exact hI.lt))⟩
/-- the seat of the turn, where one lives -/
theorem xst_r (hI : xI mm) (hz : 0 < xlv mm) : ∃ N st : Nat, mm 6 3 = N ∧ mm 10 2 = st ∧ st < N ∧ N ≤ 6 ∧ zturn (xas mm) N (zstep1 (mm 10 4) N) st = xst mm ∧ xst mm < N ∧ xas mm (xst mm) = true ∧ (mm 11 (xst mm) = xc mm) ∧ (xc mm : Int) < mm 6 3 ∧ mm 8 (xc mm) = 0 := by
  obtain ⟨N, st, hN, hst, hs, hN6, ⟨hz0, ht⟩ | ⟨_, hlt, t, ht, htn, hal⟩⟩ := zseat hI
  · omega
  · have e : xst mm = t := by
      unfold xst
      rw [hN, hst, Int.toNat_natCast, Int.toNat_natCast, ht, Int.toNat_natCast]
    have h11 := hI.se.1 t (by omega)
    have ec : mm 11 t = xc mm := by
      unfold xc
      rw [e]
      omega
    refine ⟨N, st, hN, hst, hlt, hN6, by rw [e]; exact ht, by omega, by rw [e]; exact hal, by rw [e]; exact ec, by omega, ?_⟩
    unfold xas xal at hal
    rw [ec, Int.toNat_natCast] at hal
    simp only [Bool.and_eq_true, decide_eq_true_eq] at hal
    exact hal.2
theorem xw_r (hI : xI mm) (h : mks (xP1 mm) 8 ≠ 0) : xw mm < 8 ∧ xP1 mm (xw mm) = true := by
  have hW := hI.ce.2.2.2.1
  have hsum := zcmw_p (cm := xcm mm) (c := xc mm) (e := xe mm) hW (xcm_w (mm := mm)) h
  have hv0 : 0 ≤ zlot (mm 1 4) / 65536 % zsum (zwt (mm 9) (xP1 mm) (xc mm)) 8 := Int.emod_nonneg _ (by unfold xP1; omega)
  have hv1 : zlot (mm 1 4) / 65536 % zsum (zwt (mm 9) (xP1 mm) (xc mm)) 8 < zsum (zwt (mm 9) (xP1 mm) (xc mm)) 8 := Int.emod_lt_of_pos _ hsum
  have hs0 : zsum (zwt (mm 9) (xP1 mm) (xc mm)) 0 = 0 := rfl
  exact ⟨zdrw_lt (xP1 mm) (mm 9) (xc mm) 8 0 _ hv0 (by rw [hs0, Nat.zero_add]; omega), zdrw_in (xP1 mm) (mm 9) (xc mm) 8 0 _ hv0 (by rw [hs0, Nat.zero_add]; omega)⟩
theorem xad_I (hI : xI mm) (hz : 0 < xlv mm) : xI (xad mm) := by
  unfold xad
  split
  · rename_i c
    obtain ⟨N, st, hN, hst, hlt, hN6, ht, htn, hal, ec, hcl, -⟩ := xst_r hI hz
    have h1 := I_lot (zlot (mm 1 4)) (zlot_r _) hI
    have hw := (xw_r hI c.1).1
    have e12 : zu mm 1 4 (zlot (mm 1 4)) 12 = mm 12 := zu_k _ _ (by decide)
    have h2 := I_write (mm := zu mm 1 4 (zlot (mm 1 4))) (xw mm : Int) (mm 11 (xst mm)) (by omega) (.inr ⟨by omega, by rw [zu_k _ _ (by decide)]; omega⟩) (by rw [e12]; exact c.2) h1
    rw [e12] at h2
    exact h2
  · exact hI
theorem xdr_I (hI : xI mm) (hz : 0 < xlv mm) : xI (xdr mm) := by
  obtain ⟨N, st, hN, hst, hlt, hN6, ht, htn, hal, ec, hcl, -⟩ := xst_r hI hz
  obtain ⟨u, e2, e3, e4⟩ := zliv_al (k := zstep1 (mm 10 4) N) htn hal
  unfold xdr
  rw [hN, Int.toNat_natCast, e2]
  exact I_goOn u _ (by rw [xad_k (by decide), hN]; omega) (xad_I hI hz)
/-- a turn, drawn -/
theorem d_one (d : Nat) (hI : xI mm) (hz : 0 < xlv mm) : zL (d + 6) 16 [.inr (.inr 1)] SH mm = zvd (xad mm) ∧ zL (d + 6) 57 [.inr (.inr 10)] SH (xad mm) = zvd (xdr mm) := by
  obtain ⟨N, st, hN, hst, hlt, hN6, ht, htn, hal, ec, hcl, -⟩ := xst_r hI hz
  have hadd := s_addDrawnWord (mm := mm) d st N (xst mm) hN hI.se hst (.inl hlt) ht htn hI.pg hI.ce hI.tg
  refine ⟨hadd, ?_⟩
  have hA := xad_I hI hz
  have ea : xas (xad mm) = xas mm := xas_fr (xad_k (by decide)) (xad_k (by decide)) (xad_k (by decide))
  have e6 : xad mm 6 = mm 6 := xad_k (by decide)
  have e10 : xad mm 10 = mm 10 := xad_k (by decide)
  have hg := s_goOn (mm := xad mm) d st N (xst mm) (by rw [e6]; exact hN) ⟨hA.ce.1, hA.ce.2.1⟩ hA.se (by rw [e10]; exact hst) (.inl hlt) (by rw [ea, e10]; exact ht) htn
  rw [ea, e10] at hg
  rw [hg]
  unfold xdr
  rw [hN, Int.toNat_natCast]
/-- so many turns, drawn -/
def xdrs : Nat → zMm → zMm
  | 0, m => m
  | n + 1, m => xdrs n (xdr m)
theorem o_draw (d n : Nat) (hn : 1 ≤ n ∧ n ≤ 60) (hI : xI mm) (hz : 0 < xlv mm) : zL (d + 20) 70 [.inr (.inr 0), .inl n] SH mm = zok (zw (xdrs n mm 12 2 - mm 12 2)) (xdrs n mm) := by
  have hN : xN mm := ⟨hI.ce.1, hI.ce.2.1⟩
  obtain ⟨N, st, hN2, hst, hlt, hN6, ht, htn, hal, -⟩ := xst_r hI hz
  rw [ze_X8_draw, zb_X8_draw_0, if_neg (by omega), if_neg (by omega), s_seatOfTurn _ st N hN2 hN hI.se hst (.inl hlt), ht, zcI_ok, zb_X8_draw_23, if_neg (by omega)]
  have key : ∀ (f k : Nat) (m : zMm), k + f = n → xI m → 0 < xlv m → zR (d + 19) 70 42 [some (.inr (.inr 0)), some (.inl (n : Int)), some (.inl (mm 12 2)), some (.inl (k : Int))] [] SH m = zok (zw (xdrs f m 12 2 - mm 12 2)) (xdrs f m) := by
    intro f
    induction f with
    | zero =>
      intro k m hk hm hzm
      rw [zb_X8_draw_42, if_neg (by omega)]
      rfl
    | succ f ih =>
      intro k m hk hm hzm
      obtain ⟨a1, a2⟩ := d_one (mm := m) (d + 13) hm hzm
      rw [zb_X8_draw_42, if_pos (by omega)]
      refine (congrArg (fun r => zcV r _) a1).trans ?_
      rw [zcV_vd, zb_X8_draw_54]
      refine (congrArg (fun r => zcV r _) a2).trans ?_
      rw [zcV_vd, zb_X8_draw_64, zw_inc k (by omega)]
      exact ih (k + 1) (xdr m) (by omega) (xdr_I hm hzm) (by rw [xdr_lv]; exact hzm)
  exact key n 0 mm (by omega) hI hz
theorem o_drawN (d n : Nat) (hn : 1 ≤ n ∧ n ≤ 60) (hI : xI mm) (hz : ¬ 0 < xlv mm) : zL (d + 20) 70 [.inr (.inr 0), .inl n] SH mm = zok (-4) mm := by
  have hN : xN mm := ⟨hI.ce.1, hI.ce.2.1⟩
  obtain ⟨N, st, hN2, hst, hs, hN6, ⟨hz0, ht⟩ | ⟨hz1, _⟩⟩ := zseat hI
  · rw [ze_X8_draw, zb_X8_draw_0, if_neg (by omega), if_neg (by omega), s_seatOfTurn _ st N hN2 hN hI.se hst hs, ht, zcI_ok, zb_X8_draw_23, if_pos (by decide)]
  · exact absurd hz1 hz
end
