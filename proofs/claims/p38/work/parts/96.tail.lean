/-! behind the forty turns -/
section
variable {mm : zMm}
noncomputable abbrev G475 (a9 a12 a14 a15 a16 a17 : Int) (M : zMm) : zRes := zR 60 92 475 [none, some (.inr (.inr 0)), none, none, none, none, some (.inr (.inr 49)), some (.inr (.inr 50)), none, some (.inl a9), none, none, some (.inl a12), none, some (.inl a14), some (.inl a15), some (.inl a16), some (.inl a17), none, none, none] [] SH M
/-- rows of the search alone are others -/
theorem xI_Fr {m : zMm} (h : zFr m mm) (hI : xI mm) : xI m := xI_fr (fun k a b => h k (by omega) (by omega) (by omega)) hI
theorem zsoon_Fr {m : zMm} (h : zFr m mm) (w t : Nat) : zsoon (xcm m) (m 9) (xS m) (xnx m) w t (xst m) (xe m) = zsoon (xcm mm) (mm 9) (xS mm) (xnx mm) w t (xst mm) (xe mm) := by
  have f : ∀ k, k < 33 → m k = mm k := fun k hk => h k (by omega) (by omega) (by omega)
  have ea : xas m = xas mm := xas_fr (f 6 (by decide)) (f 8 (by decide)) (f 11 (by decide))
  have est : xst m = xst mm := by unfold xst; rw [ea, f 6 (by decide), f 10 (by decide)]
  have ee : xe m = xe mm := by unfold xe; rw [f 13 (by decide), f 12 (by decide)]
  have ecm : xcm m = xcm mm := by
    funext c e w
    unfold xcm
    rw [f 7 (by decide), f 9 (by decide), f 3 (by decide), f 4 (by decide), f 5 (by decide), f 2 (by decide)]
  have eS : xS m = xS mm := by
    funext s
    unfold xS
    rw [f 11 (by decide)]
  have en : xnx m = xnx mm := by
    funext s
    unfold xnx
    rw [ea, f 6 (by decide), f 10 (by decide)]
  rw [est, ee, ecm, eS, en, f 9 (by decide)]
theorem l_soon (a9 : Int) (n w : Nat) (hw : w < 8) (hI : xI mm) (hz : 0 < xlv mm) (hn : mm 12 2 = n) (m : zMm) (hm : zFr m mm) (K : ∀ s1 : Int, 0 ≤ s1 → s1 < 9 → zE (fun x _ => x = 1) (G597 a9 n s1 m)) : ∀ (f t : Nat) (a16 : Int), t + f = 5 → 1 ≤ t → a16 ≤ zsoon (xcm mm) (mm 9) (xS mm) (xnx mm) w t (xst mm) (xe mm) → zE (fun x _ => x = 1) (G475 a9 n w (xrc mm w) a16 t m)
  | 0, t, a16, ht, h1, h => by
    obtain rfl : t = 5 := by omega
    have hIm := xI_Fr hm hI
    have e12 : m 12 = mm 12 := hm 12 (by decide) (by decide) (by decide)
    have e13 : m 13 = mm 13 := hm 13 (by decide) (by decide) (by decide)
    have fin : ∀ a16 a17 : Int, zE (fun x _ => x = 1) (zcI (zL 60 90 [.inl (zshr a9 3), .inl 9] SH m) fun x sh' mm' => zR 60 92 597 [none, some (.inr (.inr 0)), none, none, none, none, some (.inr (.inr 49)), some (.inr (.inr 50)), none, some (.inl a9), none, none, some (.inl (n : Int)), none, some (.inl (w : Int)), some (.inl (xrc mm w)), some (.inl a16), some (.inl a17), none, none, none] [.inl x, .inl 1] sh' mm') := by
      intro a16 a17
      refine zE.s (o_some 59 _ 9 (by decide) m) fun s s0 s9 => ?_
      exact zE.w (by repeat first | exact zle_nil | apply zle_c | apply zle_n) (K s s0 s9)
    refine zE.e (zb_L_law_475 60 _ _ _ _ _ _ _) (zE.n (by decide) (zE.i (fun q => ?_) fun _ => fin _ _))
    have en : zw ((n : Int) - 1) = ((n - 1 : Nat) : Int) := by
      have := hI.pg.2.1
      rw [zw_id (by omega) (by omega)]; omega
    rw [en]
    refine zE.c (o_read0 40 (n - 1) hIm (by rw [e12]; omega)) ?_
    refine zE.e (zb_L_law_575 60 _ _ _ _ _ _ _ _) (zE.i (fun q2 => zE.p ?_ (fin _ _)) fun _ => fin _ _)
    rw [e13] at q2
    exact xrc_last hI hz w hw (by omega) (by rw [hn, Int.toNat_natCast]; exact q2)
  | f + 1, t, a16, ht, h1, h => by
    have hIm := xI_Fr hm hI
    have e12 : m 12 = mm 12 := hm 12 (by decide) (by decide) (by decide)
    have e13 : m 13 = mm 13 := hm 13 (by decide) (by decide) (by decide)
    have hzm : 0 < xlv m := by
      rw [xlv_fr (hm 6 (by decide) (by decide) (by decide)) (hm 8 (by decide) (by decide) (by decide))]
      exact hz
    have hr := zsoon_r (cm := xcm mm) (S := xS mm) (nxt := xnx mm) (word := w) hI.ce.2.2.2.1 t (xst mm) (xe mm)
    have hmo := zsoon_mono (cm := xcm mm) (S := xS mm) (nxt := xnx mm) (word := w) hI.ce.2.2.2.1 t (xst mm) (xe mm)
    have hpos := fun z => xrc_soon hI hz w t hw (by omega) z
    refine zE.e (zb_L_law_475 60 _ _ _ _ _ _ _) (zE.p (by omega) ?_)
    have hs := o_soon (mm := m) 40 w t hw (by omega) hIm hzm
    rw [zsoon_Fr hm] at hs
    refine zE.c hs ?_
    have ih := l_soon a9 n w hw hI hz hn m hm K f (t + 1)
    generalize zsoon (xcm mm) (mm 9) (xS mm) (xnx mm) w t (xst mm) (xe mm) = s at *
    have e4 : zw (s + 4) = s + 4 := zw_id (by omega) (by omega)
    have goon : zE (fun x _ => x = 1) (G475 a9 n w (xrc mm w) s (zw ((t : Int) + 1)) m) := by
      rw [zw_inc t (by omega)]
      exact ih s (by omega) (by omega) hmo
    refine zE.e (zb_L_law_489 60 _ _ _ _ _ _ _ _) (zE.n (by omega) (zE.n (by omega) (zE.n (by rw [e4]; omega) (zE.i (fun q => zE.n (by have := hpos q; omega) (zE.i (fun q2 => ?_) fun _ => ?_)) fun _ => ?_))))
    · have en : zw ((n : Int) - 1) = ((n - 1 : Nat) : Int) := by
        have := hI.pg.2.1
        rw [zw_id (by omega) (by omega)]; omega
      rw [en]
      refine zE.c (o_read0 40 (n - 1) hIm (by rw [e12]; omega)) ?_
      refine zE.e (zb_L_law_537 60 _ _ _ _ _ _ _ _ _) (zE.i (fun _ => ?_) fun _ => zE.n (by have := hpos q; omega) ?_)
      · exact zE.w (by repeat first | exact zle_nil | apply zle_c | apply zle_n) goon
      · exact zE.w (by repeat first | exact zle_nil | apply zle_c | apply zle_n) goon
    · exact zE.w (by repeat first | exact zle_nil | apply zle_c | apply zle_n) goon
    · exact zE.w (by repeat first | exact zle_nil | apply zle_c | apply zle_n) goon
noncomputable abbrev G329 (a9 a10 a12 a13 : Int) (M : zMm) : zRes := zR 60 92 329 [none, some (.inr (.inr 0)), some (.inr (.inr 45)), none, none, none, some (.inr (.inr 49)), some (.inr (.inr 50)), some (.inr (.inr 51)), some (.inl a9), some (.inl a10), none, some (.inl a12), some (.inl a13), none, none, none, none, none, none, none] [] SH M
noncomputable abbrev G379 (a9 a12 a13 a14 : Int) (M : zMm) : zRes := zR 60 92 379 [none, some (.inr (.inr 0)), none, none, none, none, some (.inr (.inr 49)), some (.inr (.inr 50)), some (.inr (.inr 51)), some (.inl a9), none, none, some (.inl a12), some (.inl a13), some (.inl a14), none, none, none, none, none, none] [] SH M
noncomputable abbrev G391 (a9 a12 a13 a14 a15 : Int) (M : zMm) : zRes := zR 60 92 391 [none, some (.inr (.inr 0)), none, none, none, none, some (.inr (.inr 49)), some (.inr (.inr 50)), some (.inr (.inr 51)), some (.inl a9), none, none, some (.inl a12), some (.inl a13), some (.inl a14), some (.inl a15), none, none, none, none, none] [] SH M
/-- each word follows -/
theorem l_foll {P : Int → zMm → Prop} (a9 a10 : Int) (n : Nat) (hI : xI mm) (hF : bF mm) (hn : mm 12 2 = n) (hs : a10 ≠ 0 → ∀ p : Nat, 1 ≤ p → (p : Int) < mm 12 2 → zbit (mm 3 (mm 13 (p - 1)).toNat) (mm 13 p).toNat = true) (K : zE P (G379 a9 n 0 0 mm)) : ∀ f k : Nat, k + f = n → 1 ≤ k → zE P (G329 a9 a10 n k mm)
  | 0, k, hk, h1 => zE.e (zb_L_law_329 60 ..) (zE.n (by omega) (zE.w (by repeat first | exact zle_nil | apply zle_c | apply zle_n) K))
  | f + 1, k, hk, h1 => by
    have hp := hI.pg.2.1
    refine zE.e (zb_L_law_329 60 ..) (zE.p (by omega) (zE.i (fun _ => ?_) fun q => ?_))
    · exact zE.w (by repeat first | exact zle_nil | apply zle_c | apply zle_n) K
    · have en : zw ((k : Int) - 1) = ((k - 1 : Nat) : Int) := by
        rw [zw_id (by omega) (by omega)]; omega
      rw [en]
      have b1 := hI.pg.2.2 (k - 1) (by omega)
      have b2 := hI.pg.2.2 k (by omega)
      refine zE.c (o_read0 40 (k - 1) hI (by omega)) ?_
      refine zE.e (zb_L_law_351 60 ..) (zE.p b1 ?_)
      refine zE.c (o_read0 40 k hI (by omega)) ?_
      refine zE.e (zb_L_law_359 60 ..) (zE.n ?_ ?_)
      · rw [hF _ (by omega)]
        have hb := zbit_test (mm 3 (mm 13 (k - 1)).toNat) (k := (mm 13 k).toNat) (by omega)
        rw [show (((mm 13 k).toNat : Nat) : Int) = mm 13 k by omega] at hb
        rw [hb, if_pos (hs q k h1 (by omega))]
        decide
      · rw [zw_inc k (by omega)]
        exact l_foll a9 a10 n hI hF hn hs K f (k + 1) (by omega) (by omega)
theorem l_hw {P : Int → zMm → Prop} (a9 : Int) (n N c : Nat) (hI : xI mm) (h6 : mm 6 3 = N) (hn : mm 12 2 = n) (hc : c < N) (K : ∀ x : Int, x = zcnt (zhs (mm 13) (mm 14) c 8) n → zE P (G391 a9 n x c 8 mm)) : ∀ (f w : Nat) (x : Int), w + f = 8 → x = zcnt (zhs (mm 13) (mm 14) c w) n → zE P (G391 a9 n x c w mm)
  | 0, w, x, hw, h => by
    obtain rfl : w = 8 := by omega
    exact K x h
  | f + 1, w, x, hw, h => by
    have hp := hI.pg.2.1
    refine zE.e (zb_L_law_391 60 ..) (zE.p (by omega) ?_)
    refine zE.c (o_habit 40 c w hI (by omega) (by omega)) ?_
    refine zE.e (zb_L_law_408 60 ..) ?_
    rw [hn, Int.toNat_natCast]
    have h2 := zhs_w (B := mm 13) (Wr := mm 14) (n := n) c w
    have r1 := zcnt_r (zhs (mm 13) (mm 14) c (w + 1)) n
    have e : zw (x + zcnt (zhab (mm 13) (mm 14) c w) n) = zcnt (zhs (mm 13) (mm 14) c (w + 1)) n := by
      rw [h, ← h2, zw_id (by omega) (by omega)]
    rw [e, zw_inc w (by omega)]
    exact l_hw a9 n N c hI h6 hn hc K f (w + 1) _ (by omega) rfl
theorem l_hc {P : Int → zMm → Prop} (a9 : Int) (n N : Nat) (hI : xI mm) (h6 : mm 6 3 = N) (h51 : mm 51 0 = N) (hn : mm 12 2 = n) (hw : ∀ p, p < n → 0 ≤ mm 14 p ∧ 0 ≤ mm 13 p ∧ mm 13 p < 8) (K : ∀ x : Int, x = zcnt (zhs (mm 13) (mm 14) N 0) n → zE P (G379 a9 n x N mm)) : ∀ (f c : Nat) (x : Int), c + f = N → x = zcnt (zhs (mm 13) (mm 14) c 0) n → zE P (G379 a9 n x c mm)
  | 0, c, x, hc, h => by
    obtain rfl : c = N := by omega
    exact K x h
  | f + 1, c, x, hc, h => by
    have h66 := hI.ce.2.1
    refine zE.e (zb_L_law_379 60 ..) (zE.p (by omega) ?_)
    refine l_hw a9 n N c hI h6 hn (by omega) (fun y hy => ?_) 8 0 x (by omega) h
    refine zE.e (zb_L_law_391 60 ..) (zE.n (by decide) ?_)
    rw [zw_inc c (by omega)]
    exact zE.w (by repeat first | exact zle_nil | apply zle_c | apply zle_n) (l_hc a9 n N hI h6 h51 hn hw K f (c + 1) y (by omega) (by rw [hy, zhs_c hw]))
theorem l_tail (a9 a10 tn : Int) (N : Nat) (M : zMm) (hN : 1 ≤ N) (h : lJ N a10 40 tn M) : zE (fun x _ => x = 1) (G138 a9 a10 tn 40 M) := by
  obtain ⟨hI, h6, h51, hF, h10, ht0, htk, hlen, hwr, hs⟩ := id h
  have h0 := hI.pg.1
  have h66 := hI.ce.2.1
  obtain ⟨n, hn⟩ : ∃ n : Nat, M 12 2 = n := ⟨(M 12 2).toNat, by omega⟩
  have hbw : ∀ p, p < n → 0 ≤ M 14 p ∧ 0 ≤ M 13 p ∧ M 13 p < 8 := fun p hp => ⟨(hwr p (by omega)).1, hI.pg.2.2 p (by omega)⟩
  -- from the habits on
  have hab : zE (fun x _ => x = 1) (G379 a9 n 0 0 M) := by
    refine l_hc a9 n N hI h6 h51 hn hbw (fun x hx => ?_) N 0 0 (by omega) (zhs_0 hbw).symm
    rw [zhs_N N (fun p hp => (hwr p (by omega)).2)] at hx
    refine zE.e (zb_L_law_379 60 ..) (zE.n (by omega) (zE.p hx ?_))
    refine zE.c (o_count4 40 hI) ?_
    refine zE.e (zb_L_law_435 60 ..) (zE.p ?_ ?_)
    · rw [hn, Int.toNat_natCast]
      exact zcnt_all fun p hp => decide_eq_true (hbw p hp).1
    refine zE.s (o_some 59 a9 8 (by decide) M) fun w w0 w8 => ?_
    obtain ⟨w, rfl⟩ : ∃ x : Nat, w = x := ⟨w.toNat, by omega⟩
    refine zE.e (zb_L_law_449 60 ..) ?_
    by_cases hz : 0 < xlv M
    · obtain ⟨m, r1, r2⟩ := o_reach 40 w (by omega) hI hz
      refine zE.c r1 ?_
      refine zE.e (zb_L_law_458 60 ..) ?_
      have hIm := xI_Fr r2 hI
      have hzm : 0 < xlv m := by
        rw [xlv_fr (r2 6 (by decide) (by decide) (by decide)) (r2 8 (by decide) (by decide) (by decide))]
        exact hz
      refine zE.c (o_count6 40 hIm hzm) ?_
      refine zE.e (zb_L_law_466 60 ..) (zE.n (by omega) ?_)
      have hr := zsoon_r (cm := xcm M) (S := xS M) (nxt := xnx M) (word := w) hI.ce.2.2.2.1 1 (xst M) (xe M)
      refine zE.w (by repeat first | exact zle_nil | apply zle_c | apply zle_n) (l_soon a9 n w (by omega) hI hz hn m r2 (fun s1 s10 s19 => ?_) 4 1 0 (by decide) (by decide) hr.1)
      exact l_redo a9 s1 n hIm (by rw [r2 12 (by decide) (by decide) (by decide)]; exact hn) (by omega) ⟨s10, s19⟩
    · refine zE.c (o_reachN 40 w (by omega) hI hz) ?_
      refine zE.e (zb_L_law_458 60 ..) ?_
      refine zE.c (o_count6N 40 hI hz) ?_
      refine zE.e (zb_L_law_466 60 ..) (zE.p (by decide) ?_)
      refine zE.s (o_some 59 _ 9 (by decide) M) fun s1 s10 s19 => ?_
      exact zE.w (by repeat first | exact zle_nil | apply zle_c | apply zle_n) (l_redo a9 s1 n hI hn (by omega) ⟨s10, s19⟩)
  have fol : zE (fun x _ => x = 1) (G329 a9 a10 n 1 M) := by
    by_cases q : 1 ≤ n
    · exact l_foll a9 a10 n hI hF hn (fun z => (hs z).2.1) hab (n - 1) 1 (by omega) (by decide)
    · exact zE.e (zb_L_law_329 60 ..) (zE.n (by omega) (zE.w (by repeat first | exact zle_nil | apply zle_c | apply zle_n) hab))
  refine zE.e (zb_L_law_138 60 ..) (zE.n (by decide) ?_)
  refine zE.c (o_count2 40) ?_
  rw [hn]
  refine zE.e (zb_L_law_307 60 ..) (zE.i (fun q => ?_) fun q => ?_)
  · exact zE.w (by repeat first | exact zle_nil | apply zle_c | apply zle_n) fol
  · have hz : zfle (M 13) (M 4) (M 5) (M 2 3).toNat (M 12 2).toNat = -4 := by
      unfold zfle
      refine zfst_n fun p _ hp => ?_
      rw [(hs q).2.2 p (by omega)]
      decide
    refine zE.c (o_prev0 40 hI hz) ?_
    refine zE.e (zb_L_law_319 60 ..) (zE.p rfl ?_)
    exact zE.w (by repeat first | exact zle_nil | apply zle_c | apply zle_n) fol
theorem l_all (L : Nat) (f : Nat → Int) (hf : ∀ j, zr32 (f j)) : zE (fun x _ => x = 1) (zR 60 92 0 (zin 21 [.inr (.inr 999)]) [] [] (zmS L f)) := by
  refine zstart L f (zE.e (zb_L_law_48 60 ..) ?_)
  obtain ⟨x, M, e, rfl, hI, h12, h10, h999, hF, N, hN1, hN6, h6, h51, h47⟩ := o_build (zMem0 L f) (p1_0 L f hf)
  refine zE.c e ?_
  refine zE.e (zb_L_law_63 60 ..) (zE.n (by decide) ?_)
  refine zE.s2 (o_cell1 59 60 M (by decide) h999) fun a9 _ => ?_
  refine zE.e (zb_L_law_74 60 ..) ?_
  refine zE.w (by repeat first | exact zle_nil | apply zle_c | apply zle_n) (l_sane a9 N hN6 M h51 h47 (fun s hs => ?_) N 0 1 (by omega) (fun _ i hi => absurd hi (Nat.not_lt_zero i)))
  refine l_main a9 s N (fun M' tn hJ => l_tail a9 s tn N M' hN1 hJ) 40 0 0 M (by decide) ⟨hI, h6, h51, hF, h10, by decide, by decide, by omega, fun p hp => by omega, fun q => ⟨hs q, fun p _ hp => by omega, fun p hp => by omega⟩⟩
end
