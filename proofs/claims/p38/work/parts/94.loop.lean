noncomputable abbrev G138 (a9 a10 a11 a12 : Int) (M : zMm) : zRes := zR 60 92 138 [none, some (.inr (.inr 0)), some (.inr (.inr 45)), none, none, none, some (.inr (.inr 49)), some (.inr (.inr 50)), some (.inr (.inr 51)), some (.inl a9), some (.inl a10), some (.inl a11), some (.inl a12), none, none, none, none, none, none, none, none] [] SH M
theorem mks_ge (P : Nat → Bool) : 0 ≤ mks P 8 := (mks_256 P).1
set_option maxHeartbeats 1000000 in
theorem l_main {P : Int → zMm → Prop} (a9 a10 : Int) (N : Nat) (K : ∀ M tn, lJ N a10 40 tn M → zE P (G138 a9 a10 tn 40 M)) : ∀ (f k : Nat) (tn : Int) (M : zMm), k + f = 40 → lJ N a10 k tn M → zE P (G138 a9 a10 tn (k : Int) M)
  | 0, k, tn, M, hk, h => by
    obtain rfl : k = 40 := by omega
    exact K M tn h
  | f + 1, k, tn, M, hk, h => by
    obtain ⟨hI, h6, h51, hF, h10, ht0, htk, hlen, hwr, hs⟩ := id h
    have h0 := hI.pg.1
    refine zE.e (zb_L_law_138 60 _ _ _ _ _) (zE.p (by omega) ?_)
    by_cases hz : 0 < xlv M
    · refine zE.c (o_count6 40 hI hz) ?_
      obtain ⟨N', st, hN, hst, hlt, hN6, ht, htn, hal, ec, hcl, hdd⟩ := xst_r hI hz
      refine zE.e (zb_L_law_151 60 _ _ _ _ _ _) (zE.n (by omega) ?_)
      refine zE.c (o_come 40 (xc M) hI hcl) ?_
      refine zE.e (zb_L_law_168 60 _ _ _ _ _ _ _) ?_
      refine zE.c (o_count2 40) ?_
      refine zE.e (zb_L_law_175 60 _ _ _ _ _ _ _ _) ?_
      refine zE.c (o_draw 40 1 (by decide) hI hz) ?_
      have hJ := lJ_step (by omega) hz h
      have ex : xdrs 1 M = xdr M := rfl
      rw [ex]
      have e7 : xdr M 10 3 = zw (tn + 1) := by rw [xdr_tn, h10]
      have etn : zw (tn + 1) = tn + 1 := zw_id (by omega) (by omega)
      have goon : zE P (G138 a9 a10 (zw (tn + 1)) (zw ((k : Int) + 1)) (xdr M)) := by
        rw [zw_inc k (by omega), etn]
        exact l_main a9 a10 N K f (k + 1) (tn + 1) (xdr M) (by omega) hJ
      refine zE.e (zb_L_law_182 60 _ _ _ _ _ _ _ _ _) (zE.n (by omega) ?_)
      by_cases c : mks (xcm M (xc M) (xe M)) 8 = 0
      · have hno : ¬ (mks (xP1 M) 8 ≠ 0 ∧ M 12 2 < 60) := fun z => z.1 c
        obtain ⟨y1, y2, y3⟩ := xdr_no hno
        have e0 : zw (xdr M 12 2 - M 12 2) = 0 := by rw [y1, Int.sub_self]; rfl
        rw [e0]
        refine zE.p c (zE.p rfl ?_)
        refine zE.c (o_count7 40) ?_
        refine zE.e (zb_L_law_220 60 _ _ _ _ _ _ _ _ _ _) (zE.p e7 (zE.n (by omega) (zE.n (by decide) ?_)))
        exact zE.w (by repeat first | exact zle_nil | apply zle_c | apply zle_n) goon
      · have hyes : mks (xP1 M) 8 ≠ 0 ∧ M 12 2 < 60 := ⟨c, by omega⟩
        obtain ⟨y1, y2, y3⟩ := xdr_yes hyes
        have hw := xw_r hI c
        have e0 : zw (xdr M 12 2 - M 12 2) = 1 := by rw [y1, zw_id (by omega) (by omega)]; omega
        rw [e0]
        refine zE.n c (zE.p rfl ?_)
        refine zE.c (o_count7 40) ?_
        refine zE.e (zb_L_law_220 60 _ _ _ _ _ _ _ _ _ _) (zE.p e7 (zE.n (by omega) (zE.p rfl ?_)))
        have hI2 := hJ.1
        obtain ⟨p, hp⟩ : ∃ p : Nat, M 12 2 = p := ⟨(M 12 2).toNat, by omega⟩
        rw [hp, Int.toNat_natCast] at y2 y3
        rw [hp] at y1 ⊢
        have hpl : (p : Int) < xdr M 12 2 := by omega
        refine zE.c (o_read0 40 p hI2 hpl) ?_
        refine zE.e (zb_L_law_260 60 _ _ _ _ _ _ _ _ _ _ _) (zE.n ?_ ?_)
        · rw [y2, zu_s]
          have hb := mks_test (xcm M (xc M) (xe M)) (n := 8) (k := xw M) (by decide) hw.1
          have hw2 : xcm M (xc M) (xe M) (xw M) = true := hw.2
          rw [hb, if_pos hw2]
          decide
        · refine zE.c (o_read1 40 p hI2 hpl) ?_
          refine zE.e (zb_L_law_273 60 _ _ _ _ _ _ _ _ _ _) (zE.p ?_ (zE.n (by omega) ?_))
          · rw [y3, zu_s, ec]
          · refine zE.c (o_told2 40 (xc M) hI2 (by rw [show xdr M 6 = M 6 from xdr_k (by decide)]; exact hcl) (by rw [show xdr M 8 = M 8 from xdr_k (by decide)]; exact hdd)) ?_
            refine zE.e (zb_L_law_290 60 _ _ _ _ _ _ _ _ _ _) (zE.n (by decide) ?_)
            exact zE.w (by repeat first | exact zle_nil | apply zle_c | apply zle_n) goon
    · refine zE.c (o_count6N 40 hI hz) ?_
      refine zE.e (zb_L_law_151 60 _ _ _ _ _ _) (zE.p (by decide) ?_)
      refine zE.c (o_count2 40) ?_
      refine zE.e (zb_L_law_175 60 _ _ _ _ _ _ _ _) ?_
      refine zE.c (o_drawN 40 1 (by decide) hI hz) ?_
      refine zE.e (zb_L_law_182 60 _ _ _ _ _ _ _ _ _) (zE.p (by decide) (zE.p rfl (zE.p (by decide) (zE.n (by decide) ?_))))
      rw [zw_inc k (by omega)]
      exact zE.w (by repeat first | exact zle_nil | apply zle_c | apply zle_n) (l_main a9 a10 N K f (k + 1) tn M (by omega) (lJ_skip h))
noncomputable abbrev G82 (a9 a10 a11 : Int) (M : zMm) : zRes := zR 60 92 82 [none, some (.inr (.inr 0)), some (.inr (.inr 45)), none, some (.inr (.inr 47)), none, some (.inr (.inr 49)), some (.inr (.inr 50)), some (.inr (.inr 51)), some (.inl a9), some (.inl a10), some (.inl a11), none, none, none, none, none, none, none, none, none] [] SH M
/-- are all sane? -/
theorem l_sane {P : Int → zMm → Prop} (a9 : Int) (N : Nat) (hN : N ≤ 6) (M : zMm) (h51 : M 51 0 = N) (h47 : ∀ i, i < N → M 47 (10 * i) = M 7 i) (K : ∀ s : Int, (s ≠ 0 → ∀ i, i < N → M 7 i = 0 ∨ M 7 i = 3) → zE P (G138 a9 s 0 0 M)) : ∀ (f c : Nat) (s : Int), c + f = N → (s ≠ 0 → ∀ i, i < c → M 7 i = 0 ∨ M 7 i = 3) → zE P (G82 a9 s (c : Int) M)
  | 0, c, s, hc, h => by
    obtain rfl : c = N := by omega
    exact zE.e (zb_L_law_82 60 _ _ _ _) (zE.n (by omega) (zE.w (by repeat first | exact zle_nil | apply zle_c | apply zle_n) (K s h)))
  | f + 1, c, s, hc, h => by
    have ih : ∀ s' : Int, (s' ≠ 0 → ∀ i, i < c + 1 → M 7 i = 0 ∨ M 7 i = 3) → zE P (G82 a9 s' (zw ((c : Int) + 1)) M) := fun s' h' => by
      rw [zw_inc c (by omega)]
      exact l_sane a9 N hN M h51 h47 K f (c + 1) s' (by omega) h'
    have e1 : zw (10 * (c : Int)) = ((10 * c : Nat) : Int) := by rw [zw_id (by omega) (by omega)]; omega
    have g0 : 0 ≤ zw (10 * (c : Int)) ∧ zw (10 * (c : Int)) < 64 := by rw [e1]; omega
    have e2 : M 47 (zw (10 * (c : Int))).toNat = M 7 c := by rw [e1, Int.toNat_natCast]; exact h47 c (by omega)
    have up : s ≠ 0 → (M 7 c = 0 ∨ M 7 c = 3) → ∀ i, i < c + 1 → M 7 i = 0 ∨ M 7 i = 3 := fun q q2 i hi => by
      by_cases z : i = c
      · rw [z]; exact q2
      · exact h q i (by omega)
    refine zE.e (zb_L_law_82 60 _ _ _ _) (zE.p (by omega) (zE.i (fun q => ?_) fun q => zE.p g0 (zE.i (fun q2 => ?_) fun q2 => zE.p g0 (zE.i (fun q3 => ?_) fun q3 => ?_))))
    · exact zE.w (by repeat first | exact zle_nil | apply zle_c | apply zle_n) (ih 0 (fun z => absurd rfl z))
    · rw [e2] at q2
      exact zE.w (by repeat first | exact zle_nil | apply zle_c | apply zle_n) (ih 1 (fun _ => up q (.inl q2)))
    · rw [e2] at q3
      exact zE.w (by repeat first | exact zle_nil | apply zle_c | apply zle_n) (ih 1 (fun _ => up q (.inr q3)))
    · exact zE.w (by repeat first | exact zle_nil | apply zle_c | apply zle_n) (ih 0 (fun z => absurd rfl z))
