/-- seats and the dead, so far -/
def p4 (N : Nat) (M : zMm) : Prop := bX M ∧ bF M ∧ M 6 3 = N ∧ M 51 0 = N ∧ bZ M ∧ bC N M
noncomputable abbrev F503 (a10 a12 : Int) (M : zMm) : zRes := zR 59 91 503 [some (.inr (.inr 0)), some (.inr (.inr 999)), some (.inl 0), none, none, some (.inr (.inr 47)), some (.inr (.inr 48)), some (.inr (.inr 51)), none, none, some (.inl a10), some (.inl 1), some (.inl a12), none, none, none, none, none, none] [] SH M
noncomputable abbrev F581 (a10 a12 a13 a14 a15 a16 a17 a18 : Int) (M : zMm) : zRes := zR 59 91 581 [some (.inr (.inr 0)), some (.inr (.inr 999)), some (.inl 0), none, none, some (.inr (.inr 47)), some (.inr (.inr 48)), some (.inr (.inr 51)), none, none, some (.inl a10), none, some (.inl a12), some (.inl a13), some (.inl a14), some (.inl a15), some (.inl a16), some (.inl a17), some (.inl a18)] [] SH M
noncomputable abbrev F678 (a10 a12 a13 a14 a15 x : Int) (M : zMm) : zRes := zR 59 91 678 [some (.inr (.inr 0)), some (.inr (.inr 999)), some (.inl 0), none, none, some (.inr (.inr 47)), some (.inr (.inr 48)), some (.inr (.inr 51)), none, none, some (.inl a10), some (.inl 1), some (.inl a12), some (.inl a13), some (.inl a14), some (.inl a15), none, none, none] [.inl x] SH M
/-- where one sits, as far as it is looked for -/
def zat (s k : Nat) : Int := if s < k then (s : Int) else 0
theorem b_at {P : Int → zMm → Prop} (a10 a12 a13 : Int) (N x y s t : Nat) (hN : N ≤ 6) (M : zMm) (h : p4 N M) (hs : s < N) (ht : t < N) (es : M 11 s = x) (et : M 11 t = y) (K : zE P (F581 a10 a12 a13 x y s t N M)) : ∀ f k : Nat, k + f = N → zE P (F581 a10 a12 a13 x y (zat s k) (zat t k) k M)
  | 0, k, hk => by
    obtain rfl : k = N := by omega
    have e1 : zat s k = s := if_pos hs
    have e2 : zat t k = t := if_pos ht
    rw [e1, e2]
    exact K
  | f + 1, k, hk => by
    obtain ⟨h1, h2, h3, h4, h5, h6⟩ := id h
    have ih := b_at a10 a12 a13 N x y s t hN M h hs ht es et K f (k + 1) (by omega)
    have e48 : M 48 k = M 11 k := (h6 k (by omega)).2
    have step : ∀ (z w : Nat), z < N → M 11 z = (w : Int) → (M 11 k = w → zat z (k + 1) = k) ∧ (M 11 k ≠ w → zat z (k + 1) = zat z k) := by
      intro z w hz ez
      refine ⟨fun q => ?_, fun q => ?_⟩
      · have : k = z := h1.I.se.2.1 k z (by rw [h3]; omega) (by rw [h3]; omega) (by rw [q, ez])
        subst this
        exact if_pos (by omega)
      · have hne : k ≠ z := fun e => q (by rw [e]; exact ez)
        unfold zat
        by_cases c : z < k
        · rw [if_pos c, if_pos (by omega)]
        · rw [if_neg c, if_neg (by omega)]
    have s1 := step s x hs es
    have s2 := step t y ht et
    refine zE.e (zb_L_build_581 59 _ _ _ _ _ _ _ _ _ _) (zE.p (by rw [h4]; omega) (zE.p (by omega) ?_))
    rw [Int.toNat_natCast, e48, zw_inc k (by omega)]
    refine zE.i (fun q => zE.p (by omega) (zE.i (fun q2 => ?_) fun q2 => ?_)) fun q => zE.p (by omega) (zE.i (fun q2 => ?_) fun q2 => ?_)
    · rw [s1.1 q, s2.1 q2] at ih; exact ih
    · rw [s1.1 q, s2.2 q2] at ih; exact ih
    · rw [s1.2 q, s2.1 q2] at ih; exact ih
    · rw [s1.2 q, s2.2 q2] at ih; exact ih
theorem b_sd {P : Int → zMm → Prop} (a10 : Int) (N : Nat) (hN : 1 ≤ N ∧ N ≤ 6) (K : ∀ M, p4 N M → zE P (F503 a10 4 M)) : ∀ f k : Nat, k + f = 4 → ∀ M, p4 N M → zE P (F503 a10 (k : Int) M)
  | 0, k, hk, M, h => by
    obtain rfl : k = 4 := by omega
    exact K M h
  | f + 1, k, hk, M, h => by
    have ih : ∀ M, p4 N M → zE P (F503 a10 (zw ((k : Int) + 1)) M) := by
      intro M hM
      rw [zw_inc k (by omega)]
      exact b_sd a10 N hN K f (k + 1) (by omega) M hM
    -- the second half: one is dead from now on
    have half : ∀ (u a14 a15 x : Int) (M : zMm), p4 N M → 0 ≤ x → zE P (F678 a10 k u a14 a15 x M) := by
      intro u a14 a15 x M h x0
      obtain ⟨h1, h2, h3, h4, h5, h6⟩ := id h
      refine zE.e (zb_L_build_678 59 _ _ _ _ _ _ _ _ _) (zE.i (fun q => ?_) fun q => ?_)
      · rw [h4] at q
        obtain ⟨c, rfl⟩ : ∃ c : Nat, x = c := ⟨x.toNat, by omega⟩
        have e1 : zw (zw (10 * (c : Int)) + 1) = ((10 * c + 1 : Nat) : Int) := by
          rw [zw_id (x := 10 * (c : Int)) (by omega) (by omega), zw_id (by omega) (by omega)]
          omega
        have g0 : 0 ≤ zw (zw (10 * (c : Int)) + 1) ∧ zw (zw (10 * (c : Int)) + 1) < 64 := by rw [e1]; omega
        refine zE.s (o_some 58 _ 3 (by decide) M) fun y y0 y1 => ?_
        refine zE.e (zb_L_build_698 59 _ _ _ _ _ _ _ _ _ _) (zE.i (fun q2 => ?_) fun q2 => ?_)
        · refine zE.n (by decide) (zE.c (o_dead 39 c h1.I (by rw [h3]; omega)) ?_)
          refine zE.e (zb_L_build_713 59 _ _ _ _ _ _ _ _ _ _) (zE.p g0 (zE.p ?_ (zE.p g0 ?_)))
          · rw [e1, Int.toNat_natCast, zu_k _ _ (by decide)]
            exact (h5 c (by omega)).symm
          · rw [e1, Int.toNat_natCast]
            refine zE.w (by repeat first | exact zle_nil | apply zle_c | apply zle_n) (ih _ ⟨?_, ?_, ?_, ?_, ?_, ?_⟩)
            · exact bX_fr (mm := zu M 8 c 1) (fun k _ _ => zu_k _ _ (by omega)) (zu_k _ _ (by decide)) (bX_up h1 (I_dead h1.I (by rw [h3]; omega)) ⟨by simp (disch := decide) only [zu_k], by simp (disch := decide) only [zu_k], by simp (disch := decide) only [zu_k], by simp (disch := decide) only [zu_k], by simp (disch := decide) only [zu_k], by simp (disch := decide) only [zu_k]⟩)
            · intro w hw
              simp (disch := decide) only [zu_k]
              exact h2 w hw
            · simp (disch := decide) only [zu_k]; exact h3
            · simp (disch := decide) only [zu_k]; exact h4
            · intro i hi
              rw [zu_k _ _ (show 8 ≠ 47 by decide)]
              by_cases q3 : i = c
              · rw [q3, zu_s, zu_s]
              · rw [zu_j _ _ (by omega), zu_j _ _ q3, zu_k _ _ (by decide)]
                exact h5 i hi
            · intro i hi
              rw [zu_j _ _ (by omega)]
              simp (disch := decide) only [zu_k]
              exact h6 i hi
        · exact zE.w (by repeat first | exact zle_nil | apply zle_c | apply zle_n) (ih M h)
      · exact zE.w (by repeat first | exact zle_nil | apply zle_c | apply zle_n) (ih M h)
    obtain ⟨h1, h2, h3, h4, h5, h6⟩ := id h
    refine zE.e (zb_L_build_503 59 _ _ _ _ _) (zE.p (by omega) (zE.n (by decide) ?_))
    have e0 : zw (zw (0 + 22) + (k : Int)) = ((22 + k : Nat) : Int) := by rw [show zw (0 + 22) = 22 from rfl, zw_id (by omega) (by omega)]; omega
    refine zE.s2 (o_cell1 58 _ M (by rw [e0]; omega) h1.2.2.2.2.2.1) fun u _ => ?_
    refine zE.e (zb_L_build_525 59 _ _ _ _ _ _) ?_
    refine zE.s (o_some 58 u 6 (by decide) M) fun a a0 a1 => ?_
    refine zE.e (zb_L_build_534 59 _ _ _ _ _ _ _) ?_
    refine zE.s (o_some 58 _ 6 (by decide) M) fun b b0 b1 => ?_
    have fin : zE P (zcI (zL 59 90 [.inl (zshr u 6), .inl 6] SH M) fun x sh' mm' => zR 59 91 678 [some (.inr (.inr 0)), some (.inr (.inr 999)), some (.inl 0), none, none, some (.inr (.inr 47)), some (.inr (.inr 48)), some (.inr (.inr 51)), none, none, some (.inl a10), some (.inl 1), some (.inl (k : Int)), some (.inl u), some (.inl a), some (.inl b), none, none, none] [.inl x] sh' mm') :=
      zE.s (o_some 58 _ 6 (by decide) M) fun x x0 x1 => half u a b x M h x0
    refine zE.e (zb_L_build_545 59 _ _ _ _ _ _ _ _) (zE.i (fun q => zE.i (fun q2 => zE.i (fun q3 => fin) fun q3 => ?_) fun _ => fin) fun _ => fin)
    rw [h4] at q q2
    obtain ⟨x, rfl⟩ : ∃ x : Nat, a = x := ⟨a.toNat, by omega⟩
    obtain ⟨y, rfl⟩ : ∃ y : Nat, b = y := ⟨b.toNat, by omega⟩
    obtain ⟨s, hs, es⟩ := h1.I.se.2.2 x (by rw [h3]; exact q)
    obtain ⟨t, ht, et⟩ := h1.I.se.2.2 y (by rw [h3]; exact q2)
    rw [h3] at hs ht
    have hst : s ≠ t := fun z => q3 (by rw [← es, ← et, z])
    have fin2 : zE P (F581 a10 k u x y s t N M) := by
      refine zE.e (zb_L_build_581 59 _ _ _ _ _ _ _ _ _ _) (zE.n (by rw [h4]; omega) (zE.p (by omega) (zE.p (by omega) ?_)))
      rw [Int.toNat_natCast, Int.toNat_natCast]
      have hb : bX (zu (zu M 48 s y) 48 t x) := bX_fr (fun k _ _ => by rw [zu_k _ _ (by omega), zu_k _ _ (by omega)]) (by rw [zu_k _ _ (by decide), zu_k _ _ (by decide)]) h1
      have f11 : zu (zu M 48 s y) 48 t x 11 = M 11 := by simp (disch := decide) only [zu_k]
      have f6 : zu (zu M 48 s y) 48 t x 6 = M 6 := by simp (disch := decide) only [zu_k]
      obtain ⟨o1, o2⟩ := o_swap (mm := zu (zu M 48 s y) 48 t x) 39 x y s t hb.I (by omega) (by rw [f6, h3]; exact hs) (by rw [f11]; exact es) (by rw [f6, h3]; exact ht) (by rw [f11]; exact et)
      refine zE.c o1 ?_
      refine zE.e (zb_L_build_656 59 _ _ _ _ _ _ _ _ _ _ _) (zE.p rfl ?_)
      refine zE.s (o_some 58 _ 6 (by decide) _) fun z z0 z1 => ?_
      refine zE.w (by repeat first | exact zle_nil | apply zle_c | apply zle_n) (half u x y z _ ⟨?_, ?_, ?_, ?_, ?_, ?_⟩ z0)
      · refine bX_up hb o2 ⟨?_, ?_, ?_, ?_, ?_, ?_⟩ <;> simp (disch := decide) only [zu_k]
      · intro w hw
        simp (disch := decide) only [zu_k]
        exact h2 w hw
      · simp (disch := decide) only [zu_k]; exact h3
      · simp (disch := decide) only [zu_k]; exact h4
      · intro i hi
        simp (disch := decide) only [zu_k]
        exact h5 i hi
      · intro i hi
        have q1 : zu (zu (zu (zu M 48 s y) 48 t x) 11 s y) 11 t x 48 = zu (zu M 48 s y) 48 t x 48 := by simp (disch := decide) only [zu_k]
        have q2 : zu (zu (zu (zu M 48 s y) 48 t x) 11 s y) 11 t x 11 i = if i = t then (x : Int) else if i = s then (y : Int) else M 11 i := by
          rw [zu_swap, f11]
        rw [q1, q2, zu_swap]
        simp (disch := decide) only [zu_k]
        refine ⟨(h6 i hi).1, ?_⟩
        rw [(h6 i hi).2]
    have key := b_at a10 k u N x y s t hN.2 M h (by omega) (by omega) es et fin2 N 0 (by omega)
    rw [show zat s 0 = 0 from if_neg (Nat.not_lt_zero s), show zat t 0 = 0 from if_neg (Nat.not_lt_zero t)] at key
    exact zE.w (by repeat first | exact zle_nil | apply zle_c | apply zle_n) key
/-- what 'build' leaves -/
def bE (M : zMm) : Prop := xI M ∧ M 12 2 = 0 ∧ M 10 3 = 0 ∧ (∀ j, zr32 (M 999 j)) ∧ bF M ∧ ∃ N : Nat, 1 ≤ N ∧ N ≤ 6 ∧ M 6 3 = N ∧ M 51 0 = N ∧ ∀ i, i < N → M 47 (10 * i) = M 7 i
theorem b_end (a10 : Int) (N : Nat) (hN : 1 ≤ N ∧ N ≤ 6) (M : zMm) (h : p4 N M) : zE (fun x M => x = 1 ∧ bE M) (F503 a10 4 M) := by
  obtain ⟨h1, h2, h3, h4, h5, h6⟩ := id h
  refine zE.e (zb_L_build_503 59 _ _ _ _ _) (zE.n (by decide) ?_)
  refine zE.s (o_some 58 _ 2 (by decide) M) fun x x0 x1 => ?_
  refine zE.e (zb_L_build_761 59 _ _ _ _ _ _ _) (zE.p (by decide) (zE.n (by decide) ?_))
  have hb : bX (zu M 51 ((3 : Int)).toNat x) := bX_fr (fun k _ _ => zu_k _ _ (by omega)) (zu_k _ _ (by decide)) h1
  have hk : ∀ v : Int, v = 0 ∨ v = 1 → zE (fun x M => x = 1 ∧ bE M) (zcI (zL 59 65 [.inr (.inr 0), .inl v] SH (zu M 51 ((3 : Int)).toNat x)) fun x sh' mm' => zR 59 91 784 [some (.inr (.inr 0)), some (.inr (.inr 999)), some (.inl 0), none, none, some (.inr (.inr 47)), some (.inr (.inr 48)), some (.inr (.inr 51)), none, none, some (.inl a10), some (.inl 1), some (.inl 4), none, none, none, none, none, none] [.inl x] sh' mm') := by
    intro v hv
    refine zE.c (o_turn 39 v hv hb.I) ?_
    refine zE.e (zb_L_build_784 59 _ _ _ _ _ _) (zE.p ?_ (zE.o ⟨rfl, I_turn hv hb.I, ?_, ?_, ?_, ?_, N, hN.1, hN.2, ?_, ?_, ?_⟩))
    · exact hb.2.2.2.2.1
    · rw [zu_k _ _ (by decide)]; exact hb.2.1
    · rw [zu_j _ _ (by decide)]; exact hb.2.2.2.1
    · rw [zu_k _ _ (by decide)]; exact hb.2.2.2.2.2.1
    · intro w hw
      simp (disch := decide) only [zu_k]
      exact h2 w hw
    · simp (disch := decide) only [zu_k]; exact h3
    · rw [zu_k _ _ (by decide), zu_j _ _ (by decide)]; exact h4
    · intro i hi
      simp (disch := decide) only [zu_k]
      exact (h6 i hi).1
  exact zE.i (fun _ => hk 1 (.inr rfl)) fun _ => hk 0 (.inl rfl)
/-- what it begins with -/
def bS (M : zMm) : Prop := p1 0 M ∧ M 46 12 = 0
theorem o_build (M : zMm) (h : p1 0 M) : zE (fun x M => x = 1 ∧ bE M) (zL 60 91 [.inr (.inr 0), .inr (.inr 999), .inl 0, .inr (.inr 45), .inr (.inr 46), .inr (.inr 47), .inr (.inr 48), .inr (.inr 51), .inl 1] SH M) := by
  have h1 := h.1
  refine zE.e (ze_L_build 59 0 1 M) (zE.e (zb_L_build_0 59 _ _ _) ?_)
  refine zE.s2 (o_cell1 58 _ M (by decide) h1.2.2.2.2.2.1) fun a9 _ => ?_
  refine zE.e (zb_L_build_5 59 _ _ _ _) ?_
  refine zE.s2 (o_cell1 58 _ M (by decide) h1.2.2.2.2.2.1) fun a10 _ => ?_
  refine zE.e (zb_L_build_14 59 _ _ _ _ _) ?_
  refine b_fo a9 a10 (fun M h => ?_) 8 0 (by omega) M h
  obtain ⟨h1, h2, h3, h4, h5, h6⟩ := id h
  refine zE.e (zb_L_build_22 59 _ _ _ _ _ _ _) (zE.n (by decide) ?_)
  refine zE.s (o_some 58 _ 7 (by decide) M) fun n n0 n1 => ?_
  obtain ⟨n, rfl⟩ : ∃ x : Nat, n = x := ⟨n.toNat, by omega⟩
  refine zE.e (zb_L_build_148 59 _ _ _ _ _ _ _ _ _) (zE.p (by decide) ?_)
  refine zE.w (by repeat first | exact zle_nil | apply zle_c | apply zle_n) (b_li a9 a10 n (by omega) (fun M h => ?_) n 0 (by omega) _ ⟨bX_fr (fun k _ _ => zu_k _ _ (by omega)) (zu_k _ _ (by decide)) h1, ?_, ?_, ?_, ?_, ?_⟩)
  · obtain ⟨h1, h2, h3, h4, h5, h6⟩ := id h
    refine zE.e (zb_L_build_152 59 _ _ _ _ _ _ _) (zE.n (by rw [h6]; omega) ?_)
    refine zE.s (o_some 58 _ (zw (7 - 1)) (by decide) M) fun x x0 x1 => ?_
    have x1 : x < 6 := x1
    have ex : zw (1 + x) = 1 + x := zw_id (by omega) (by omega)
    obtain ⟨N, hN⟩ : ∃ N : Nat, 1 + x = N := ⟨(1 + x).toNat, by omega⟩
    refine zE.e (zb_L_build_289 59 _ _ _ _ _ _ _ _ _ _) (zE.p (by decide) ?_)
    rw [ex, hN]
    refine zE.w (by repeat first | exact zle_nil | apply zle_c | apply zle_n) (b_ce a10 N (by omega) (fun M h => ?_) N 0 (by omega) _ ⟨bX_fr (fun k _ _ => by rw [zu_k _ _ (by omega), zu_k _ _ (by omega)]) (by rw [zu_k _ _ (by decide), zu_k _ _ (by decide)]) h1, ?_, ?_, ?_, ?_, ?_⟩)
    · refine zE.e (zb_L_build_299 59 _ _ _ _ _) (zE.n (by rw [h.2.2.2.1]; omega) ?_)
      exact b_sd a10 N (by omega) (fun M h => b_end a10 N (by omega) M h) 4 0 (by omega) M h
    · intro w hw
      simp (disch := decide) only [zu_k]
      exact h3 w hw
    · simp (disch := decide) only [zu_k]; exact h2
    · rw [zu_j _ _ (by decide)]; exact zu_s _ _ _ _
    · intro i hi
      simp (disch := decide) only [zu_k]
      exact h5 i hi
    · exact fun i hi => absurd hi (Nat.not_lt_zero i)
  · rw [zu_k _ _ (by decide)]; exact h3
  · intro w hw
    simp (disch := decide) only [zu_k]
    exact h5 w hw
  · rw [zu_k _ _ (by decide)]; exact h2
  · intro i hi
    simp (disch := decide) only [zu_k]
    exact h6 i hi
  · exact zu_s _ _ _ _
