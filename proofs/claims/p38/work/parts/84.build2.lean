theorem bX_up {M M' : zMm} (h : bX M) (hI : xI M') (f : M' 12 2 = M 12 2 ∧ M' 10 2 = M 10 2 ∧ M' 10 3 = M 10 3 ∧ M' 10 4 = M 10 4 ∧ M' 999 = M 999 ∧ M' 3 = M 3) : bX M' := by
  obtain ⟨h1, h2, h3, h4, h5, h6, h7⟩ := h
  obtain ⟨f2, f3, f4, f5, f6, f7⟩ := f
  exact ⟨hI, f2.trans h2, f3.trans h3, f4.trans h4, f5.trans h5, by rw [f6]; exact h6, by rw [f7]; exact h7⟩
/-- the law's rows of cells and seats -/
def bC (c : Nat) (M : zMm) : Prop := ∀ i, i < c → M 47 (10 * i) = M 7 i ∧ M 48 i = M 11 i
/-- the cells, so far -/
def p3 (N c : Nat) (M : zMm) : Prop := bX M ∧ bF M ∧ M 6 3 = c ∧ M 51 0 = N ∧ bZ M ∧ bC c M
def p3w (N c k : Nat) (M : zMm) : Prop := bX M ∧ bF M ∧ M 6 3 = ((c + 1 : Nat) : Int) ∧ M 51 0 = N ∧ bZ M ∧ bC (c + 1) M ∧ ∀ w, k ≤ w → w < 8 → M 9 (8 * c + w) = 1
noncomputable abbrev F299 (a10 a12 : Int) (M : zMm) : zRes := zR 59 91 299 [some (.inr (.inr 0)), some (.inr (.inr 999)), some (.inl 0), none, none, some (.inr (.inr 47)), some (.inr (.inr 48)), some (.inr (.inr 51)), none, none, some (.inl a10), some (.inl 1), some (.inl a12), none, none, none, none, none, none] [] SH M
noncomputable abbrev F389 (a10 a12 a13 a14 : Int) (M : zMm) : zRes := zR 59 91 389 [some (.inr (.inr 0)), some (.inr (.inr 999)), some (.inl 0), none, none, some (.inr (.inr 47)), some (.inr (.inr 48)), some (.inr (.inr 51)), none, none, some (.inl a10), some (.inl 1), some (.inl a12), some (.inl a13), some (.inl a14), none, none, none, none] [] SH M
theorem b_we {P : Int → zMm → Prop} (a10 a13 : Int) (N c : Nat) (hc : c < 6) (K : ∀ M, p3w N c 8 M → zE P (F389 a10 c a13 8 M)) : ∀ f k : Nat, k + f = 8 → ∀ M, p3w N c k M → zE P (F389 a10 c a13 (k : Int) M)
  | 0, k, hk, M, h => by
    obtain rfl : k = 8 := by omega
    exact K M h
  | f + 1, k, hk, M, h => by
    obtain ⟨h1, h2, h3, h4, h5, h6, h7⟩ := h
    have hk8 : k < 8 := by omega
    refine zE.e (zb_L_build_389 59 _ _ _ _ _ _ _) (zE.p (by omega) (zE.n (by decide) ?_))
    have e0 : zw (zw (zw (10 * (c : Int)) + 2) + (k : Int)) = ((10 * c + 2 + k : Nat) : Int) := by
      rw [zw_id (x := 10 * (c : Int)) (by omega) (by omega), zw_id (x := 10 * (c : Int) + 2) (by omega) (by omega), zw_id (by omega) (by omega)]
      omega
    have hx := zand_7 (zshr a13 (zw (3 + zw (3 * (k : Int)))))
    generalize zand (zshr a13 (zw (3 + zw (3 * (k : Int))))) 7 = a15 at hx
    have hf : ∀ v : Int, 0 ≤ v → v ≤ 9 → zE P (zcI (zL 59 62 [.inr (.inr 0), .inl (c : Int), .inl (k : Int), .inl ((zu M 47 ((zw (zw (zw (10 * (c : Int)) + 2) + (k : Int))).toNat) v) 47 ((zw (zw (zw (10 * (c : Int)) + 2) + (k : Int))).toNat))] SH (zu M 47 ((zw (zw (zw (10 * (c : Int)) + 2) + (k : Int))).toNat) v)) fun x sh' mm' => zR 59 91 477 [some (.inr (.inr 0)), some (.inr (.inr 999)), some (.inl 0), none, none, some (.inr (.inr 47)), some (.inr (.inr 48)), some (.inr (.inr 51)), none, none, some (.inl a10), some (.inl 1), some (.inl (c : Int)), some (.inl a13), some (.inl (k : Int)), some (.inl a15), none, none, none] [.inl x] sh' mm') := by
      intro v v0 v1
      rw [e0, Int.toNat_natCast, zu_s]
      have hb : bX (zu M 47 (10 * c + 2 + k) v) := bX_fr (fun k _ _ => zu_k _ _ (by omega)) (zu_k _ _ (by decide)) h1
      have hc6 : (c : Int) < zu M 47 (10 * c + 2 + k) v 6 3 := by rw [zu_k _ _ (by decide), h3]; omega
      refine zE.c (o_weight 39 c k v hb.I hc6 hk8 ⟨v0, v1⟩) ?_
      refine zE.e (zb_L_build_477 59 _ _ _ _ _ _ _ _ _) (zE.p ?_ ?_)
      · rw [zu_k _ _ (by decide)]
        exact h7 k (Nat.le_refl k) hk8
      · rw [zw_inc k (by omega)]
        refine zE.w (by repeat first | exact zle_nil | apply zle_c | apply zle_n) (b_we a10 a13 N c hc K f (k + 1) (by omega) _ ⟨?_, ?_, ?_, ?_, ?_, ?_, ?_⟩)
        · refine bX_up hb (I_weight hb.I hc6 hk8 ⟨v0, v1⟩) ⟨?_, ?_, ?_, ?_, ?_, ?_⟩ <;> simp (disch := decide) only [zu_k]
        · intro w hw
          simp (disch := decide) only [zu_k]
          exact h2 w hw
        · simp (disch := decide) only [zu_k]; exact h3
        · simp (disch := decide) only [zu_k]; exact h4
        · intro i hi
          rw [zu_k _ _ (by decide), zu_j _ _ (by omega), zu_k _ _ (by decide), zu_k _ _ (by decide)]
          exact h5 i hi
        · intro i hi
          rw [zu_k _ _ (show 47 ≠ 9 by decide), zu_j _ _ (show 10 * i ≠ 10 * c + 2 + k by omega)]
          simp (disch := decide) only [zu_k]
          exact h6 i hi
        · intro w hw hw8
          rw [zu_j _ _ (by omega), zu_k _ _ (by decide)]
          exact h7 w (by omega) hw8
    refine zE.s (o_some 58 a10 2 (by decide) M) fun x x0 x1 => ?_
    have g0 : 0 ≤ zw (zw (zw (10 * (c : Int)) + 2) + (k : Int)) ∧ zw (zw (zw (10 * (c : Int)) + 2) + (k : Int)) < 64 := by rw [e0]; omega
    refine zE.e (zb_L_build_433 59 _ _ _ _ _ _ _ _ _ _) (zE.i (fun q => ?_) fun q => ?_)
    · exact zE.p g0 (zE.p g0 (hf a15 hx.1 (by omega)))
    · refine zE.i (fun q2 => ?_) fun q2 => ?_
      · exact zE.p g0 (zE.p g0 (hf 0 (by decide) (by decide)))
      · refine zE.p g0 (zE.p g0 ?_)
        have e3 : zw (a15 - 3) = a15 - 3 := zw_id (by omega) (by omega)
        rw [e3]
        exact hf (a15 - 3) (by omega) (by omega)
theorem b_ce {P : Int → zMm → Prop} (a10 : Int) (N : Nat) (hN : N ≤ 6) (K : ∀ M, p3 N N M → zE P (F299 a10 N M)) : ∀ f c : Nat, c + f = N → ∀ M, p3 N c M → zE P (F299 a10 (c : Int) M)
  | 0, c, hc, M, h => by
    obtain rfl : c = N := by omega
    exact K M h
  | f + 1, c, hc, M, h => by
    obtain ⟨h1, h2, h3, h4, h5, h6⟩ := h
    refine zE.e (zb_L_build_299 59 _ _ _ _ _) (zE.p (by rw [h4]; omega) (zE.n (by decide) ?_))
    have e0 : zw (zw (0 + 16) + (c : Int)) = ((16 + c : Nat) : Int) := by rw [show zw (0 + 16) = 16 from rfl, zw_id (by omega) (by omega)]; omega
    have e1 : zw (10 * (c : Int)) = ((10 * c : Nat) : Int) := by rw [zw_id (by omega) (by omega)]; omega
    refine zE.s2 (o_cell1 58 _ M (by rw [e0]; omega) h1.2.2.2.2.2.1) fun u _ => ?_
    refine zE.e (zb_L_build_324 59 _ _ _ _ _ _) ?_
    have hf : ∀ v : Int, 0 ≤ v → v ≤ 3 → zE P (zcI (zL 59 61 [.inr (.inr 0), .inl ((zu M 47 ((zw (10 * (c : Int))).toNat) v) 47 ((zw (10 * (c : Int))).toNat))] SH (zu (zu M 47 ((zw (10 * (c : Int))).toNat) v) 48 ((c : Int).toNat) (c : Int))) fun x sh' mm' => zR 59 91 374 [some (.inr (.inr 0)), some (.inr (.inr 999)), some (.inl 0), none, none, some (.inr (.inr 47)), some (.inr (.inr 48)), some (.inr (.inr 51)), none, none, some (.inl a10), some (.inl 1), some (.inl (c : Int)), some (.inl u), none, none, none, none, none] [.inl x] sh' mm') := by
      intro v v0 v1
      rw [e1, Int.toNat_natCast, Int.toNat_natCast, zu_s]
      have hb : bX (zu (zu M 47 (10 * c) v) 48 c c) := bX_fr (fun k _ _ => by rw [zu_k _ _ (by omega), zu_k _ _ (by omega)]) (by rw [zu_k _ _ (by decide), zu_k _ _ (by decide)]) h1
      obtain ⟨o1, o2⟩ := o_cell (mm := zu (zu M 47 (10 * c) v) 48 c c) 39 c v hb.I (by rw [zu_k _ _ (by decide), zu_k _ _ (by decide)]; exact h3) (by omega) ⟨v0, v1⟩
      refine zE.c o1 ?_
      refine zE.e (zb_L_build_374 59 _ _ _ _ _ _ _) (zE.p rfl ?_)
      refine b_we a10 u N c (by omega) (fun M' h' => ?_) 8 0 (by omega) _ ⟨?_, ?_, ?_, ?_, ?_, ?_, ?_⟩
      · refine zE.e (zb_L_build_389 59 _ _ _ _ _ _ _) (zE.n (by decide) ?_)
        rw [zw_inc c (by omega)]
        exact zE.w (by repeat first | exact zle_nil | apply zle_c | apply zle_n) (b_ce a10 N hN K f (c + 1) (by omega) M' ⟨h'.1, h'.2.1, h'.2.2.1, h'.2.2.2.1, h'.2.2.2.2.1, h'.2.2.2.2.2.1⟩)
      · refine bX_up hb o2 ⟨?_, ?_, ?_, ?_, ?_, ?_⟩ <;> simp (disch := decide) only [zu_k]
      · intro w hw
        simp (disch := decide) only [zu_k]
        exact h2 w hw
      · rw [zu_k _ _ (by decide), zu_s]; omega
      · simp (disch := decide) only [zu_k]; exact h4
      · intro i hi
        have q : zu (zu (zu (zu (zu M 47 (10 * c) v) 48 c c) 7 c v) 6 3 (c + 1)) 11 c c 47 (10 * i + 1) = M 47 (10 * i + 1) := by
          rw [zu_k _ _ (by decide), zu_k _ _ (by decide), zu_k _ _ (by decide), zu_k _ _ (by decide), zu_j _ _ (by omega)]
        rw [q]
        simp (disch := decide) only [zu_k]
        exact h5 i hi
      · intro i hi
        have q1 : zu (zu (zu (zu (zu M 47 (10 * c) v) 48 c c) 7 c v) 6 3 (c + 1)) 11 c c 47 = zu M 47 (10 * c) v 47 := by simp (disch := decide) only [zu_k]
        have q2 : zu (zu (zu (zu (zu M 47 (10 * c) v) 48 c c) 7 c v) 6 3 (c + 1)) 11 c c 48 = zu (zu M 47 (10 * c) v) 48 c c 48 := by simp (disch := decide) only [zu_k]
        have q3 : zu (zu (zu (zu (zu M 47 (10 * c) v) 48 c c) 7 c v) 6 3 (c + 1)) 11 c c 7 = zu (zu (zu M 47 (10 * c) v) 48 c c) 7 c v 7 := by simp (disch := decide) only [zu_k]
        rw [q1, q2, q3]
        by_cases q : i = c
        · rw [q, zu_s, zu_s, zu_s, zu_s]
          exact ⟨rfl, rfl⟩
        · rw [zu_j _ _ (by omega), zu_j _ _ q, zu_j _ _ q, zu_j _ _ q]
          simp (disch := decide) only [zu_k]
          exact h6 i (by omega)
      · intro w _ hw
        simp (disch := decide) only [zu_k]
        exact h1.I.wo (8 * c + w) (by rw [h3]; omega) (by omega)
    refine zE.s (o_some 58 u 2 (by decide) M) fun x x0 x1 => ?_
    have g0 : 0 ≤ zw (10 * (c : Int)) ∧ zw (10 * (c : Int)) < 64 := by rw [e1]; omega
    refine zE.e (zb_L_build_339 59 _ _ _ _ _ _ _ _) (zE.i (fun q => ?_) fun q => ?_)
    · exact zE.p g0 (zE.p (by omega) (zE.p g0 (hf 0 (by decide) (by decide))))
    · refine zE.s (o_some 58 _ 4 (by decide) M) fun y y0 y1 => ?_
      exact zE.e (zb_L_build_354 59 _ _ _ _ _ _ _ _) (zE.p g0 (zE.p (by omega) (zE.p g0 (hf y y0 (by omega)))))
