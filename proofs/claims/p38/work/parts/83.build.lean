/-! the law's own 'build' -/
theorem mks_256 (P : Nat → Bool) : 0 ≤ mks P 8 ∧ mks P 8 < 256 := by
  unfold mks mks mks mks mks mks mks mks mks
  generalize P 0 = a0
  generalize P 1 = a1
  generalize P 2 = a2
  generalize P 3 = a3
  generalize P 4 = a4
  generalize P 5 = a5
  generalize P 6 = a6
  generalize P 7 = a7
  revert a0 a1 a2 a3 a4 a5 a6 a7
  decide +kernel
theorem zand_256 {x y : Int} (hx : 0 ≤ x ∧ x < 256) (hy : 0 ≤ y ∧ y < 256) : 0 ≤ zand x y ∧ zand x y ≤ 255 := by
  rw [zr_256 hx.1 hx.2, zr_256 hy.1 hy.2, mks_and _ _ (by decide)]
  have := mks_256 (fun j => zbit x j && zbit y j)
  omega
theorem zbit_7 : ∀ j, j < 32 → zbit 7 j = decide (j < 3) := by decide +kernel
theorem zand_7 (y : Int) : 0 ≤ zand y 7 ∧ zand y 7 < 8 := by
  have e : zand y 7 = mks (zbit y) 3 := zset_eq (by decide) (zr_and _ _) (fun j hj => by rw [zbit_and, zbit_7 j hj, Bool.and_comm])
  rw [e]
  unfold mks mks mks mks
  generalize zbit y 0 = a0
  generalize zbit y 1 = a1
  generalize zbit y 2 = a2
  revert a0 a1 a2
  decide +kernel
/-- what holds all through -/
def bX (M : zMm) : Prop := xI M ∧ M 12 2 = 0 ∧ M 10 2 = 0 ∧ M 10 3 = 0 ∧ M 10 4 = 0 ∧ (∀ j, zr32 (M 999 j)) ∧ ∀ w, w < 8 → 0 ≤ M 3 w
theorem bX.I {M : zMm} (h : bX M) : xI M := h.1
theorem bX_fr {m mm : zMm} (f : ∀ k, 1 ≤ k → k ≤ 14 → m k = mm k) (g : m 999 = mm 999) (h : bX mm) : bX m := by
  obtain ⟨h1, h2, h3, h4, h5, h6, h7⟩ := h
  refine ⟨xI_fr f h1, ?_, ?_, ?_, ?_, ?_, ?_⟩
  · rw [f 12 (by decide) (by decide)]; exact h2
  · rw [f 10 (by decide) (by decide)]; exact h3
  · rw [f 10 (by decide) (by decide)]; exact h4
  · rw [f 10 (by decide) (by decide)]; exact h5
  · rw [g]; exact h6
  · rw [f 3 (by decide) (by decide)]; exact h7
/-- the law's row of the cells: who is dead -/
def bZ (M : zMm) : Prop := ∀ i, i < 6 → M 47 (10 * i + 1) = M 8 i
def bF (M : zMm) : Prop := ∀ w, w < 8 → M 45 w = M 3 w
/-- the tongue's sets, so far -/
def p1 (k : Nat) (M : zMm) : Prop := bX M ∧ M 2 3 = 0 ∧ M 6 3 = 0 ∧ (∀ w, k ≤ w → w < 8 → M 3 w = 255) ∧ (∀ w, w < k → M 45 w = M 3 w) ∧ bZ M
noncomputable abbrev F22 (a9 a10 a12 : Int) (M : zMm) : zRes := zR 59 91 22 [some (.inr (.inr 0)), some (.inr (.inr 999)), some (.inl 0), some (.inr (.inr 45)), some (.inr (.inr 46)), some (.inr (.inr 47)), some (.inr (.inr 48)), some (.inr (.inr 51)), some (.inl 1), some (.inl a9), some (.inl a10), some (.inl 1), some (.inl a12), none, none, none, none, none, none] [] SH M
theorem zE.s {P : Int → zMm → Prop} {a : zRes} {n : Int} {M : zMm} {f : Int → List zSh → zMm → zRes} (h : ∃ x, a = zok x M ∧ 0 ≤ x ∧ x < n) (k : ∀ x, 0 ≤ x → x < n → zE P (f x SH M)) : zE P (zcI a f) := by
  obtain ⟨x, e, h0, h1⟩ := h
  exact zE.c e (k x h0 h1)
theorem zE.s2 {P : Int → zMm → Prop} {a : zRes} {M : zMm} {f : Int → List zSh → zMm → zRes} (h : ∃ x, a = zok x M ∧ zr32 x) (k : ∀ x, zr32 x → zE P (f x SH M)) : zE P (zcI a f) := by
  obtain ⟨x, e, h0⟩ := h
  exact zE.c e (k x h0)
theorem b_fo {P : Int → zMm → Prop} (a9 a10 : Int) (K : ∀ M, p1 8 M → zE P (F22 a9 a10 8 M)) : ∀ f k : Nat, k + f = 8 → ∀ M, p1 k M → zE P (F22 a9 a10 (k : Int) M)
  | 0, k, hk, M, h => by
    obtain rfl : k = 8 := by omega
    exact K M h
  | f + 1, k, hk, M, h => by
    obtain ⟨h1, h2, h3, h4, h5, h6⟩ := h
    have hk8 : k < 8 := by omega
    refine zE.e (zb_L_build_22 59 _ _ _ _ _ _ _) (zE.p (by omega) (zE.n (by decide) ?_))
    have e0 : zw (zw (0 + 2) + (k : Int)) = ((2 + k : Nat) : Int) := by rw [show zw (0 + 2) = 2 from rfl, zw_id (by omega) (by omega)]; omega
    refine zE.s2 (o_cell1 58 _ M (by rw [e0]; omega) h1.2.2.2.2.2.1) fun u _ => ?_
    refine zE.e (zb_L_build_44 59 _ _ _ _ _ _ _ _) ?_
    have hf : ∀ v : Int, 0 ≤ v → v ≤ 255 → zE P (zcI (zL 59 59 [.inr (.inr 0), .inl (k : Int), .inl ((zu M 45 ((k : Int)).toNat v) 45 ((k : Int)).toNat)] SH (zu M 45 ((k : Int)).toNat v)) fun x sh' mm' => zR 59 91 116 [some (.inr (.inr 0)), some (.inr (.inr 999)), some (.inl 0), some (.inr (.inr 45)), some (.inr (.inr 46)), some (.inr (.inr 47)), some (.inr (.inr 48)), some (.inr (.inr 51)), some (.inl 1), some (.inl a9), some (.inl a10), some (.inl 1), some (.inl (k : Int)), some (.inl u), none, none, none, none, none] [.inl x] sh' mm') := by
      intro v hv0 hv1
      rw [Int.toNat_natCast, zu_s]
      refine zE.c (o_follow 39 k v hk8 ⟨hv0, hv1⟩) ?_
      refine zE.e (zb_L_build_116 59 _ _ _ _ _ _ _ _ _) (zE.p ?_ ?_)
      · rw [zu_k _ _ (by decide)]
        exact h4 k (Nat.le_refl k) hk8
      · rw [zw_inc k (by omega)]
        refine zE.w (by repeat first | exact zle_nil | apply zle_c | apply zle_n) (b_fo a9 a10 K f (k + 1) (by omega) _ ⟨?_, ?_, ?_, ?_, ?_, ?_⟩)
        · have hx : bX (zu M 45 k v) := bX_fr (fun k _ _ => zu_k _ _ (by omega)) (zu_k _ _ (by decide)) h1
          obtain ⟨x1, x2, x3, x4, x5, x6, x7⟩ := hx
          refine ⟨I_follow x1 ⟨hv0, hv1⟩, ?_, ?_, ?_, ?_, ?_, fun w hw => ?_⟩
          · simp (disch := decide) only [zu_k] at x2 ⊢; exact x2
          · simp (disch := decide) only [zu_k] at x3 ⊢; exact x3
          · simp (disch := decide) only [zu_k] at x4 ⊢; exact x4
          · simp (disch := decide) only [zu_k] at x5 ⊢; exact x5
          · simp (disch := decide) only [zu_k] at x6 ⊢; exact x6
          · by_cases q : w = k
            · rw [q, zu_s]; exact hv0
            · rw [zu_j _ _ q]; exact x7 w hw
        · simp (disch := decide) only [zu_k]; exact h2
        · simp (disch := decide) only [zu_k]; exact h3
        · intro w hw hw8
          rw [zu_j _ _ (by omega), zu_k _ _ (by decide)]
          exact h4 w (by omega) hw8
        · intro w hw
          rw [zu_k _ _ (show 45 ≠ 3 by decide)]
          by_cases q : w = k
          · rw [q, zu_s, zu_s]
          · rw [zu_j _ _ q, zu_j _ _ q, zu_k _ _ (by decide)]
            exact h5 w (by omega)
        · intro i hi
          simp (disch := decide) only [zu_k]
          exact h6 i hi
    refine zE.s (o_some 58 a9 3 (by decide) M) fun x x0 x1 => ?_
    refine zE.e (zb_L_build_55 59 _ _ _ _ _ _ _ _ _ _) (zE.i (fun c => ?_) fun c => ?_)
    · exact zE.p (by omega) (zE.p (by omega) (hf 255 (by decide) (by decide)))
    · refine zE.s (o_some 58 a9 3 (by decide) M) fun y y0 y1 => ?_
      refine zE.e (zb_L_build_70 59 _ _ _ _ _ _ _ _ _ _) (zE.i (fun c => ?_) fun c => ?_)
      · refine zE.s (o_some 58 u 256 (by decide) M) fun z z0 z1 => ?_
        exact zE.e (zb_L_build_82 59 _ _ _ _ _ _ _ _ _ _) (zE.p (by omega) (zE.p (by omega) (hf z z0 (by omega))))
      · refine zE.s (o_some 58 u 256 (by decide) M) fun z z0 z1 => ?_
        refine zE.e (zb_L_build_93 59 _ _ _ _ _ _ _ _ _ _) ?_
        refine zE.s (o_some 58 _ 256 (by decide) M) fun z2 z20 z21 => ?_
        have hz := zand_256 ⟨z0, z1⟩ ⟨z20, z21⟩
        exact zE.e (zb_L_build_104 59 _ _ _ _ _ _ _ _ _ _ _) (zE.p (by omega) (zE.p (by omega) (hf _ hz.1 hz.2)))
/-- the lines, so far -/
def p2 (n l : Nat) (M : zMm) : Prop := bX M ∧ M 6 3 = 0 ∧ bF M ∧ M 2 3 = l ∧ bZ M ∧ M 46 12 = n
noncomputable abbrev F152 (a9 a10 a12 : Int) (M : zMm) : zRes := zR 59 91 152 [some (.inr (.inr 0)), some (.inr (.inr 999)), some (.inl 0), none, some (.inr (.inr 46)), some (.inr (.inr 47)), some (.inr (.inr 48)), some (.inr (.inr 51)), some (.inl 1), some (.inl a9), some (.inl a10), some (.inl 1), some (.inl a12), none, none, none, none, none, none] [] SH M
theorem b_li {P : Int → zMm → Prop} (a9 a10 : Int) (n : Nat) (hn : n ≤ 6) (K : ∀ M, p2 n n M → zE P (F152 a9 a10 n M)) : ∀ f l : Nat, l + f = n → ∀ M, p2 n l M → zE P (F152 a9 a10 (l : Int) M)
  | 0, l, hl, M, h => by
    obtain rfl : l = n := by omega
    exact K M h
  | f + 1, l, hl, M, h => by
    obtain ⟨h1, h2, h3, h4, h5, h6⟩ := h
    refine zE.e (zb_L_build_152 59 _ _ _ _ _ _ _) (zE.p (by rw [h6]; omega) (zE.n (by decide) ?_))
    have e0 : zw (zw (0 + 10) + (l : Int)) = ((10 + l : Nat) : Int) := by rw [show zw (0 + 10) = 10 from rfl, zw_id (by omega) (by omega)]; omega
    have e6 : zw (6 + (l : Int)) = ((6 + l : Nat) : Int) := by rw [zw_id (by omega) (by omega)]; omega
    refine zE.s2 (o_cell1 58 _ M (by rw [e0]; omega) h1.2.2.2.2.2.1) fun u _ => ?_
    refine zE.e (zb_L_build_178 59 _ _ _ _ _ _ _ _) ?_
    have hf : ∀ len : Int, 1 ≤ len → len ≤ 4 → zE P (zcI (zL 59 90 [.inl (zshr u 6), .inl (zshl 1 (zw (3 * ((zu M 46 ((zw (6 + (l : Int))).toNat) len) 46 ((zw (6 + (l : Int))).toNat)))))] SH (zu M 46 ((zw (6 + (l : Int))).toNat) len)) fun x sh' mm' => zR 59 91 235 [some (.inr (.inr 0)), some (.inr (.inr 999)), some (.inl 0), none, some (.inr (.inr 46)), some (.inr (.inr 47)), some (.inr (.inr 48)), some (.inr (.inr 51)), some (.inl 1), some (.inl a9), some (.inl a10), some (.inl 1), some (.inl (l : Int)), some (.inl u), none, none, none, none, none] [.inl x, .inl (l : Int), .inr (.inr 46)] sh' mm') := by
      intro len l0 l1
      rw [e6, Int.toNat_natCast, zu_s, z8e l0 (by omega)]
      have h8 : 8 ^ len.toNat ≤ 4096 ∧ 1 ≤ 8 ^ len.toNat := by
        have : ∀ n, n < 5 → 8 ^ n ≤ 4096 ∧ 1 ≤ 8 ^ n := by decide
        exact this _ (by omega)
      refine zE.s (o_some 58 _ _ (by omega) _) fun v v0 v1 => ?_
      refine zE.e (zb_L_build_235 59 _ _ _ _ _ _ _ _ _ _) (zE.p (by omega) (zE.p (by omega) (zE.p (by rw [e6]; omega) ?_)))
      rw [e6, Int.toNat_natCast, Int.toNat_natCast, zu_s, zu_j _ _ (by omega), zu_s]
      have hr : zrow v len 4 = true := decide_eq_true ⟨l0, l1, v0, v1⟩
      have e23 : zu (zu M 46 (6 + l) len) 46 l v 2 = M 2 := by rw [zu_k _ _ (by decide), zu_k _ _ (by decide)]
      have hI1 : bX (zu (zu M 46 (6 + l) len) 46 l v) := bX_fr (fun k _ _ => by rw [zu_k _ _ (by omega), zu_k _ _ (by omega)]) (by rw [zu_k _ _ (by decide), zu_k _ _ (by decide)]) h1
      refine zE.c (o_line 39 v len hr hI1.I (by rw [e23, h4]; omega)) ?_
      refine zE.e (zb_L_build_253 59 _ _ _ _ _ _ _ _ _) (zE.p (by rw [e23, h4]) ?_)
      rw [zw_inc l (by omega)]
      refine zE.w (by repeat first | exact zle_nil | apply zle_c | apply zle_n) (b_li a9 a10 n hn K f (l + 1) (by omega) _ ⟨?_, ?_, ?_, ?_, ?_, ?_⟩)
      · refine ⟨I_line hr hI1.I (by rw [e23, h4]; omega), ?_, ?_, ?_, ?_, ?_, ?_⟩
        · simp (disch := decide) only [zu_k]; exact h1.2.1
        · simp (disch := decide) only [zu_k]; exact h1.2.2.1
        · simp (disch := decide) only [zu_k]; exact h1.2.2.2.1
        · simp (disch := decide) only [zu_k]; exact h1.2.2.2.2.1
        · simp (disch := decide) only [zu_k]; exact h1.2.2.2.2.2.1
        · simp (disch := decide) only [zu_k]; exact h1.2.2.2.2.2.2
      · simp (disch := decide) only [zu_k]; exact h2
      · intro w hw
        simp (disch := decide) only [zu_k]
        exact h3 w hw
      · rw [zu_s, e23, h4]
        omega
      · intro i hi
        simp (disch := decide) only [zu_k]
        exact h5 i hi
      · rw [zu_k _ _ (by decide), zu_k _ _ (by decide), zu_k _ _ (by decide), zu_j _ _ (by omega), zu_j _ _ (by omega)]
        exact h6
    refine zE.s (o_some 58 u 5 (by decide) M) fun x x0 x1 => ?_
    refine zE.e (zb_L_build_193 59 _ _ _ _ _ _ _ _ _ _) (zE.i (fun c => ?_) fun c => ?_)
    · exact zE.p (by rw [e6]; omega) (zE.p (by rw [e6]; omega) (hf 1 (by decide) (by decide)))
    · refine zE.s (o_some 58 _ 3 (by decide) M) fun y y0 y1 => ?_
      refine zE.e (zb_L_build_209 59 _ _ _ _ _ _ _ _ _ _ _) (zE.p (by rw [e6]; omega) (zE.p (by rw [e6]; omega) ?_))
      have e2 : zw (2 + y) = 2 + y := zw_id (by omega) (by omega)
      rw [e2]
      exact hf (2 + y) (by omega) (by omega)
