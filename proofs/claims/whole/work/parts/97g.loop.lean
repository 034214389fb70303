theorem zRel_mfr {m m1 mm : zMm} (h : zRel m mm) (g : ∀ k, 45 ≤ k → k < 68 → m1 k = m k) : zRel m1 mm := by
  obtain ⟨h1, h2, h3, h4, h5⟩ := h
  exact ⟨h1, mR_fr (fun k a b => g k (by omega) (by omega)) (fun j _ => by rw [g 45 (by decide) (by decide)]) h2, zTapes_fr h3 rfl rfl (g 55 (by decide) (by decide)) (by rw [g 45 (by decide) (by decide)]), zKept_fr h4 rfl (fun _ _ _ => rfl) (by rw [g 45 (by decide) (by decide)]) (g 63 (by decide) (by decide)) (g 64 (by decide) (by decide)), zSR_fr h5 (fun _ _ _ => rfl) (fun k a b => g k (by omega) (by omega))⟩
theorem zRel_cfr {m mm m1 : zMm} (h : zRel m mm) (g : ∀ k, k < 45 → m1 k = mm k) : zRel m m1 := by
  obtain ⟨h1, h2, h3, h4, h5⟩ := h
  exact ⟨xI_fr (fun k _ _ => g k (by omega)) h1, mR_both (fun k _ _ => g k (by omega)) (fun _ _ _ => rfl) (fun _ _ => rfl) h2, zTapes_fr h3 (by rw [g 29 (by decide)]) (g 30 (by decide)) rfl rfl, zKept_fr h4 (by rw [g 0 (by decide)]) (fun k _ _ => g k (by omega)) rfl rfl rfl, zSR_fr h5 (fun k _ _ => g k (by omega)) (fun _ _ _ => rfl)⟩
theorem zcase {jx jm : Nat} {as : List zV} (hop : ∀ m mm, zRel m mm → zBoth 40 jx jm as m mm) (M : zMm) (hM : zRel M M) : ∃ (v : Int) (M1 M2 : zMm), zL 60 jx (.inr (.inr 0) :: as) SH M = zok v M1 ∧ zL 60 jm (.inr (.inr 45) :: as) SH M1 = zok v M2 ∧ zRel M2 M2 ∧ (∀ k, 68 ≤ k → M1 k = M k) ∧ ∀ k, 68 ≤ k → M2 k = M k := by
  obtain ⟨v, mc, m', x1, _, _, x4, _⟩ := hop M M hM
  obtain ⟨v2, mc2, m2, y1, y2, y3, y4, y5⟩ := hop mc M (zRel_mfr hM (fun k a b => x4 k a))
  have e := x1.symm.trans y1
  injection e with e
  injection e with e1 e2
  injection e1 with e1
  injection e1 with e1
  injection e2 with _ e2
  subst e1
  subst e2
  exact ⟨v, mc, m2, x1, y2, zRel_cfr y3 (fun k hk => y5 k (.inl hk)), fun k hk => x4 k (by omega), fun k hk => (y5 k (.inr hk)).trans (x4 k (by omega))⟩
theorem zidx {i k L : Nat} (h : i + k < L) (hL : L ≤ 3072) : 0 ≤ zw ((i : Int) + (k : Int)) ∧ zw ((i : Int) + (k : Int)) < (L : Int) := by
  rw [zw_id (by omega) (by omega)]
  omega
theorem zlaw_follow (i : Nat) (M : zMm) (hM : zRel M M) (b1 : 0 ≤ zw ((i : Int) + 1) ∧ zw ((i : Int) + 1) < M 998 0) (b2 : 0 ≤ zw ((i : Int) + 2) ∧ zw ((i : Int) + 2) < M 998 0) (hK : ∀ M2, zRel M2 M2 → (∀ k, 68 ≤ k → M2 k = M k) → ∃ M3, zR 60 202 18 [some (.inr (.inr 999)), some (.inr (.inr 0)), some (.inr (.inr 45)), some (.inl (zw ((i : Int) + 6)))] [] SH M2 = zok 1 M3) : ∃ M3, (if 0 ≤ (zw ((i : Int) + 1)) ∧ (zw ((i : Int) + 1)) < M 998 0 then if 0 ≤ (zw ((i : Int) + 2)) ∧ (zw ((i : Int) + 2)) < M 998 0 then zcI (zL 60 76 [.inr (.inr 0), .inl (M 999 ((zw ((i : Int) + 1)).toNat)), .inl (M 999 ((zw ((i : Int) + 2)).toNat))] SH M) fun x sh' mm' => zR 60 202 202 [some (.inr (.inr 999)), some (.inr (.inr 0)), some (.inr (.inr 45)), some (.inl (i : Int))] [.inl x] sh' mm' else none else none) = zok 1 M3 := by
  obtain ⟨v, M1, M2, x1, x2, x3, x4, x5⟩ := zcase (fun m mm h => op_follow 40 (M 999 (zw ((i : Int) + 1)).toNat) (M 999 (zw ((i : Int) + 2)).toNat) h) M hM
  obtain ⟨M3, h3⟩ := hK M2 x3 x5
  refine ⟨M3, ?_⟩
  have e8 := x4 998 (by decide)
  have e9 := x4 999 (by decide)
  rw [if_pos b1, if_pos b2, x1, zcI_ok, zb_L_law_202]
  rw [e8, e9]
  rw [if_pos b1, if_pos b2, x2, zcI_ok, zb_L_law_216, if_pos rfl]
  exact h3
theorem zlaw_line (i : Nat) (M : zMm) (hM : zRel M M) (b1 : 0 ≤ zw ((i : Int) + 1) ∧ zw ((i : Int) + 1) < M 998 0) (b2 : 0 ≤ zw ((i : Int) + 2) ∧ zw ((i : Int) + 2) < M 998 0) (hK : ∀ M2, zRel M2 M2 → (∀ k, 68 ≤ k → M2 k = M k) → ∃ M3, zR 60 202 18 [some (.inr (.inr 999)), some (.inr (.inr 0)), some (.inr (.inr 45)), some (.inl (zw ((i : Int) + 6)))] [] SH M2 = zok 1 M3) : ∃ M3, (if 0 ≤ (zw ((i : Int) + 1)) ∧ (zw ((i : Int) + 1)) < M 998 0 then if 0 ≤ (zw ((i : Int) + 2)) ∧ (zw ((i : Int) + 2)) < M 998 0 then zcI (zL 60 77 [.inr (.inr 0), .inl (M 999 ((zw ((i : Int) + 1)).toNat)), .inl (M 999 ((zw ((i : Int) + 2)).toNat))] SH M) fun x sh' mm' => zR 60 202 235 [some (.inr (.inr 999)), some (.inr (.inr 0)), some (.inr (.inr 45)), some (.inl (i : Int))] [.inl x] sh' mm' else none else none) = zok 1 M3 := by
  obtain ⟨v, M1, M2, x1, x2, x3, x4, x5⟩ := zcase (fun m mm h => op_line 40 (M 999 (zw ((i : Int) + 1)).toNat) (M 999 (zw ((i : Int) + 2)).toNat) h) M hM
  obtain ⟨M3, h3⟩ := hK M2 x3 x5
  refine ⟨M3, ?_⟩
  have e8 := x4 998 (by decide)
  have e9 := x4 999 (by decide)
  rw [if_pos b1, if_pos b2, x1, zcI_ok, zb_L_law_235]
  rw [e8, e9]
  rw [if_pos b1, if_pos b2, x2, zcI_ok, zb_L_law_249, if_pos rfl]
  exact h3
theorem zlaw_cell (i : Nat) (M : zMm) (hM : zRel M M) (b1 : 0 ≤ zw ((i : Int) + 1) ∧ zw ((i : Int) + 1) < M 998 0) (hK : ∀ M2, zRel M2 M2 → (∀ k, 68 ≤ k → M2 k = M k) → ∃ M3, zR 60 202 18 [some (.inr (.inr 999)), some (.inr (.inr 0)), some (.inr (.inr 45)), some (.inl (zw ((i : Int) + 6)))] [] SH M2 = zok 1 M3) : ∃ M3, (if 0 ≤ (zw ((i : Int) + 1)) ∧ (zw ((i : Int) + 1)) < M 998 0 then zcI (zL 60 78 [.inr (.inr 0), .inl (M 999 ((zw ((i : Int) + 1)).toNat))] SH M) fun x sh' mm' => zR 60 202 263 [some (.inr (.inr 999)), some (.inr (.inr 0)), some (.inr (.inr 45)), some (.inl (i : Int))] [.inl x] sh' mm' else none) = zok 1 M3 := by
  obtain ⟨v, M1, M2, x1, x2, x3, x4, x5⟩ := zcase (fun m mm h => op_cell 40 (M 999 (zw ((i : Int) + 1)).toNat) h) M hM
  obtain ⟨M3, h3⟩ := hK M2 x3 x5
  refine ⟨M3, ?_⟩
  have e8 := x4 998 (by decide)
  have e9 := x4 999 (by decide)
  rw [if_pos b1, x1, zcI_ok, zb_L_law_263]
  rw [e8, e9]
  rw [if_pos b1, x2, zcI_ok, zb_L_law_272, if_pos rfl]
  exact h3
theorem zlaw_weight (i : Nat) (M : zMm) (hM : zRel M M) (b1 : 0 ≤ zw ((i : Int) + 1) ∧ zw ((i : Int) + 1) < M 998 0) (b2 : 0 ≤ zw ((i : Int) + 2) ∧ zw ((i : Int) + 2) < M 998 0) (b3 : 0 ≤ zw ((i : Int) + 3) ∧ zw ((i : Int) + 3) < M 998 0) (hK : ∀ M2, zRel M2 M2 → (∀ k, 68 ≤ k → M2 k = M k) → ∃ M3, zR 60 202 18 [some (.inr (.inr 999)), some (.inr (.inr 0)), some (.inr (.inr 45)), some (.inl (zw ((i : Int) + 6)))] [] SH M2 = zok 1 M3) : ∃ M3, (if 0 ≤ (zw ((i : Int) + 1)) ∧ (zw ((i : Int) + 1)) < M 998 0 then if 0 ≤ (zw ((i : Int) + 2)) ∧ (zw ((i : Int) + 2)) < M 998 0 then if 0 ≤ (zw ((i : Int) + 3)) ∧ (zw ((i : Int) + 3)) < M 998 0 then zcI (zL 60 79 [.inr (.inr 0), .inl (M 999 ((zw ((i : Int) + 1)).toNat)), .inl (M 999 ((zw ((i : Int) + 2)).toNat)), .inl (M 999 ((zw ((i : Int) + 3)).toNat))] SH M) fun x sh' mm' => zR 60 202 296 [some (.inr (.inr 999)), some (.inr (.inr 0)), some (.inr (.inr 45)), some (.inl (i : Int))] [.inl x] sh' mm' else none else none else none) = zok 1 M3 := by
  obtain ⟨v, M1, M2, x1, x2, x3, x4, x5⟩ := zcase (fun m mm h => op_weight 40 (M 999 (zw ((i : Int) + 1)).toNat) (M 999 (zw ((i : Int) + 2)).toNat) (M 999 (zw ((i : Int) + 3)).toNat) h) M hM
  obtain ⟨M3, h3⟩ := hK M2 x3 x5
  refine ⟨M3, ?_⟩
  have e8 := x4 998 (by decide)
  have e9 := x4 999 (by decide)
  rw [if_pos b1, if_pos b2, if_pos b3, x1, zcI_ok, zb_L_law_296]
  rw [e8, e9]
  rw [if_pos b1, if_pos b2, if_pos b3, x2, zcI_ok, zb_L_law_315, if_pos rfl]
  exact h3
theorem zlaw_dead (i : Nat) (M : zMm) (hM : zRel M M) (b1 : 0 ≤ zw ((i : Int) + 1) ∧ zw ((i : Int) + 1) < M 998 0) (b2 : 0 ≤ zw ((i : Int) + 2) ∧ zw ((i : Int) + 2) < M 998 0) (hK : ∀ M2, zRel M2 M2 → (∀ k, 68 ≤ k → M2 k = M k) → ∃ M3, zR 60 202 18 [some (.inr (.inr 999)), some (.inr (.inr 0)), some (.inr (.inr 45)), some (.inl (zw ((i : Int) + 6)))] [] SH M2 = zok 1 M3) : ∃ M3, (if 0 ≤ (zw ((i : Int) + 1)) ∧ (zw ((i : Int) + 1)) < M 998 0 then if 0 ≤ (zw ((i : Int) + 2)) ∧ (zw ((i : Int) + 2)) < M 998 0 then if (M 999 ((zw ((i : Int) + 2)).toNat)) = 0 then zcI (zL 60 80 [.inr (.inr 0), .inl (M 999 ((zw ((i : Int) + 1)).toNat)), .inl 0] SH M) fun x sh' mm' => zR 60 202 342 [some (.inr (.inr 999)), some (.inr (.inr 0)), some (.inr (.inr 45)), some (.inl (i : Int))] [.inl x] sh' mm' else zcI (zL 60 80 [.inr (.inr 0), .inl (M 999 ((zw ((i : Int) + 1)).toNat)), .inl 1] SH M) fun x sh' mm' => zR 60 202 342 [some (.inr (.inr 999)), some (.inr (.inr 0)), some (.inr (.inr 45)), some (.inl (i : Int))] [.inl x] sh' mm' else none else none) = zok 1 M3 := by
  by_cases c : M 999 (zw ((i : Int) + 2)).toNat = 0
  · obtain ⟨v, M1, M2, x1, x2, x3, x4, x5⟩ := zcase (fun m mm h => op_dead 40 (M 999 (zw ((i : Int) + 1)).toNat) 0 (by decide) h) M hM
    obtain ⟨M3, h3⟩ := hK M2 x3 x5
    refine ⟨M3, ?_⟩
    have e8 := x4 998 (by decide)
    have e9 := x4 999 (by decide)
    rw [if_pos b1, if_pos b2, if_pos c, x1, zcI_ok, zb_L_law_342]
    rw [e8, e9]
    rw [if_pos b1, if_pos b2, if_pos c, x2, zcI_ok, zb_L_law_364, if_pos rfl]
    exact h3
  · obtain ⟨v, M1, M2, x1, x2, x3, x4, x5⟩ := zcase (fun m mm h => op_dead 40 (M 999 (zw ((i : Int) + 1)).toNat) 1 (by decide) h) M hM
    obtain ⟨M3, h3⟩ := hK M2 x3 x5
    refine ⟨M3, ?_⟩
    have e8 := x4 998 (by decide)
    have e9 := x4 999 (by decide)
    rw [if_pos b1, if_pos b2, if_neg c, x1, zcI_ok, zb_L_law_342]
    rw [e8, e9]
    rw [if_pos b1, if_pos b2, if_neg c, x2, zcI_ok, zb_L_law_364, if_pos rfl]
    exact h3
theorem zlaw_swap (i : Nat) (M : zMm) (hM : zRel M M) (b1 : 0 ≤ zw ((i : Int) + 1) ∧ zw ((i : Int) + 1) < M 998 0) (b2 : 0 ≤ zw ((i : Int) + 2) ∧ zw ((i : Int) + 2) < M 998 0) (hK : ∀ M2, zRel M2 M2 → (∀ k, 68 ≤ k → M2 k = M k) → ∃ M3, zR 60 202 18 [some (.inr (.inr 999)), some (.inr (.inr 0)), some (.inr (.inr 45)), some (.inl (zw ((i : Int) + 6)))] [] SH M2 = zok 1 M3) : ∃ M3, (if 0 ≤ (zw ((i : Int) + 1)) ∧ (zw ((i : Int) + 1)) < M 998 0 then if 0 ≤ (zw ((i : Int) + 2)) ∧ (zw ((i : Int) + 2)) < M 998 0 then zcI (zL 60 81 [.inr (.inr 0), .inl (M 999 ((zw ((i : Int) + 1)).toNat)), .inl (M 999 ((zw ((i : Int) + 2)).toNat))] SH M) fun x sh' mm' => zR 60 202 383 [some (.inr (.inr 999)), some (.inr (.inr 0)), some (.inr (.inr 45)), some (.inl (i : Int))] [.inl x] sh' mm' else none else none) = zok 1 M3 := by
  obtain ⟨v, M1, M2, x1, x2, x3, x4, x5⟩ := zcase (fun m mm h => op_swap 40 (M 999 (zw ((i : Int) + 1)).toNat) (M 999 (zw ((i : Int) + 2)).toNat) h) M hM
  obtain ⟨M3, h3⟩ := hK M2 x3 x5
  refine ⟨M3, ?_⟩
  have e8 := x4 998 (by decide)
  have e9 := x4 999 (by decide)
  rw [if_pos b1, if_pos b2, x1, zcI_ok, zb_L_law_383]
  rw [e8, e9]
  rw [if_pos b1, if_pos b2, x2, zcI_ok, zb_L_law_397, if_pos rfl]
  exact h3
theorem zlaw_turn (i : Nat) (M : zMm) (hM : zRel M M) (b1 : 0 ≤ zw ((i : Int) + 1) ∧ zw ((i : Int) + 1) < M 998 0) (hK : ∀ M2, zRel M2 M2 → (∀ k, 68 ≤ k → M2 k = M k) → ∃ M3, zR 60 202 18 [some (.inr (.inr 999)), some (.inr (.inr 0)), some (.inr (.inr 45)), some (.inl (zw ((i : Int) + 6)))] [] SH M2 = zok 1 M3) : ∃ M3, (if 0 ≤ (zw ((i : Int) + 1)) ∧ (zw ((i : Int) + 1)) < M 998 0 then if (M 999 ((zw ((i : Int) + 1)).toNat)) = 0 then zcI (zL 60 82 [.inr (.inr 0), .inl 0] SH M) fun x sh' mm' => zR 60 202 419 [some (.inr (.inr 999)), some (.inr (.inr 0)), some (.inr (.inr 45)), some (.inl (i : Int))] [.inl x] sh' mm' else zcI (zL 60 82 [.inr (.inr 0), .inl 1] SH M) fun x sh' mm' => zR 60 202 419 [some (.inr (.inr 999)), some (.inr (.inr 0)), some (.inr (.inr 45)), some (.inl (i : Int))] [.inl x] sh' mm' else none) = zok 1 M3 := by
  by_cases c : M 999 (zw ((i : Int) + 1)).toNat = 0
  · obtain ⟨v, M1, M2, x1, x2, x3, x4, x5⟩ := zcase (fun m mm h => op_turn 40 0 (by decide) h) M hM
    obtain ⟨M3, h3⟩ := hK M2 x3 x5
    refine ⟨M3, ?_⟩
    have e8 := x4 998 (by decide)
    have e9 := x4 999 (by decide)
    rw [if_pos b1, if_pos c, x1, zcI_ok, zb_L_law_419]
    rw [e8, e9]
    rw [if_pos b1, if_pos c, x2, zcI_ok, zb_L_law_436, if_pos rfl]
    exact h3
  · obtain ⟨v, M1, M2, x1, x2, x3, x4, x5⟩ := zcase (fun m mm h => op_turn 40 1 (by decide) h) M hM
    obtain ⟨M3, h3⟩ := hK M2 x3 x5
    refine ⟨M3, ?_⟩
    have e8 := x4 998 (by decide)
    have e9 := x4 999 (by decide)
    rw [if_pos b1, if_neg c, x1, zcI_ok, zb_L_law_419]
    rw [e8, e9]
    rw [if_pos b1, if_neg c, x2, zcI_ok, zb_L_law_436, if_pos rfl]
    exact h3
theorem zlaw_told (i : Nat) (M : zMm) (hM : zRel M M) (b1 : 0 ≤ zw ((i : Int) + 1) ∧ zw ((i : Int) + 1) < M 998 0) (b2 : 0 ≤ zw ((i : Int) + 2) ∧ zw ((i : Int) + 2) < M 998 0) (hK : ∀ M2, zRel M2 M2 → (∀ k, 68 ≤ k → M2 k = M k) → ∃ M3, zR 60 202 18 [some (.inr (.inr 999)), some (.inr (.inr 0)), some (.inr (.inr 45)), some (.inl (zw ((i : Int) + 6)))] [] SH M2 = zok 1 M3) : ∃ M3, (if 0 ≤ (zw ((i : Int) + 1)) ∧ (zw ((i : Int) + 1)) < M 998 0 then if 0 ≤ (zw ((i : Int) + 2)) ∧ (zw ((i : Int) + 2)) < M 998 0 then zcI (zL 60 83 [.inr (.inr 0), .inl (M 999 ((zw ((i : Int) + 1)).toNat)), .inl (M 999 ((zw ((i : Int) + 2)).toNat))] SH M) fun x sh' mm' => zR 60 202 455 [some (.inr (.inr 999)), some (.inr (.inr 0)), some (.inr (.inr 45)), some (.inl (i : Int))] [.inl x] sh' mm' else none else none) = zok 1 M3 := by
  obtain ⟨v, M1, M2, x1, x2, x3, x4, x5⟩ := zcase (fun m mm h => op_told 40 (M 999 (zw ((i : Int) + 1)).toNat) (M 999 (zw ((i : Int) + 2)).toNat) h) M hM
  obtain ⟨M3, h3⟩ := hK M2 x3 x5
  refine ⟨M3, ?_⟩
  have e8 := x4 998 (by decide)
  have e9 := x4 999 (by decide)
  rw [if_pos b1, if_pos b2, x1, zcI_ok, zb_L_law_455]
  rw [e8, e9]
  rw [if_pos b1, if_pos b2, x2, zcI_ok, zb_L_law_469, if_pos rfl]
  exact h3
theorem zlaw_type (i : Nat) (M : zMm) (hM : zRel M M) (b1 : 0 ≤ zw ((i : Int) + 1) ∧ zw ((i : Int) + 1) < M 998 0) (b2 : 0 ≤ zw ((i : Int) + 2) ∧ zw ((i : Int) + 2) < M 998 0) (b3 : 0 ≤ zw ((i : Int) + 3) ∧ zw ((i : Int) + 3) < M 998 0) (hK : ∀ M2, zRel M2 M2 → (∀ k, 68 ≤ k → M2 k = M k) → ∃ M3, zR 60 202 18 [some (.inr (.inr 999)), some (.inr (.inr 0)), some (.inr (.inr 45)), some (.inl (zw ((i : Int) + 6)))] [] SH M2 = zok 1 M3) : ∃ M3, (if 0 ≤ (zw ((i : Int) + 1)) ∧ (zw ((i : Int) + 1)) < M 998 0 then if 0 ≤ (zw ((i : Int) + 2)) ∧ (zw ((i : Int) + 2)) < M 998 0 then if 0 ≤ (zw ((i : Int) + 3)) ∧ (zw ((i : Int) + 3)) < M 998 0 then zcI (zL 60 84 [.inr (.inr 0), .inr (.inl (zlor (zlshl (M 999 ((zw ((i : Int) + 1)).toNat)) 32) (zland (M 999 ((zw ((i : Int) + 2)).toNat)) 4294967295))), .inl (M 999 ((zw ((i : Int) + 3)).toNat))] SH M) fun x sh' mm' => zR 60 202 503 [some (.inr (.inr 999)), some (.inr (.inr 0)), some (.inr (.inr 45)), some (.inl (i : Int))] [.inl x] sh' mm' else none else none else none) = zok 1 M3 := by
  obtain ⟨v, M1, M2, x1, x2, x3, x4, x5⟩ := zcase (fun m mm h => op_type 40 (zlor (zlshl (M 999 (zw ((i : Int) + 1)).toNat) 32) (zland (M 999 (zw ((i : Int) + 2)).toNat) 4294967295)) (M 999 (zw ((i : Int) + 3)).toNat) h) M hM
  obtain ⟨M3, h3⟩ := hK M2 x3 x5
  refine ⟨M3, ?_⟩
  have e8 := x4 998 (by decide)
  have e9 := x4 999 (by decide)
  rw [if_pos b1, if_pos b2, if_pos b3, x1, zcI_ok, zb_L_law_503]
  rw [e8, e9]
  rw [if_pos b1, if_pos b2, if_pos b3, x2, zcI_ok, zb_L_law_532, if_pos rfl]
  exact h3
theorem zlaw_tongue (i : Nat) (M : zMm) (hM : zRel M M) (hK : ∀ M2, zRel M2 M2 → (∀ k, 68 ≤ k → M2 k = M k) → ∃ M3, zR 60 202 18 [some (.inr (.inr 999)), some (.inr (.inr 0)), some (.inr (.inr 45)), some (.inl (zw ((i : Int) + 6)))] [] SH M2 = zok 1 M3) : ∃ M3, (zcI (zL 60 85 [.inr (.inr 0)] SH M) fun x sh' mm' => zR 60 202 541 [some (.inr (.inr 999)), some (.inr (.inr 0)), some (.inr (.inr 45)), some (.inl (i : Int))] [.inl x] sh' mm') = zok 1 M3 := by
  obtain ⟨v, M1, M2, x1, x2, x3, x4, x5⟩ := zcase (fun m mm h => op_tongue 40 h) M hM
  obtain ⟨M3, h3⟩ := hK M2 x3 x5
  refine ⟨M3, ?_⟩
  have e8 := x4 998 (by decide)
  have e9 := x4 999 (by decide)
  rw [x1, zcI_ok, zb_L_law_541]
  rw [x2, zcI_ok, zb_L_law_545, if_pos rfl]
  exact h3
theorem zlaw_book (i : Nat) (M : zMm) (hM : zRel M M) (hK : ∀ M2, zRel M2 M2 → (∀ k, 68 ≤ k → M2 k = M k) → ∃ M3, zR 60 202 18 [some (.inr (.inr 999)), some (.inr (.inr 0)), some (.inr (.inr 45)), some (.inl (zw ((i : Int) + 6)))] [] SH M2 = zok 1 M3) : ∃ M3, (zcI (zL 60 86 [.inr (.inr 0)] SH M) fun x sh' mm' => zR 60 202 554 [some (.inr (.inr 999)), some (.inr (.inr 0)), some (.inr (.inr 45)), some (.inl (i : Int))] [.inl x] sh' mm') = zok 1 M3 := by
  obtain ⟨v, M1, M2, x1, x2, x3, x4, x5⟩ := zcase (fun m mm h => op_book 40 h) M hM
  obtain ⟨M3, h3⟩ := hK M2 x3 x5
  refine ⟨M3, ?_⟩
  have e8 := x4 998 (by decide)
  have e9 := x4 999 (by decide)
  rw [x1, zcI_ok, zb_L_law_554]
  rw [x2, zcI_ok, zb_L_law_558, if_pos rfl]
  exact h3
theorem zlaw_count (i : Nat) (M : zMm) (hM : zRel M M) (b1 : 0 ≤ zw ((i : Int) + 1) ∧ zw ((i : Int) + 1) < M 998 0) (hK : ∀ M2, zRel M2 M2 → (∀ k, 68 ≤ k → M2 k = M k) → ∃ M3, zR 60 202 18 [some (.inr (.inr 999)), some (.inr (.inr 0)), some (.inr (.inr 45)), some (.inl (zw ((i : Int) + 6)))] [] SH M2 = zok 1 M3) : ∃ M3, (if 0 ≤ (zw ((i : Int) + 1)) ∧ (zw ((i : Int) + 1)) < M 998 0 then zcI (zL 60 87 [.inr (.inr 0), .inl (M 999 ((zw ((i : Int) + 1)).toNat))] SH M) fun x sh' mm' => zR 60 202 572 [some (.inr (.inr 999)), some (.inr (.inr 0)), some (.inr (.inr 45)), some (.inl (i : Int))] [.inl x] sh' mm' else none) = zok 1 M3 := by
  obtain ⟨v, M1, M2, x1, x2, x3, x4, x5⟩ := zcase (fun m mm h => op_count 40 (M 999 (zw ((i : Int) + 1)).toNat) h) M hM
  obtain ⟨M3, h3⟩ := hK M2 x3 x5
  refine ⟨M3, ?_⟩
  have e8 := x4 998 (by decide)
  have e9 := x4 999 (by decide)
  rw [if_pos b1, x1, zcI_ok, zb_L_law_572]
  rw [e8, e9]
  rw [if_pos b1, x2, zcI_ok, zb_L_law_581, if_pos rfl]
  exact h3
theorem zlaw_read (i : Nat) (M : zMm) (hM : zRel M M) (b1 : 0 ≤ zw ((i : Int) + 1) ∧ zw ((i : Int) + 1) < M 998 0) (b2 : 0 ≤ zw ((i : Int) + 2) ∧ zw ((i : Int) + 2) < M 998 0) (hK : ∀ M2, zRel M2 M2 → (∀ k, 68 ≤ k → M2 k = M k) → ∃ M3, zR 60 202 18 [some (.inr (.inr 999)), some (.inr (.inr 0)), some (.inr (.inr 45)), some (.inl (zw ((i : Int) + 6)))] [] SH M2 = zok 1 M3) : ∃ M3, (if 0 ≤ (zw ((i : Int) + 1)) ∧ (zw ((i : Int) + 1)) < M 998 0 then if 0 ≤ (zw ((i : Int) + 2)) ∧ (zw ((i : Int) + 2)) < M 998 0 then zcI (zL 60 88 [.inr (.inr 0), .inl (M 999 ((zw ((i : Int) + 1)).toNat)), .inl (M 999 ((zw ((i : Int) + 2)).toNat))] SH M) fun x sh' mm' => zR 60 202 600 [some (.inr (.inr 999)), some (.inr (.inr 0)), some (.inr (.inr 45)), some (.inl (i : Int))] [.inl x] sh' mm' else none else none) = zok 1 M3 := by
  obtain ⟨v, M1, M2, x1, x2, x3, x4, x5⟩ := zcase (fun m mm h => op_read 40 (M 999 (zw ((i : Int) + 1)).toNat) (M 999 (zw ((i : Int) + 2)).toNat) h) M hM
  obtain ⟨M3, h3⟩ := hK M2 x3 x5
  refine ⟨M3, ?_⟩
  have e8 := x4 998 (by decide)
  have e9 := x4 999 (by decide)
  rw [if_pos b1, if_pos b2, x1, zcI_ok, zb_L_law_600]
  rw [e8, e9]
  rw [if_pos b1, if_pos b2, x2, zcI_ok, zb_L_law_614, if_pos rfl]
  exact h3
theorem zlaw_come (i : Nat) (M : zMm) (hM : zRel M M) (b1 : 0 ≤ zw ((i : Int) + 1) ∧ zw ((i : Int) + 1) < M 998 0) (hK : ∀ M2, zRel M2 M2 → (∀ k, 68 ≤ k → M2 k = M k) → ∃ M3, zR 60 202 18 [some (.inr (.inr 999)), some (.inr (.inr 0)), some (.inr (.inr 45)), some (.inl (zw ((i : Int) + 6)))] [] SH M2 = zok 1 M3) : ∃ M3, (if 0 ≤ (zw ((i : Int) + 1)) ∧ (zw ((i : Int) + 1)) < M 998 0 then zcI (zL 60 89 [.inr (.inr 0), .inl (M 999 ((zw ((i : Int) + 1)).toNat))] SH M) fun x sh' mm' => zR 60 202 628 [some (.inr (.inr 999)), some (.inr (.inr 0)), some (.inr (.inr 45)), some (.inl (i : Int))] [.inl x] sh' mm' else none) = zok 1 M3 := by
  obtain ⟨v, M1, M2, x1, x2, x3, x4, x5⟩ := zcase (fun m mm h => op_come 40 (M 999 (zw ((i : Int) + 1)).toNat) h) M hM
  obtain ⟨M3, h3⟩ := hK M2 x3 x5
  refine ⟨M3, ?_⟩
  have e8 := x4 998 (by decide)
  have e9 := x4 999 (by decide)
  rw [if_pos b1, x1, zcI_ok, zb_L_law_628]
  rw [e8, e9]
  rw [if_pos b1, x2, zcI_ok, zb_L_law_637, if_pos rfl]
  exact h3
theorem zlaw_odds (i : Nat) (M : zMm) (hM : zRel M M) (b1 : 0 ≤ zw ((i : Int) + 1) ∧ zw ((i : Int) + 1) < M 998 0) (b2 : 0 ≤ zw ((i : Int) + 2) ∧ zw ((i : Int) + 2) < M 998 0) (b3 : 0 ≤ zw ((i : Int) + 3) ∧ zw ((i : Int) + 3) < M 998 0) (hK : ∀ M2, zRel M2 M2 → (∀ k, 68 ≤ k → M2 k = M k) → ∃ M3, zR 60 202 18 [some (.inr (.inr 999)), some (.inr (.inr 0)), some (.inr (.inr 45)), some (.inl (zw ((i : Int) + 6)))] [] SH M2 = zok 1 M3) : ∃ M3, (if 0 ≤ (zw ((i : Int) + 1)) ∧ (zw ((i : Int) + 1)) < M 998 0 then if 0 ≤ (zw ((i : Int) + 2)) ∧ (zw ((i : Int) + 2)) < M 998 0 then if 0 ≤ (zw ((i : Int) + 3)) ∧ (zw ((i : Int) + 3)) < M 998 0 then zcI (zL 60 90 [.inr (.inr 0), .inl (M 999 ((zw ((i : Int) + 1)).toNat)), .inl (M 999 ((zw ((i : Int) + 2)).toNat)), .inl (M 999 ((zw ((i : Int) + 3)).toNat))] SH M) fun x sh' mm' => zR 60 202 661 [some (.inr (.inr 999)), some (.inr (.inr 0)), some (.inr (.inr 45)), some (.inl (i : Int))] [.inl x] sh' mm' else none else none else none) = zok 1 M3 := by
  obtain ⟨v, M1, M2, x1, x2, x3, x4, x5⟩ := zcase (fun m mm h => op_odds 40 (M 999 (zw ((i : Int) + 1)).toNat) (M 999 (zw ((i : Int) + 2)).toNat) (M 999 (zw ((i : Int) + 3)).toNat) h) M hM
  obtain ⟨M3, h3⟩ := hK M2 x3 x5
  refine ⟨M3, ?_⟩
  have e8 := x4 998 (by decide)
  have e9 := x4 999 (by decide)
  rw [if_pos b1, if_pos b2, if_pos b3, x1, zcI_ok, zb_L_law_661]
  rw [e8, e9]
  rw [if_pos b1, if_pos b2, if_pos b3, x2, zcI_ok, zb_L_law_680, if_pos rfl]
  exact h3
theorem zlaw_add (i : Nat) (M : zMm) (hM : zRel M M) (b1 : 0 ≤ zw ((i : Int) + 1) ∧ zw ((i : Int) + 1) < M 998 0) (hK : ∀ M2, zRel M2 M2 → (∀ k, 68 ≤ k → M2 k = M k) → ∃ M3, zR 60 202 18 [some (.inr (.inr 999)), some (.inr (.inr 0)), some (.inr (.inr 45)), some (.inl (zw ((i : Int) + 6)))] [] SH M2 = zok 1 M3) : ∃ M3, (if 0 ≤ (zw ((i : Int) + 1)) ∧ (zw ((i : Int) + 1)) < M 998 0 then zcI (zL 60 91 [.inr (.inr 0), .inl (M 999 ((zw ((i : Int) + 1)).toNat))] SH M) fun x sh' mm' => zR 60 202 694 [some (.inr (.inr 999)), some (.inr (.inr 0)), some (.inr (.inr 45)), some (.inl (i : Int))] [.inl x] sh' mm' else none) = zok 1 M3 := by
  obtain ⟨v, M1, M2, x1, x2, x3, x4, x5⟩ := zcase (fun m mm h => op_add 40 (M 999 (zw ((i : Int) + 1)).toNat) h) M hM
  obtain ⟨M3, h3⟩ := hK M2 x3 x5
  refine ⟨M3, ?_⟩
  have e8 := x4 998 (by decide)
  have e9 := x4 999 (by decide)
  rw [if_pos b1, x1, zcI_ok, zb_L_law_694]
  rw [e8, e9]
  rw [if_pos b1, x2, zcI_ok, zb_L_law_703, if_pos rfl]
  exact h3
theorem zlaw_draw (i : Nat) (M : zMm) (hM : zRel M M) (b1 : 0 ≤ zw ((i : Int) + 1) ∧ zw ((i : Int) + 1) < M 998 0) (hK : ∀ M2, zRel M2 M2 → (∀ k, 68 ≤ k → M2 k = M k) → ∃ M3, zR 60 202 18 [some (.inr (.inr 999)), some (.inr (.inr 0)), some (.inr (.inr 45)), some (.inl (zw ((i : Int) + 6)))] [] SH M2 = zok 1 M3) : ∃ M3, (if 0 ≤ (zw ((i : Int) + 1)) ∧ (zw ((i : Int) + 1)) < M 998 0 then zcI (zL 60 92 [.inr (.inr 0), .inl (M 999 ((zw ((i : Int) + 1)).toNat))] SH M) fun x sh' mm' => zR 60 202 717 [some (.inr (.inr 999)), some (.inr (.inr 0)), some (.inr (.inr 45)), some (.inl (i : Int))] [.inl x] sh' mm' else none) = zok 1 M3 := by
  obtain ⟨v, M1, M2, x1, x2, x3, x4, x5⟩ := zcase (fun m mm h => op_draw 40 (M 999 (zw ((i : Int) + 1)).toNat) h) M hM
  obtain ⟨M3, h3⟩ := hK M2 x3 x5
  refine ⟨M3, ?_⟩
  have e8 := x4 998 (by decide)
  have e9 := x4 999 (by decide)
  rw [if_pos b1, x1, zcI_ok, zb_L_law_717]
  rw [e8, e9]
  rw [if_pos b1, x2, zcI_ok, zb_L_law_726, if_pos rfl]
  exact h3
theorem zlaw_seed (i : Nat) (M : zMm) (hM : zRel M M) (b1 : 0 ≤ zw ((i : Int) + 1) ∧ zw ((i : Int) + 1) < M 998 0) (h31 : ∀ j, M 999 j < 2147483648) (hK : ∀ M2, zRel M2 M2 → (∀ k, 68 ≤ k → M2 k = M k) → ∃ M3, zR 60 202 18 [some (.inr (.inr 999)), some (.inr (.inr 0)), some (.inr (.inr 45)), some (.inl (zw ((i : Int) + 6)))] [] SH M2 = zok 1 M3) : ∃ M3, (if 0 ≤ (zw ((i : Int) + 1)) ∧ (zw ((i : Int) + 1)) < M 998 0 then zcI (zL 60 93 [.inr (.inr 0), .inl (M 999 ((zw ((i : Int) + 1)).toNat))] SH M) fun x sh' mm' => zR 60 202 740 [some (.inr (.inr 999)), some (.inr (.inr 0)), some (.inr (.inr 45)), some (.inl (i : Int))] [.inl x] sh' mm' else none) = zok 1 M3 := by
  obtain ⟨v, M1, M2, x1, x2, x3, x4, x5⟩ := zcase (fun m mm h => op_seed 40 (M 999 (zw ((i : Int) + 1)).toNat) (h31 _) h) M hM
  obtain ⟨M3, h3⟩ := hK M2 x3 x5
  refine ⟨M3, ?_⟩
  have e8 := x4 998 (by decide)
  have e9 := x4 999 (by decide)
  rw [if_pos b1, x1, zcI_ok, zb_L_law_740]
  rw [e8, e9]
  rw [if_pos b1, x2, zcI_ok, zb_L_law_749, if_pos rfl]
  exact h3
theorem zlaw_undo (i : Nat) (M : zMm) (hM : zRel M M) (b1 : 0 ≤ zw ((i : Int) + 1) ∧ zw ((i : Int) + 1) < M 998 0) (hK : ∀ M2, zRel M2 M2 → (∀ k, 68 ≤ k → M2 k = M k) → ∃ M3, zR 60 202 18 [some (.inr (.inr 999)), some (.inr (.inr 0)), some (.inr (.inr 45)), some (.inl (zw ((i : Int) + 6)))] [] SH M2 = zok 1 M3) : ∃ M3, (if 0 ≤ (zw ((i : Int) + 1)) ∧ (zw ((i : Int) + 1)) < M 998 0 then zcI (zL 60 94 [.inr (.inr 0), .inl (M 999 ((zw ((i : Int) + 1)).toNat))] SH M) fun x sh' mm' => zR 60 202 763 [some (.inr (.inr 999)), some (.inr (.inr 0)), some (.inr (.inr 45)), some (.inl (i : Int))] [.inl x] sh' mm' else none) = zok 1 M3 := by
  obtain ⟨v, M1, M2, x1, x2, x3, x4, x5⟩ := zcase (fun m mm h => op_undo 40 (M 999 (zw ((i : Int) + 1)).toNat) h) M hM
  obtain ⟨M3, h3⟩ := hK M2 x3 x5
  refine ⟨M3, ?_⟩
  have e8 := x4 998 (by decide)
  have e9 := x4 999 (by decide)
  rw [if_pos b1, x1, zcI_ok, zb_L_law_763]
  rw [e8, e9]
  rw [if_pos b1, x2, zcI_ok, zb_L_law_772, if_pos rfl]
  exact h3
theorem zlaw_reach (i : Nat) (M : zMm) (hM : zRel M M) (b1 : 0 ≤ zw ((i : Int) + 1) ∧ zw ((i : Int) + 1) < M 998 0) (b2 : 0 ≤ zw ((i : Int) + 2) ∧ zw ((i : Int) + 2) < M 998 0) (hK : ∀ M2, zRel M2 M2 → (∀ k, 68 ≤ k → M2 k = M k) → ∃ M3, zR 60 202 18 [some (.inr (.inr 999)), some (.inr (.inr 0)), some (.inr (.inr 45)), some (.inl (zw ((i : Int) + 6)))] [] SH M2 = zok 1 M3) : ∃ M3, (if 0 ≤ (zw ((i : Int) + 1)) ∧ (zw ((i : Int) + 1)) < M 998 0 then if 0 ≤ (zw ((i : Int) + 2)) ∧ (zw ((i : Int) + 2)) < M 998 0 then zcI (zL 60 95 [.inr (.inr 0), .inl (M 999 ((zw ((i : Int) + 1)).toNat)), .inl (M 999 ((zw ((i : Int) + 2)).toNat))] SH M) fun x sh' mm' => zR 60 202 791 [some (.inr (.inr 999)), some (.inr (.inr 0)), some (.inr (.inr 45)), some (.inl (i : Int))] [.inl x] sh' mm' else none else none) = zok 1 M3 := by
  obtain ⟨v, M1, M2, x1, x2, x3, x4, x5⟩ := zcase (fun m mm h => op_reach 40 (M 999 (zw ((i : Int) + 1)).toNat) (M 999 (zw ((i : Int) + 2)).toNat) h) M hM
  obtain ⟨M3, h3⟩ := hK M2 x3 x5
  refine ⟨M3, ?_⟩
  have e8 := x4 998 (by decide)
  have e9 := x4 999 (by decide)
  rw [if_pos b1, if_pos b2, x1, zcI_ok, zb_L_law_791]
  rw [e8, e9]
  rw [if_pos b1, if_pos b2, x2, zcI_ok, zb_L_law_805, if_pos rfl]
  exact h3
theorem zlaw_end (i : Nat) (M : zMm) (hM : zRel M M) (hK : ∀ M2, zRel M2 M2 → (∀ k, 68 ≤ k → M2 k = M k) → ∃ M3, zR 60 202 18 [some (.inr (.inr 999)), some (.inr (.inr 0)), some (.inr (.inr 45)), some (.inl (zw ((i : Int) + 6)))] [] SH M2 = zok 1 M3) : ∃ M3, (zcI (zL 60 96 [.inr (.inr 0)] SH M) fun x sh' mm' => zR 60 202 814 [some (.inr (.inr 999)), some (.inr (.inr 0)), some (.inr (.inr 45)), some (.inl (i : Int))] [.inl x] sh' mm') = zok 1 M3 := by
  obtain ⟨v, M1, M2, x1, x2, x3, x4, x5⟩ := zcase (fun m mm h => op_end 40 h) M hM
  obtain ⟨M3, h3⟩ := hK M2 x3 x5
  refine ⟨M3, ?_⟩
  have e8 := x4 998 (by decide)
  have e9 := x4 999 (by decide)
  rw [x1, zcI_ok, zb_L_law_814]
  rw [x2, zcI_ok, zb_L_law_818, if_pos rfl]
  exact h3
theorem zlaw_soon (i : Nat) (M : zMm) (hM : zRel M M) (b1 : 0 ≤ zw ((i : Int) + 1) ∧ zw ((i : Int) + 1) < M 998 0) (b2 : 0 ≤ zw ((i : Int) + 2) ∧ zw ((i : Int) + 2) < M 998 0) (hK : ∀ M2, zRel M2 M2 → (∀ k, 68 ≤ k → M2 k = M k) → ∃ M3, zR 60 202 18 [some (.inr (.inr 999)), some (.inr (.inr 0)), some (.inr (.inr 45)), some (.inl (zw ((i : Int) + 6)))] [] SH M2 = zok 1 M3) : ∃ M3, (if 0 ≤ (zw ((i : Int) + 1)) ∧ (zw ((i : Int) + 1)) < M 998 0 then if 0 ≤ (zw ((i : Int) + 2)) ∧ (zw ((i : Int) + 2)) < M 998 0 then zcI (zL 60 97 [.inr (.inr 0), .inl (M 999 ((zw ((i : Int) + 1)).toNat)), .inl (M 999 ((zw ((i : Int) + 2)).toNat))] SH M) fun x sh' mm' => zR 60 202 837 [some (.inr (.inr 999)), some (.inr (.inr 0)), some (.inr (.inr 45)), some (.inl (i : Int))] [.inl x] sh' mm' else none else none) = zok 1 M3 := by
  obtain ⟨v, M1, M2, x1, x2, x3, x4, x5⟩ := zcase (fun m mm h => op_soon 40 (M 999 (zw ((i : Int) + 1)).toNat) (M 999 (zw ((i : Int) + 2)).toNat) h) M hM
  obtain ⟨M3, h3⟩ := hK M2 x3 x5
  refine ⟨M3, ?_⟩
  have e8 := x4 998 (by decide)
  have e9 := x4 999 (by decide)
  rw [if_pos b1, if_pos b2, x1, zcI_ok, zb_L_law_837]
  rw [e8, e9]
  rw [if_pos b1, if_pos b2, x2, zcI_ok, zb_L_law_851, if_pos rfl]
  exact h3
theorem zlaw_forget (i : Nat) (M : zMm) (hM : zRel M M) (b1 : 0 ≤ zw ((i : Int) + 1) ∧ zw ((i : Int) + 1) < M 998 0) (hK : ∀ M2, zRel M2 M2 → (∀ k, 68 ≤ k → M2 k = M k) → ∃ M3, zR 60 202 18 [some (.inr (.inr 999)), some (.inr (.inr 0)), some (.inr (.inr 45)), some (.inl (zw ((i : Int) + 6)))] [] SH M2 = zok 1 M3) : ∃ M3, (if 0 ≤ (zw ((i : Int) + 1)) ∧ (zw ((i : Int) + 1)) < M 998 0 then zcI (zL 60 98 [.inr (.inr 0), .inl (M 999 ((zw ((i : Int) + 1)).toNat))] SH M) fun x sh' mm' => zR 60 202 865 [some (.inr (.inr 999)), some (.inr (.inr 0)), some (.inr (.inr 45)), some (.inl (i : Int))] [.inl x] sh' mm' else none) = zok 1 M3 := by
  obtain ⟨v, M1, M2, x1, x2, x3, x4, x5⟩ := zcase (fun m mm h => op_forget 40 (M 999 (zw ((i : Int) + 1)).toNat) h) M hM
  obtain ⟨M3, h3⟩ := hK M2 x3 x5
  refine ⟨M3, ?_⟩
  have e8 := x4 998 (by decide)
  have e9 := x4 999 (by decide)
  rw [if_pos b1, x1, zcI_ok, zb_L_law_865]
  rw [e8, e9]
  rw [if_pos b1, x2, zcI_ok, zb_L_law_874, if_pos rfl]
  exact h3
theorem zlaw_habit (i : Nat) (M : zMm) (hM : zRel M M) (b1 : 0 ≤ zw ((i : Int) + 1) ∧ zw ((i : Int) + 1) < M 998 0) (b2 : 0 ≤ zw ((i : Int) + 2) ∧ zw ((i : Int) + 2) < M 998 0) (hK : ∀ M2, zRel M2 M2 → (∀ k, 68 ≤ k → M2 k = M k) → ∃ M3, zR 60 202 18 [some (.inr (.inr 999)), some (.inr (.inr 0)), some (.inr (.inr 45)), some (.inl (zw ((i : Int) + 6)))] [] SH M2 = zok 1 M3) : ∃ M3, (if 0 ≤ (zw ((i : Int) + 1)) ∧ (zw ((i : Int) + 1)) < M 998 0 then if 0 ≤ (zw ((i : Int) + 2)) ∧ (zw ((i : Int) + 2)) < M 998 0 then zcI (zL 60 99 [.inr (.inr 0), .inl (M 999 ((zw ((i : Int) + 1)).toNat)), .inl (M 999 ((zw ((i : Int) + 2)).toNat))] SH M) fun x sh' mm' => zR 60 202 893 [some (.inr (.inr 999)), some (.inr (.inr 0)), some (.inr (.inr 45)), some (.inl (i : Int))] [.inl x] sh' mm' else none else none) = zok 1 M3 := by
  obtain ⟨v, M1, M2, x1, x2, x3, x4, x5⟩ := zcase (fun m mm h => op_habit 40 (M 999 (zw ((i : Int) + 1)).toNat) (M 999 (zw ((i : Int) + 2)).toNat) h) M hM
  obtain ⟨M3, h3⟩ := hK M2 x3 x5
  refine ⟨M3, ?_⟩
  have e8 := x4 998 (by decide)
  have e9 := x4 999 (by decide)
  rw [if_pos b1, if_pos b2, x1, zcI_ok, zb_L_law_893]
  rw [e8, e9]
  rw [if_pos b1, if_pos b2, x2, zcI_ok, zb_L_law_907, if_pos rfl]
  exact h3
theorem zlaw_guess (i : Nat) (M : zMm) (hM : zRel M M) (b1 : 0 ≤ zw ((i : Int) + 1) ∧ zw ((i : Int) + 1) < M 998 0) (hK : ∀ M2, zRel M2 M2 → (∀ k, 68 ≤ k → M2 k = M k) → ∃ M3, zR 60 202 18 [some (.inr (.inr 999)), some (.inr (.inr 0)), some (.inr (.inr 45)), some (.inl (zw ((i : Int) + 6)))] [] SH M2 = zok 1 M3) : ∃ M3, (if 0 ≤ (zw ((i : Int) + 1)) ∧ (zw ((i : Int) + 1)) < M 998 0 then zcI (zL 60 100 [.inr (.inr 0), .inl (M 999 ((zw ((i : Int) + 1)).toNat))] SH M) fun x sh' mm' => zR 60 202 921 [some (.inr (.inr 999)), some (.inr (.inr 0)), some (.inr (.inr 45)), some (.inl (i : Int))] [.inl x] sh' mm' else none) = zok 1 M3 := by
  obtain ⟨v, M1, M2, x1, x2, x3, x4, x5⟩ := zcase (fun m mm h => op_guess 40 (M 999 (zw ((i : Int) + 1)).toNat) h) M hM
  obtain ⟨M3, h3⟩ := hK M2 x3 x5
  refine ⟨M3, ?_⟩
  have e8 := x4 998 (by decide)
  have e9 := x4 999 (by decide)
  rw [if_pos b1, x1, zcI_ok, zb_L_law_921]
  rw [e8, e9]
  rw [if_pos b1, x2, zcI_ok, zb_L_law_930, if_pos rfl]
  exact h3
theorem zlaw_prevented (i : Nat) (M : zMm) (hM : zRel M M) (b1 : 0 ≤ zw ((i : Int) + 1) ∧ zw ((i : Int) + 1) < M 998 0) (hK : ∀ M2, zRel M2 M2 → (∀ k, 68 ≤ k → M2 k = M k) → ∃ M3, zR 60 202 18 [some (.inr (.inr 999)), some (.inr (.inr 0)), some (.inr (.inr 45)), some (.inl (zw ((i : Int) + 6)))] [] SH M2 = zok 1 M3) : ∃ M3, (if 0 ≤ (zw ((i : Int) + 1)) ∧ (zw ((i : Int) + 1)) < M 998 0 then zcI (zL 60 101 [.inr (.inr 0), .inl (M 999 ((zw ((i : Int) + 1)).toNat))] SH M) fun x sh' mm' => zR 60 202 944 [some (.inr (.inr 999)), some (.inr (.inr 0)), some (.inr (.inr 45)), some (.inl (i : Int))] [.inl x] sh' mm' else none) = zok 1 M3 := by
  obtain ⟨v, M1, M2, x1, x2, x3, x4, x5⟩ := zcase (fun m mm h => op_prevented 40 (M 999 (zw ((i : Int) + 1)).toNat) h) M hM
  obtain ⟨M3, h3⟩ := hK M2 x3 x5
  refine ⟨M3, ?_⟩
  have e8 := x4 998 (by decide)
  have e9 := x4 999 (by decide)
  rw [if_pos b1, x1, zcI_ok, zb_L_law_944]
  rw [e8, e9]
  rw [if_pos b1, x2, zcI_ok, zb_L_law_953, if_pos rfl]
  exact h3
theorem zlaw_seated (i : Nat) (M : zMm) (hM : zRel M M) (b1 : 0 ≤ zw ((i : Int) + 1) ∧ zw ((i : Int) + 1) < M 998 0) (b2 : 0 ≤ zw ((i : Int) + 2) ∧ zw ((i : Int) + 2) < M 998 0) (b3 : 0 ≤ zw ((i : Int) + 3) ∧ zw ((i : Int) + 3) < M 998 0) (hK : ∀ M2, zRel M2 M2 → (∀ k, 68 ≤ k → M2 k = M k) → ∃ M3, zR 60 202 18 [some (.inr (.inr 999)), some (.inr (.inr 0)), some (.inr (.inr 45)), some (.inl (zw ((i : Int) + 6)))] [] SH M2 = zok 1 M3) : ∃ M3, (if 0 ≤ (zw ((i : Int) + 1)) ∧ (zw ((i : Int) + 1)) < M 998 0 then if 0 ≤ (zw ((i : Int) + 2)) ∧ (zw ((i : Int) + 2)) < M 998 0 then if 0 ≤ (zw ((i : Int) + 3)) ∧ (zw ((i : Int) + 3)) < M 998 0 then zcI (zL 60 102 [.inr (.inr 0), .inl (M 999 ((zw ((i : Int) + 1)).toNat)), .inl (M 999 ((zw ((i : Int) + 2)).toNat)), .inl (M 999 ((zw ((i : Int) + 3)).toNat))] SH M) fun x sh' mm' => zR 60 202 977 [some (.inr (.inr 999)), some (.inr (.inr 0)), some (.inr (.inr 45)), some (.inl (i : Int))] [.inl x] sh' mm' else none else none else none) = zok 1 M3 := by
  obtain ⟨v, M1, M2, x1, x2, x3, x4, x5⟩ := zcase (fun m mm h => op_seated 40 (M 999 (zw ((i : Int) + 1)).toNat) (M 999 (zw ((i : Int) + 2)).toNat) (M 999 (zw ((i : Int) + 3)).toNat) h) M hM
  obtain ⟨M3, h3⟩ := hK M2 x3 x5
  refine ⟨M3, ?_⟩
  have e8 := x4 998 (by decide)
  have e9 := x4 999 (by decide)
  rw [if_pos b1, if_pos b2, if_pos b3, x1, zcI_ok, zb_L_law_977]
  rw [e8, e9]
  rw [if_pos b1, if_pos b2, if_pos b3, x2, zcI_ok, zb_L_law_996, if_pos rfl]
  exact h3
theorem zlaw_image (i : Nat) (M : zMm) (hM : zRel M M) (hK : ∀ M2, zRel M2 M2 → (∀ k, 68 ≤ k → M2 k = M k) → ∃ M3, zR 60 202 18 [some (.inr (.inr 999)), some (.inr (.inr 0)), some (.inr (.inr 45)), some (.inl (zw ((i : Int) + 6)))] [] SH M2 = zok 1 M3) : ∃ M3, (zcI (zL 60 103 [.inr (.inr 0)] SH M) fun x sh' mm' => zR 60 202 1005 [some (.inr (.inr 999)), some (.inr (.inr 0)), some (.inr (.inr 45)), some (.inl (i : Int))] [.inl x] sh' mm') = zok 1 M3 := by
  obtain ⟨v, M1, M2, x1, x2, x3, x4, x5⟩ := zcase (fun m mm h => op_image 40 h) M hM
  obtain ⟨M3, h3⟩ := hK M2 x3 x5
  refine ⟨M3, ?_⟩
  have e8 := x4 998 (by decide)
  have e9 := x4 999 (by decide)
  rw [x1, zcI_ok, zb_L_law_1005]
  rw [x2, zcI_ok, zb_L_law_1009, if_pos rfl]
  exact h3
theorem zlaw_restore (i : Nat) (M : zMm) (hM : zRel M M) (hK : ∀ M2, zRel M2 M2 → (∀ k, 68 ≤ k → M2 k = M k) → ∃ M3, zR 60 202 18 [some (.inr (.inr 999)), some (.inr (.inr 0)), some (.inr (.inr 45)), some (.inl (zw ((i : Int) + 6)))] [] SH M2 = zok 1 M3) : ∃ M3, (zcI (zL 60 104 [.inr (.inr 0)] SH M) fun x sh' mm' => zR 60 202 1018 [some (.inr (.inr 999)), some (.inr (.inr 0)), some (.inr (.inr 45)), some (.inl (i : Int))] [.inl x] sh' mm') = zok 1 M3 := by
  obtain ⟨v, M1, M2, x1, x2, x3, x4, x5⟩ := zcase (fun m mm h => op_restore 40 h) M hM
  obtain ⟨M3, h3⟩ := hK M2 x3 x5
  refine ⟨M3, ?_⟩
  have e8 := x4 998 (by decide)
  have e9 := x4 999 (by decide)
  rw [x1, zcI_ok, zb_L_law_1018]
  rw [x2, zcI_ok, zb_L_law_1022, if_pos rfl]
  exact h3
theorem zlaw_ways (i : Nat) (M : zMm) (hM : zRel M M) (b1 : 0 ≤ zw ((i : Int) + 1) ∧ zw ((i : Int) + 1) < M 998 0) (b2 : 0 ≤ zw ((i : Int) + 2) ∧ zw ((i : Int) + 2) < M 998 0) (b3 : 0 ≤ zw ((i : Int) + 3) ∧ zw ((i : Int) + 3) < M 998 0) (b4 : 0 ≤ zw ((i : Int) + 4) ∧ zw ((i : Int) + 4) < M 998 0) (hK : ∀ M2, zRel M2 M2 → (∀ k, 68 ≤ k → M2 k = M k) → ∃ M3, zR 60 202 18 [some (.inr (.inr 999)), some (.inr (.inr 0)), some (.inr (.inr 45)), some (.inl (zw ((i : Int) + 6)))] [] SH M2 = zok 1 M3) : ∃ M3, (if 0 ≤ (zw ((i : Int) + 1)) ∧ (zw ((i : Int) + 1)) < M 998 0 then if 0 ≤ (zw ((i : Int) + 2)) ∧ (zw ((i : Int) + 2)) < M 998 0 then if 0 ≤ (zw ((i : Int) + 3)) ∧ (zw ((i : Int) + 3)) < M 998 0 then if 0 ≤ (zw ((i : Int) + 4)) ∧ (zw ((i : Int) + 4)) < M 998 0 then zcI (zL 60 105 [.inr (.inr 0), .inl (M 999 ((zw ((i : Int) + 1)).toNat)), .inl (M 999 ((zw ((i : Int) + 2)).toNat)), .inl (M 999 ((zw ((i : Int) + 3)).toNat)), .inl (M 999 ((zw ((i : Int) + 4)).toNat))] SH M) fun x sh' mm' => zR 60 202 1051 [some (.inr (.inr 999)), some (.inr (.inr 0)), some (.inr (.inr 45)), some (.inl (i : Int))] [.inl x] sh' mm' else none else none else none else none) = zok 1 M3 := by
  obtain ⟨v, M1, M2, x1, x2, x3, x4, x5⟩ := zcase (fun m mm h => op_ways 40 (M 999 (zw ((i : Int) + 1)).toNat) (M 999 (zw ((i : Int) + 2)).toNat) (M 999 (zw ((i : Int) + 3)).toNat) (M 999 (zw ((i : Int) + 4)).toNat) h) M hM
  obtain ⟨M3, h3⟩ := hK M2 x3 x5
  refine ⟨M3, ?_⟩
  have e8 := x4 998 (by decide)
  have e9 := x4 999 (by decide)
  rw [if_pos b1, if_pos b2, if_pos b3, if_pos b4, x1, zcI_ok, zb_L_law_1051]
  rw [e8, e9]
  rw [if_pos b1, if_pos b2, if_pos b3, if_pos b4, x2, zcI_ok, zb_L_law_1075, if_pos rfl]
  exact h3
theorem zlaw_differ (i : Nat) (M : zMm) (hM : zRel M M) (b1 : 0 ≤ zw ((i : Int) + 1) ∧ zw ((i : Int) + 1) < M 998 0) (b2 : 0 ≤ zw ((i : Int) + 2) ∧ zw ((i : Int) + 2) < M 998 0) (b3 : 0 ≤ zw ((i : Int) + 3) ∧ zw ((i : Int) + 3) < M 998 0) (b4 : 0 ≤ zw ((i : Int) + 4) ∧ zw ((i : Int) + 4) < M 998 0) (b5 : 0 ≤ zw ((i : Int) + 5) ∧ zw ((i : Int) + 5) < M 998 0) (hK : ∀ M2, zRel M2 M2 → (∀ k, 68 ≤ k → M2 k = M k) → ∃ M3, zR 60 202 18 [some (.inr (.inr 999)), some (.inr (.inr 0)), some (.inr (.inr 45)), some (.inl (zw ((i : Int) + 6)))] [] SH M2 = zok 1 M3) : ∃ M3, (if 0 ≤ (zw ((i : Int) + 1)) ∧ (zw ((i : Int) + 1)) < M 998 0 then if 0 ≤ (zw ((i : Int) + 2)) ∧ (zw ((i : Int) + 2)) < M 998 0 then if 0 ≤ (zw ((i : Int) + 3)) ∧ (zw ((i : Int) + 3)) < M 998 0 then if 0 ≤ (zw ((i : Int) + 4)) ∧ (zw ((i : Int) + 4)) < M 998 0 then if 0 ≤ (zw ((i : Int) + 5)) ∧ (zw ((i : Int) + 5)) < M 998 0 then zcI (zL 60 106 [.inr (.inr 0), .inl (M 999 ((zw ((i : Int) + 1)).toNat)), .inl (M 999 ((zw ((i : Int) + 2)).toNat)), .inl (M 999 ((zw ((i : Int) + 3)).toNat)), .inl (M 999 ((zw ((i : Int) + 4)).toNat)), .inl (M 999 ((zw ((i : Int) + 5)).toNat))] SH M) fun x sh' mm' => zR 60 202 1109 [some (.inr (.inr 999)), some (.inr (.inr 0)), some (.inr (.inr 45)), some (.inl (i : Int))] [.inl x] sh' mm' else none else none else none else none else none) = zok 1 M3 := by
  obtain ⟨v, M1, M2, x1, x2, x3, x4, x5⟩ := zcase (fun m mm h => op_differ 40 (M 999 (zw ((i : Int) + 1)).toNat) (M 999 (zw ((i : Int) + 2)).toNat) (M 999 (zw ((i : Int) + 3)).toNat) (M 999 (zw ((i : Int) + 4)).toNat) (M 999 (zw ((i : Int) + 5)).toNat) h) M hM
  obtain ⟨M3, h3⟩ := hK M2 x3 x5
  refine ⟨M3, ?_⟩
  have e8 := x4 998 (by decide)
  have e9 := x4 999 (by decide)
  rw [if_pos b1, if_pos b2, if_pos b3, if_pos b4, if_pos b5, x1, zcI_ok, zb_L_law_1109]
  rw [e8, e9]
  rw [if_pos b1, if_pos b2, if_pos b3, if_pos b4, if_pos b5, x2, zcI_ok, zb_L_law_1138, if_pos rfl]
  exact h3
theorem zlaw_sheet (i : Nat) (M : zMm) (hM : zRel M M) (b1 : 0 ≤ zw ((i : Int) + 1) ∧ zw ((i : Int) + 1) < M 998 0) (b2 : 0 ≤ zw ((i : Int) + 2) ∧ zw ((i : Int) + 2) < M 998 0) (b3 : 0 ≤ zw ((i : Int) + 3) ∧ zw ((i : Int) + 3) < M 998 0) (hK : ∀ M2, zRel M2 M2 → (∀ k, 68 ≤ k → M2 k = M k) → ∃ M3, zR 60 202 18 [some (.inr (.inr 999)), some (.inr (.inr 0)), some (.inr (.inr 45)), some (.inl (zw ((i : Int) + 6)))] [] SH M2 = zok 1 M3) : ∃ M3, (if 0 ≤ (zw ((i : Int) + 1)) ∧ (zw ((i : Int) + 1)) < M 998 0 then if 0 ≤ (zw ((i : Int) + 2)) ∧ (zw ((i : Int) + 2)) < M 998 0 then if 0 ≤ (zw ((i : Int) + 3)) ∧ (zw ((i : Int) + 3)) < M 998 0 then zcI (zL 60 107 [.inr (.inr 0), .inl (M 999 ((zw ((i : Int) + 1)).toNat)), .inl (M 999 ((zw ((i : Int) + 2)).toNat)), .inl (M 999 ((zw ((i : Int) + 3)).toNat))] SH M) fun x sh' mm' => zR 60 202 1162 [some (.inr (.inr 999)), some (.inr (.inr 0)), some (.inr (.inr 45)), some (.inl (i : Int))] [.inl x] sh' mm' else none else none else none) = zok 1 M3 := by
  obtain ⟨v, M1, M2, x1, x2, x3, x4, x5⟩ := zcase (fun m mm h => op_sheet 40 (M 999 (zw ((i : Int) + 1)).toNat) (M 999 (zw ((i : Int) + 2)).toNat) (M 999 (zw ((i : Int) + 3)).toNat) h) M hM
  obtain ⟨M3, h3⟩ := hK M2 x3 x5
  refine ⟨M3, ?_⟩
  have e8 := x4 998 (by decide)
  have e9 := x4 999 (by decide)
  rw [if_pos b1, if_pos b2, if_pos b3, x1, zcI_ok, zb_L_law_1162]
  rw [e8, e9]
  rw [if_pos b1, if_pos b2, if_pos b3, x2, zcI_ok, zb_L_law_1181, if_pos rfl]
  exact h3
theorem zlaw_drop (i : Nat) (M : zMm) (hM : zRel M M) (b1 : 0 ≤ zw ((i : Int) + 1) ∧ zw ((i : Int) + 1) < M 998 0) (hK : ∀ M2, zRel M2 M2 → (∀ k, 68 ≤ k → M2 k = M k) → ∃ M3, zR 60 202 18 [some (.inr (.inr 999)), some (.inr (.inr 0)), some (.inr (.inr 45)), some (.inl (zw ((i : Int) + 6)))] [] SH M2 = zok 1 M3) : ∃ M3, (if 0 ≤ (zw ((i : Int) + 1)) ∧ (zw ((i : Int) + 1)) < M 998 0 then zcI (zL 60 108 [.inr (.inr 0), .inl (M 999 ((zw ((i : Int) + 1)).toNat))] SH M) fun x sh' mm' => zR 60 202 1195 [some (.inr (.inr 999)), some (.inr (.inr 0)), some (.inr (.inr 45)), some (.inl (i : Int))] [.inl x] sh' mm' else none) = zok 1 M3 := by
  obtain ⟨v, M1, M2, x1, x2, x3, x4, x5⟩ := zcase (fun m mm h => op_drop 40 (M 999 (zw ((i : Int) + 1)).toNat) h) M hM
  obtain ⟨M3, h3⟩ := hK M2 x3 x5
  refine ⟨M3, ?_⟩
  have e8 := x4 998 (by decide)
  have e9 := x4 999 (by decide)
  rw [if_pos b1, x1, zcI_ok, zb_L_law_1195]
  rw [e8, e9]
  rw [if_pos b1, x2, zcI_ok, zb_L_law_1204, if_pos rfl]
  exact h3
theorem zlaw_item (i : Nat) (M : zMm) (hM : zRel M M) (b1 : 0 ≤ zw ((i : Int) + 1) ∧ zw ((i : Int) + 1) < M 998 0) (b2 : 0 ≤ zw ((i : Int) + 2) ∧ zw ((i : Int) + 2) < M 998 0) (b3 : 0 ≤ zw ((i : Int) + 3) ∧ zw ((i : Int) + 3) < M 998 0) (b4 : 0 ≤ zw ((i : Int) + 4) ∧ zw ((i : Int) + 4) < M 998 0) (hK : ∀ M2, zRel M2 M2 → (∀ k, 68 ≤ k → M2 k = M k) → ∃ M3, zR 60 202 18 [some (.inr (.inr 999)), some (.inr (.inr 0)), some (.inr (.inr 45)), some (.inl (zw ((i : Int) + 6)))] [] SH M2 = zok 1 M3) : ∃ M3, (if 0 ≤ (zw ((i : Int) + 1)) ∧ (zw ((i : Int) + 1)) < M 998 0 then if 0 ≤ (zw ((i : Int) + 2)) ∧ (zw ((i : Int) + 2)) < M 998 0 then if 0 ≤ (zw ((i : Int) + 3)) ∧ (zw ((i : Int) + 3)) < M 998 0 then if 0 ≤ (zw ((i : Int) + 4)) ∧ (zw ((i : Int) + 4)) < M 998 0 then zcI (zL 60 109 [.inr (.inr 0), .inl (M 999 ((zw ((i : Int) + 1)).toNat)), .inl (M 999 ((zw ((i : Int) + 2)).toNat)), .inl (M 999 ((zw ((i : Int) + 3)).toNat)), .inl (M 999 ((zw ((i : Int) + 4)).toNat))] SH M) fun x sh' mm' => zR 60 202 1233 [some (.inr (.inr 999)), some (.inr (.inr 0)), some (.inr (.inr 45)), some (.inl (i : Int))] [.inl x] sh' mm' else none else none else none else none) = zok 1 M3 := by
  obtain ⟨v, M1, M2, x1, x2, x3, x4, x5⟩ := zcase (fun m mm h => op_item 40 (M 999 (zw ((i : Int) + 1)).toNat) (M 999 (zw ((i : Int) + 2)).toNat) (M 999 (zw ((i : Int) + 3)).toNat) (M 999 (zw ((i : Int) + 4)).toNat) h) M hM
  obtain ⟨M3, h3⟩ := hK M2 x3 x5
  refine ⟨M3, ?_⟩
  have e8 := x4 998 (by decide)
  have e9 := x4 999 (by decide)
  rw [if_pos b1, if_pos b2, if_pos b3, if_pos b4, x1, zcI_ok, zb_L_law_1233]
  rw [e8, e9]
  rw [if_pos b1, if_pos b2, if_pos b3, if_pos b4, x2, zcI_ok, zb_L_law_1257, if_pos rfl]
  exact h3
theorem zlaw_film (i : Nat) (M : zMm) (hM : zRel M M) (b1 : 0 ≤ zw ((i : Int) + 1) ∧ zw ((i : Int) + 1) < M 998 0) (b2 : 0 ≤ zw ((i : Int) + 2) ∧ zw ((i : Int) + 2) < M 998 0) (b3 : 0 ≤ zw ((i : Int) + 3) ∧ zw ((i : Int) + 3) < M 998 0) (b4 : 0 ≤ zw ((i : Int) + 4) ∧ zw ((i : Int) + 4) < M 998 0) (b5 : 0 ≤ zw ((i : Int) + 5) ∧ zw ((i : Int) + 5) < M 998 0) (hK : ∀ M2, zRel M2 M2 → (∀ k, 68 ≤ k → M2 k = M k) → ∃ M3, zR 60 202 18 [some (.inr (.inr 999)), some (.inr (.inr 0)), some (.inr (.inr 45)), some (.inl (zw ((i : Int) + 6)))] [] SH M2 = zok 1 M3) : ∃ M3, (if 0 ≤ (zw ((i : Int) + 1)) ∧ (zw ((i : Int) + 1)) < M 998 0 then if 0 ≤ (zw ((i : Int) + 2)) ∧ (zw ((i : Int) + 2)) < M 998 0 then if 0 ≤ (zw ((i : Int) + 3)) ∧ (zw ((i : Int) + 3)) < M 998 0 then if 0 ≤ (zw ((i : Int) + 4)) ∧ (zw ((i : Int) + 4)) < M 998 0 then if 0 ≤ (zw ((i : Int) + 5)) ∧ (zw ((i : Int) + 5)) < M 998 0 then zcI (zL 60 110 [.inr (.inr 0), .inl (M 999 ((zw ((i : Int) + 1)).toNat)), .inl (M 999 ((zw ((i : Int) + 2)).toNat)), .inl (M 999 ((zw ((i : Int) + 3)).toNat)), .inl (M 999 ((zw ((i : Int) + 4)).toNat)), .inl (M 999 ((zw ((i : Int) + 5)).toNat))] SH M) fun x sh' mm' => zR 60 202 1291 [some (.inr (.inr 999)), some (.inr (.inr 0)), some (.inr (.inr 45)), some (.inl (i : Int))] [.inl x] sh' mm' else none else none else none else none else none) = zok 1 M3 := by
  obtain ⟨v, M1, M2, x1, x2, x3, x4, x5⟩ := zcase (fun m mm h => op_film 40 (M 999 (zw ((i : Int) + 1)).toNat) (M 999 (zw ((i : Int) + 2)).toNat) (M 999 (zw ((i : Int) + 3)).toNat) (M 999 (zw ((i : Int) + 4)).toNat) (M 999 (zw ((i : Int) + 5)).toNat) h) M hM
  obtain ⟨M3, h3⟩ := hK M2 x3 x5
  refine ⟨M3, ?_⟩
  have e8 := x4 998 (by decide)
  have e9 := x4 999 (by decide)
  rw [if_pos b1, if_pos b2, if_pos b3, if_pos b4, if_pos b5, x1, zcI_ok, zb_L_law_1291]
  rw [e8, e9]
  rw [if_pos b1, if_pos b2, if_pos b3, if_pos b4, if_pos b5, x2, zcI_ok, zb_L_law_1320, if_pos rfl]
  exact h3
