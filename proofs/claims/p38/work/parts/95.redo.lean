/-! the image: undone and drawn by the same seed -/
noncomputable abbrev G763 (a12 a19 a20 : Int) (M : zMm) : zRes := zR 60 92 763 [none, some (.inr (.inr 0)), none, none, none, none, some (.inr (.inr 49)), some (.inr (.inr 50)), none, none, none, none, some (.inl a12), none, none, none, none, none, none, some (.inl a19), some (.inl a20)] [] SH M
theorem l_763 (M : zMm) (hI : xI M) (n last : Nat) (hl : M 12 2 = last) (h60 : last ≤ n + 60) (he : ∀ i, n + i < last → M 49 i = M 13 (n + i) ∧ M 50 i = M 14 (n + i)) : ∀ f k : Nat, k + f = last → n ≤ k → zE (fun x _ => x = 1) (G763 n last k M)
  | 0, k, hk, hn => by
    obtain rfl : k = last := by omega
    have hp := hI.pg.2.1
    refine zE.e (zb_L_law_763 60 _ _ _ _) (zE.n (by omega) (zE.i (fun _ => zE.o rfl) fun q => ?_))
    have hu := o_undo 40 hI (by omega)
    rw [hl] at hu
    refine zE.c hu ?_
    refine zE.e (zb_L_law_825 60 _ _ _ _ _) (zE.p rfl ?_)
    refine zE.c (o_count2 40) ?_
    exact zE.e (zb_L_law_833 60 _ _ _ _ _) (zE.p (zu_s _ _ _ _) (zE.o rfl))
  | f + 1, k, hk, hn => by
    have hp := hI.pg.2.1
    have ei : zw ((k : Int) - (n : Int)) = ((k - n : Nat) : Int) := by rw [zw_id (by omega) (by omega)]; omega
    have h1 := he (k - n) (by omega)
    rw [show n + (k - n) = k by omega] at h1
    refine zE.e (zb_L_law_763 60 _ _ _ _) (zE.p (by omega) ?_)
    refine zE.c (o_read0 40 k hI (by omega)) ?_
    refine zE.e (zb_L_law_777 60 _ _ _ _ _) (zE.p (by rw [ei]; omega) (zE.p (by rw [ei, Int.toNat_natCast]; exact h1.1.symm) ?_))
    refine zE.c (o_read1 40 k hI (by omega)) ?_
    refine zE.e (zb_L_law_795 60 _ _ _ _ _) (zE.p (by rw [ei]; omega) (zE.p (by rw [ei, Int.toNat_natCast]; exact h1.2.symm) ?_))
    rw [zw_inc k (by omega)]
    exact l_763 M hI n last hl h60 he f (k + 1) (by omega) (by omega)
section
variable {mm : zMm}
/-- drawn, if one lives -/
def dr (m : Nat) (X : zMm) : zMm := if 0 < xlv X then xdrs m X else X
def dc (m : Nat) (X : zMm) : Int := if 0 < xlv X then zw (xdrs m X 12 2 - X 12 2) else -4
theorem o_dr (d m : Nat) (X : zMm) (hm : 1 ≤ m ∧ m ≤ 60) (hI : xI X) : zL (d + 20) 70 [.inr (.inr 0), .inl m] SH X = zok (dc m X) (dr m X) := by
  unfold dr dc
  by_cases h : 0 < xlv X
  · rw [if_pos h, if_pos h]
    exact o_draw d m hm hI h
  · rw [if_neg h, if_neg h]
    exact o_drawN d m hm hI h
theorem dr_k (m : Nat) (X : zMm) {k : Nat} (h : k ≠ 1 ∧ k ≠ 10 ∧ k ≠ 12 ∧ k ≠ 13 ∧ k ≠ 14) : dr m X k = X k := by
  unfold dr
  split
  · exact xdrs_k m X h
  · rfl
theorem dr_c (m : Nat) (X : zMm) {k j : Nat} (h : ¬ zcov k j) : dr m X k j = X k j := by
  unfold dr
  split
  · exact xdrs_c m X h
  · rfl
theorem dr_I (m : Nat) (X : zMm) (hI : xI X) : xI (dr m X) := by
  unfold dr
  split
  · rename_i h
    exact (xdrs_I m X hI h).1
  · exact hI
theorem dr_len (m : Nat) (X : zMm) (hI : xI X) : X 12 2 ≤ dr m X 12 2 ∧ dr m X 12 2 ≤ X 12 2 + m := by
  unfold dr
  split
  · rename_i h
    exact xdrs_len m X hI h
  · omega
theorem dr_cong (m : Nat) {X Y : zMm} (f : ∀ k, 1 ≤ k → k ≤ 14 → X k = Y k) : (∀ k, 1 ≤ k → k ≤ 14 → dr m X k = dr m Y k) ∧ dc m X = dc m Y := by
  have e : xlv X = xlv Y := xlv_fr (f 6 (by decide) (by decide)) (f 8 (by decide) (by decide))
  unfold dr dc
  rw [e]
  by_cases h : 0 < xlv Y
  · simp only [if_pos h]
    refine ⟨xdrs_cong m f, ?_⟩
    rw [xdrs_cong m f 12 (by decide) (by decide), f 12 (by decide) (by decide)]
  · refine ⟨fun k a b => ?_, ?_⟩
    · rw [if_neg h, if_neg h]
      exact f k a b
    · rw [if_neg h, if_neg h]
theorem dc_x (m : Nat) (X : zMm) (hI : xI X) (hm : m ≤ 60) : dc m X < 0 ∨ dr m X 12 2 = zw (X 12 2 + dc m X) := by
  have h0 := hI.pg.1
  have h60 := hI.pg.2.1
  have hl := dr_len m X hI
  unfold dr dc at *
  by_cases h : 0 < xlv X
  · simp only [if_pos h] at *
    right
    rw [zw_id (x := xdrs m X 12 2 - X 12 2) (by omega) (by omega), zw_id (by omega) (by omega)]
    omega
  · simp only [if_neg h]
    left
    decide
noncomputable abbrev G651 (a12 a16 a17 a18 a19 a20 : Int) (M : zMm) : zRes := zR 60 92 651 [none, some (.inr (.inr 0)), none, none, none, none, some (.inr (.inr 49)), some (.inr (.inr 50)), none, none, none, none, some (.inl a12), none, none, none, some (.inl a16), some (.inl a17), some (.inl a18), some (.inl a19), some (.inl a20)] [] SH M
/-- what was drawn, kept in the law's rows so far -/
def rJ (D : zMm) (n k : Nat) (C : zMm) : Prop := (∀ i, i ≠ 49 → i ≠ 50 → C i = D i) ∧ ∀ i, n + i < k → C 49 i = D 13 (n + i) ∧ C 50 i = D 14 (n + i)
theorem l_651 {P : Int → zMm → Prop} (D : zMm) (hI : xI D) (n last : Nat) (hl : D 12 2 = last) (h60 : last ≤ n + 60) (a16 a17 a18 : Int) (K : ∀ C, rJ D n last C → zE P (G651 n a16 a17 a18 last last C)) : ∀ (f k : Nat) (C : zMm), k + f = last → n ≤ k → rJ D n k C → zE P (G651 n a16 a17 a18 last k C)
  | 0, k, C, hk, hn, h => by
    obtain rfl : k = last := by omega
    exact K C h
  | f + 1, k, C, hk, hn, h => by
    have hp := hI.pg.2.1
    have ei : zw ((k : Int) - (n : Int)) = ((k - n : Nat) : Int) := by rw [zw_id (by omega) (by omega)]; omega
    obtain ⟨h1, h2⟩ := h
    have hC : xI C := xI_fr (fun i _ _ => h1 i (by omega) (by omega)) hI
    have e12 : C 12 = D 12 := h1 12 (by decide) (by decide)
    refine zE.e (zb_L_law_651 60 _ _ _ _ _ _ _) (zE.p (by omega) ?_)
    refine zE.c (o_read0 40 k hC (by rw [e12, hl]; omega)) ?_
    refine zE.e (zb_L_law_672 60 _ _ _ _ _ _ _ _ _) (zE.p (by rw [ei]; omega) ?_)
    rw [ei, Int.toNat_natCast]
    have hC2 : xI (zu C 49 (k - n) (C 13 k)) := xI_fr (fun i _ _ => zu_k _ _ (by omega)) hC
    refine zE.c (o_read1 40 k hC2 (by rw [zu_k _ _ (by decide), e12, hl]; omega)) ?_
    refine zE.e (zb_L_law_687 60 _ _ _ _ _ _ _ _ _) (zE.p (by omega) ?_)
    rw [Int.toNat_natCast, zw_inc k (by omega)]
    refine l_651 D hI n last hl h60 a16 a17 a18 K f (k + 1) _ (by omega) (by omega) ⟨fun i q1 q2 => ?_, fun i hi => ?_⟩
    · rw [zu_k _ _ q2, zu_k _ _ q1]
      exact h1 i q1 q2
    · rw [zu_k _ _ (show 49 ≠ 50 by decide), zu_k _ _ (show 14 ≠ 49 by decide)]
      by_cases q : i = k - n
      · rw [q, zu_s, zu_s, show n + (k - n) = k by omega, h1 13 (by decide) (by decide), h1 14 (by decide) (by decide)]
        exact ⟨rfl, rfl⟩
      · rw [zu_j _ _ q, zu_j _ _ q, zu_k _ _ (show 50 ≠ 49 by decide)]
        exact h2 i (by omega)
noncomputable abbrev G597 (a9 a12 s1 : Int) (M : zMm) : zRes := zR 60 92 597 [none, some (.inr (.inr 0)), none, none, none, none, some (.inr (.inr 49)), some (.inr (.inr 50)), none, some (.inl a9), none, none, some (.inl a12), none, none, none, none, none, none, none, none] [.inl s1, .inl 1] SH M
/-- the same seed draws the same words -/
theorem l_redo (a9 s1 : Int) (n : Nat) (hI : xI mm) (hn : mm 12 2 = n) (h40 : n ≤ 40) (hs : 0 ≤ s1 ∧ s1 < 9) : zE (fun x _ => x = 1) (G597 a9 n s1 mm) := by
  refine zE.e (zb_L_law_597 60 ..) ?_
  refine zE.s (o_some 59 _ 1000 (by decide) mm) fun s s0 s1000 => ?_
  have e1 : zw (1 + s1) = 1 + s1 := zw_id (by omega) (by omega)
  obtain ⟨m, hm⟩ : ∃ m : Nat, 1 + s1 = m := ⟨(1 + s1).toNat, by omega⟩
  rw [e1, hm]
  refine zE.e (zb_L_law_611 60 ..) ?_
  refine zE.c (o_image 40 hI) ?_
  refine zE.e (zb_L_law_617 60 ..) (zE.p rfl ?_)
  refine zE.c (o_seed 40 s s0) ?_
  have hA : ∀ k, k ≠ 0 → k < 15 → zu (zkK mm) 0 6 1 k = mm k := fun k k0 k1 => by rw [zu_k _ _ k0, zkK_k _ (by omega)]
  have hA2 : ∀ k, k ≠ 0 → zu (zkK mm) 0 6 1 k = zkK mm k := fun k k0 => zu_k _ _ k0
  generalize hAe : zu (zkK mm) 0 6 1 = A at hA hA2 ⊢
  have hA0 : A 0 6 = 1 := by rw [← hAe]; exact zu_s _ _ _ _
  have hB1 : ∀ k, 1 ≤ k → k ≤ 14 → zu A 1 4 s k = zu mm 1 4 s k := fun k a b => zu_c (hA k (by omega) (by omega))
  have hIB : xI (zu A 1 4 s) := xI_fr hB1 (I_lot s (by omega) hI)
  have hBk : ∀ k, k ≠ 1 → zu A 1 4 s k = A k := fun k hk => zu_k _ _ hk
  have hlot := hI.lt
  refine zE.e (zb_L_law_627 60 ..) (zE.n (by rw [hA 1 (by decide) (by decide)]; omega) ?_)
  generalize hBe : zu A 1 4 s = B at hB1 hIB hBk ⊢
  have hBn : B 12 2 = n := by rw [hBk 12 (by decide), hA 12 (by decide) (by decide), hn]
  refine zE.c (o_dr 40 m B (by omega) hIB) ?_
  have hID := dr_I m B hIB
  have hDl := dr_len m B hIB
  have hDx := dc_x m B hIB (by omega)
  have hDk : ∀ k, 15 ≤ k ∨ k = 0 → dr m B k = B k := fun k hk => dr_k m B (by omega)
  have hDc : ∀ k j, ¬ zcov k j → dr m B k j = B k j := fun k j h => dr_c m B h
  refine zE.e (zb_L_law_638 60 ..) ?_
  refine zE.c (o_count2 40) ?_
  refine zE.e (zb_L_law_645 60 ..) ?_
  obtain ⟨last, hlast⟩ : ∃ l : Nat, dr m B 12 2 = l := ⟨(dr m B 12 2).toNat, by omega⟩
  rw [hlast]
  refine zE.w (by repeat first | exact zle_nil | apply zle_c | apply zle_n) (l_651 (dr m B) hID n last hlast (by omega) m s (dc m B) (fun C hC => ?_) (last - n) n (dr m B) (by omega) (Nat.le_refl n) ⟨fun _ _ _ => rfl, fun i hi => by omega⟩)
  obtain ⟨c1, c2⟩ := hC
  refine zE.e (zb_L_law_651 60 _ _ _ _ _ _ _) (zE.n (by omega) ?_)
  have k1 : ∀ k, 15 ≤ k → k ≤ 28 → C k = zkK mm k := fun k a b => by
    rw [c1 k (by omega) (by omega), hDk k (by omega), hBk k (by omega), hA2 k (by omega)]
  have hE := zkN_back (mm := mm) (C := C) k1 (fun k j a b h => by
    rw [c1 k (by omega) (by omega), hDc k j h, ← hBe]
    have : ¬ (k = 1 ∧ j = 4) := fun z => h (by unfold zcov; omega)
    rw [show zu A 1 4 s k j = A k j from if_neg this, hA k (by omega) (by omega)])
  refine zE.c (o_restore 40 (mm := C) ?_ ?_ ?_) ?_
  · rw [c1 0 (by decide) (by decide), hDk 0 (by decide), hBk 0 (by decide)]
    exact hA0
  · intro c hc
    have e22 : zkK mm 22 c = mm 8 c := by simp [zkK, hc]
    rw [k1 22 (by decide) (by decide), e22]
    exact hI.ce.2.2.2.2 c
  · have e24 : zkK mm 24 4 = mm 10 4 := by simp [zkK]
    rw [k1 24 (by decide) (by decide), e24]
    exact hI.bk
  have hE2 : ∀ k, 14 < k → zkN C k = C k := fun k hk => zkN_k C (by omega)
  generalize zkN C = E at hE hE2 ⊢
  refine zE.e (zb_L_law_698 60 _ _ _ _ _ _ _ _) (zE.p rfl ?_)
  refine zE.c (o_count2 40) ?_
  refine zE.e (zb_L_law_707 60 _ _ _ _ _ _ _ _) (zE.p (by rw [hE 12 (by decide) (by decide), hn]) ?_)
  refine zE.c (o_seed 40 s s0) ?_
  refine zE.e (zb_L_law_718 60 _ _ _ _ _ _ _ _) (zE.n (by rw [hE 1 (by decide) (by decide)]; omega) ?_)
  have hF : ∀ k, 1 ≤ k → k ≤ 14 → zu E 1 4 s k = B k := fun k a b => by
    rw [hB1 k a b]
    exact zu_c (hE k a b)
  have hFk : ∀ k, k ≠ 1 → zu E 1 4 s k = E k := fun k hk => zu_k _ _ hk
  generalize zu E 1 4 s = F at hF hFk ⊢
  have hIF : xI F := xI_fr hF hIB
  obtain ⟨g1, g2⟩ := dr_cong m hF
  refine zE.c (o_dr 40 m F (by omega) hIF) ?_
  refine zE.e (zb_L_law_727 60 _ _ _ _ _ _ _ _) (zE.p g2 ?_)
  refine zE.c (o_count2 40) ?_
  have hl2 : dr m F 12 2 = last := by rw [g1 12 (by decide) (by decide), hlast]
  have fin : zE (fun x _ => x = 1) (G763 n last n (dr m F)) := by
    refine l_763 (dr m F) (dr_I m F hIF) n last hl2 (by omega) (fun i hi => ?_) (last - n) n (by omega) (Nat.le_refl n)
    rw [dr_k m F (k := 49) (by decide), dr_k m F (k := 50) (by decide), hFk 49 (by decide), hFk 50 (by decide), hE2 49 (by decide), hE2 50 (by decide), g1 13 (by decide) (by decide), g1 14 (by decide) (by decide)]
    exact c2 i hi
  refine zE.e (zb_L_law_737 60 _ _ _ _ _ _ _ _) (zE.p hl2 (zE.i (fun _ => ?_) fun q => zE.p ?_ ?_))
  · exact zE.w (by repeat first | exact zle_nil | apply zle_c | apply zle_n) fin
  · rw [hBn, hlast] at hDx
    exact hDx.resolve_left q
  · exact zE.w (by repeat first | exact zle_nil | apply zle_c | apply zle_n) fin
end
