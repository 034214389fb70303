theorem zi2b_sh (a : Int) : zshr (zshl a 24) 24 = zi2b a := by
  unfold zshr zshl zi2b
  rw [Int32.ofInt_toInt]
  generalize Int32.ofInt a = x
  refine congrArg Int32.toInt ?_
  apply Int32.toBitVec_inj.mp
  rw [Int32.toBitVec_shiftRight, Int32.toBitVec_shiftLeft]
  have e : ((Int32.ofInt 24 &&& 31).toBitVec.smod 32) = 24#32 := by decide +kernel
  rw [e]
  show (x.toBitVec <<< (24#32)).sshiftRight' (24#32) = (x.toBitVec.signExtend 8).signExtend 32
  apply BitVec.eq_of_getLsbD_eq
  intro i hi
  unfold BitVec.sshiftRight'
  rw [show (24#32).toNat = 24 from rfl]
  simp only [BitVec.getLsbD_sshiftRight, BitVec.shiftLeft_eq', BitVec.getLsbD_shiftLeft, BitVec.getLsbD_signExtend, BitVec.msb_signExtend, BitVec.msb_eq_getLsbD_last, show (24#32).toNat = 24 from rfl]
  by_cases h : i < 8
  · simp [h, hi, show 24 + i < 32 by omega, show ¬ 32 ≤ i by omega]
  · simp [h, hi, show ¬ 24 + i < 32 by omega, show ¬ 32 ≤ i by omega]
theorem zi2s_sh (a : Int) : zshr (zshl a 16) 16 = zi2s a := by
  unfold zshr zshl zi2s
  rw [Int32.ofInt_toInt]
  generalize Int32.ofInt a = x
  refine congrArg Int32.toInt ?_
  apply Int32.toBitVec_inj.mp
  rw [Int32.toBitVec_shiftRight, Int32.toBitVec_shiftLeft]
  have e : ((Int32.ofInt 16 &&& 31).toBitVec.smod 32) = 16#32 := by decide +kernel
  rw [e]
  show (x.toBitVec <<< (16#32)).sshiftRight' (16#32) = (x.toBitVec.signExtend 16).signExtend 32
  apply BitVec.eq_of_getLsbD_eq
  intro i hi
  unfold BitVec.sshiftRight'
  rw [show (16#32).toNat = 16 from rfl]
  simp only [BitVec.getLsbD_sshiftRight, BitVec.shiftLeft_eq', BitVec.getLsbD_shiftLeft, BitVec.getLsbD_signExtend, BitVec.msb_signExtend, BitVec.msb_eq_getLsbD_last, show (16#32).toNat = 16 from rfl]
  by_cases h : i < 16
  · simp [h, hi, show 16 + i < 32 by omega, show ¬ 32 ≤ i by omega]
  · simp [h, hi, show ¬ 16 + i < 32 by omega, show ¬ 32 ≤ i by omega]
theorem zput_w {l v : Int} (h0 : 0 ≤ v) (h8 : v < 8) : zput l v = v := by
  have : ∀ n, n < 8 → zi2b (n : Nat) = (n : Nat) ∧ zi2s (n : Nat) = (n : Nat) := by decide +kernel
  have h := this v.toNat (by omega)
  rw [show ((v.toNat : Nat) : Int) = v by omega] at h
  unfold zput
  rw [h.1, h.2]
  split
  · rfl
  · split <;> rfl
theorem zref_n {lane len a f n : Int} (ha : 0 ≤ a) (h : ¬ zref lane len a f n < 0) : lane = a ∧ 0 ≤ f ∧ f ≤ len - n := by
  unfold zref at h
  split at h
  · omega
  · split at h
    · split at h
      · omega
      · omega
    · omega
/-- a sheet's row -/
def zSR1 (m mm : zMm) (s : Nat) : Prop := m 65 s = mm (37 + 2 * s) 1 ∧ m 66 s = mm (37 + 2 * s) 2 ∧ (-1 ≤ mm (37 + 2 * s) 1 ∧ mm (37 + 2 * s) 1 ≤ 2) ∧ (0 ≤ mm (37 + 2 * s) 2 ∧ mm (37 + 2 * s) 2 ≤ 24) ∧ ∀ i : Nat, i < 24 → m 67 (24 * s + i) = mm (38 + 2 * s) i
section
variable {m mm : zMm}
theorem zRel_sheet {m' mc : zMm} {s : Nat} (h : zRel m mm) (hs : s < 4) (f : ∀ k, k ≠ 37 + 2 * s → k ≠ 38 + 2 * s → mc k = mm k) (g : ∀ k, k ≠ 65 → k ≠ 66 → k ≠ 67 → m' k = m k) (g2 : ∀ s', s' < 4 → s' ≠ s → m' 65 s' = m 65 s' ∧ m' 66 s' = m 66 s' ∧ ∀ i, i < 24 → m' 67 (24 * s' + i) = m 67 (24 * s' + i)) (hS : zSR1 m' mc s) : zRel m' mc := by
  obtain ⟨hI, hR, hT, hK, hs0⟩ := h
  refine ⟨xI_fr (fun k a b => f k (by omega) (by omega)) hI, mR_both (fun k a b => f k (by omega) (by omega)) (fun k a b => g k (by omega) (by omega) (by omega)) (fun j hj => by rw [g 45 (by decide) (by decide) (by decide)]) hR, zTapes_fr hT (by rw [f 29 (by omega) (by omega)]) (f 30 (by omega) (by omega)) (g 55 (by decide) (by decide) (by decide)) (by rw [g 45 (by decide) (by decide) (by decide)]), zKept_fr hK (by rw [f 0 (by omega) (by omega)]) (fun k a b => f k (by omega) (by omega)) (by rw [g 45 (by decide) (by decide) (by decide)]) (g 63 (by decide) (by decide) (by decide)) (g 64 (by decide) (by decide) (by decide)), fun s' hs' => ?_⟩
  by_cases q : s' = s
  · subst q
    exact hS
  · have h1 := hs0 s' hs'
    obtain ⟨e1, e2, e3⟩ := g2 s' hs' q
    rw [e1, e2, f (37 + 2 * s') (by omega) (by omega), f (38 + 2 * s') (by omega) (by omega)]
    refine ⟨h1.1, h1.2.1, h1.2.2.1, h1.2.2.2.1, fun i hi => ?_⟩
    rw [e3 i hi]
    exact h1.2.2.2.2 i hi
theorem zbeg_k (mm : zMm) (s i : Nat) {k : Nat} (h : k ≠ 38 + 2 * s) : zbeg mm s i k = mm k := by
  funext j
  unfold zbeg
  rw [if_neg (fun q => h q.1)]
theorem zbm_k (m : zMm) (s i : Nat) {k : Nat} (h : k ≠ 67) : zbm m s i k = m k := by
  funext j
  unfold zbm
  rw [if_neg (fun q => h q.1)]
theorem op_sheet (d : Nat) (a b n : Int) (h : zRel m mm) : zBoth d 107 190 [.inl a, .inl b, .inl n] m mm := by
  obtain ⟨hI, hR, hT, hK, hS⟩ := id h
  by_cases c : (0 ≤ a ∧ a < 4) ∧ 0 ≤ b ∧ b < 3
  · have hx0 : zL (d + 20) 107 [.inr (.inr 0), .inl a, .inl b, .inl n] SH mm = zR (d + 19) 107 5 [some (.inr (.inr 0)), some (.inl a), some (.inl b), some (.inl n)] [.inl 1] SH mm := by
      rw [ze_X8_sheet, zb_X8_sheet_0, s_isSheetAndLane, zcI_ok, if_pos c]
    have hm0 : zL (d + 20) 190 [.inr (.inr 45), .inl a, .inl b, .inl n] SH m = zR (d + 19) 190 5 [some (.inr (.inr 45)), some (.inl a), some (.inl b), some (.inl n), none] [.inl 1] SH m := by
      rw [ze_X9_sheet, zb_X9_sheet_0, t_isSheet, zcI_ok, if_pos c]
    by_cases c2 : 24 < n
    · refine zBoth_0 (-1) h (hx0.trans ?_) (hm0.trans ?_)
      · rw [zb_X8_sheet_5, if_neg (by decide), if_pos c2]
      · rw [zb_X9_sheet_5, if_neg (by decide), if_pos c2]
    · by_cases c3 : n < 0
      · refine zBoth_0 (-14) h (hx0.trans ?_) (hm0.trans ?_)
        · rw [zb_X8_sheet_5, if_neg (by decide), if_neg c2, if_pos c3]
        · rw [zb_X9_sheet_5, if_neg (by decide), if_neg c2, if_pos c3]
      · obtain ⟨s, rfl⟩ : ∃ s : Nat, a = s := ⟨a.toNat, by omega⟩
        have hs : s < 4 := by omega
        refine ⟨n, zbeg (zu (zu mm (37 + 2 * s) 1 b) (37 + 2 * s) 2 n) s 24, zbm (zu (zu m 65 s b) 66 s n) s 24, hx0.trans ?_, hm0.trans ?_, ?_, fun k hk => ?_, fun k hk => ?_⟩
        · rw [zb_X8_sheet_5, if_neg (by decide), if_neg c2, if_neg c3, zb_X8_sheetS_23 _ _ _ s hs, s_begin _ s b n hs, zcV_vd, zb_X8_sheetS_34 _ _ _ s hs]
        · rw [zb_X9_sheet_5, if_neg (by decide), if_neg c2, if_neg c3, if_pos (by omega), if_pos (by omega), Int.toNat_natCast]
          exact zR_weak (by repeat first | exact zle_nil | apply zle_c | apply zle_n) (t_sheet_loop (d + 19) s n hs _)
        · refine zRel_sheet h hs (fun k a b => ?_) (fun k a b c => ?_) (fun s' hs' q => ⟨?_, ?_, fun i hi => ?_⟩) ⟨?_, ?_, ?_, ?_, fun i hi => ?_⟩
          · rw [zbeg_k _ _ _ b, zu_k _ _ a, zu_k _ _ a]
          · rw [zbm_k _ _ _ c, zu_k _ _ b, zu_k _ _ a]
          · rw [zbm_k _ _ _ (by decide), zu_k _ _ (by decide), zu_j _ _ q]
          · rw [zbm_k _ _ _ (by decide), zu_j _ _ q, zu_k _ _ (by decide)]
          · unfold zbm
            rw [if_neg (by omega), zu_k _ _ (by decide), zu_k _ _ (by decide)]
          · rw [zbm_k _ _ _ (by decide), zu_k _ _ (by decide), zu_s, zbeg_k _ _ _ (by omega), zu_j _ _ (by decide), zu_s]
          · rw [zbm_k _ _ _ (by decide), zu_s, zbeg_k _ _ _ (by omega), zu_s]
          · rw [zbeg_k _ _ _ (by omega), zu_j _ _ (by decide), zu_s]
            omega
          · rw [zbeg_k _ _ _ (by omega), zu_s]
            omega
          · unfold zbm zbeg
            rw [if_pos ⟨rfl, by omega, by omega⟩, if_pos ⟨rfl, hi⟩]
        · rw [zbeg_k _ _ _ (by omega), zu_k _ _ (by omega), zu_k _ _ (by omega)]
        · rw [zbm_k _ _ _ (by omega), zu_k _ _ (by omega), zu_k _ _ (by omega)]
  · refine zBoth_0 (-1) h ?_ ?_
    · rw [ze_X8_sheet, zb_X8_sheet_0, s_isSheetAndLane, zcI_ok, if_neg c, zb_X8_sheet_5, if_pos rfl]
    · rw [ze_X9_sheet, zb_X9_sheet_0, t_isSheet, zcI_ok, if_neg c, zb_X9_sheet_5, if_pos rfl]
theorem op_drop (d : Nat) (a : Int) (h : zRel m mm) : zBoth d 108 191 [.inl a] m mm := by
  obtain ⟨hI, hR, hT, hK, hS⟩ := id h
  by_cases c : 0 ≤ a ∧ a < 4
  · obtain ⟨s, rfl⟩ : ∃ s : Nat, a = s := ⟨a.toNat, by omega⟩
    have hs : s < 4 := by omega
    obtain ⟨h1, h2, h3, h4, h5⟩ := hS s hs
    have hx0 : ∀ r, zcI (zL (d + 19) 46 [.inr (.inr (37 + 2 * s))] SH mm) (fun x sh' mm' => zR (d + 19) 108 19 [some (.inr (.inr 0)), some (.inl (s : Int))] [.inl x] sh' mm') = r → zL (d + 20) 108 [.inr (.inr 0), .inl (s : Int)] SH mm = r := fun r hr => by
      rw [ze_X8_drop, zb_X8_drop_0, s_isSheetAndLane, zcI_ok, if_pos ⟨c, by decide⟩, zb_X8_drop_5, if_neg (by decide), zb_X8_dropS_10 _ s hs]
      exact hr
    by_cases c2 : mm (37 + 2 * s) 1 = -1
    · refine zBoth_0 (-11) h (hx0 _ ?_) ?_
      · rw [s_letGo _ s hs, if_pos c2, zcI_ok, zb_X8_dropS_19 _ _ s hs]
      · rw [ze_X9_drop, zb_X9_drop_0, t_in, zcI_ok, if_pos (show 0 ≤ (s : Int) ∧ (s : Int) ≤ 3 by omega), zb_X9_drop_9, if_neg (by decide), if_pos (by omega), Int.toNat_natCast, h1, if_pos (by omega)]
    · refine ⟨mm (37 + 2 * s) 2, zu mm (37 + 2 * s) 1 (-1), zu m 65 s (-1), hx0 _ ?_, ?_, ?_, fun k hk => ?_, fun k hk => ?_⟩
      · rw [s_letGo _ s hs, if_neg c2, zcI_ok, zb_X8_dropS_19 _ _ s hs]
      · rw [ze_X9_drop, zb_X9_drop_0, t_in, zcI_ok, if_pos (show 0 ≤ (s : Int) ∧ (s : Int) ≤ 3 by omega), zb_X9_drop_9, if_neg (by decide), if_pos (by omega), Int.toNat_natCast, h1, if_neg (by omega), if_pos (by omega), if_pos (by omega), h2]
      · refine zRel_sheet h hs (fun k a b => zu_k _ _ a) (fun k a b c => zu_k _ _ a) (fun s' hs' q => ⟨zu_j _ _ q, by rw [zu_k _ _ (by decide)], fun i hi => by rw [zu_k _ _ (by decide)]⟩) ⟨?_, ?_, ?_, ?_, fun i hi => ?_⟩
        · rw [zu_s, zu_s]
        · rw [zu_k _ _ (by decide), zu_j _ _ (by decide), h2]
        · rw [zu_s]
          decide
        · rw [zu_j _ _ (by decide)]
          exact h4
        · rw [zu_k _ _ (by decide), zu_k _ _ (by omega)]
          exact h5 i hi
      · rw [zu_k _ _ (by omega)]
      · rw [zu_k _ _ (by omega)]
  · refine zBoth_0 (-1) h ?_ ?_
    · rw [ze_X8_drop, zb_X8_drop_0, s_isSheetAndLane, zcI_ok, if_neg (fun q => c q.1), zb_X8_drop_5, if_pos rfl]
    · rw [ze_X9_drop, zb_X9_drop_0, t_in, zcI_ok, if_neg (show ¬ (0 ≤ a ∧ a ≤ 3) by omega), zb_X9_drop_9, if_pos rfl]
theorem op_item (d : Nat) (a b f v : Int) (h : zRel m mm) : zBoth d 109 193 [.inl a, .inl b, .inl f, .inl v] m mm := by
  obtain ⟨hI, hR, hT, hK, hS⟩ := id h
  by_cases c : (0 ≤ a ∧ a < 4) ∧ 0 ≤ b ∧ b < 3
  · obtain ⟨s, rfl⟩ : ∃ s : Nat, a = s := ⟨a.toNat, by omega⟩
    have hs : s < 4 := by omega
    obtain ⟨h1, h2, h3, h4, h5⟩ := hS s hs
    have hx0 : ∀ r, zR (d + 19) 109 22 [some (.inr (.inr 0)), some (.inl (s : Int)), some (.inl b), some (.inl f), some (.inl v), none] [.inl (zref (mm (37 + 2 * s) 1) (mm (37 + 2 * s) 2) b f 1)] SH mm = r → zL (d + 20) 109 [.inr (.inr 0), .inl (s : Int), .inl b, .inl f, .inl v] SH mm = r := fun r hr => by
      rw [ze_X8_item, zb_X8_item_0, s_isSheetAndLane, zcI_ok, if_pos c, zb_X8_item_5, if_neg (by decide), zb_X8_itemS_10 _ _ _ _ s hs, s_refusalOf _ s b f 1 hs h4 (by decide), zcI_ok]
      exact hr
    have hm0 : ∀ r, zR (d + 19) 193 18 [some (.inr (.inr 45)), some (.inl (s : Int)), some (.inl b), some (.inl f), some (.inl v), none] [.inl (zref (mm (37 + 2 * s) 1) (mm (37 + 2 * s) 2) b f 1)] SH m = r → zL (d + 20) 193 [.inr (.inr 45), .inl (s : Int), .inl b, .inl f, .inl v] SH m = r := fun r hr => by
      rw [ze_X9_item, zb_X9_item_0, t_isSheet, zcI_ok, if_pos c, zb_X9_item_5, if_neg (by decide), t_lacksRow _ s b f 1 hs c.2.1 (by decide) hS, zcI_ok]
      exact hr
    by_cases c2 : zref (mm (37 + 2 * s) 1) (mm (37 + 2 * s) 2) b f 1 < 0
    · refine zBoth_0 (zref (mm (37 + 2 * s) 1) (mm (37 + 2 * s) 2) b f 1) h (hx0 _ ?_) (hm0 _ ?_)
      · rw [zb_X8_itemS_22 _ _ _ _ _ s hs, if_pos c2]
      · rw [zb_X9_item_18, if_pos c2]
    · obtain ⟨r1, r2, r3⟩ := zref_n c.2.1 c2
      obtain ⟨i, rfl⟩ : ∃ i : Nat, f = i := ⟨f.toNat, by omega⟩
      have hi24 : i < 24 := by omega
      refine ⟨1, zu mm (38 + 2 * s) i (zput b v), zu m 67 (24 * s + i) (zput b v), hx0 _ ?_, hm0 _ ?_, ?_, fun k hk => ?_, fun k hk => ?_⟩
      · rw [zb_X8_itemS_22 _ _ _ _ _ s hs, if_neg c2, s_put _ s i v hs hi24, zcV_vd, zb_X8_itemS_44 _ _ _ _ _ s hs, r1]
      · have ez : zw (zw (24 * (s : Int)) + (i : Int)) = ((24 * s + i : Nat) : Int) := by
          rw [zw_id (x := 24 * (s : Int)) (by omega) (by omega), zw_id (by omega) (by omega)]
          omega
        rw [zb_X9_item_18, if_neg c2, ez, zi2b_sh, zi2s_sh, Int.toNat_natCast]
        clear ez
        unfold zput
        by_cases b0 : b = 0
        · rw [if_pos b0, if_pos b0, if_pos (by omega)]
        · by_cases b1 : b = 1
          · rw [if_neg b0, if_neg b0, if_pos b1, if_pos b1, if_pos (by omega)]
          · rw [if_neg b0, if_neg b0, if_neg b1, if_neg b1, if_pos (by omega)]
      · refine zRel_sheet h hs (fun k a b => zu_k _ _ b) (fun k a b c => zu_k _ _ c) (fun s' hs' q => ⟨by rw [zu_k _ _ (by decide)], by rw [zu_k _ _ (by decide)], fun j hj => by rw [zu_j _ _ (by omega)]⟩) ⟨?_, ?_, ?_, ?_, fun j hj => ?_⟩
        · rw [zu_k _ _ (by decide), zu_k _ _ (by omega)]
          exact h1
        · rw [zu_k _ _ (by decide), zu_k _ _ (by omega)]
          exact h2
        · rw [zu_k _ _ (by omega)]
          exact h3
        · rw [zu_k _ _ (by omega)]
          exact h4
        · by_cases q : j = i
          · rw [q, zu_s, zu_s]
          · rw [zu_j _ _ (by omega), zu_j _ _ q]
            exact h5 j hj
      · rw [zu_k _ _ (by omega)]
      · rw [zu_k _ _ (by omega)]
  · refine zBoth_0 (-1) h ?_ ?_
    · rw [ze_X8_item, zb_X8_item_0, s_isSheetAndLane, zcI_ok, if_neg c, zb_X8_item_5, if_pos rfl]
    · rw [ze_X9_item, zb_X9_item_0, t_isSheet, zcI_ok, if_neg c, zb_X9_item_5, if_pos rfl]
end
