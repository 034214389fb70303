theorem zrowl_at (x : Nat) : ∀ l : List Nat, zrowl (l ++ [x]) l.length = x
  | [] => rfl
  | c :: l => zrowl_at x l
theorem zrowl_lt (x : Nat) : ∀ (l : List Nat) (j : Nat), j < l.length → zrowl (l ++ [x]) j = zrowl l j
  | [], j, h => absurd h (Nat.not_lt_zero j)
  | c :: l, 0, _ => rfl
  | c :: l, j + 1, h => zrowl_lt x l j (by rw [List.length_cons] at h; omega)
section
variable {m mm : zMm}
/-- the first order's row -/
theorem t_first_order (d words n : Nat) (kk : Int) (live : Nat) (hlv : ((live : Nat) : Int) = xlv mm) (hR : mR m mm) (hI : xI mm) : ∃ S : Nat → Int, zagr live S (zrowl (zlvl (xal mm) 6)) ∧ ∀ r, zR (d + 6) 185 91 [some (.inr (.inr 45)), some (.inl (words : Int)), some (.inl (n : Int)), some (.inl kk), some (.inl (live : Int)), none, some (.inl 0), some (.inl 1), none] [] SH (zur m 61 S) = some r → zR (d + 6) 185 48 [some (.inr (.inr 45)), some (.inl (words : Int)), some (.inl (n : Int)), some (.inl kk), some (.inl (live : Int)), some (.inl 0), some (.inl 0), none, none] [] SH m = some r := by
  have h0 := hI.ce.1
  have h6 := hI.ce.2.1
  have hlen := zlvl_len (xal mm)
  have hlv6 : zlvl (xal mm) 6 = zlvl (xal mm) (mm 6 3).toNat := by
    have : ∀ k n : Nat, n + k = 6 → (∀ c, n ≤ c → xal mm c = false) → zlvl (xal mm) 6 = zlvl (xal mm) n := by
      intro k
      induction k with
      | zero => intro n hn _; rw [show n = 6 by omega]
      | succ k ih =>
        intro n hn hc
        rw [ih (n + 1) (by omega) (fun c hc' => hc c (by omega))]
        show (if xal mm n then zlvl (xal mm) n ++ [n] else zlvl (xal mm) n) = _
        rw [hc n (Nat.le_refl n)]
        rfl
    refine this (6 - (mm 6 3).toNat) _ (by omega) (fun c hc => ?_)
    unfold xal
    rw [decide_eq_false (by omega)]
    rfl
  have key : ∀ (f i : Nat) (S : Nat → Int), i + f = (mm 6 3).toNat → zagr (zlvl (xal mm) i).length S (zrowl (zlvl (xal mm) i)) → ∃ S' : Nat → Int, zagr (zlvl (xal mm) (mm 6 3).toNat).length S' (zrowl (zlvl (xal mm) (mm 6 3).toNat)) ∧ ∀ r, zR (d + 6) 185 91 [some (.inr (.inr 45)), some (.inl (words : Int)), some (.inl (n : Int)), some (.inl kk), some (.inl (live : Int)), none, some (.inl 0), some (.inl 1), none] [] SH (zur m 61 S') = some r → zR (d + 6) 185 48 [some (.inr (.inr 45)), some (.inl (words : Int)), some (.inl (n : Int)), some (.inl kk), some (.inl (live : Int)), some (.inl (((zlvl (xal mm) i).length : Nat) : Int)), some (.inl (i : Int)), none, none] [] SH (zur m 61 S) = some r := by
    intro f
    induction f with
    | zero =>
      intro i S hi hS
      obtain rfl : i = (mm 6 3).toNat := by omega
      refine ⟨S, hS, fun r hr => ?_⟩
      have e8 : zur m 61 S 45 8 = mm 6 3 := by rw [zur_k _ _ (by decide), hR.mn]
      rw [zb_X9_seated_48, e8, if_neg (by omega)]
      exact zR_weak (by repeat first | exact zle_nil | apply zle_c | apply zle_n) hr
    | succ f ih =>
      intro i S hi hS
      have e8 : zur m 61 S 45 8 = mm 6 3 := by rw [zur_k _ _ (by decide), hR.mn]
      have e51 : zur m 61 S 51 = mm 8 := by rw [zur_k _ _ (by decide), hR.de]
      have hli := hlen i
      have hzr := zcnt_r (xal mm) i
      have hal : xal mm i = decide (mm 8 i = 0) := by
        unfold xal
        rw [decide_eq_true (by omega), Bool.true_and]
      have hnext : zlvl (xal mm) (i + 1) = if xal mm i then zlvl (xal mm) i ++ [i] else zlvl (xal mm) i := rfl
      by_cases c : mm 8 i = 0
      · rw [hal, decide_eq_true c, if_pos rfl] at hnext
        have hS2 : zagr (zlvl (xal mm) (i + 1)).length (zset S (zlvl (xal mm) i).length (i : Int)) (zrowl (zlvl (xal mm) (i + 1))) := by
          rw [hnext]
          intro j hj
          rw [List.length_append, List.length_singleton] at hj
          unfold zset
          by_cases q : j = (zlvl (xal mm) i).length
          · rw [if_pos q, q, zrowl_at]
          · rw [if_neg q, zrowl_lt _ _ _ (by omega)]
            exact hS j (by omega)
        obtain ⟨S', h1, h2⟩ := ih (i + 1) _ (by omega) hS2
        refine ⟨S', h1, fun r hr => ?_⟩
        have := h2 r hr
        rw [hnext, List.length_append, List.length_singleton] at this
        rw [zb_X9_seated_48, e8, if_pos (by omega), if_pos (by omega), Int.toNat_natCast, e51, if_pos c, if_pos (by omega), Int.toNat_natCast, zu_zur, zw_inc _ (by omega), zw_inc i (by omega)]
        exact this
      · rw [hal, decide_eq_false c, if_neg (by decide)] at hnext
        obtain ⟨S', h1, h2⟩ := ih (i + 1) S (by omega) (by rw [hnext]; exact hS)
        refine ⟨S', h1, fun r hr => ?_⟩
        have := h2 r hr
        rw [hnext] at this
        rw [zb_X9_seated_48, e8, if_pos (by omega), if_pos (by omega), Int.toNat_natCast, e51, if_neg c, zw_inc i (by omega)]
        exact this
  obtain ⟨S', h1, h2⟩ := key (mm 6 3).toNat 0 (m 61) (by omega) (fun j hj => absurd hj (Nat.not_lt_zero j))
  refine ⟨S', ?_, fun r hr => ?_⟩
  · have e : live = (zlvl (xal mm) (mm 6 3).toNat).length := by
      have := hlen (mm 6 3).toNat
      unfold xlv at hlv
      omega
    rw [hlv6, e]
    exact h1
  · have := h2 r hr
    rw [zur_id] at this
    exact this
theorem op_seated (d : Nat) (a b kk : Int) (h : zRel m mm) : zBoth d 102 185 [.inl a, .inl b, .inl kk] m mm := by
  obtain ⟨hI, hR, _⟩ := id h
  have hn : xN mm := ⟨hI.ce.1, hI.ce.2.1⟩
  have hl0 := zcnt_r (xal mm) 6
  rw [xlv_6 hn] at hl0
  have hx0 : ∀ r, zR (d + 19) 102 22 [some (.inr (.inr 0)), some (.inl a), some (.inl b), some (.inl kk), some (.inl (xlv mm)), none] [.inl (if zrow a b 6 then 1 else 0)] SH mm = r → zL (d + 20) 102 [.inr (.inr 0), .inl a, .inl b, .inl kk] SH mm = r := fun r hr => by
    rw [ze_X8_seated, zb_X8_seated_0, s_living _ hn, zcI_ok, zb_X8_seated_10, s_bitCount, zcI_ok, zb_X8_seated_13, s_isRowOfWords _ _ _ 6 (by decide), zcI_ok, xlv_6 hn]
    exact hr
  have hm0 : ∀ r, zR (d + 19) 185 13 [some (.inr (.inr 45)), some (.inl a), some (.inl b), some (.inl kk), some (.inl (xlv mm)), none, none, none, none] [.inl (if zrow a b 6 then 1 else 0)] SH m = r → zL (d + 20) 185 [.inr (.inr 45), .inl a, .inl b, .inl kk] SH m = r := fun r hr => by
    rw [ze_X9_seated, zb_X9_seated_0, t_living _ hR hI, zcI_ok, zb_X9_seated_4, t_isRow _ _ _ 6 (by decide), zcI_ok]
    exact hr
  cases c : zrow a b 6 with
  | false =>
    rw [c] at hx0 hm0
    refine zBoth_0 (-1) h (hx0 _ ?_) (hm0 _ ?_)
    · rw [zb_X8_seated_22, if_pos (by decide)]
    · rw [zb_X9_seated_13, if_pos (by decide)]
  | true =>
    rw [c] at hx0 hm0
    have hrw := zrow_n c
    have hm1 : ∀ r, zR (d + 19) 185 29 [some (.inr (.inr 45)), some (.inl a), some (.inl b), some (.inl kk), some (.inl (xlv mm)), none, none, none, none] [.inl (if -1 ≤ kk ∧ kk ≤ xlv mm - 1 then 1 else 0)] SH m = r → zL (d + 20) 185 [.inr (.inr 45), .inl a, .inl b, .inl kk] SH m = r := fun r hr => by
      refine hm0 _ ?_
      rw [zb_X9_seated_13, if_neg (by decide), zw_id (x := xlv mm - 1) (by omega) (by omega), t_in, zcI_ok]
      exact hr
    by_cases ck : -1 ≤ kk ∧ kk < xlv mm
    · by_cases cl : xlv mm = 0
      · refine zBoth_0 (-4) h (hx0 _ ?_) (hm1 _ ?_)
        · rw [zb_X8_seated_22, if_neg (by decide), if_neg (by omega), if_pos (by omega), if_pos cl]
        · rw [zb_X9_seated_29, if_pos (show -1 ≤ kk ∧ kk ≤ xlv mm - 1 by omega), if_neg (by decide), if_pos cl]
      · obtain ⟨live, hlive⟩ : ∃ x : Nat, xlv mm = x := ⟨(xlv mm).toNat, by omega⟩
        obtain ⟨n, rfl⟩ : ∃ x : Nat, b = x := ⟨b.toNat, by omega⟩
        obtain ⟨words, rfl⟩ : ∃ x : Nat, a = x := ⟨a.toNat, by omega⟩
        have hp8 := zp8 (n := n) (by omega)
        rw [Int.toNat_natCast] at hrw
        have hw : words < 262144 := by omega
        have hl1 : 0 < live := by omega
        have hl6 : live ≤ 6 := by omega
        have hlen : (zlvl (xal mm) 6).length = live := by
          have := zlvl_len (xal mm) 6
          rw [xlv_6 hn] at this
          omega
        obtain ⟨rest, hpm, hch⟩ := zorders (xal mm) live hlen hl1
        have hA : ∀ s c, xSS mm words n live n s c = true → xal mm c = true := fun s c hsc => ((zSS_iff _ _ _ _ _ _ _ _ n).mp hsc).1
        have hmem : ∀ x, x ∈ zlvl (xal mm) 6 :: rest → x.length = live ∧ ∀ i, i < live → xal mm (zrowl x i) = true ∧ zrowl x i < 6 := fun x hx => by
          rw [← hpm] at hx
          exact zpm_mem live _ x hx
        have hlt : ∀ x, x ∈ zlvl (xal mm) 6 :: rest → ∀ i, i < live → ((zrowl x i : Nat) : Int) < mm 6 3 := fun x hx i hi => by
          have := ((hmem x hx).2 i hi).1
          unfold xal at this
          rw [Bool.and_eq_true] at this
          exact of_decide_eq_true this.1
        -- an order sings where it goes with the seats' sets
        have hgo : ∀ x, x ∈ zlvl (xal mm) 6 :: rest → zsing (xcm mm) (xe mm) words n live (zrowl x) n = zgoes (xSS mm words n live n) 0 x := fun x hx => by
          obtain ⟨q1, q2⟩ := hmem x hx
          have iff : zsing (xcm mm) (xe mm) words n live (zrowl x) n = true ↔ zgoes (xSS mm words n live n) 0 x = true := by
            rw [zsing_iff, zgoes_all]
            constructor
            · intro hs i hi
              rw [q1] at hi
              rw [Nat.zero_add]
              refine (zSS_iff _ _ _ _ _ _ _ _ n).mpr ⟨(q2 i hi).1, fun k hk e => ?_⟩
              unfold xcan
              rw [decide_eq_true (hlt x hx i hi), Bool.true_and]
              have := hs k hk
              rw [← e] at this
              exact this
            · intro hg k hk
              have hkl : k % live < live := Nat.mod_lt _ hl1
              have := hg (k % live) (by rw [q1]; exact hkl)
              rw [Nat.zero_add] at this
              have := ((zSS_iff _ _ _ _ _ _ _ _ n).mp this).2 k hk rfl
              unfold xcan at this
              rw [Bool.and_eq_true] at this
              exact this.2
          cases h1 : zsing (xcm mm) (xe mm) words n live (zrowl x) n with
          | true => rw [iff.mp h1]
          | false =>
            cases h2 : zgoes (xSS mm words n live n) 0 x with
            | false => rfl
            | true => rw [iff.mpr h2] at h1; cases h1
        have hfil : (zlvl (xal mm) 6 :: rest).filter (fun x => zsing (xcm mm) (xe mm) words n live (zrowl x) n) = (zpm (xal mm) live (fun _ => false)).filter (zgoes (xSS mm words n live n) 0) := by
          rw [hpm]
          exact List.filter_congr hgo
        have hord := zord_len hA live 0 (fun _ => false)
        have hrl : rest.length + 1 ≤ 50000 := by
          have h1 := zord_len (SS := fun _ c => xal mm c) (A := xal mm) (fun _ _ q => q) live 0 (fun _ => false)
          have h2 := zord_r (fun _ c => xal mm c) live 0 (fun _ => false)
          have h3 := zp6 hl6
          have h4 : (zpm (xal mm) live (fun _ => false)).filter (zgoes (fun _ c => xal mm c) 0) = zpm (xal mm) live (fun _ => false) := by
            refine List.filter_eq_self.mpr (fun x hx => ?_)
            obtain ⟨q1, q2⟩ := zpm_mem live _ x hx
            exact (zgoes_all _ _ _).mpr (fun i hi => (q2 i (by omega)).1)
          rw [h4, hpm, List.length_cons] at h1
          omega
        obtain ⟨S, hS, hst⟩ := t_first_order (m := m) (mm := mm) (d + 13) words n kk live (by omega) hR hI
        obtain ⟨S', F', hlp⟩ := t_seated_loop (m := m) (mm := mm) (d + 13) words n live kk (by omega) hw (by omega) hl1 hl6 hR hI rest (zlvl (xal mm) 6) 0 S (m 62) hS hch hlt (by omega)
        rw [zur_id] at hlp
        rw [hfil] at hlp
        have hmm : zL (d + 20) 185 [.inr (.inr 45), .inl (words : Int), .inl (n : Int), .inl kk] SH m = zok (zsans kk 0 (m 62) ((zpm (xal mm) live (fun _ => false)).filter (zgoes (xSS mm words n live n) 0))) (zur (zur m 62 F') 61 S') := by
          refine hm1 _ ?_
          rw [zb_X9_seated_29, if_pos (show -1 ≤ kk ∧ kk ≤ xlv mm - 1 by omega), if_neg (by decide), if_neg cl, hlive]
          exact hst _ hlp
        have h36 : ∀ s, s < 6 → xsr mm words n live n 36 s = mks (xSS mm words n live n s) 6 := fun s hs => xsr_36 words n live n hs
        have hor := s_ordersFrom (mm := xsr mm words n live n) (d + 17 - live) live (xSS mm words n live n) hl6 h36 live 0 (fun _ => false) (by omega)
        rw [show d + 17 - live + 2 + live = d + 19 by omega, show mks (fun _ => false) 6 = 0 from (mks_0 (by decide)).mpr (fun _ _ => rfl)] at hor
        have hx1 : ∀ r, zR (d + 19) 102 65 [some (.inr (.inr 0)), some (.inl (words : Int)), some (.inl (n : Int)), some (.inl kk), some (.inl (live : Int)), none] [.inl (zord (xSS mm words n live n) live 0 (fun _ => false))] SH (xsr mm words n live n) = r → zL (d + 20) 102 [.inr (.inr 0), .inl (words : Int), .inl (n : Int), .inl kk] SH mm = r := fun r hr => by
          refine hx0 _ ?_
          rw [zb_X8_seated_22, if_neg (by decide), if_neg (by omega), if_pos (by omega), if_neg cl, hlive, s_findSeatSets _ words n live hw (by omega) hl1 hl6 hI, zcV_vd, zb_X8_seated_54]
          refine (congrArg (fun r => zcI r _) hor).trans ?_
          rw [zcI_ok]
          exact hr
        refine zBoth_q (zsans kk 0 (m 62) ((zpm (xal mm) live (fun _ => false)).filter (zgoes (xSS mm words n live n) 0))) h (mc := xsr mm words n live n) (m' := zur (zur m 62 F') 61 S') (hx1 _ ?_) hmm (fun k hk => xsr_k words n live n (by omega)) (fun k hk => by rw [zur_k _ _ (by omega), zur_k _ _ (by omega)]) (fun j hj => by rw [zur_k _ _ (by decide), zur_k _ _ (by decide)])
        rw [zb_X8_seated_65, hord]
        cases hz : (zpm (xal mm) live (fun _ => false)).filter (zgoes (xSS mm words n live n) 0) with
        | nil =>
          rw [List.length_nil, if_pos (by decide), zsans_nil, if_pos rfl]
        | cons l0 r0 =>
          have hL : (((l0 :: r0).length : Nat) : Int) ≠ 0 := by rw [List.length_cons]; omega
          unfold zsans
          rw [if_neg hL, if_neg (show ¬ (0 + (l0 :: r0).length = 0) by rw [List.length_cons]; omega), Nat.zero_add]
          by_cases c2 : kk < 0
          · rw [if_pos c2, if_pos c2]
          · rw [if_neg c2, if_neg c2, if_pos rfl]
            obtain ⟨k, rfl⟩ : ∃ x : Nat, kk = x := ⟨kk.toNat, by omega⟩
            have hhd := zheads hA hz
            have hzc : ∀ j, j ≤ k → zfc (xSS mm words n live n) (live - 1 - j) j (zfu (xSS mm words n live n) live j) = ((zrowl l0 j : Nat) : Int) := fun j hj => by
              obtain ⟨_, _, _, _, q⟩ := hhd (k + 1) (by omega)
              exact q j (by omega)
            have hcf := s_cellOfFirstOrder (mm := xsr mm words n live n) (d + 16 - live) live (xSS mm words n live n) hl6 h36 k (by omega) (fun j hj => by rw [hzc j hj]; omega)
            rw [show d + 16 - live + 3 + live = d + 19 by omega, hzc k (Nat.le_refl k)] at hcf
            rw [hcf, zcI_ok, zb_X8_seated_91, Int.toNat_natCast]
            rfl
    · refine zBoth_0 (-1) h (hx0 _ ?_) (hm1 _ ?_)
      · rw [zb_X8_seated_22, if_neg (by decide)]
        by_cases c3 : kk < -1
        · rw [if_pos c3]
        · rw [if_neg c3, if_neg (by omega)]
      · rw [zb_X9_seated_29, if_neg (show ¬ (-1 ≤ kk ∧ kk ≤ xlv mm - 1) by omega), if_pos rfl]
end
