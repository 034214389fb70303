theorem ztp_k (mm : zMm) {T C c : Nat} (x : Int) (n L q : Nat) {k : Nat} (h : k ≠ T) (h2 : k ≠ C) : ztp mm T C c x n L q k = mm k := by
  funext j
  unfold ztp
  rw [if_neg (fun z => h z.1), if_neg (fun z => h2 z.1)]
theorem ztp_j (mm : zMm) {T C c : Nat} (x : Int) (n L q : Nat) {j : Nat} (h : C ≠ T) (h2 : j ≠ c) : ztp mm T C c x n L q C j = mm C j := by
  unfold ztp
  rw [if_neg (fun z => h z.1), if_neg (fun z => h2 z.2)]
theorem ztp_c (mm : zMm) {T C c : Nat} (x : Int) (n L q : Nat) (h : C ≠ T) : ztp mm T C c x n L q C c = ((L + q : Nat) : Int) := by
  unfold ztp
  rw [if_neg (fun z => h z.1), if_pos ⟨rfl, rfl⟩]
theorem ztp_T (mm : zMm) {T C c : Nat} (x : Int) (n L q : Nat) (h : T ≠ C) : ztp mm T C c x n L q T = fun j => if L ≤ j ∧ j < L + q then zby x (n - 1 - (j - L)) else mm T j := by
  funext j
  unfold ztp
  by_cases r : L ≤ j ∧ j < L + q
  · rw [if_pos ⟨rfl, r⟩, if_pos r]
  · rw [if_neg (fun z => r z.2), if_neg (fun z => h z.1), if_neg r]
section
variable {m mm : zMm}
theorem op_type (d : Nat) (x n : Int) (h : zRel m mm) : zBoth d 84 140 [.inr (.inl x), .inl n] m mm := by
  obtain ⟨hI, hR, ⟨hT1, hT2, hT⟩, hK, hS⟩ := id h
  have ht0 := hT.1
  have ht80 := hT.2.1
  by_cases c : 1 ≤ n ∧ n ≤ 8
  · obtain ⟨n, rfl⟩ : ∃ k : Nat, n = k := ⟨n.toNat, by omega⟩
    have hm := t_type (m := m) (d + 18) n x (by omega) (by omega) (by rw [hT2]; omega)
    rw [hT2] at hm
    have hx : ∀ r, zR (d + 19) 84 16 [some (.inr (.inr 0)), some (.inr (.inl x)), none, some (.inl (n : Int))] [.inl (if zall (zbok x) n then 1 else 0)] SH mm = r → zL (d + 20) 84 [.inr (.inr 0), .inr (.inl x), .inl (n : Int)] SH mm = r := by
      intro r hr
      rw [ze_X8_type, zb_X8_type_0, if_neg (by omega), if_neg (by omega), s_canHold _ x n (by omega), zcI_ok]
      exact hr
    cases ha : zall (zbok x) n with
    | false =>
      rw [ha] at hx hm
      refine zBoth_0 (-1) h (hx _ ?_) (hm.trans ?_)
      · rw [zb_X8_type_16, if_pos (by decide)]
      · rw [if_pos rfl]
    | true =>
      rw [ha, if_neg (by decide)] at hm
      rw [ha] at hx
      by_cases c2 : mm 29 2 + n ≤ 80
      · rw [if_pos c2] at hm
        refine ⟨mm 29 2 + n, ztp mm 30 29 2 x n (mm 29 2).toNat n, ztp m 55 45 17 x n (mm 29 2).toNat n, hx _ ?_, hm, ?_, fun k hk => ztp_k _ _ _ _ _ (by omega) (by omega), fun k hk => ztp_k _ _ _ _ _ (by omega) (by omega)⟩
        · rw [zb_X8_type_16, if_neg (by decide), s_tappend _ x n (by omega) (by omega) ⟨ht0, ht80⟩, if_pos c2, zcI_ok, zb_X8_type_30]
        · refine ⟨xI_fr (fun k a b => ztp_k _ _ _ _ _ (by omega) (by omega)) hI, mR_both (fun k a b => ztp_k _ _ _ _ _ (by omega) (by omega)) (fun k a b => ztp_k _ _ _ _ _ (by omega) (by omega)) (fun j hj => ztp_j _ _ _ _ _ (by decide) (by omega)) hR, ⟨?_, ?_, ?_⟩, zKept_fr hK (by rw [ztp_k _ _ _ _ _ (by decide) (by decide)]) (fun k a b => ztp_k _ _ _ _ _ (by omega) (by omega)) (ztp_j _ _ _ _ _ (by decide) (by decide)) (ztp_k _ _ _ _ _ (by decide) (by decide)) (ztp_k _ _ _ _ _ (by decide) (by decide)), zSR_fr hS (fun k a b => ztp_k _ _ _ _ _ (by omega) (by omega)) (fun k a b => ztp_k _ _ _ _ _ (by omega) (by omega))⟩
          · rw [ztp_T _ _ _ _ _ (by decide), ztp_T _ _ _ _ _ (by decide), hT1]
          · rw [ztp_c _ _ _ _ _ (by decide), ztp_c _ _ _ _ _ (by decide)]
          · unfold xT
            rw [ztp_c _ _ _ _ _ (by decide), ztp_T _ _ _ _ _ (by decide)]
            refine ⟨by omega, by omega, fun i hi => ?_⟩
            dsimp only
            by_cases q : (mm 29 2).toNat ≤ i ∧ i < (mm 29 2).toNat + n
            · rw [if_pos q]
              have := zall_i.mp ha (n - 1 - (i - (mm 29 2).toNat)) (by omega)
              unfold zbok at this
              rw [Bool.and_eq_true] at this
              exact ⟨of_decide_eq_true this.1, of_decide_eq_true this.2⟩
            · rw [if_neg q]
              exact hT.2.2 i (by omega)
      · rw [if_neg c2] at hm
        refine zBoth_0 (-3) h (hx _ ?_) hm
        rw [zb_X8_type_16, if_neg (by decide), s_tappend _ x n (by omega) (by omega) ⟨ht0, ht80⟩, if_neg c2, zcI_ok, zb_X8_type_30]
  · refine zBoth_0 (-1) h ?_ ?_
    · rw [ze_X8_type, zb_X8_type_0]
      by_cases c4 : n < 1
      · rw [if_pos c4]
      · rw [if_neg c4, if_pos (by omega)]
    · rw [ze_X9_type, zb_X9_type_0, t_in, zcI_ok, zb_X9_type_9, if_neg c, if_pos rfl]
theorem op_tongue (d : Nat) (h : zRel m mm) : zBoth d 85 144 [] m mm := by
  obtain ⟨hI, hR, ⟨hT1, hT2, hT⟩, hK, hS⟩ := id h
  have ht0 := hT.1
  have ht80 := hT.2.1
  obtain ⟨n, hn⟩ : ∃ n : Nat, mm 29 2 = n := ⟨(mm 29 2).toNat, by omega⟩
  have hx := s_xtongue (mm := mm) (d + 17) hT
  obtain ⟨w', p', R', hm⟩ := t_tongue (m := m) (d + 15) n (by rw [hT2, hn]) (by omega) (fun i hi => by rw [hT1]; exact hT.2.2 i (by omega))
  rw [hn, Int.toNat_natCast] at hx
  rw [hT1] at hm
  have hz := zpt_R (mm 30) n n 0 0 0 0 (zset (mm 31) 0 0) (zset (m 56) 0 0) (fun k hk => by rw [show k = 0 by omega, zset_s, zset_s])
  have h256 := zpt_256 (mm 30) n n 0 0 0 0 (zset (m 56) 0 0) (by decide) (fun k hk => by rw [show k = 0 by omega, zset_s]; decide)
  rw [hz.1] at hx hz
  have hz2 : ∀ k : Nat, (k : Int) < (zpt (mm 30) n n 0 0 0 0 (zset (m 56) 0 0)).1 → (zpt (mm 30) n n 0 0 0 0 (zset (mm 31) 0 0)).2 k = (zpt (mm 30) n n 0 0 0 0 (zset (m 56) 0 0)).2 k := hz.2
  generalize (zpt (mm 30) n n 0 0 0 0 (zset (mm 31) 0 0)).2 = Q at hx hz2
  generalize zpt (mm 30) n n 0 0 0 0 (zset (m 56) 0 0) = o at hx hm hz2 h256
  clear hz
  have fc : ∀ (a : Nat) (Q : Nat → Int) (k : Nat), a ≠ 3 → a ≠ 31 → a ≠ 29 → zu (ztc (zur mm 31 Q) Q k) 29 2 0 a = mm a := fun a Q k a1 a2 a3 => by
    rw [zu_k _ _ a3, ztc_k _ _ _ a1, zur_k _ _ a2]
  have xTn : ∀ (mc : zMm), mc 29 2 = 0 → xT mc := fun mc e => by
    unfold xT
    rw [e]
    exact ⟨by decide, by decide, fun i hi => absurd hi (by omega)⟩
  have c29 : ∀ k, zu (ztc (zur mm 31 Q) Q k) 29 2 0 29 2 = 0 := fun k => zu_s _ _ _ _
  have c30 : ∀ k, zu (ztc (zur mm 31 Q) Q k) 29 2 0 30 = mm 30 := fun k => fc 30 Q k (by decide) (by decide) (by decide)
  have c3 : ∀ k, zu (ztc (zur mm 31 Q) Q k) 29 2 0 3 = fun j => if j < k then Q j else mm 3 j := fun k => by
    rw [zu_k _ _ (by decide)]
    funext j
    unfold ztc
    rw [zur_k _ _ (by decide)]
    simp
  have hIc : ∀ k, (∀ j, j < k → 0 ≤ Q j ∧ Q j < 256) → xI (zu (ztc (zur mm 31 Q) Q k) 29 2 0) := fun k hk => by
    have f := fun a h1 h2 h3 => fc a Q k h1 h2 h3
    obtain ⟨t1, t2, t3, t4⟩ := hI.tg
    have h' := hI
    unfold xI xP at h' ⊢
    rw [f 1 (by decide) (by decide) (by decide), f 2 (by decide) (by decide) (by decide), c3, f 4 (by decide) (by decide) (by decide), f 5 (by decide) (by decide) (by decide), f 6 (by decide) (by decide) (by decide), f 7 (by decide) (by decide) (by decide), f 8 (by decide) (by decide) (by decide), f 9 (by decide) (by decide) (by decide), f 10 (by decide) (by decide) (by decide), f 11 (by decide) (by decide) (by decide), f 12 (by decide) (by decide) (by decide), f 13 (by decide) (by decide) (by decide), f 14 (by decide) (by decide) (by decide)]
    refine ⟨h'.1, ⟨t1, t2, fun w hw => ?_, t4⟩, h'.2.2⟩
    dsimp only
    by_cases q : w < k
    · rw [if_pos q]
      exact hk w q
    · rw [if_neg q]
      exact t3 w hw
  by_cases c : 0 ≤ o.1
  · rw [if_pos c] at hm
    have gm : ∀ a, a ≠ 46 → a ≠ 45 → a ≠ 56 → zmc (zu (zmt2 m o.2 o.1 p') 45 17 0) o.2 o.1.toNat a = m a := fun a a1 a2 a3 => by
      rw [zmc_k _ _ _ a1, zu_k _ _ a2, zmt2_k _ _ _ _ a3 a2]
    have gj : ∀ j, j ≠ 17 → j ≠ 18 → j ≠ 19 → zmc (zu (zmt2 m o.2 o.1 p') 45 17 0) o.2 o.1.toNat 45 j = m 45 j := fun j a1 a2 a3 => by
      rw [zmc_k _ _ _ (by decide), zu_j _ _ a1, zmt2_j _ _ _ _ a2 a3]
    refine ⟨o.1, _, _, hx, hm, ?_, fun k hk => fc k Q _ (by omega) (by omega) (by omega), fun k hk => gm k (by omega) (by omega) (by omega)⟩
    refine ⟨hIc _ (fun j hj => by rw [hz2 j (by omega)]; exact h256 j (by omega)), ?_, ⟨?_, ?_, xTn _ (c29 _)⟩, zKept_fr hK (by rw [fc 0 Q _ (by decide) (by decide) (by decide)]) (fun k a b => fc k Q _ (by omega) (by omega) (by omega)) (gj 28 (by decide) (by decide) (by decide)) (gm 63 (by decide) (by decide) (by decide)) (gm 64 (by decide) (by decide) (by decide)), zSR_fr hS (fun k a b => fc k Q _ (by omega) (by omega) (by omega)) (fun k a b => gm k (by omega) (by omega) (by omega))⟩
    · have h' := hR
      unfold mR at h' ⊢
      have f := fun a h1 h2 h3 => fc a Q o.1.toNat h1 h2 h3
      have e46 : zmc (zu (zmt2 m o.2 o.1 p') 45 17 0) o.2 o.1.toNat 46 = fun j => if j < o.1.toNat then Q j else mm 3 j := by
        funext j
        unfold zmc
        rw [zu_k _ _ (by decide), zmt2_k _ _ _ _ (by decide) (by decide), hR.fo]
        by_cases q : j < o.1.toNat
        · rw [if_pos ⟨rfl, q⟩, if_pos q, hz2 j (by omega)]
        · rw [if_neg (fun z => q z.2), if_neg q]
      rw [f 1 (by decide) (by decide) (by decide), f 2 (by decide) (by decide) (by decide), c3, f 4 (by decide) (by decide) (by decide), f 5 (by decide) (by decide) (by decide), f 6 (by decide) (by decide) (by decide), f 7 (by decide) (by decide) (by decide), f 8 (by decide) (by decide) (by decide), f 9 (by decide) (by decide) (by decide), f 10 (by decide) (by decide) (by decide), f 11 (by decide) (by decide) (by decide), f 12 (by decide) (by decide) (by decide), f 13 (by decide) (by decide) (by decide), f 14 (by decide) (by decide) (by decide), e46, gm 47 (by decide) (by decide) (by decide), gm 48 (by decide) (by decide) (by decide), gm 49 (by decide) (by decide) (by decide), gm 50 (by decide) (by decide) (by decide), gm 51 (by decide) (by decide) (by decide), gm 52 (by decide) (by decide) (by decide), gm 53 (by decide) (by decide) (by decide), gm 54 (by decide) (by decide) (by decide), gj 3 (by decide) (by decide) (by decide), gj 8 (by decide) (by decide) (by decide), gj 11 (by decide) (by decide) (by decide), gj 12 (by decide) (by decide) (by decide), gj 13 (by decide) (by decide) (by decide), gj 14 (by decide) (by decide) (by decide), gj 15 (by decide) (by decide) (by decide)]
      exact ⟨rfl, h'.2⟩
    · rw [gm 55 (by decide) (by decide) (by decide), c30, hT1]
    · rw [c29, zmc_k _ _ _ (by decide), zu_s]
  · rw [if_neg c] at hm
    have e0 : o.1.toNat = 0 := by omega
    rw [e0] at hx
    have gm : ∀ a, a ≠ 45 → a ≠ 56 → zu (zmt2 m R' w' p') 45 17 0 a = m a := fun a a2 a3 => by
      rw [zu_k _ _ a2, zmt2_k _ _ _ _ a3 a2]
    have gj : ∀ j, j ≠ 17 → j ≠ 18 → j ≠ 19 → zu (zmt2 m R' w' p') 45 17 0 45 j = m 45 j := fun j a1 a2 a3 => by
      rw [zu_j _ _ a1, zmt2_j _ _ _ _ a2 a3]
    have f3 : zu (ztc (zur mm 31 Q) Q 0) 29 2 0 3 = mm 3 := by
      rw [c3]
      funext j
      rw [if_neg (Nat.not_lt_zero j)]
    have f : ∀ k, 1 ≤ k → k ≤ 14 → zu (ztc (zur mm 31 Q) Q 0) 29 2 0 k = mm k := fun k a b => by
      by_cases q : k = 3
      · rw [q, f3]
      · exact fc k Q 0 q (by omega) (by omega)
    refine ⟨o.1, _, _, hx, hm, ?_, fun k hk => fc k Q _ (by omega) (by omega) (by omega), fun k hk => gm k (by omega) (by omega)⟩
    refine ⟨hIc 0 (fun j hj => absurd hj (Nat.not_lt_zero j)), mR_both f (fun k a b => gm k (by omega) (by omega)) (fun j hj => gj j (by omega) (by omega) (by omega)) hR, ⟨?_, ?_, xTn _ (c29 _)⟩, zKept_fr hK (by rw [fc 0 Q _ (by decide) (by decide) (by decide)]) (fun k a b => fc k Q _ (by omega) (by omega) (by omega)) (gj 28 (by decide) (by decide) (by decide)) (gm 63 (by decide) (by decide)) (gm 64 (by decide) (by decide)), zSR_fr hS (fun k a b => fc k Q _ (by omega) (by omega) (by omega)) (fun k a b => gm k (by omega) (by omega))⟩
    · rw [gm 55 (by decide) (by decide), c30, hT1]
    · rw [c29, zu_s]
end
