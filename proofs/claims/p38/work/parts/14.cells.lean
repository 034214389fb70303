/-- the layout's words of the classes -/
theorem zly_all : (List.range 9).all (fun c => match zCl[c]? with
  | some (C, T, N) => (List.range N).all (fun k => zAt (zly c k) (u_lay C T k) && goodWord (u_lay C T k)) && zAt (zin9 c) (.instantiable C N) && zAt (zini c) (.initialized C) && goodWord (.instantiable C N) && goodWord (.initialized C) && decide (C = zon c)
  | none => false) = true := by decide +kernel
def zft0 (c : Nat) (t : FieldType) (k : Nat) : Bool := if zft c k = 0 then decide (t = .int) else if zft c k = 1 then decide (t = .boolean) else Nat.beq (zft c k) 2 && (match t with
  | .object _ => true
  | .array _ => true
  | _ => false)
theorem zcl_cases {k : Nat} {P : Nat → vw_C → Prop} (h : ∀ z, zCl[k]? = some z → k < 9) (h0 : P 0 (RX0, TX0, 4)) (h1 : P 1 (RX1, TX1, 5)) (h2 : P 2 (RX2, TX2, 3)) (h3 : P 3 (RX3, TX3, 3)) (h4 : P 4 (RX4, TX4, 3)) (h5 : P 5 (RX5, TX5, 3)) (h6 : P 6 (RX6, TX6, 4)) (h7 : P 7 (RX7, TX7, 5)) (h8 : P 8 (RX8, TX8, 7)) {z : vw_C} (hz : zCl[k]? = some z) : P k z := by
  have hk := h z hz
  match k, hk, hz with
  | 0, _, hz => cases hz; exact h0
  | 1, _, hz => cases hz; exact h1
  | 2, _, hz => cases hz; exact h2
  | 3, _, hz => cases hz; exact h3
  | 4, _, hz => cases hz; exact h4
  | 5, _, hz => cases hz; exact h5
  | 6, _, hz => cases hz; exact h6
  | 7, _, hz => cases hz; exact h7
  | 8, _, hz => cases hz; exact h8
theorem zcl_lt {k : Nat} {z : vw_C} (h : zCl[k]? = some z) : k < 9 := (List.getElem?_eq_some_iff.mp h).1
def zClF (k : Nat) (z : vw_C) : Prop := ∃ ty0 : Nat → FieldType, (∀ j, j < z.2.2 → parseFieldDescriptor (z.2.1 j).2.2.1 = some (ty0 j)) ∧ (∀ a, a < z.2.2 → ∀ b, b < z.2.2 → a ≠ b → (z.2.1 a).2.1 ≠ (z.2.1 b).2.1) ∧ ∀ j, j < z.2.2 → zft0 k (ty0 j) j = true
theorem zcl_f {k : Nat} {z : vw_C} (hz : zCl[k]? = some z) : zClF k z :=
  zcl_cases (P := zClF) (fun _ h => zcl_lt h)
    ⟨tyX0, tyX0_ok, nmX0, by decide +kernel⟩
    ⟨tyX1, tyX1_ok, nmX1, by decide +kernel⟩
    ⟨tyX2, tyX2_ok, nmX2, by decide +kernel⟩
    ⟨tyX3, tyX3_ok, nmX3, by decide +kernel⟩
    ⟨tyX4, tyX4_ok, nmX4, by decide +kernel⟩
    ⟨tyX5, tyX5_ok, nmX5, by decide +kernel⟩
    ⟨tyX6, tyX6_ok, nmX6, by decide +kernel⟩
    ⟨tyX7, tyX7_ok, nmX7, by decide +kernel⟩
    ⟨tyX8, tyX8_ok, nmX8, by decide +kernel⟩
    hz
theorem zcl_w {k : Nat} {C : String} {T : u_T} {N : Nat} (hz : zCl[k]? = some (C, T, N)) : (∀ w ∈ u_ws C T N, w ∈ zWS) ∧ Cond.instantiable C N ∈ zWS ∧ Cond.initialized C ∈ zWS ∧ C = zon k := by
  have h := List.all_eq_true.mp zly_all k (List.mem_range.mpr (zcl_lt hz))
  rw [hz] at h
  simp only [Bool.and_eq_true, decide_eq_true_eq] at h
  obtain ⟨⟨⟨⟨⟨h1, h2⟩, h3⟩, h4⟩, h5⟩, h6⟩ := h
  refine ⟨fun w hw => ?_, zWS_in (zAt_ok h2) h4, zWS_in (zAt_ok h3) h5, h6⟩
  obtain ⟨j, hj, rfl⟩ := List.mem_map.mp hw
  have h7 := List.all_eq_true.mp h1 j hj
  simp only [Bool.and_eq_true] at h7
  exact zWS_in (zAt_ok h7.1) h7.2
theorem zce_o {ad : Nat → Nat × ClassId} {a k n : Nat} {rs : List Nat} {f : Nat → Int} (h : k < 100) : zce ad a (k, n, rs) f = .inr (k, (List.range n).map (zfv ad k rs f)) := if_pos h
theorem zce_i {ad : Nat → Nat × ClassId} {a k n : Nat} {rs : List Nat} {f : Nat → Int} (h : k = 100 ∨ k = 101 ∨ k = 102) : zce ad a (k, n, rs) f = .inl ((ad a).2, n, .inl (fun j => Int32.ofInt (f j))) := by
  unfold zce
  rw [if_neg (show ¬ k < 100 by omega), if_neg (show ¬ k = 103 by omega)]
theorem zce_q {ad : Nat → Nat × ClassId} {a n : Nat} {rs : List Nat} {f : Nat → Int} : zce ad a (103, n, rs) f = .inl ((ad a).2, n, .inr (.inr (.inr (.inr (zro ad rs))))) := rfl
theorem zfs_at {n p : Nat} {g : Nat → Value} (h : p < n) : ((List.range n).map g)[p]? = some (g p) := by rw [List.getElem?_map, List.getElem?_range h]; rfl
theorem zfs_set {n p : Nat} {g g' : Nat → Value} {v : Value} (hv : g' p = v) (hg : ∀ j, j ≠ p → g' j = g j) : ((List.range n).map g).set p v = (List.range n).map g' := by
  apply List.ext_getElem?
  intro j
  rw [List.getElem?_set, List.length_map, List.length_range]
  by_cases h : p = j
  · subst h
    rw [if_pos rfl]
    by_cases hn : p < n
    · rw [if_pos hn, zfs_at hn, hv]
    · rw [if_neg hn]
      rw [List.getElem?_eq_none]
      simpa using hn
  · rw [if_neg h]
    by_cases hj : j < n
    · rw [zfs_at hj, zfs_at hj, hg j (fun e => h e.symm)]
    · rw [List.getElem?_eq_none (by simpa using hj), List.getElem?_eq_none (by simpa using hj)]
theorem zWf.mm {sh : List zSh} {mm : zMm} (h : zWf sh mm) {a j : Nat} {x : Int} (hx : zr32 x) : zWf sh (zu mm a j x) := by
  refine ⟨h.1, fun k j' => ?_, h.2.2⟩
  unfold zu
  split
  · exact hx
  · exact h.2.1 k j'
theorem zPs.mm {ad0 ad : Nat → Nat × ClassId} {sh0 sh : List zSh} {mm0 mm : zMm} (h : zPs ad0 sh0 mm0 ad sh mm) {a j : Nat} {x : Int} (ha : a < 900) : zPs ad0 sh0 mm0 ad sh (zu mm a j x) := by
  refine ⟨h.1, h.2.1, h.2.2.1, fun k hk => ?_⟩
  rw [← h.2.2.2 k hk]
  funext j'
  unfold zu
  rw [if_neg (fun q => by omega)]
theorem zu_ne {mm : zMm} {a j : Nat} {x : Int} {k : Nat} (h : k ≠ a) : zu mm a j x k = mm k := by
  funext j'
  unfold zu
  rw [if_neg (fun q => h q.1)]
theorem ztot_set {sh : List zSh} {a k n : Nat} {rs rs' : List Nat} (hs : sh[a]? = some (k, n, rs)) : ztot (sh.set a (k, n, rs')) = ztot sh := by
  unfold ztot
  rw [List.map_set]
  congr 1
  have hla : a < sh.length := (List.getElem?_eq_some_iff.mp hs).1
  apply List.ext_getElem?
  intro j
  rw [List.getElem?_set]
  split
  · rename_i ej
    subst ej
    rw [List.length_map, if_pos hla, List.getElem?_map, hs]
    rfl
  · rfl
theorem zWf.sq {sh : List zSh} {mm : zMm} (h : zWf sh mm) {a k n p b : Nat} {rs : List Nat} (hs : sh[a]? = some (k, n, rs)) (hb : b < sh.length) : zWf (sh.set a (k, n, rs.set p (b + 1))) mm := by
  refine ⟨fun k' s' hs' => ?_, h.2.1, by rw [List.length_set]; exact h.2.2⟩
  rw [List.length_set]
  rw [List.getElem?_set] at hs'
  split at hs'
  · rename_i e
    subst e
    have h1 := h.1 a _ hs
    split at hs'
    · cases hs'
      refine ⟨fun z hz => ?_, fun q0 => ⟨(h1.2.1 q0).1, by simpa using (h1.2.1 q0).2⟩, fun q0 => by simpa using h1.2.2.1 q0, h1.2.2.2.1, h1.2.2.2.2⟩
      rcases List.mem_or_eq_of_mem_set hz with hz | hz
      · exact h1.1 z hz
      · omega
    · cases hs'
  · exact h.1 k' s' hs'
theorem zset_self {sh : List zSh} {a : Nat} {s : zSh} (h : sh[a]? = some s) : sh.set a s = sh := by
  apply List.ext_getElem?
  intro k
  rw [List.getElem?_set]
  split
  · rename_i e
    subst e
    rw [if_pos (List.getElem?_eq_some_iff.mp h).1, h]
  · rfl
section ZSD
variable {p : Program} {l : Launch} {e : Env} {R : Room} {s : State} {m : MethodId} {args : Array Value} {below : List Frame} {meth : Method} {c : Code} {Q : State → Prop}
variable {i d : Nat} {D : va_G} {A : Nat → Prop} {ad0 : Nat → Nat × ClassId} {sh0 : List zSh} {mm0 : zMm} {shF : List zSh}
theorem zsd_getfield {C : zC0} {len pp r : Nat} {q : Int} {n : Nat} (C0 : zCtx p R s m args meth c i d D A ad0 sh0 mm0 shF) : zSd p l e R s m args below meth c Q i D A ad0 sh0 mm0 shF C (.getfield n, len, pp, r, q) := by
  intro pc ls st sh mm hc hz tys ad H locs lsR hI hP hL hls hst
  obtain ⟨hx, hb, hml, hown, hts, hnw, hao, hA, hin, hR, hRc, hscr⟩ := C0
  have hk := zC_chk hc
  obtain ⟨a, t, rfl, hzA⟩ := zx_br hz
  obtain ⟨k, n', rs, hs, hzB⟩ := zx_sh hzA
  obtain ⟨hc1, hzC⟩ := zx_cond hzB
  clear hz hzA hzB
  simp only [Bool.and_eq_true] at hc1
  obtain rfl := Nat.eq_of_beq_eq_true hc1.1
  have hpn := Nat.blt_eq.mp hc1.2
  simp only [zchk, Bool.and_eq_true] at hk
  obtain ⟨h1, hk⟩ := hk
  obtain rfl : len = 3 := Nat.eq_of_beq_eq_true h1
  have hd : decode (zBy i) pc = .ok (.getfield n, 3) := zC_dec hc
  cases hcl : zCl[k]? with
  | none => rw [hcl] at hk; exact absurd hk (by simp)
  | some z =>
    obtain ⟨CC, TT, NN⟩ := z
    rw [hcl] at hk
    simp only [Bool.and_eq_true] at hk
    have hpN := Nat.blt_eq.mp hk.1
    have hk10 := zcl_lt hcl
    have hat := zws_at (ad := ad) (mm := mm) hs
    rw [zce_o (by omega)] at hat
    have hw := zcl_w hcl
    have hra : zrg sh.length (.inr (.inr a)) := hst _ List.mem_cons_self
    have hst2 : ∀ v ∈ t, zrg sh.length v := fun v hv => hst v (List.mem_cons_of_mem _ hv)
    have key : ∀ v' : zV, zfv ad k rs (mm a) pp = zcv ad v' → zrg sh.length v' → zGG p l e R s m args below meth c Q i D A ad0 sh0 mm0 shF (pc + 3) ls (v' :: t) sh mm → W p l e R s m args below meth c H locs (sh.length - sh0.length) (ztot sh - ztot sh0) Q (F0 m pc lsR ((.inr (.inr a) :: t : List zV).map (zcv ad))) := by
      intro v' hv' hr' hg
      have hfin := hg.1 tys ad H locs lsR hI hP hL hls (List.forall_mem_cons.mpr ⟨hr', hst2⟩)
      by_cases hq : q = 1
      · rw [if_pos hq] at hk
        refine va_getN (D := D) (ci := k) (v := zcv ad v') (C := CC) (T := TT) (N := NN) (tys := tys) (ws := zws ad sh mm) hx hb hts hw.1 hown hI.2.2.1 hI.1 a hat hcl pp hpN (va_Nw.use rfl (hnw _ (zLk_okN hk.2 rfl))) (fun _ h => h) ?_ hd hfin
        rw [zfs_at hpn, hv']
      · rw [if_neg hq] at hk
        refine va_get (D := D) (ci := k) (v := zcv ad v') (C := CC) (T := TT) (N := NN) (tys := tys) (ws := zws ad sh mm) hx hb hts hw.1 hown hI.2.2.1 hI.1 a hat hcl pp hpN (hts _ (zLk_ok hk.2 rfl)) (fun _ h => h) ?_ hd hfin
        rw [zfs_at hpn, hv']
    cases hz2 : Nat.beq (zft k pp) 2 with
    | true =>
      rw [hz2] at hzC
      have e2 := Nat.eq_of_beq_eq_true hz2
      simp only [cond_true] at hzC
      split at hzC
      · rename_i b hb2
        have hbm := (hI.2.2.2.2.1.1 a _ hs).1 (b + 1) (List.mem_of_getElem? hb2)
        refine key (.inr (.inr b)) ?_ (Or.inl (by omega)) hzC
        unfold zfv zro
        rw [if_pos e2, List.getD_eq_getElem?_getD, hb2]
        rfl
      · exact hzC.elim
    | false =>
      rw [hz2] at hzC
      refine key (.inl (mm a pp)) ?_ (hI.2.2.2.2.1.2.1 a pp) hzC
      unfold zfv
      rw [if_neg (fun q0 => by rw [q0] at hz2; cases hz2)]
      rfl
theorem zbool_n {x : Int} (h : x = 0 ∨ x = 1) : narrow .boolean (.int (Int32.ofInt x)) = .int (Int32.ofInt x) ∧ fits .boolean (.int (Int32.ofInt x)) = true := by
  rcases h with rfl | rfl
  · exact ⟨rfl, rfl⟩
  · exact ⟨rfl, rfl⟩
theorem zsd_putfield {C : zC0} {len pp r : Nat} {q : Int} {n : Nat} (C0 : zCtx p R s m args meth c i d D A ad0 sh0 mm0 shF) : zSd p l e R s m args below meth c Q i D A ad0 sh0 mm0 shF C (.putfield n, len, pp, r, q) := by
  intro pc ls st sh mm hc hz tys ad H locs lsR hI hP hL hls hst
  obtain ⟨hx, hb, hml, hown, hts, hnw, hao, hA, hin, hR, hRc, hscr⟩ := C0
  have hk := zC_chk hc
  simp only [zchk, Bool.and_eq_true] at hk
  obtain ⟨h1, hk⟩ := hk
  obtain rfl : len = 3 := Nat.eq_of_beq_eq_true h1
  have hd : decode (zBy i) pc = .ok (.putfield n, 3) := zC_dec hc
  have key : ∀ (a k n' : Nat) (rs rs' : List Nat) (t : List zV) (v' : zV) (mm' : zMm), sh[a]? = some (k, n', rs) → k = r → pp < n' → (∀ z ∈ t, zrg sh.length z) →
      (∀ TT CC NN, zCl[k]? = some (CC, TT, NN) → ∀ ty0, parseFieldDescriptor (TT pp).2.2.1 = some ty0 → zft0 k ty0 pp = true → narrow ty0 (zcv ad v') = zcv ad v' ∧ fits ty0 (zcv ad v') = true) →
      zfv ad k rs' (mm' a) pp = zcv ad v' → (∀ j, j ≠ pp → zfv ad k rs' (mm' a) j = zfv ad k rs (mm a) j) → (∀ k', k' ≠ a → mm' k' = mm k') → zWf (sh.set a (k, n', rs')) mm' → zPs ad0 sh0 mm0 ad (sh.set a (k, n', rs')) mm' →
      zGG p l e R s m args below meth c Q i D A ad0 sh0 mm0 shF (pc + 3) ls t (sh.set a (k, n', rs')) mm' →
      W p l e R s m args below meth c H locs (sh.length - sh0.length) (ztot sh - ztot sh0) Q (F0 m pc lsR (zcv ad v' :: .ref (ad a).1 :: t.map (zcv ad))) := by
    intro a k n' rs rs' t v' mm' hs hkr hpn hst2 hfit hv1 hv2 hmm hwf hps hg
    subst hkr
    have hla : a < sh.length := (List.getElem?_eq_some_iff.mp hs).1
    cases hcl : zCl[k]? with
    | none => rw [hcl] at hk; exact absurd hk (by simp)
    | some z =>
      obtain ⟨CC, TT, NN⟩ := z
      rw [hcl] at hk
      simp only [Bool.and_eq_true] at hk
      obtain ⟨hk1, hk⟩ := hk
      have hpN := Nat.blt_eq.mp hk1
      have hk10 := zcl_lt hcl
      have hat := zws_at (ad := ad) (mm := mm) hs
      rw [zce_o (by omega)] at hat
      have hw := zcl_w hcl
      obtain ⟨ty0, hty, hnm, hty3⟩ := zcl_f hcl
      have hf := hfit TT CC NN hcl (ty0 pp) (hty pp hpN) (hty3 pp hpN)
      have hlen : (sh.set a (k, n', rs')).length = sh.length := List.length_set
      have htot : ztot (sh.set a (k, n', rs')) = ztot sh := by
        exact ztot_set hs
      have hset : ((a, (n' : Nat)) = (a, n')) := rfl
      have hfin : ∀ (H1 : Heap) (locs1 : List Loc), va_P D zCl ((zws ad sh mm).set a ((ad a).1, .inr (k, ((List.range n').map (zfv ad k rs (mm a))).set pp (zcv ad v')))) H1 → va_D A ((zws ad sh mm).set a ((ad a).1, .inr (k, ((List.range n').map (zfv ad k rs (mm a))).set pp (zcv ad v')))) → va_S A s.heap H1 locs1 → W p l e R s m args below meth c H1 locs1 (sh.length - sh0.length) (ztot sh - ztot sh0) Q (F0 m (pc + 3) lsR (t.map (zcv ad))) := by
        intro H1 locs1 e1 e2 e3
        have ez : (zws ad sh mm).set a ((ad a).1, .inr (k, ((List.range n').map (zfv ad k rs (mm a))).set pp (zcv ad v'))) = zws ad (sh.set a (k, n', rs')) mm' := by
          rw [zws_set rfl hla hmm, zce_o (by omega), zfs_set hv1 hv2]
        rw [ez] at e1 e2
        have hgo := hg.1 tys ad H1 locs1 lsR ⟨e1, e2, hI.2.2.1, e3, hwf, fun k' s' hk' h100 => ?_⟩ hps hL (fun v hv => by rw [hlen]; exact hls v hv) (fun v hv => by rw [hlen]; exact hst2 v hv)
        · rw [hlen, htot] at hgo
          exact hgo
        · rw [List.getElem?_set] at hk'
          split at hk'
          · rename_i ek
            subst ek
            cases hk'
            exact absurd h100 (by simp only; omega)
          · exact hI.2.2.2.2.2 k' s' hk' h100
      by_cases hq : q = 1
      · rw [if_pos hq] at hk
        simp only [Bool.and_eq_true, Bool.not_eq_true'] at hk
        exact va_putN (D := D) (ci := k) (v := zcv ad v') (ty := ty0 pp) (C := CC) (T := TT) (N := NN) (tys := tys) (ws := zws ad sh mm) hx hb hts hw.1 ty0 hty hnm hown hI.2.2.1 hI.1 hI.2.1 hI.2.2.2.1 a hat hcl pp hpN (va_Nw.use rfl (hnw _ (zLk_okN hk.1 rfl))) (fun _ h => h) hk.2 (hty pp hpN) hf.1 hf.2 (by simpa using hpn) hd hfin
      · rw [if_neg hq] at hk
        simp only [Bool.and_eq_true, Bool.or_eq_true, Bool.not_eq_true', decide_eq_true_eq] at hk
        cases hfi : (TT pp).2.2.2 with
        | false => exact va_put (D := D) (ci := k) (v := zcv ad v') (ty := ty0 pp) (C := CC) (T := TT) (N := NN) (tys := tys) (ws := zws ad sh mm) hx hb hts hw.1 ty0 hty hnm hown hI.2.2.1 hI.1 hI.2.1 hI.2.2.2.1 a hat hcl pp hpN (hts _ (zLk_ok hk.1 rfl)) (fun _ h => h) hfi (hty pp hpN) hf.1 hf.2 (by simpa using hpn) hd hfin
        | true =>
          rcases hk.2 with h0 | ⟨h0, h0'⟩
          · rw [hfi] at h0; cases h0
          · exact va_putF (D := D) (ci := k) (v := zcv ad v') (ty := ty0 pp) (C := CC) (T := TT) (N := NN) (tys := tys) (ws := zws ad sh mm) hx hb hts hw.1 ty0 hty hnm hown hI.2.2.1 hI.1 hI.2.1 hI.2.2.2.1 a hat hcl pp hpN (hts _ (zLk_ok hk.1 rfl)) (fun _ h => h) hfi (hin (Nat.eq_of_beq_eq_true h0)) h0' (hty pp hpN) hf.1 hf.2 (by simpa using hpn) hd hfin
  simp only [zs1] at hz
  split at hz
  · rename_i x a t
    obtain ⟨rx, hst⟩ := List.forall_mem_cons.mp hst
    obtain ⟨ra, hst⟩ := List.forall_mem_cons.mp hst
    obtain ⟨k, n', rs, hs, hz⟩ := zx_sh hz
    obtain ⟨hc1, hz⟩ := zx_cond hz
    simp only [Bool.and_eq_true] at hc1
    have hkr := Nat.eq_of_beq_eq_true hc1.1
    have hpn := Nat.blt_eq.mp hc1.2
    have hla : a < sh.length := (List.getElem?_eq_some_iff.mp hs).1
    have hgg : ¬ zft k pp = 2 → (zft k pp = 0 ∨ (zft k pp = 1 ∧ (x = 0 ∨ x = 1))) → zGG p l e R s m args below meth c Q i D A ad0 sh0 mm0 shF (pc + 3) ls t sh (zu mm a pp x) → W p l e R s m args below meth c H locs (sh.length - sh0.length) (ztot sh - ztot sh0) Q (F0 m pc lsR (zcv ad (.inl x) :: .ref (ad a).1 :: t.map (zcv ad))) := by
      intro h2 h01 hg
      have hself := zset_self hs
      refine key a k n' rs rs t (.inl x) (zu mm a pp x) hs hkr hpn hst ?_ ?_ ?_ (fun k' hk' => zu_ne hk') (by rw [hself]; exact hI.2.2.2.2.1.mm rx) (by rw [hself]; exact hP.mm (by have := hI.2.2.2.2.1.2.2; omega)) (by rw [hself]; exact hg)
      · intro TT CC NN hcl ty0 hp0 hf0
        unfold zft0 at hf0
        rcases h01 with h0 | ⟨h0, hx01⟩
        · rw [if_pos h0] at hf0
          rw [of_decide_eq_true hf0]
          exact ⟨rfl, rfl⟩
        · rw [if_neg (by omega), if_pos h0] at hf0
          rw [of_decide_eq_true hf0]
          exact zbool_n hx01
      · unfold zfv
        rw [if_neg h2]
        show Value.int (Int32.ofInt (zu mm a pp x a pp)) = _
        unfold zu
        rw [if_pos ⟨rfl, rfl⟩]
        rfl
      · intro j hj
        unfold zfv
        have : zu mm a pp x a j = mm a j := by
          unfold zu
          rw [if_neg (fun z => hj z.2)]
        rw [this]
    cases hz0 : Nat.beq (zft k pp) 0 with
    | true =>
      rw [hz0] at hz
      have e0 := Nat.eq_of_beq_eq_true hz0
      exact hgg (by omega) (Or.inl e0) hz
    | false =>
      rw [hz0] at hz
      obtain ⟨hz1, hz⟩ := zx_cond hz
      obtain ⟨h01, hz⟩ := zx_ite hz
      have e1 := Nat.eq_of_beq_eq_true hz1
      exact hgg (by omega) (Or.inr ⟨e1, h01⟩) hz
  · rename_i b a t
    obtain ⟨rb, hst⟩ := List.forall_mem_cons.mp hst
    obtain ⟨ra, hst⟩ := List.forall_mem_cons.mp hst
    obtain ⟨k, n', rs, hs, hz⟩ := zx_sh hz
    obtain ⟨hc1, hz⟩ := zx_cond hz
    simp only [Bool.and_eq_true] at hc1
    obtain ⟨⟨⟨hc1, hc2⟩, hc3⟩, hc4⟩ := hc1
    have rb2 := Nat.blt_eq.mp hc4
    have hkr := Nat.eq_of_beq_eq_true hc1
    have hpn := Nat.blt_eq.mp hc2
    have e2 := Nat.eq_of_beq_eq_true hc3
    have hla : a < sh.length := (List.getElem?_eq_some_iff.mp hs).1
    have hw1 := hI.2.2.2.2.1.1 a _ hs
    have hk10 : k < 100 := by
      subst hkr
      cases hcl : zCl[k]? with
      | none => rw [hcl] at hk; exact absurd hk (by simp)
      | some z => have := zcl_lt hcl; omega
    have hrl : rs.length = n' := (hw1.2.1 hk10).2
    refine key a k n' rs (rs.set pp (b + 1)) t (.inr (.inr b)) mm hs hkr hpn hst ?_ ?_ ?_ (fun _ _ => rfl) ?_ ?_ hz
    · intro TT CC NN hcl ty0 hp0 hf0
      unfold zft0 at hf0
      rw [if_neg (by omega), if_neg (by omega)] at hf0
      simp only [Bool.and_eq_true] at hf0
      cases ty0 <;> first | exact ⟨rfl, rfl⟩ | exact absurd hf0.2 (by simp)
    · unfold zfv zro
      rw [if_pos e2, List.getD_eq_getElem?_getD, List.getElem?_set, if_pos rfl, if_pos (by omega)]
      rfl
    · intro j hj
      have hgd : (rs.set pp (b + 1)).getD j 0 = rs.getD j 0 := by rw [List.getD_eq_getElem?_getD, List.getElem?_set, if_neg (fun z => hj z.symm), ← List.getD_eq_getElem?_getD]
      unfold zfv zro
      rw [hgd]
    · exact zWf.sq hI.2.2.2.2.1 hs rb2
    · exact ⟨by rw [List.length_set]; exact hP.1, by rw [ztot_set hs]; exact hP.2.1, hP.2.2.1, hP.2.2.2⟩
  · exact hz.elim
end ZSD
