section ZSD
variable {p : Program} {l : Launch} {e : Env} {R : Room} {s : State} {m : MethodId} {args : Array Value} {below : List Frame} {meth : Method} {c : Code} {Q : State → Prop}
variable {i d : Nat} {D : va_G} {A : Nat → Prop} {ad0 : Nat → Nat × ClassId} {sh0 : List zSh} {mm0 : zMm} {shF : List zSh}
theorem zws_upd {ad : Nat → Nat × ClassId} {sh : List zSh} {mm : zMm} {a k n : Nat} {rs : List Nat} {j : Nat} {x : Int} (hs : sh[a]? = some (k, n, rs)) (hk : k = 100 ∨ k = 101 ∨ k = 102) :
    (zws ad sh mm).set a ((ad a).1, .inl ((ad a).2, n, .inl (upd (fun j => Int32.ofInt (mm a j)) j (Int32.ofInt x)))) = zws ad sh (zu mm a j x) := by
  rw [zws_set (sh := sh) (mm := mm) (zset_self hs).symm (List.getElem?_eq_some_iff.mp hs).1 (fun k' hk' => zu_ne hk'), zce_i hk]
  congr 4
  congr 1
  congr 1
  funext j'
  unfold upd zu
  by_cases h : j' = j
  · rw [if_pos h, if_pos ⟨rfl, h⟩]
  · rw [if_neg h, if_neg (fun z => h z.2)]
theorem zInv.upd {sh : List zSh} {mm : zMm} {tys : List (ClassId × FieldType)} {ad : Nat → Nat × ClassId} {H H1 : Heap} {locs locs1 : List Loc} (hI : zInv s D A tys ad sh mm H locs) {a k n j : Nat} {rs : List Nat} {x : Int} (hs : sh[a]? = some (k, n, rs)) (hk : k = 100 ∨ k = 101 ∨ k = 102) (hx : zr32 x)
    (e1 : va_P D zCl ((zws ad sh mm).set a ((ad a).1, .inl ((ad a).2, n, .inl (upd (fun j => Int32.ofInt (mm a j)) j (Int32.ofInt x))))) H1) (e2 : va_D A ((zws ad sh mm).set a ((ad a).1, .inl ((ad a).2, n, .inl (upd (fun j => Int32.ofInt (mm a j)) j (Int32.ofInt x)))))) (e3 : va_S A s.heap H1 locs1) : zInv s D A tys ad sh (zu mm a j x) H1 locs1 := by
  rw [zws_upd hs hk] at e1 e2
  exact ⟨e1, e2, hI.2.2.1, e3, hI.2.2.2.2.1.mm hx, hI.2.2.2.2.2⟩
theorem zWf_n {sh : List zSh} {mm : zMm} (h : zWf sh mm) {a k n : Nat} {rs : List Nat} (hs : sh[a]? = some (k, n, rs)) (hk : 100 ≤ k) : n ≤ 4000 := (h.1 a _ hs).2.2.2.2 hk
theorem zext {sh : List zSh} {mm : zMm} {tys tys' : List (ClassId × FieldType)} {ad : Nat → Nat × ClassId} {H H1 : Heap} {locs : List Loc} (hI : zInv s D A tys ad sh mm H locs) (hP : zPs ad0 sh0 mm0 ad sh mm) {s0 : zSh} {q : Nat} {cA : ClassId} (hlt : sh.length < 900)
    (h0 : ∀ b ∈ s0.2.2, b = 0) (h1 : s0.1 < 100 → (zCl[s0.1]?).map (fun z => z.2.2) = some s0.2.1 ∧ s0.2.2.length = s0.2.1) (h2 : s0.1 = 103 → s0.2.2.length = s0.2.1) (h3 : s0.1 ≤ 103) (h4 : 100 ≤ s0.1 → s0.2.1 ≤ 4000)
    (hK' : va_K D zCl tys' s) (ht : ∀ (t0 : Nat) (z : ClassId × FieldType), tys[t0]? = some z → tys'[t0]? = some z) (ht0 : 100 ≤ s0.1 → ∃ t0 : Nat, tys'[t0]? = some (cA, zty s0.1)) {en : va_E} (hen : zce (fun k => if k = sh.length then (q, cA) else ad k) sh.length s0 (fun _ => 0) = en)
    (e1 : va_P D zCl (zws ad sh mm ++ [(q, en)]) H1) (e2 : va_D A (zws ad sh mm ++ [(q, en)])) (e3 : va_S A s.heap H1 locs) :
    zInv s D A tys' (fun k => if k = sh.length then (q, cA) else ad k) (sh ++ [s0]) (zn mm sh.length) H1 locs ∧ zPs ad0 sh0 mm0 (fun k => if k = sh.length then (q, cA) else ad k) (sh ++ [s0]) (zn mm sh.length) := by
  obtain ⟨i1, i2, i3, i4, i5, i6⟩ := hI
  have hz : zws (fun k => if k = sh.length then (q, cA) else ad k) (sh ++ [s0]) (zn mm sh.length) = zws ad sh mm ++ [(q, en)] := by
    rw [zws_app i5 (fun k hk => if_neg (by omega)), hen]
    simp
  refine ⟨⟨by rw [hz]; exact e1, by rw [hz]; exact e2, hK', e3, ⟨fun k s' hs' => ?_, fun k j => ?_, by simp; omega⟩, fun k s' hs' h100 => ?_⟩, ?_, ?_, fun k hk => ?_, fun k hk => ?_⟩
  · rw [List.getElem?_append] at hs'
    split at hs'
    · have := i5.1 k s' hs'
      exact ⟨fun b hb => by have := this.1 b hb; simp; omega, this.2⟩
    · obtain ⟨hk1, hk2⟩ := List.getElem?_eq_some_iff.mp hs'
      simp only [List.length_singleton] at hk1
      have : k - sh.length = 0 := by omega
      simp only [this, List.getElem_cons_zero] at hk2
      subst hk2
      exact ⟨fun b hb => by rw [h0 b hb]; exact Nat.zero_le _, h1, h2, h3, h4⟩
  · unfold zn
    split
    · exact zr_0
    · exact i5.2.1 k j
  · rw [List.getElem?_append] at hs'
    split at hs'
    · rename_i hk
      obtain ⟨t0, h⟩ := i6 k s' hs' h100
      exact ⟨t0, by dsimp only; rw [if_neg (by omega)]; exact ht _ _ h⟩
    · obtain ⟨hk1, hk2⟩ := List.getElem?_eq_some_iff.mp hs'
      simp only [List.length_singleton] at hk1
      have h44 : k - sh.length = 0 := by omega
      simp only [h44, List.getElem_cons_zero] at hk2
      subst hk2
      have h5 : k = sh.length := by omega
      obtain ⟨t0, h⟩ := ht0 h100
      exact ⟨t0, by dsimp only; rw [if_pos h5]; exact h⟩
  · have := hP.1
    simp
    omega
  · have := hP.2.1
    unfold ztot at this ⊢
    simp
    omega
  · have := hP.1
    dsimp only
    rw [if_neg (by omega)]
    exact hP.2.2.1 k hk
  · rw [← hP.2.2.2 k hk]
    funext j
    unfold zn
    rw [if_neg (by omega)]
theorem zsd_iaload {C : zC0} {len pp r : Nat} {q : Int} (C0 : zCtx p R s m args meth c i d D A ad0 sh0 mm0 shF) : zSd p l e R s m args below meth c Q i D A ad0 sh0 mm0 shF C (.iaload, len, pp, r, q) := by
  intro pc ls st sh mm hc hz tys ad H locs lsR hI hP hL hls hst
  obtain ⟨hx, hb, hml, hown, hts, hnw, hao, hA, hin, hR, hRc, hscr⟩ := C0
  have hk := zC_chk hc
  simp only [zchk, Bool.and_eq_true, Bool.or_eq_true] at hk
  obtain ⟨h1, hk⟩ := hk
  obtain rfl : len = 1 := Nat.eq_of_beq_eq_true h1
  have hd : decode (zBy i) pc = .ok (.iaload, 1) := zC_dec hc
  simp only [zs1] at hz
  cases hp1 : Nat.beq pp 1 with
  | true =>
    rw [hp1] at hz
    have e1 := Nat.eq_of_beq_eq_true hp1
    obtain ⟨b, L, xs, hX, hbl, hbA, hb1, hL0, hL1, hxs⟩ := hscr
    obtain ⟨a, j, t, rfl, hzA⟩ := zx_bir hz
    obtain ⟨hc1, hzB⟩ := zx_cond hzA
    obtain ⟨hj, hzC⟩ := zx_ite hzB
    have ea := Nat.eq_of_beq_eq_true hc1
    subst ea
    obtain ⟨rj, hst1⟩ := List.forall_mem_cons.mp hst
    obtain ⟨ra, hst2⟩ := List.forall_mem_cons.mp hst1
    have rj : zr32 j := rj
    have m8 : mm 998 0 = L := by rw [hP.2.2.2 998 (by decide)]; exact hL0
    have m9 : mm 999 = mm0 999 := hP.2.2.2 999 (by decide)
    have hjL : j.toNat < L := by have := hj.2; omega
    have eb : (ad 999).1 = b := by rw [hP.2.2.1 999 (Or.inr (by decide))]; exact hb1
    have hg := hzC.1 tys ad H locs lsR hI hP hL hls (List.forall_mem_cons.mpr ⟨hI.2.2.2.2.1.2.1 999 j.toNat, hst2⟩)
    show W p l e R s m args below meth c H locs _ _ Q (F0 m pc lsR (.int (Int32.ofInt j) :: .ref (ad 999).1 :: t.map (zcv ad)))
    rw [eb]
    refine va_sld (i := Int32.ofInt j) hx hb hX hbl hbA hI.2.2.2.1 (zo_in rj hj.1 (by have := hj.2; omega)) hd ?_
    rw [zo_nat rj hj.1]
    have : Int32.ofInt (mm 999 j.toNat) = xs j.toNat := by rw [m9, hxs _ hjL, Int32.ofInt_toInt]
    rw [← this]
    exact hg
  | false =>
    rw [hp1] at hz
    obtain ⟨a, j, t, rfl, hzA⟩ := zx_bir hz
    obtain ⟨k, n, rs, hs, hzB⟩ := zx_sh hzA
    obtain ⟨hc1, hzC⟩ := zx_cond hzB
    obtain ⟨hj, hzD⟩ := zx_ite hzC
    have ek := Nat.eq_of_beq_eq_true hc1
    subst ek
    clear hz hzA hzB hzC
    obtain ⟨rj, hst1⟩ := List.forall_mem_cons.mp hst
    obtain ⟨ra, hst2⟩ := List.forall_mem_cons.mp hst1
    have rj : zr32 j := rj
    obtain ⟨t0, ht0⟩ := hI.2.2.2.2.2 a _ hs (Nat.le_of_ble_eq_true rfl)
    have hat := zws_at (ad := ad) (mm := mm) hs
    rw [zce_i (Or.inl rfl)] at hat
    have hg := hzD.1 tys ad H locs lsR hI hP hL hls (List.forall_mem_cons.mpr ⟨hI.2.2.2.2.1.2.1 a j.toNat, hst2⟩)
    refine va_iald (D := D) (i := Int32.ofInt j) (ws := zws ad sh mm) hx hb hI.2.2.1 hI.1 a t0 hat ht0 (zo_in rj hj.1 hj.2) hd ?_
    rw [zo_nat rj hj.1]
    exact hg
theorem zsd_baload {C : zC0} {len pp r : Nat} {q : Int} (C0 : zCtx p R s m args meth c i d D A ad0 sh0 mm0 shF) : zSd p l e R s m args below meth c Q i D A ad0 sh0 mm0 shF C (.baload, len, pp, r, q) := by
  intro pc ls st sh mm hc hz tys ad H locs lsR hI hP hL hls hst
  obtain ⟨hx, hb, hml, hown, hts, hnw, hao, hA, hin, hR, hRc, hscr⟩ := C0
  have hk := zC_chk hc
  obtain rfl : len = 1 := Nat.eq_of_beq_eq_true hk
  have hd : decode (zBy i) pc = .ok (.baload, 1) := zC_dec hc
  obtain ⟨a, j, t, rfl, hzA⟩ := zx_bir hz
  obtain ⟨k, n, rs, hs, hzB⟩ := zx_sh hzA
  obtain ⟨hc1, hzC⟩ := zx_cond hzB
  obtain ⟨hj, hzD⟩ := zx_ite hzC
  simp only [Bool.or_eq_true] at hc1
  obtain ⟨rj, hst1⟩ := List.forall_mem_cons.mp hst
  obtain ⟨ra, hst2⟩ := List.forall_mem_cons.mp hst1
  have rj : zr32 j := rj
  have hat := zws_at (ad := ad) (mm := mm) hs
  have hg := hzD.1 tys ad H locs lsR hI hP hL hls (List.forall_mem_cons.mpr ⟨hI.2.2.2.2.1.2.1 a j.toNat, hst2⟩)
  rcases hc1 with h | h
  · have ek := Nat.eq_of_beq_eq_true h
    obtain ⟨t0, ht0⟩ := hI.2.2.2.2.2 a _ hs (by simp only; omega)
    rw [zce_i (Or.inr (Or.inl ek))] at hat
    simp only [ek, zty] at ht0
    refine va_zald (D := D) (i := Int32.ofInt j) (ws := zws ad sh mm) hx hb hI.2.2.1 hI.1 a t0 hat ht0 (zo_in rj hj.1 hj.2) hd ?_
    rw [zo_nat rj hj.1]
    exact hg
  · have ek := Nat.eq_of_beq_eq_true h
    obtain ⟨t0, ht0⟩ := hI.2.2.2.2.2 a _ hs (by simp only; omega)
    rw [zce_i (Or.inr (Or.inr ek))] at hat
    simp only [ek, zty] at ht0
    refine va_bald (D := D) (i := Int32.ofInt j) (ws := zws ad sh mm) hx hb hI.2.2.1 hI.1 a t0 hat ht0 (zo_in rj hj.1 hj.2) hd ?_
    rw [zo_nat rj hj.1]
    exact hg
theorem zsd_aaload {C : zC0} {len pp r : Nat} {q : Int} (C0 : zCtx p R s m args meth c i d D A ad0 sh0 mm0 shF) : zSd p l e R s m args below meth c Q i D A ad0 sh0 mm0 shF C (.aaload, len, pp, r, q) := by
  intro pc ls st sh mm hc hz tys ad H locs lsR hI hP hL hls hst
  obtain ⟨hx, hb, hml, hown, hts, hnw, hao, hA, hin, hR, hRc, hscr⟩ := C0
  have hk := zC_chk hc
  obtain rfl : len = 1 := Nat.eq_of_beq_eq_true hk
  have hd : decode (zBy i) pc = .ok (.aaload, 1) := zC_dec hc
  obtain ⟨a, j, t, rfl, hzA⟩ := zx_bir hz
  obtain ⟨k, n, rs, hs, hzB⟩ := zx_sh hzA
  obtain ⟨hc1, hzC⟩ := zx_cond hzB
  obtain ⟨hj, hzD⟩ := zx_ite hzC
  have ek := Nat.eq_of_beq_eq_true hc1
  subst ek
  clear hz hzA hzB hzC
  obtain ⟨rj, hst1⟩ := List.forall_mem_cons.mp hst
  obtain ⟨ra, hst2⟩ := List.forall_mem_cons.mp hst1
  have rj : zr32 j := rj
  split at hzD
  · rename_i b hb2
    have hbm := (hI.2.2.2.2.1.1 a _ hs).1 (b + 1) (List.mem_of_getElem? hb2)
    have hat := zws_at (ad := ad) (mm := mm) hs
    rw [zce_q] at hat
    obtain ⟨t0, ht0⟩ := hI.2.2.2.2.2 a _ hs (Nat.le_of_ble_eq_true rfl)
    have hg := hzD.1 tys ad H locs lsR hI hP hL hls (List.forall_mem_cons.mpr ⟨Or.inl (by omega), hst2⟩)
    refine va_aldq (D := D) (i := Int32.ofInt j) (C := "SlipWheel$Sheet") (ws := zws ad sh mm) hx hb hI.2.2.1 hI.1 a t0 hat ht0 (zo_in rj hj.1 hj.2) hd ?_
    rw [zo_nat rj hj.1]
    have : zro ad rs j.toNat = some (ad b).1 := by
      unfold zro
      rw [List.getD_eq_getElem?_getD, hb2]
      rfl
    rw [this]
    exact hg
  · exact hzD.elim
theorem zsd_iastore {C : zC0} {len pp r : Nat} {q : Int} (C0 : zCtx p R s m args meth c i d D A ad0 sh0 mm0 shF) : zSd p l e R s m args below meth c Q i D A ad0 sh0 mm0 shF C (.iastore, len, pp, r, q) := by
  intro pc ls st sh mm hc hz tys ad H locs lsR hI hP hL hls hst
  obtain ⟨hx, hb, hml, hown, hts, hnw, hao, hA, hin, hR, hRc, hscr⟩ := C0
  have hk := zC_chk hc
  obtain rfl : len = 1 := Nat.eq_of_beq_eq_true hk
  have hd : decode (zBy i) pc = .ok (.iastore, 1) := zC_dec hc
  obtain ⟨a, j, x, t, rfl, hzA⟩ := zx_biir hz
  obtain ⟨k, n, rs, hs, hzB⟩ := zx_sh hzA
  obtain ⟨hc1, hzC⟩ := zx_cond hzB
  obtain ⟨hj, hzD⟩ := zx_ite hzC
  have ek := Nat.eq_of_beq_eq_true hc1
  subst ek
  clear hz hzA hzB hzC
  obtain ⟨rx, hst0⟩ := List.forall_mem_cons.mp hst
  obtain ⟨rj, hst1⟩ := List.forall_mem_cons.mp hst0
  obtain ⟨ra, hst2⟩ := List.forall_mem_cons.mp hst1
  have rj : zr32 j := rj
  have rx : zr32 x := rx
  obtain ⟨t0, ht0⟩ := hI.2.2.2.2.2 a _ hs (Nat.le_of_ble_eq_true rfl)
  have hat := zws_at (ad := ad) (mm := mm) hs
  rw [zce_i (Or.inl rfl)] at hat
  have hla : a < sh.length := (List.getElem?_eq_some_iff.mp hs).1
  refine va_iast (D := D) (i := Int32.ofInt j) (x := Int32.ofInt x) (ws := zws ad sh mm) hx hb hI.2.2.1 hI.1 hI.2.1 hI.2.2.2.1 a t0 hat ht0 (zo_in rj hj.1 hj.2) hd (fun H1 locs1 e1 e2 e3 => ?_)
  rw [zo_nat rj hj.1] at e1 e2
  exact hzD.1 tys ad H1 locs1 lsR (hI.upd hs (Or.inl rfl) rx e1 e2 e3) (hP.mm (by have := hI.2.2.2.2.1.2.2; omega)) hL hls hst2
theorem zsd_bastore {C : zC0} {len pp r : Nat} {q : Int} (C0 : zCtx p R s m args meth c i d D A ad0 sh0 mm0 shF) : zSd p l e R s m args below meth c Q i D A ad0 sh0 mm0 shF C (.bastore, len, pp, r, q) := by
  intro pc ls st sh mm hc hz tys ad H locs lsR hI hP hL hls hst
  obtain ⟨hx, hb, hml, hown, hts, hnw, hao, hA, hin, hR, hRc, hscr⟩ := C0
  have hk := zC_chk hc
  obtain rfl : len = 1 := Nat.eq_of_beq_eq_true hk
  have hd : decode (zBy i) pc = .ok (.bastore, 1) := zC_dec hc
  obtain ⟨a, j, x, t, rfl, hzA⟩ := zx_biir hz
  obtain ⟨k, n, rs, hs, hzB⟩ := zx_sh hzA
  obtain ⟨rx, hst0⟩ := List.forall_mem_cons.mp hst
  obtain ⟨rj, hst1⟩ := List.forall_mem_cons.mp hst0
  obtain ⟨ra, hst2⟩ := List.forall_mem_cons.mp hst1
  have rj : zr32 j := rj
  have rx : zr32 x := rx
  have hat := zws_at (ad := ad) (mm := mm) hs
  have hla : a < sh.length := (List.getElem?_eq_some_iff.mp hs).1
  have h900 : a < 900 := by have := hI.2.2.2.2.1.2.2; omega
  clear hz hzA
  cases hb1 : Nat.beq k 101 with
  | true =>
    simp only [hb1, cond_true] at hzB
    have ek := Nat.eq_of_beq_eq_true hb1
    obtain ⟨⟨hj, h01⟩, hzD⟩ := zx_ite hzB
    obtain ⟨t0, ht0⟩ := hI.2.2.2.2.2 a _ hs (by simp only; omega)
    rw [zce_i (Or.inr (Or.inl ek))] at hat
    simp only [ek, zty] at ht0
    refine va_zast (D := D) (i := Int32.ofInt j) (x := Int32.ofInt x) (ws := zws ad sh mm) hx hb hI.2.2.1 hI.1 hI.2.1 hI.2.2.2.1 a t0 hat ht0 (zo_in rj hj.1 hj.2) hd (fun H1 locs1 e1 e2 e3 => ?_)
    have hn : vp_nar .boolean (Int32.ofInt x) = Int32.ofInt x := by
      rcases h01 with rfl | rfl <;> rfl
    rw [zo_nat rj hj.1, hn] at e1 e2
    exact hzD.1 tys ad H1 locs1 lsR (hI.upd hs (Or.inr (Or.inl ek)) rx e1 e2 e3) (hP.mm h900) hL hls hst2
  | false =>
    simp only [hb1, cond_false] at hzB
    obtain ⟨hc2, hzC⟩ := zx_cond hzB
    have ek := Nat.eq_of_beq_eq_true hc2
    obtain ⟨hj, hzD⟩ := zx_ite hzC
    obtain ⟨t0, ht0⟩ := hI.2.2.2.2.2 a _ hs (by simp only; omega)
    rw [zce_i (Or.inr (Or.inr ek))] at hat
    simp only [ek, zty] at ht0
    refine va_bast (D := D) (i := Int32.ofInt j) (x := Int32.ofInt x) (ws := zws ad sh mm) hx hb hI.2.2.1 hI.1 hI.2.1 hI.2.2.2.1 a t0 hat ht0 (zo_in rj hj.1 hj.2) hd (fun H1 locs1 e1 e2 e3 => ?_)
    have hn : vp_nar .byte (Int32.ofInt x) = Int32.ofInt (zi2b x) := (Int32.ofInt_toInt _).symm
    rw [zo_nat rj hj.1, hn] at e1 e2
    exact hzD.1 tys ad H1 locs1 lsR (hI.upd hs (Or.inr (Or.inr ek)) (zr_i _) e1 e2 e3) (hP.mm h900) hL hls hst2
theorem zsd_aastore {C : zC0} {len pp r : Nat} {q : Int} (C0 : zCtx p R s m args meth c i d D A ad0 sh0 mm0 shF) : zSd p l e R s m args below meth c Q i D A ad0 sh0 mm0 shF C (.aastore, len, pp, r, q) := by
  intro pc ls st sh mm hc hz tys ad H locs lsR hI hP hL hls hst
  obtain ⟨hx, hb, hml, hown, hts, hnw, hao, hA, hin, hR, hRc, hscr⟩ := C0
  have hk := zC_chk hc
  obtain rfl : len = 1 := Nat.eq_of_beq_eq_true hk
  have hd : decode (zBy i) pc = .ok (.aastore, 1) := zC_dec hc
  simp only [zs1] at hz
  split at hz
  · rename_i b j a t
    obtain ⟨k, n, rs, hs, hzB⟩ := zx_sh hz
    obtain ⟨kb, nb, rsb, hsb, hzC⟩ := zx_sh hzB
    obtain ⟨hc1, hzD⟩ := zx_cond hzC
    obtain ⟨hj, hzE⟩ := zx_ite hzD
    simp only [Bool.and_eq_true] at hc1
    have ek := Nat.eq_of_beq_eq_true hc1.1
    have ekb := Nat.eq_of_beq_eq_true hc1.2
    subst ek
    subst ekb
    clear hz hzB hzC hzD
    obtain ⟨rb, hst0⟩ := List.forall_mem_cons.mp hst
    obtain ⟨rj, hst1⟩ := List.forall_mem_cons.mp hst0
    obtain ⟨ra, hst2⟩ := List.forall_mem_cons.mp hst1
    have rj : zr32 j := rj
    have hla : a < sh.length := (List.getElem?_eq_some_iff.mp hs).1
    have hlb : b < sh.length := (List.getElem?_eq_some_iff.mp hsb).1
    have hrl : rs.length = n := (hI.2.2.2.2.1.1 a _ hs).2.2.1 rfl
    obtain ⟨t0, ht0⟩ := hI.2.2.2.2.2 a _ hs (Nat.le_of_ble_eq_true rfl)
    have hat := zws_at (ad := ad) (mm := mm) hs
    rw [zce_q] at hat
    have hbt := zws_at (ad := ad) (mm := mm) hsb
    rw [zce_o (by decide)] at hbt
    refine va_astq (D := D) (i := Int32.ofInt j) (r := (RX4, TX4, 3)) (ws := zws ad sh mm) hx hb hI.2.2.1 hI.1 hI.2.1 hI.2.2.2.1 a t0 b 4 hat ht0 hbt rfl (zo_in rj hj.1 hj.2) hd (fun H1 locs1 e1 e2 e3 => ?_)
    have ez : (zws ad sh mm).set a ((ad a).1, .inl ((ad a).2, n, .inr (.inr (.inr (.inr (va_up (zro ad rs) (Int32.ofInt j).toNatClampNeg (some (ad b).1))))))) = zws ad (sh.set a (103, n, rs.set j.toNat (b + 1))) mm := by
      have hfun : va_up (zro ad rs) j.toNat (some (ad b).1) = zro ad (rs.set j.toNat (b + 1)) := by
       funext j'
       unfold va_up zro
       rw [List.getD_eq_getElem?_getD, List.getD_eq_getElem?_getD, List.getElem?_set]
       by_cases h : j' = j.toNat
       · rw [if_pos h, if_pos h.symm, if_pos (by omega)]
         rfl
       · rw [if_neg h, if_neg (fun q => h q.symm)]
      rw [zws_set rfl hla (fun _ _ => rfl), zce_q, zo_nat rj hj.1, hfun]
    rw [ez] at e1 e2
    have hg := hzE.1 tys ad H1 locs1 lsR ⟨e1, e2, hI.2.2.1, e3, zWf.sq hI.2.2.2.2.1 hs hlb, fun k' s' hk' h100 => ?_⟩ ⟨by rw [List.length_set]; exact hP.1, by rw [ztot_set hs]; exact hP.2.1, hP.2.2.1, hP.2.2.2⟩ hL (fun v hv => by rw [List.length_set]; exact hls v hv) (fun v hv => by rw [List.length_set]; exact hst2 v hv)
    · rw [List.length_set, ztot_set hs] at hg
      exact hg
    · rw [List.getElem?_set] at hk'
      split at hk'
      · rename_i ek
        subst ek
        cases hk'
        exact ⟨t0, ht0⟩
      · exact hI.2.2.2.2.2 k' s' hk' h100
  · exact hz.elim
theorem zsd_arraylength {C : zC0} {len pp r : Nat} {q : Int} (C0 : zCtx p R s m args meth c i d D A ad0 sh0 mm0 shF) : zSd p l e R s m args below meth c Q i D A ad0 sh0 mm0 shF C (.arraylength, len, pp, r, q) := by
  intro pc ls st sh mm hc hz tys ad H locs lsR hI hP hL hls hst
  obtain ⟨hx, hb, hml, hown, hts, hnw, hao, hA, hin, hR, hRc, hscr⟩ := C0
  have hk := zC_chk hc
  simp only [zchk, Bool.and_eq_true, Bool.or_eq_true] at hk
  obtain ⟨h1, hk⟩ := hk
  obtain rfl : len = 1 := Nat.eq_of_beq_eq_true h1
  have hd : decode (zBy i) pc = .ok (.arraylength, 1) := zC_dec hc
  simp only [zs1] at hz
  cases hp1 : Nat.beq pp 1 with
  | true =>
    rw [hp1] at hz
    have e1 := Nat.eq_of_beq_eq_true hp1
    obtain ⟨b, L, xs, hX, hbl, hbA, hb1, hL0, hL1, hxs⟩ := hscr
    obtain ⟨a, t, rfl, hzA⟩ := zx_br hz
    obtain ⟨hc1, hzB⟩ := zx_cond hzA
    have ea := Nat.eq_of_beq_eq_true hc1
    subst ea
    obtain ⟨ra, hst2⟩ := List.forall_mem_cons.mp hst
    have m8 : mm 998 0 = L := by rw [hP.2.2.2 998 (by decide)]; exact hL0
    have eb : (ad 999).1 = b := by rw [hP.2.2.1 999 (Or.inr (by decide))]; exact hb1
    have hg := hzB.1 tys ad H locs lsR hI hP hL hls (List.forall_mem_cons.mpr ⟨hI.2.2.2.2.1.2.1 998 0, hst2⟩)
    show W p l e R s m args below meth c H locs _ _ Q (F0 m pc lsR (.ref (ad 999).1 :: t.map (zcv ad)))
    rw [eb]
    refine va_slen hx hb hX hbl hbA hI.2.2.2.1 hd ?_
    rw [show Int32.ofNat L = Int32.ofInt (mm 998 0) by rw [m8, Int32.ofInt_eq_ofNat]]
    exact hg
  | false =>
    rw [hp1] at hz
    obtain ⟨a, t, rfl, hzA⟩ := zx_br hz
    obtain ⟨k, n, rs, hs, hzB⟩ := zx_sh hzA
    obtain ⟨hc1, hzC⟩ := zx_cond hzB
    simp only [Bool.and_eq_true] at hc1
    have k1 := Nat.le_of_ble_eq_true hc1.1
    have k2 := Nat.le_of_ble_eq_true hc1.2
    obtain ⟨ra, hst2⟩ := List.forall_mem_cons.mp hst
    obtain ⟨t0, ht0⟩ := hI.2.2.2.2.2 a _ hs k1
    have hat := zws_at (ad := ad) (mm := mm) hs
    have hn : n ≤ 4000 := zWf_n hI.2.2.2.2.1 hs k1
    have hg := hzC.1 tys ad H locs lsR hI hP hL hls (List.forall_mem_cons.mpr ⟨⟨by omega, by omega⟩, hst2⟩)
    have hv : ∀ z : (Nat → Int32) ⊕ (Nat → Int64) ⊕ (Nat → UInt32) ⊕ (Nat → UInt64) ⊕ (Nat → Option Nat), Int32.ofNat ((n, z) : vp_A).1 = Int32.ofInt n := fun z => (Int32.ofInt_eq_ofNat).symm
    by_cases h3 : k = 103
    · subst h3
      rw [zce_q] at hat
      exact va_alen (D := D) (ws := zws ad sh mm) hx hb hI.2.2.1 hI.1 a t0 hat ht0 (hv _) hd hg
    · rw [zce_i (by omega)] at hat
      exact va_alen (D := D) (ws := zws ad sh mm) hx hb hI.2.2.1 hI.1 a t0 hat ht0 (hv _) hd hg
end ZSD
