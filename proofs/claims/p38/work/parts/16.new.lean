section ZSD
variable {p : Program} {l : Launch} {e : Env} {R : Room} {s : State} {m : MethodId} {args : Array Value} {below : List Frame} {meth : Method} {c : Code} {Q : State → Prop}
variable {i d : Nat} {D : va_G} {A : Nat → Prop} {ad0 : Nat → Nat × ClassId} {sh0 : List zSh} {mm0 : zMm} {shF : List zSh}
theorem zro_0 (ad : Nat → Nat × ClassId) (n : Nat) : zro ad (List.replicate n 0) = fun _ => none := by
  funext j
  unfold zro
  have : (List.replicate n 0).getD j 0 = 0 := by
    rw [List.getD_eq_getElem?_getD, List.getElem?_replicate]
    split <;> rfl
  rw [this]
theorem zpush {sh : List zSh} {mm : zMm} {tys' : List (ClassId × FieldType)} {ad : Nat → Nat × ClassId} {H1 : Heap} {locs : List Loc} {pc' : Nat} {ls : zLs} {t : List zV} {s0 : zSh} {q : Nat} {cA : ClassId} {lsR : Array Slot} (hg : zGG p l e R s m args below meth c Q i D A ad0 sh0 mm0 shF pc' ls (.inr (.inr sh.length) :: t) (sh ++ [s0]) (zn mm sh.length)) (hlt : sh.length < 900) (hP : zPs ad0 sh0 mm0 ad sh mm) (hL : zLc ad (zml i) ls lsR) (hls : ∀ v, some v ∈ ls → zrg sh.length v) (hst : ∀ v ∈ t, zrg sh.length v)
    (hext : zInv s D A tys' (fun k => if k = sh.length then (q, cA) else ad k) (sh ++ [s0]) (zn mm sh.length) H1 locs ∧ zPs ad0 sh0 mm0 (fun k => if k = sh.length then (q, cA) else ad k) (sh ++ [s0]) (zn mm sh.length)) :
    W p l e R s m args below meth c H1 locs (sh.length - sh0.length + 1) (ztot sh - ztot sh0 + s0.2.1) Q (F0 m pc' lsR (.ref q :: t.map (zcv ad))) := by
  have hd : ∀ k, k < sh.length ∨ 900 ≤ k → (fun k => if k = sh.length then (q, cA) else ad k) k = ad k := fun k hk => if_neg (by omega)
  have hlen : sh.length ≤ (sh ++ [s0]).length := by simp
  have h := hg.1 tys' _ H1 locs lsR hext.1 hext.2 (hL.cong hls hd) (fun v hv => zrg_mono hlen (hls v hv)) (List.forall_mem_cons.mpr ⟨Or.inl (by simp), fun v hv => zrg_mono hlen (hst v hv)⟩)
  have e1 : (t.map (zcv (fun k => if k = sh.length then (q, cA) else ad k))) = t.map (zcv ad) := List.map_congr_left fun v hv => zcv_cong (hst v hv) hd
  rw [List.map_cons, e1] at h
  have e2 : zcv (fun k => if k = sh.length then (q, cA) else ad k) (.inr (.inr sh.length)) = .ref q := by
    show Value.ref (if sh.length = sh.length then (q, cA) else ad sh.length).1 = .ref q
    rw [if_pos rfl]
  rw [e2] at h
  have h1 := hP.1
  have h2 := hP.2.1
  refine W.cs ?_ ?_ h
  · simp
    omega
  · unfold ztot at h2 ⊢
    simp
    omega
theorem zcells (C0 : zCtx p R s m args meth c i d D A ad0 sh0 mm0 shF) {sh : List zSh} {mm : zMm} {s0 : zSh} {pc' : Nat} {ls : zLs} {st : List zV} (hg : zGG p l e R s m args below meth c Q i D A ad0 sh0 mm0 shF pc' ls st (sh ++ [s0]) mm) (h1 : sh0.length ≤ sh.length) (h2 : ztot sh0 ≤ ztot sh) : sh.length - sh0.length + 1 ≤ R.cells ∧ ztot sh - ztot sh0 + s0.2.1 ≤ R.slots := by
  obtain ⟨hx, hb, hml, hown, hts, hnw, hao, hA, hin, hR, hRc, hscr⟩ := C0
  have h3 := hg.2.1
  have h4 := hg.2.2
  unfold ztot at *
  simp at h3 h4
  constructor
  · have := hRc.1
    omega
  · have := hRc.2
    omega
theorem zsd_new {C : zC0} {len pp r : Nat} {q : Int} {n : Nat} (C0 : zCtx p R s m args meth c i d D A ad0 sh0 mm0 shF) : zSd p l e R s m args below meth c Q i D A ad0 sh0 mm0 shF C (.new n, len, pp, r, q) := by
  intro pc ls st sh mm hc hz tys ad H locs lsR hI hP hL hls hst
  have C0' := C0
  obtain ⟨hx, hb, hml, hown, hts, hnw, hao, hA, hin, hR, hRc, hscr⟩ := C0
  have hk := zC_chk hc
  obtain ⟨hlt, hg⟩ := zx_cond hz
  have hlt := Nat.blt_eq.mp hlt
  simp only [zchk, Bool.and_eq_true] at hk
  obtain ⟨h1, hk⟩ := hk
  obtain rfl : len = 3 := Nat.eq_of_beq_eq_true h1
  have hd : decode (zBy i) pc = .ok (.new n, 3) := zC_dec hc
  cases hcl : zCl[r]? with
  | none => rw [hcl] at hk; exact absurd hk (by simp)
  | some z =>
    obtain ⟨CC, TT, NN⟩ := z
    rw [hcl] at hk
    simp only [Bool.and_eq_true] at hk
    have ep := Nat.eq_of_beq_eq_true hk.1
    subst ep
    have hr10 := zcl_lt hcl
    have hw := zcl_w hcl
    obtain ⟨ty0, hty, hnm, hty3⟩ := zcl_f hcl
    have hcs := zcells C0' hg hP.1 hP.2.1
    refine va_new (D := D) (ci := r) (fs := (List.range pp).map (fun j => if zft r j = 2 then Value.null else .int 0)) (C := CC) (T := TT) (N := pp) (tys := tys) (ws := zws ad sh mm) hx hb hts hw.1 ty0 hty hown (hts _ (zLk_ok hk.2 rfl)) (hts _ hw.2.1) (hts _ hw.2.2.1) hI.2.2.1 hI.1 hI.2.1 hI.2.2.2.1 hA hcl (fun j hj => ?_) hcs.1 hcs.2 hd (fun q0 H1 e1 e2 e3 => ?_)
    · have h3 := hty3 j hj
      unfold vp_V
      rw [List.getD_eq_getElem?_getD, zfs_at hj]
      simp only [Option.getD_some]
      unfold zft0 at h3
      by_cases h20 : zft r j = 0
      · rw [if_pos h20] at h3
        rw [of_decide_eq_true h3, if_neg (by omega)]
        rfl
      · rw [if_neg h20] at h3
        by_cases h21 : zft r j = 1
        · rw [if_pos h21] at h3
          rw [of_decide_eq_true h3, if_neg (by omega)]
          rfl
        · rw [if_neg h21] at h3
          simp only [Bool.and_eq_true] at h3
          rw [if_pos (Nat.eq_of_beq_eq_true h3.1)]
          cases hh : ty0 j <;> rw [hh] at h3 <;> first | rfl | exact absurd h3.2 (by simp)
    · refine zpush hg hlt hP hL hls hst (zext (q := q0) (cA := (ad 0).2) hI hP hlt ?_ ?_ ?_ ?_ ?_ hI.2.2.1 (fun _ _ h => h) ?_ ?_ e1 e2 e3)
      · intro b hb2
        exact (List.mem_replicate.mp hb2).2
      · intro _
        exact ⟨by rw [hcl]; rfl, List.length_replicate⟩
      · intro _
        exact List.length_replicate
      · simp only
        omega
      · simp only
        omega
      · simp only
        omega
      · rw [zce_o (by omega)]
        congr 2
        apply List.map_congr_left
        intro j hj
        unfold zfv
        rw [zro_0]
        rfl
theorem zsd_newarray {C : zC0} {len pp r : Nat} {q : Int} {ta : ArrayType} (C0 : zCtx p R s m args meth c i d D A ad0 sh0 mm0 shF) : zSd p l e R s m args below meth c Q i D A ad0 sh0 mm0 shF C (.newarray ta, len, pp, r, q) := by
  intro pc ls st sh mm hc hz tys ad H locs lsR hI hP hL hls hst
  have C0' := C0
  obtain ⟨hx, hb, hml, hown, hts, hnw, hao, hA, hin, hR, hRc, hscr⟩ := C0
  have hk := zC_chk hc
  simp only [zchk, Bool.and_eq_true] at hk
  obtain rfl : len = 2 := Nat.eq_of_beq_eq_true hk.1
  have hd : decode (zBy i) pc = .ok (.newarray ta, 2) := zC_dec hc
  obtain ⟨x, t, rfl, hzA⟩ := zx_b1 hz
  obtain ⟨hlt, hzB⟩ := zx_cond hzA
  have hlt := Nat.blt_eq.mp hlt
  obtain ⟨hx0, hzC⟩ := zx_ite hzB
  obtain ⟨rx, hst1⟩ := List.forall_mem_cons.mp hst
  have rx : zr32 x := rx
  clear hz hzA hzB
  have key : ∀ (ty : FieldType) (kn : Nat), newarray.typeOf ta = ty → (kn = 100 ∨ kn = 101 ∨ kn = 102) → zty kn = ty → defaultValue ty = .int 0 → componentBytes ty ≤ 8 → zGG p l e R s m args below meth c Q i D A ad0 sh0 mm0 shF (pc + 2) ls (.inr (.inr sh.length) :: t) (sh ++ [(kn, x.toNat, [])]) (zn mm sh.length) → W p l e R s m args below meth c H locs (sh.length - sh0.length) (ztot sh - ztot sh0) Q (F0 m pc lsR ((.inl x :: t : List zV).map (zcv ad))) := by
    intro ty kn hty hkn hzty hdef hcb hg
    have hcs := zcells C0' hg hP.1 hP.2.1
    have hk2 : Cond.arrayClass (newarray.typeOf ta) ∈ zWS := zWS_in (zAt_ok hk.2) rfl
    refine va_newa (D := D) (atype := ta) (ty := ty) (N' := x.toNat) (a0 := (x.toNat, .inl (fun _ => 0))) (tys := tys) (ws := zws ad sh mm) (n := Int32.ofInt x) hx hb (hts _ hk2) hty hI.2.2.1 hI.1 hI.2.1 hI.2.2.2.1 hA (fun cA => by rw [hdef]; rfl) (fun q0 => ?_) (zo_nat rx hx0.1) ?_ hcs.1 hcs.2 hd (fun q0 cA H1 k1 e1 e2 e3 => ?_)
    · have := (zo_lt rx zr_0).mp q0
      omega
    · have h5 : x.toNat ≤ 4000 := by omega
      exact Nat.le_trans (Nat.mul_le_mul h5 hcb) (by decide)
    · refine zpush hg hlt hP hL hls hst1 (zext (q := q0) (cA := cA) hI hP hlt (fun b hb2 => absurd hb2 List.not_mem_nil) (fun q1 => by simp only at q1; omega) (fun q1 => by simp only at q1; omega) (by simp only; omega) (fun _ => by simp only; omega) k1 ?_ (fun _ => ⟨tys.length, ?_⟩) ?_ e1 e2 e3)
      · intro t0 z hz0
        rw [List.getElem?_append_left (List.getElem?_eq_some_iff.mp hz0).1]
        exact hz0
      · rw [List.getElem?_append_right (Nat.le_refl _), Nat.sub_self, ← hzty]
        rfl
      · rw [zce_i hkn, if_pos rfl]
        rfl
  cases ta with
  | int => exact key .int 100 rfl (Or.inl rfl) rfl rfl (by decide) hzC
  | boolean => exact key .boolean 101 rfl (Or.inr (Or.inl rfl)) rfl rfl (by decide) hzC
  | byte => exact key .byte 102 rfl (Or.inr (Or.inr rfl)) rfl rfl (by decide) hzC
  | char => exact hzC.elim
  | float => exact hzC.elim
  | double => exact hzC.elim
  | short => exact hzC.elim
  | long => exact hzC.elim
theorem zsd_anewarray {C : zC0} {len pp r : Nat} {q : Int} {n : Nat} (C0 : zCtx p R s m args meth c i d D A ad0 sh0 mm0 shF) : zSd p l e R s m args below meth c Q i D A ad0 sh0 mm0 shF C (.anewarray n, len, pp, r, q) := by
  intro pc ls st sh mm hc hz tys ad H locs lsR hI hP hL hls hst
  have C0' := C0
  obtain ⟨hx, hb, hml, hown, hts, hnw, hao, hA, hin, hR, hRc, hscr⟩ := C0
  have hk := zC_chk hc
  simp only [zchk, Bool.and_eq_true] at hk
  obtain rfl : len = 3 := Nat.eq_of_beq_eq_true hk.1
  have hd : decode (zBy i) pc = .ok (.anewarray n, 3) := zC_dec hc
  obtain ⟨x, t, rfl, hzA⟩ := zx_b1 hz
  obtain ⟨hlt, hzB⟩ := zx_cond hzA
  have hlt := Nat.blt_eq.mp hlt
  obtain ⟨hx0, hg⟩ := zx_ite hzB
  obtain ⟨rx, hst1⟩ := List.forall_mem_cons.mp hst
  have rx : zr32 x := rx
  have hcs := zcells C0' hg hP.1 hP.2.1
  refine va_newq (D := D) (C := "SlipWheel$Sheet") (N' := x.toNat) (tys := tys) (ws := zws ad sh mm) (n := Int32.ofInt x) hx hb hown (hts _ (zLk_ok hk.2 rfl)) hao hI.2.2.1 hI.1 hI.2.1 hI.2.2.2.1 hA (fun q0 => ?_) (zo_nat rx hx0.1) ?_ hcs.1 hcs.2 hd (fun q0 cA H1 k1 e1 e2 e3 => ?_)
  · have := (zo_lt rx zr_0).mp q0
    omega
  · have h5 : x.toNat ≤ 4000 := by omega
    omega
  · refine zpush hg hlt hP hL hls hst1 (zext (q := q0) (cA := cA) hI hP hlt (fun b hb2 => (List.mem_replicate.mp hb2).2) (fun q1 => by simp only at q1; omega) (fun _ => List.length_replicate) (by simp only; omega) (fun _ => by simp only; omega) k1 ?_ (fun _ => ⟨tys.length, ?_⟩) ?_ e1 e2 e3)
    · intro t0 z hz0
      rw [List.getElem?_append_left (List.getElem?_eq_some_iff.mp hz0).1]
      exact hz0
    · rw [List.getElem?_append_right (Nat.le_refl _), Nat.sub_self]
      rfl
    · rw [zce_q, zro_0, if_pos rfl]
end ZSD
