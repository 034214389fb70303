theorem zgood {ws : List Cond} (h : ∀ w ∈ ws, w ∈ zWS) : GoodIn zWS ws := fun w hw => ⟨h w hw, good_of_word (List.mem_filter.mp (h w hw)).2⟩
def zwj (j : Nat) : List Cond := Cond.code (zNm j) (zBy j) (zml j) (zRt j) :: zWS
theorem zwj_in {j : Nat} (h : j < 92) : ∀ w ∈ zwj j, w ∈ zWS := fun w hw => (List.mem_cons.mp hw).elim (fun e => e ▸ zWS_in (zcode_in h) rfl) id
/-- a callee's world at its start -/
def zB0 (D : va_G) (tys : List (ClassId × FieldType)) (ad : Nat → Nat × ClassId) (sh : List zSh) (mm : zMm) (sz : Nat) (U : State) : Prop :=
  U.heap.size = sz ∧ va_P D zCl (zws ad sh mm) U.heap ∧ va_K D zCl tys U ∧ va_D (fun _ => True) (zws ad sh mm) ∧ (∀ w ∈ zNst, va_Nw w U) ∧ va_AO "SlipWheel$Sheet" U ∧ zScr (va_A (zws ad sh mm) sz) ad mm U
/-- and at its end -/
def zQ0 (D : va_G) (ad : Nat → Nat × ClassId) (sh : List zSh) (mm : zMm) (sz : Nat) (v : Option zV) (sh' : List zSh) (mm' : zMm) : Array Value → State → Outcome → State → Prop := fun _ st o t =>
  (∃ (tys' : List (ClassId × FieldType)) (ad' : Nat → Nat × ClassId), o = .returned (v.map (zcv ad')) ∧ va_P D zCl (zws ad' sh' mm') t.heap ∧ va_K D zCl tys' t ∧ va_D (va_A (zws ad sh mm) sz) (zws ad' sh' mm') ∧ zWf sh' mm' ∧ zTy tys' ad' sh' ∧ (∀ k, k < sh.length ∨ 900 ≤ k → ad' k = ad k) ∧ (∀ k, 900 ≤ k → mm' k = mm k) ∧ (∀ x, v = some x → zrg sh'.length x)) ∧ va_F (va_A (zws ad sh mm) sz) st t
/-- what the callees' contracts are -/
def zMt (l : Launch) (d : Nat) (C : zC0) : Prop := ∀ j as sh mm v sh' mm', j < 92 → C j as sh mm = some (v, sh', mm') → (sh.length ≤ sh'.length ∧ ztot sh ≤ ztot sh') ∧
  ∀ (D : va_G) (tys : List (ClassId × FieldType)) (ad : Nat → Nat × ClassId) (sz : Nat), zWf sh mm → zTy tys ad sh → (∀ a ∈ as, zrg sh.length a) →
    Met l (zNm j) (zwj j) ({ frames := d, cells := sh'.length - sh.length, slots := ztot sh' - ztot sh, locals := 40 * d }) (va_Pc (as.map (zcv ad)) (zB0 D tys ad sh mm sz)) (zQ0 D ad sh mm sz v sh' mm') (sh'.length - sh.length) (ztot sh' - ztot sh) (va_A (zws ad sh mm) sz)
theorem zNst_warm {w : Cond} (hw : w ∈ zNst) {s U : State} (hW : s.WarmedH U.vm) (h : va_Nw w s) : va_Nw w U := by
  have h1 := (List.mem_filter.mp hw).2
  unfold zisN at h1
  split at h1
  · exact va_Nw.warmF hW h
  · exact va_Nw.warmM hW h
  · cases h1
theorem zNst_same {w : Cond} (hw : w ∈ zNst) {u U : State} (hW : u.vm = U.vm) (h : va_Nw w u) : va_Nw w U := by
  have h1 := (List.mem_filter.mp hw).2
  unfold zisN at h1
  split at h1
  · exact va_Nw.same rfl hW h
  · exact va_Nw.same rfl hW h
  · cases h1
theorem zB0_blind (av : List Value) (D : va_G) (tys : List (ClassId × FieldType)) (ad : Nat → Nat × ClassId) (sh : List zSh) (mm : zMm) (sz : Nat) : FrameBlind (va_Pc av (zB0 D tys ad sh mm sz)) := by
  intro a U g mk q
  obtain ⟨q0, q1, q2, q3, q4, q5, q6, b, L, xs, x1, x2⟩ := q
  exact ⟨q0, q1, q2, va_K.moved (u := U) (U := U.calling g mk a) (Vm.Alike.refl U.vm) q3, q4, fun w hw => zNst_same hw (u := U) (U := U.calling g mk a) rfl (q5 w hw), va_AO.moved (u := U) (U := U.calling g mk a) (Vm.Alike.refl U.vm) q6, b, L, xs, va_X.moved (u := U) (U := U.calling g mk a) (Vm.Alike.refl U.vm) x1, x2⟩
theorem zstk {st : List zV} {r : Nat} (ad : Nat → Nat × ClassId) : st.map (zcv ad) = ((st.take r).reverse.map (zcv ad)).reverse ++ (st.drop r).map (zcv ad) := by
  rw [← List.map_reverse, List.reverse_reverse, ← List.map_append, List.take_append_drop]
section ZSD
variable {p : Program} {l : Launch} {e : Env} {R : Room} {s : State} {m : MethodId} {args : Array Value} {below : List Frame} {meth : Method} {c : Code} {Q : State → Prop}
variable {i d : Nat} {D : va_G} {A : Nat → Prop} {ad0 : Nat → Nat × ClassId} {sh0 : List zSh} {mm0 : zMm} {shF : List zSh}
theorem zcallW {H : Heap} {locs : List Loc} {cells slots mc ms : Nat} {pc : Nat} {lsR : Array Slot} {st0 rest : List Value} {Qa : State → Outcome → State → Prop} {free A1 : Nat → Prop} (hr : va_Run p l e R s m args below meth c H locs cells slots mc ms (F0 m pc lsR st0) rest Qa free) (hS : va_S A s.heap H locs) (hA : ∀ q, q < H.size → A1 q → A q) (hf : ∀ q, free q → A q) (hQ : ∀ st o t, Qa st o t → va_F A1 st t)
    (kk : ∀ (v : Option Value) (st₀ t : State) (H1 : Heap) (locs1 : List Loc), t.heap = H1 → s.vm.Alike t.vm → Qa st₀ (.returned v) t → va_S A s.heap H1 locs1 → W p l e R s m args below meth c H1 locs1 (cells + mc) (slots + ms) Q (F0 m (pc + 3) lsR (v.toList ++ rest))) : W p l e R s m args below meth c H locs cells slots Q (F0 m pc lsR st0) := by
  intro T hT X
  obtain ⟨v, st₀, t, T', L, h0, X', hL, e1, e2, hq, st⟩ := hr T hT X
  obtain ⟨hz, hk⟩ := hQ _ _ _ hq
  rw [h0] at hz hk
  obtain ⟨t2, a1, b1⟩ := kk v st₀ t T'.heap (locs ++ L) e1.symm (by rw [← e2]; exact X'.warmed.alike) hq
    ⟨Nat.le_trans hS.1 (by rw [e1]; exact hz), fun q h1 h2 => by rw [e1, hk q (Nat.lt_of_lt_of_le h1 hS.1) (fun z => h2 (hA q (Nat.lt_of_lt_of_le h1 hS.1) z))]; exact hS.2.1 q h1 h2, fun q hq => by
      rcases List.mem_append.mp hq with h | h
      · exact hS.2.2 q h
      · exact hf _ (hL q h)⟩ T' rfl X'
  exact ⟨t2, st t2 a1, b1⟩
/-- the script, at a call -/
theorem zScr.go {D : va_G} {A : Nat → Prop} {tys : List (ClassId × FieldType)} {ad0 ad : Nat → Nat × ClassId} {sh0 sh : List zSh} {mm0 mm : zMm} {s U : State} {H : Heap} {locs : List Loc} (h : zScr A ad0 mm0 s) (hI : zInv s D A tys ad sh mm H locs) (hP : zPs ad0 sh0 mm0 ad sh mm) (hU : U.heap = H) (hW : s.WarmedH U.vm) : zScr (va_A (zws ad sh mm) H.size) ad mm U := by
  obtain ⟨b, L, xs, hX, hbl, hbA, hb1, hL0, hL1, hxs⟩ := h
  refine ⟨b, L, xs, ?_, ?_, ?_, ?_, ?_, hL1, ?_⟩
  · rw [hU]
    exact va_X.moved hW.alike (va_X.kept hX (hI.2.2.2.1.2.1 b hbl hbA))
  · rw [hU]
    exact Nat.lt_of_lt_of_le hbl hI.2.2.2.1.1
  · intro hq
    rcases hq with ⟨k, en, h⟩ | h
    · exact hbA (hI.2.1.2 k (b, en) h)
    · exact absurd (Nat.lt_of_lt_of_le hbl hI.2.2.2.1.1) (Nat.not_lt.mpr h)
  · rw [hP.2.2.1 999 (Or.inr (by decide))]
    exact hb1
  · rw [hP.2.2.2 998 (by decide)]
    exact hL0
  · rw [hP.2.2.2 999 (by decide)]
    exact hxs
/-- behind a call -/
theorem zback {C : zC0} {j r : Nat} {b : Bool} {as rest : List zV} {pc : Nat} {ls : zLs} {sh : List zSh} {mm : zMm} {tys : List (ClassId × FieldType)} {ad : Nat → Nat × ClassId} {H : Heap} {locs : List Loc} {lsR : Array Slot} {st0 : List Value}
    (hI : zInv s D A tys ad sh mm H locs) (hP : zPs ad0 sh0 mm0 ad sh mm) (hL : zLc ad (zml i) ls lsR) (hls : ∀ v, some v ∈ ls → zrg sh.length v) (hst : ∀ v ∈ rest, zrg sh.length v) (hA : ∀ q, s.heap.size ≤ q → A q)
    {v : Option zV} {sh' : List zSh} {mm' : zMm} (hg : zGG p l e R s m args below meth c Q i D A ad0 sh0 mm0 shF (pc + 3) ls (v.toList ++ rest) sh' mm') (hgr : sh.length ≤ sh'.length ∧ ztot sh ≤ ztot sh')
    {a : Array Value} (hr : va_Run p l e R s m args below meth c H locs (sh.length - sh0.length) (ztot sh - ztot sh0) (sh'.length - sh.length) (ztot sh' - ztot sh) (F0 m pc lsR st0) (rest.map (zcv ad)) (zQ0 D ad sh mm H.size v sh' mm' a) (va_A (zws ad sh mm) H.size)) :
    W p l e R s m args below meth c H locs (sh.length - sh0.length) (ztot sh - ztot sh0) Q (F0 m pc lsR st0) := by
  have hF : ∀ q, va_A (zws ad sh mm) H.size q → A q := by
    intro q h
    rcases h with ⟨k, en, h⟩ | h
    · exact hI.2.1.2 k (q, en) h
    · exact hA q (Nat.le_trans hI.2.2.2.1.1 h)
  refine zcallW hr hI.2.2.2.1 (fun q _ h => hF q h) hF (fun st o t h => h.2) (fun v0 st₀ t H1 locs1 e1 hvm hq e3 => ?_)
  obtain ⟨⟨tys', ad', h1, h2, h3, h4, h5, h6, h7, h8, h9⟩, hfr⟩ := hq
  cases h1
  rw [e1] at h2
  have hd : ∀ k, k < sh.length ∨ 900 ≤ k → ad' k = ad k := h7
  have hP' : zPs ad0 sh0 mm0 ad' sh' mm' := ⟨Nat.le_trans hP.1 hgr.1, Nat.le_trans hP.2.1 hgr.2, fun k hk => by
      rw [hd k (by have := hP.1; omega)]
      exact hP.2.2.1 k hk, fun k hk => by rw [h8 k hk]; exact hP.2.2.2 k hk⟩
  have hI' : zInv s D A tys' ad' sh' mm' H1 locs1 := ⟨h2, ⟨h4.1, fun k q hk => hF _ (h4.2 k q hk)⟩, va_K.moved hvm.symm h3, e3, h5, h6⟩
  have h := hg.1 tys' ad' H1 locs1 lsR hI' hP' (hL.cong hls hd) (fun v hv => zrg_mono hgr.1 (hls v hv)) (fun w hw => by
    rcases List.mem_append.mp hw with hw | hw
    · exact h9 w (by simpa using hw)
    · exact zrg_mono hgr.1 (hst w hw))
  rw [List.map_append] at h
  have e5 : rest.map (zcv ad') = rest.map (zcv ad) := List.map_congr_left fun w hw => zcv_cong (hst w hw) hd
  rw [e5] at h
  have e6 : (v.toList.map (zcv ad')) = (v.map (zcv ad')).toList := by cases v <;> rfl
  rw [e6] at h
  have p1 := hP.1
  have p2 := hP.2.1
  exact W.cs (by omega) (by omega) h
theorem zcall_go {C : zC0} {pp r : Nat} {b : Bool} (hM : zMt l d C) (C0 : zCtx p R s m args meth c i d D A ad0 sh0 mm0 shF) {pc : Nat} {ls : zLs} {st : List zV} {sh : List zSh} {mm : zMm} {tys : List (ClassId × FieldType)} {ad : Nat → Nat × ClassId} {H : Heap} {locs : List Loc} {lsR : Array Slot}
    (hI : zInv s D A tys ad sh mm H locs) (hP : zPs ad0 sh0 mm0 ad sh mm) (hL : zLc ad (zml i) ls lsR) (hls : ∀ v, some v ∈ ls → zrg sh.length v) (hst : ∀ v ∈ st, zrg sh.length v) (hj : pp < 92)
    (hz : zKK C (zGG p l e R s m args below meth c Q i D A ad0 sh0 mm0 shF) pp b (st.take r).reverse (pc + 3) ls (st.drop r) sh mm)
    (hrun : ∀ (v : Option zV) (sh' : List zSh) (mm' : zMm), Met l (zNm pp) (zwj pp) ({ frames := d, cells := sh'.length - sh.length, slots := ztot sh' - ztot sh, locals := 40 * d }) (va_Pc (((st.take r).reverse).map (zcv ad)) (zB0 D tys ad sh mm H.size)) (zQ0 D ad sh mm H.size v sh' mm') (sh'.length - sh.length) (ztot sh' - ztot sh) (va_A (zws ad sh mm) H.size) →
      (∀ U : State, U.heap = H → s.WarmedH U.vm → va_Pc (((st.take r).reverse).map (zcv ad)) (zB0 D tys ad sh mm H.size) (((st.take r).reverse).map (zcv ad)).toArray U) →
      ((sh.length - sh0.length) + (sh'.length - sh.length) ≤ R.cells ∧ (ztot sh - ztot sh0) + (ztot sh' - ztot sh) ≤ R.slots) →
      va_Run p l e R s m args below meth c H locs (sh.length - sh0.length) (ztot sh - ztot sh0) (sh'.length - sh.length) (ztot sh' - ztot sh) (F0 m pc lsR (st.map (zcv ad))) ((st.drop r).map (zcv ad)) (zQ0 D ad sh mm H.size v sh' mm' (((st.take r).reverse).map (zcv ad)).toArray) (va_A (zws ad sh mm) H.size)) :
    W p l e R s m args below meth c H locs (sh.length - sh0.length) (ztot sh - ztot sh0) Q (F0 m pc lsR (st.map (zcv ad))) := by
  obtain ⟨hx, hb, hml, hown, hts, hnw, hao, hA, hin, hR, hRc, hscr⟩ := C0
  have hrest : ∀ v ∈ st.drop r, zrg sh.length v := fun v hv => hst v (List.mem_of_mem_drop hv)
  have has : ∀ v ∈ (st.take r).reverse, zrg sh.length v := fun v hv => hst v (List.mem_of_mem_take (List.mem_reverse.mp hv))
  have key : ∀ (v : Option zV) (sh' : List zSh) (mm' : zMm), C pp (st.take r).reverse sh mm = some (v, sh', mm') → zGG p l e R s m args below meth c Q i D A ad0 sh0 mm0 shF (pc + 3) ls (v.toList ++ st.drop r) sh' mm' → W p l e R s m args below meth c H locs (sh.length - sh0.length) (ztot sh - ztot sh0) Q (F0 m pc lsR (st.map (zcv ad))) := by
    intro v sh' mm' hC hg
    obtain ⟨hgr, hmet⟩ := hM pp _ sh mm v sh' mm' hj hC
    have hmet := hmet D tys ad H.size hI.2.2.2.2.1 hI.2.2.2.2.2 has
    have g1 := hg.2.1
    have g2 := hg.2.2
    have p1 := hP.1
    have p2 := hP.2.1
    have r1 := hRc.1
    have r2 := hRc.2
    exact zback (C := C) (j := pp) (r := r) (b := b) (as := (st.take r).reverse) hI hP hL hls hrest hA hg hgr (hrun v sh' mm' hmet (fun U hU hW => ⟨rfl, by rw [hU], by rw [hU]; exact hI.1, va_K.moved hW.alike hI.2.2.1, ⟨hI.2.1.1, fun _ _ _ => trivial⟩, fun w hw => zNst_warm hw hW (hnw w hw), va_AO.moved hW.alike hao, hscr.go hI hP hU hW⟩) ⟨by omega, by omega⟩)
  cases b with
  | true =>
    obtain ⟨x, sh', mm', hC, hg⟩ := hz
    exact key (some (.inl x)) sh' mm' hC hg
  | false =>
    obtain ⟨sh', mm', hC, hg⟩ := hz
    exact key none sh' mm' hC hg
theorem zroom (hR : d + 1 ≤ R.frames ∧ 40 * (d + 1) ≤ R.locals) {j : Nat} (h : zml j ≤ 21) {k n : Nat} : (({ frames := d, cells := k, slots := n, locals := 40 * d } : Room).frames + 1 ≤ R.frames) ∧ 8 + (zml j + 11) + (({ frames := d, cells := k, slots := n, locals := 40 * d } : Room).locals) ≤ R.locals := by
  constructor
  · exact hR.1
  · show 8 + (zml j + 11) + 40 * d ≤ R.locals
    have := hR.2
    omega
theorem zsd_virt {C : zC0} {len pp r n : Nat} {q : Int} (hM : zMt l d C) (C0 : zCtx p R s m args meth c i d D A ad0 sh0 mm0 shF) : zSd p l e R s m args below meth c Q i D A ad0 sh0 mm0 shF C (.invokevirtual n, len, pp, r, q) := by
  intro pc ls st sh mm hc hz tys ad H locs lsR hI hP hL hls hst
  have C0' := C0
  obtain ⟨hx, hb, hml, hown, hts, hnw, hao, hA, hin, hR, hRc, hscr⟩ := C0
  have hk := zC_chk hc
  simp only [zchk, Bool.and_eq_true, decide_eq_true_eq] at hk
  obtain ⟨⟨⟨⟨⟨h1, h2⟩, h3⟩, h4⟩, h5⟩, h6⟩ := hk
  obtain rfl : len = 3 := Nat.eq_of_beq_eq_true h1
  have hd : decode (zBy i) pc = .ok (.invokevirtual n, 3) := zC_dec hc
  have hj := Nat.blt_eq.mp h2
  have er := Nat.eq_of_beq_eq_true h3
  have emk := Nat.eq_of_beq_eq_true h5
  have hmb := zmb_ok hj
  simp only [zmb, Bool.and_eq_true, decide_eq_true_eq, emk] at hmb
  obtain ⟨⟨⟨⟨⟨⟨⟨m1, m2⟩, m3⟩, m4⟩, m5⟩, m6⟩, m7⟩, ⟨⟨m8, m9⟩, m10⟩, m11⟩ := hmb
  have hq : (q = 0 ∨ q = 10) ∨ (q = 1 ∨ q = 11) := by
    by_cases hq : q = 0 ∨ q = 10
    · exact Or.inl hq
    · rw [if_neg hq] at h6
      simp only [Bool.and_eq_true, decide_eq_true_eq] at h6
      exact Or.inr h6.2
  simp only [zs1, zinv] at hz
  rw [if_neg (by omega), if_neg (by omega)] at hz
  obtain ⟨hc1, hzA⟩ := zx_cond hz
  simp only [Bool.and_eq_true] at hc1
  have hlen := Nat.le_of_ble_eq_true hc1.1
  have hcs := Nat.le_of_ble_eq_true hc1.2
  rw [if_neg (by omega)] at hzA
  cases has : (st.take r).reverse with
  | nil => rw [has] at hzA; exact hzA.elim
  | cons a0 as' =>
    rw [has] at hzA
    rcases a0 with x | x | a
    · exact hzA.elim
    · exact hzA.elim
    · obtain ⟨ka, na, rsa, hsa, hzB⟩ := zx_sh hzA
      obtain ⟨hca, hzC⟩ := zx_cond hzB
      have eka := Nat.eq_of_beq_eq_true hca
      rw [← has] at hzC
      have hka : ka < 9 := by
        rw [eka, Nat.eq_of_beq_eq_true m11]
        exact Nat.blt_eq.mp m10
      refine zcall_go hM C0' hI hP hL hls hst hj hzC (fun v sh' mm' hmet hpre hcl => ?_)
      have hargs : ((st.take r).reverse).map (zcv ad) = .ref (ad a).1 :: as'.map (zcv ad) := by rw [has]; rfl
      have hstk := zstk (st := st) (r := r) ad
      rw [hargs, List.reverse_cons, List.append_assoc] at hstk
      rw [hargs] at hmet hpre ⊢
      have hn : (as'.map (zcv ad)).length = zna pp := by
        have := congrArg List.length has
        rw [List.length_reverse, List.length_take, List.length_cons] at this
        rw [List.length_map]
        omega
      have hsz : (F0 m pc lsR (st.map (zcv ad))).locals.size = zml i := hL.1
      have hW : 2 * (F0 m pc lsR (st.map (zcv ad))).monitorRoom + (((st.drop r).map (zcv ad)).map fun v => v.category).sum ≤ 8 := by
        rw [zcs_cv]
        show 2 * 0 + _ ≤ 8
        omega
      have hat := zws_at (ad := ad) (mm := mm) hsa
      rw [zce_o (by omega)] at hat
      have hex : ∃ CC TT NN, zCl[ka]? = some (CC, TT, NN) := by
        cases hcl2 : zCl[ka]? with
        | none =>
          rw [List.getElem?_eq_none_iff] at hcl2
          exact absurd hcl2 (by show ¬ 9 ≤ ka; omega)
        | some z => exact ⟨z.1, z.2.1, z.2.2, rfl⟩
      obtain ⟨CC, TT, NN, hcl2⟩ := hex
      have hw := zcl_w hcl2
      have hyc : (zNm pp).cls = CC := by rw [hw.2.2.2, m2, eka, Nat.eq_of_beq_eq_true m11]
      have hin2 : Cond.instanceMethod (zNm pp) ∈ zWS := zWS_in (zAt_ok m8) rfl
      have hsel : Cond.selects (zNm pp).cls (zNm pp) (zNm pp) ∈ zWS := zWS_in (zAt_ok m9) rfl
      have hini : Cond.initialized (zNm pp).cls ∈ zWS := zWS_in (zAt_ok m1) rfl
      have hpv : PreV s H (zNm pp).cls (ad a).1 (va_Pc (Value.ref (ad a).1 :: as'.map (zcv ad)) (zB0 D tys ad sh mm H.size)) (as'.map (zcv ad)) := ⟨zB0_blind _ _ _ _ _ _ _, by
        rw [hyc]
        exact va_recv hI.2.2.1 hI.1 hcl2 hat, hpre⟩
      rcases hq with hq | hq
      · rw [if_pos hq] at h6
        have hlk := zLk_ok h6 rfl
        have hT : GoodIn zWS (wsV (zon (zoc i)) n (zNm pp).cls (zNm pp) (zwj pp)) := zgood (fun w hw2 => by
          unfold wsV at hw2
          simp only [List.cons_append, List.nil_append, List.mem_cons] at hw2
          rcases hw2 with rfl | rfl | rfl | rfl | hw2
          · exact hlk
          · exact hin2
          · exact hsel
          · exact hini
          · exact zwj_in hj w hw2)
        exact va_runV ⟨hx, hb, hml, hown, hts⟩ hmet (cwV (zna pp) hts hT rfl rfl rfl ⟨rfl, m3.1, m3.2, m5⟩ (zroom hR (Nat.le_of_ble_eq_true m7))) hpv rfl hn hsz hstk hW hd hcl
      · rw [if_neg (by omega)] at h6
        simp only [Bool.and_eq_true] at h6
        have hlk := hnw _ (zLk_okN h6.1 rfl)
        exact va_runVN ⟨hx, hb, hml, hown, hts⟩ hmet ⟨va_cnB (zna pp) hts (zgood (zwj_in hj)) rfl rfl rfl hlk (hts _ hini) ⟨m3.1, m3.2, m5⟩ (zroom hR (Nat.le_of_ble_eq_true m7)), hts _ hin2, hts _ hsel⟩ hpv rfl hn hsz hstk hW hd hcl
theorem zarr_w : (zAt 535 (.native arraycopyName) && zAt 534 (.static arraycopyName) && zAt 62 (.initialized "java/lang/System") && zAt 69 (.instanceMethod objectInit) && zAt 70 (.code objectInit ⟨#[0xb1]⟩ 1 none)) = true := by decide +kernel
theorem zcp_ne {mm : zMm} {a sp b dp n k : Nat} (h : k ≠ b) : zcp mm a sp b dp n k = mm k := by
  funext j
  unfold zcp
  rw [if_neg (fun z => h z.1)]
theorem zsd_stat {C : zC0} {len pp r n : Nat} {q : Int} (hM : zMt l d C) (C0 : zCtx p R s m args meth c i d D A ad0 sh0 mm0 shF) : zSd p l e R s m args below meth c Q i D A ad0 sh0 mm0 shF C (.invokestatic n, len, pp, r, q) := by
  intro pc ls st sh mm hc hz tys ad H locs lsR hI hP hL hls hst
  have C0' := C0
  obtain ⟨hx, hb, hml, hown, hts, hnw, hao, hA, hin, hR, hRc, hscr⟩ := C0
  have hk := zC_chk hc
  have hzw := zarr_w
  simp only [Bool.and_eq_true] at hzw
  obtain ⟨⟨⟨⟨w1, w2⟩, w3⟩, w4⟩, w5⟩ := hzw
  simp only [zchk, Bool.and_eq_true] at hk
  obtain ⟨h1, hk⟩ := hk
  obtain rfl : len = 3 := Nat.eq_of_beq_eq_true h1
  have hd : decode (zBy i) pc = .ok (.invokestatic n, 3) := zC_dec hc
  simp only [zs1, zinv] at hz
  by_cases q7 : q = 7
  · rw [if_pos q7] at hk
    rw [if_neg (by omega), if_pos q7] at hz
    split at hz
    · rename_i n0 dp b sp a t
      obtain ⟨ka, na, rsa, hsa, hzA⟩ := zx_sh hz
      obtain ⟨kb, nb, rsb, hsb, hzB⟩ := zx_sh hzA
      obtain ⟨hcc, hg⟩ := zx_ite hzB
      obtain ⟨ek1, ek2, h0, h00, h000, hs1, hs2, hcs⟩ := hcc
      subst ek1
      subst ek2
      obtain ⟨r1, hst⟩ := List.forall_mem_cons.mp hst
      obtain ⟨r2, hst⟩ := List.forall_mem_cons.mp hst
      obtain ⟨r3, hst⟩ := List.forall_mem_cons.mp hst
      obtain ⟨r4, hst⟩ := List.forall_mem_cons.mp hst
      obtain ⟨r5, hst⟩ := List.forall_mem_cons.mp hst
      have r1 : zr32 n0 := r1
      have r2 : zr32 dp := r2
      have r4 : zr32 sp := r4
      obtain ⟨t0, ht0⟩ := hI.2.2.2.2.2 a _ hsa (Nat.le_of_ble_eq_true rfl)
      obtain ⟨t1, ht1⟩ := hI.2.2.2.2.2 b _ hsb (Nat.le_of_ble_eq_true rfl)
      have hata := zws_at (ad := ad) (mm := mm) hsa
      rw [zce_i (Or.inl rfl)] at hata
      have hatb := zws_at (ad := ad) (mm := mm) hsb
      rw [zce_i (Or.inl rfl)] at hatb
      have hlb : b < sh.length := (List.getElem?_eq_some_iff.mp hsb).1
      refine va_copyi (D := D) (ty := .int) (n := Int32.ofInt n0) (dp := Int32.ofInt dp) (sp := Int32.ofInt sp) (tys := tys) (ws := zws ad sh mm) hx hb (hml.trans hL.1.symm) hown (hts _ (zLk_ok hk rfl)) (hts _ (zWS_in (zAt_ok w1) rfl)) (hts _ (zWS_in (zAt_ok w2) rfl)) (hts _ (zWS_in (zAt_ok w3) rfl)) hI.2.2.1 hI.1 hI.2.1 hI.2.2.2.1 a b t0 t1 hata hatb ht0 ht1 rfl
        (fun q0 => by have := (zo_lt r4 zr_0).mp q0; omega) (fun q0 => by have := (zo_lt r2 zr_0).mp q0; omega) (fun q0 => by have := (zo_lt r1 zr_0).mp q0; omega) (by rw [zo_nat r4 h0, zo_nat r1 h000]; omega) (by rw [zo_nat r2 h00, zo_nat r1 h000]; omega) (fun _ _ => rfl) (by have := hR.1; omega) ?_ hd (fun H1 locs1 e1 e2 e3 => ?_)
      · rw [zcs_cv, show nativeFrameWords "java/lang/System" "arraycopy" 5 = 7 from rfl]
        have := hR.2
        omega
      · rw [zo_nat r4 h0, zo_nat r1 h000, zo_nat r2 h00] at e1 e2
        have hfun : va_cpy (fun j => Int32.ofInt (mm a j)) (fun j => Int32.ofInt (mm b j)) sp.toNat dp.toNat n0.toNat = fun j => Int32.ofInt (zcp mm a sp.toNat b dp.toNat n0.toNat b j) := by
          funext j
          unfold va_cpy zcp
          by_cases hj : dp.toNat ≤ j ∧ j < dp.toNat + n0.toNat
          · rw [if_pos hj, if_pos ⟨rfl, hj⟩]
          · rw [if_neg hj, if_neg (fun z => hj z.2)]
        have ez : (zws ad sh mm).set b ((ad b).1, .inl ((ad b).2, nb, .inl (va_cpy (fun j => Int32.ofInt (mm a j)) (fun j => Int32.ofInt (mm b j)) sp.toNat dp.toNat n0.toNat))) = zws ad sh (zcp mm a sp.toNat b dp.toNat n0.toNat) := by
          rw [zws_set (sh := sh) (mm := mm) (zset_self hsb).symm hlb (fun k' hk' => zcp_ne hk'), zce_i (Or.inl rfl), hfun]
        rw [ez] at e1 e2
        have h900 : b < 900 := by have := hI.2.2.2.2.1.2.2; omega
        refine hg.1 tys ad H1 locs1 lsR ⟨e1, e2, hI.2.2.1, e3, ⟨hI.2.2.2.2.1.1, fun k j => ?_, hI.2.2.2.2.1.2.2⟩, hI.2.2.2.2.2⟩ ⟨hP.1, hP.2.1, hP.2.2.1, fun k hk' => ?_⟩ hL hls hst
        · unfold zcp
          split
          · exact hI.2.2.2.2.1.2.1 _ _
          · exact hI.2.2.2.2.1.2.1 _ _
        · rw [zcp_ne (by omega)]
          exact hP.2.2.2 k hk'
    · exact hz.elim
  · rw [if_neg q7] at hk
    simp only [Bool.and_eq_true, decide_eq_true_eq] at hk
    obtain ⟨⟨⟨⟨h2, h3⟩, h4⟩, h5⟩, h6⟩ := hk
    have hj := Nat.blt_eq.mp h2
    have er := Nat.eq_of_beq_eq_true h3
    have emk := Nat.eq_of_beq_eq_true h5
    have hmb := zmb_ok hj
    simp only [zmb, Bool.and_eq_true, decide_eq_true_eq, emk] at hmb
    obtain ⟨⟨⟨⟨⟨⟨⟨m1, m2⟩, m3⟩, m4⟩, m5⟩, m6⟩, m7⟩, m8⟩ := hmb
    have hq : (q = 2 ∨ q = 12) ∨ (q = 3 ∨ q = 13) := by
      by_cases hq : q = 2 ∨ q = 12
      · exact Or.inl hq
      · rw [if_neg hq] at h6
        simp only [Bool.and_eq_true, decide_eq_true_eq] at h6
        exact Or.inr h6.2
    rw [if_neg (by omega), if_neg (by omega)] at hz
    obtain ⟨hc1, hzA⟩ := zx_cond hz
    simp only [Bool.and_eq_true] at hc1
    have hlen := Nat.le_of_ble_eq_true hc1.1
    have hcs := Nat.le_of_ble_eq_true hc1.2
    rw [if_pos (by omega)] at hzA
    refine zcall_go hM C0' hI hP hL hls hst hj hzA (fun v sh' mm' hmet hpre hcl => ?_)
    have hstk := zstk (st := st) (r := r) ad
    have hn : (((st.take r).reverse).map (zcv ad)).length = zna pp := by
      rw [List.length_map, List.length_reverse, List.length_take]
      omega
    have hsz : (F0 m pc lsR (st.map (zcv ad))).locals.size = zml i := hL.1
    have hW : 2 * (F0 m pc lsR (st.map (zcv ad))).monitorRoom + (((st.drop r).map (zcv ad)).map fun v => v.category).sum ≤ 8 := by
      rw [zcs_cv]
      show 2 * 0 + _ ≤ 8
      omega
    have hsta : Cond.static (zNm pp) ∈ zWS := zWS_in (zAt_ok m8) rfl
    have hini : Cond.initialized (zNm pp).cls ∈ zWS := zWS_in (zAt_ok m1) rfl
    rcases hq with hq | hq
    · rw [if_pos hq] at h6
      have hlk := zLk_ok h6 rfl
      have hT : GoodIn zWS (va_wsS (zon (zoc i)) n (zNm pp) (zwj pp)) := zgood (fun w hw2 => by
        unfold va_wsS at hw2
        simp only [List.cons_append, List.nil_append, List.mem_cons] at hw2
        rcases hw2 with rfl | rfl | rfl | hw2
        · exact hlk
        · exact hsta
        · exact hini
        · exact zwj_in hj w hw2)
      exact va_runS ⟨hx, hb, hml, hown, hts⟩ hmet (va_cwS (zna pp) hts hT rfl rfl rfl ⟨m3.1, m3.2, m5⟩ (zroom hR (Nat.le_of_ble_eq_true m7))) ⟨zB0_blind _ _ _ _ _ _ _, hpre⟩ rfl hn hsz hstk hW hd hcl
    · rw [if_neg (by omega)] at h6
      simp only [Bool.and_eq_true] at h6
      have hlk := hnw _ (zLk_okN h6.1 rfl)
      exact va_runSN ⟨hx, hb, hml, hown, hts⟩ hmet ⟨va_cnB (zna pp) hts (zgood (zwj_in hj)) rfl rfl rfl hlk (hts _ hini) ⟨m3.1, m3.2, m5⟩ (zroom hR (Nat.le_of_ble_eq_true m7)), hts _ hsta, trivial⟩ ⟨zB0_blind _ _ _ _ _ _ _, hpre⟩ rfl hn hsz hstk hW hd hcl
theorem zsd_spec {C : zC0} {len pp r n : Nat} {q : Int} (hM : zMt l d C) (C0 : zCtx p R s m args meth c i d D A ad0 sh0 mm0 shF) : zSd p l e R s m args below meth c Q i D A ad0 sh0 mm0 shF C (.invokespecial n, len, pp, r, q) := by
  intro pc ls st sh mm hc hz tys ad H locs lsR hI hP hL hls hst
  have C0' := C0
  obtain ⟨hx, hb, hml, hown, hts, hnw, hao, hA, hin, hR, hRc, hscr⟩ := C0
  have hk := zC_chk hc
  have hzw := zarr_w
  simp only [Bool.and_eq_true] at hzw
  obtain ⟨⟨⟨⟨w1, w2⟩, w3⟩, w4⟩, w5⟩ := hzw
  simp only [zchk, Bool.and_eq_true] at hk
  obtain ⟨h1, hk⟩ := hk
  obtain rfl : len = 3 := Nat.eq_of_beq_eq_true h1
  have hd : decode (zBy i) pc = .ok (.invokespecial n, 3) := zC_dec hc
  simp only [zs1, zinv] at hz
  by_cases q6 : q = 6
  · rw [if_pos q6] at hk hz
    obtain ⟨a, t, rfl, hzA⟩ := zx_br hz
    obtain ⟨hcs, hg⟩ := zx_cond hzA
    have hcs := Nat.le_of_ble_eq_true hcs
    obtain ⟨ra, hst⟩ := List.forall_mem_cons.mp hst
    refine W.objInit (g := F0 m pc lsR (.ref (ad a).1 :: t.map (zcv ad))) hx hb hown (hts _ (zLk_ok hk rfl)) (hts _ (zWS_in (zAt_ok w4) rfl)) (hts _ (zWS_in (zAt_ok w5) rfl)) rfl (hL.1.trans hml.symm) rfl hd (by have := hR.1; omega) ?_ ?_
    · rw [zcs_cv]
      show 2 * 0 + _ + 12 ≤ _
      have := hR.2
      omega
    · exact hg.1 tys ad H locs lsR hI hP hL hls hst
  · rw [if_neg q6] at hk
    simp only [Bool.and_eq_true] at hk
    obtain ⟨⟨⟨h2, h3⟩, h5⟩, h6⟩ := hk
    have hj := Nat.blt_eq.mp h2
    have er := Nat.eq_of_beq_eq_true h3
    have emk := Nat.eq_of_beq_eq_true h5
    have hmb := zmb_ok hj
    simp only [zmb, Bool.and_eq_true, decide_eq_true_eq, emk] at hmb
    obtain ⟨⟨⟨⟨⟨⟨⟨m1, m2⟩, m3⟩, m4⟩, m5⟩, m6⟩, m7⟩, ⟨m8, m9⟩, m10⟩ := hmb
    have hq : q = 4 ∨ q = 5 := by
      by_cases hq : q = 4
      · exact Or.inl hq
      · rw [if_neg hq] at h6
        simp only [Bool.and_eq_true, decide_eq_true_eq] at h6
        exact Or.inr h6.2
    rw [if_neg (by omega), if_neg (by omega)] at hz
    obtain ⟨hc1, hzA⟩ := zx_cond hz
    simp only [Bool.and_eq_true] at hc1
    have hlen := Nat.le_of_ble_eq_true hc1.1
    have hcs := Nat.le_of_ble_eq_true hc1.2
    rw [if_neg (by omega)] at hzA
    cases has : (st.take r).reverse with
    | nil => rw [has] at hzA; exact hzA.elim
    | cons a0 as' =>
      rw [has] at hzA
      rcases a0 with x | x | a
      · exact hzA.elim
      · exact hzA.elim
      · obtain ⟨ka, na, rsa, hsa, hzB⟩ := zx_sh hzA
        obtain ⟨hca, hzC⟩ := zx_cond hzB
        rw [← has] at hzC
        refine zcall_go hM C0' hI hP hL hls hst hj hzC (fun v sh' mm' hmet hpre hcl => ?_)
        have hargs : ((st.take r).reverse).map (zcv ad) = .ref (ad a).1 :: as'.map (zcv ad) := by rw [has]; rfl
        have hstk := zstk (st := st) (r := r) ad
        rw [hargs, List.reverse_cons, List.append_assoc] at hstk
        rw [hargs] at hmet hpre ⊢
        have hn : (as'.map (zcv ad)).length = zna pp := by
          have := congrArg List.length has
          rw [List.length_reverse, List.length_take, List.length_cons] at this
          rw [List.length_map]
          omega
        have hsz : (F0 m pc lsR (st.map (zcv ad))).locals.size = zml i := hL.1
        have hW : 2 * (F0 m pc lsR (st.map (zcv ad))).monitorRoom + (((st.drop r).map (zcv ad)).map fun v => v.category).sum ≤ 8 := by
          rw [zcs_cv]
          show 2 * 0 + _ ≤ 8
          omega
        have hin2 : Cond.instanceMethod (zNm pp) ∈ zWS := zWS_in (zAt_ok m8) rfl
        have hini : Cond.initialized (zNm pp).cls ∈ zWS := zWS_in (zAt_ok m1) rfl
        have hwj : zwj pp = Cond.code (zNm pp) (zBy pp) (zml pp) none :: zWS := by unfold zwj; rw [m10]
        rcases hq with hq | hq
        · rw [if_pos hq] at h6
          have hlk := zLk_ok h6 rfl
          exact va_runI ⟨hx, hb, hml, hown, hts⟩ hmet (cwI (zna pp) hts (zgood (zwj_in hj)) hwj rfl rfl (hts _ hini) (hts _ hlk) (hts _ hin2) m9 ⟨m3.1, m3.2, m5⟩ (zroom hR (Nat.le_of_ble_eq_true m7))) ⟨zB0_blind _ _ _ _ _ _ _, hpre⟩ rfl hn hsz hstk hW hd hcl
        · rw [if_neg (by omega)] at h6
          simp only [Bool.and_eq_true] at h6
          have hlk := hnw _ (zLk_okN h6.1 rfl)
          exact va_runIN ⟨hx, hb, hml, hown, hts⟩ hmet ⟨va_cnB (zna pp) hts (zgood (zwj_in hj)) hwj rfl rfl hlk (hts _ hini) ⟨m3.1, m3.2, m5⟩ (zroom hR (Nat.le_of_ble_eq_true m7)), m9, hts _ hin2⟩ ⟨zB0_blind _ _ _ _ _ _ _, hpre⟩ rfl hn hsz hstk hW hd hcl
end ZSD
