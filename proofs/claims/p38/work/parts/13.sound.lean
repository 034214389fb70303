/-- the script, as it lies there, away from the cells -/
def zScr (A : Nat → Prop) (ad0 : Nat → Nat × ClassId) (mm0 : zMm) (s : State) : Prop := ∃ (b L : Nat) (xs : Nat → Int32), va_X b L xs s s.heap ∧ b < s.heap.size ∧ ¬ A b ∧ (ad0 999).1 = b ∧ mm0 998 0 = L ∧ L < 2147483648 ∧ ∀ j, j < L → mm0 999 j = (xs j).toInt
def zCtx (p : Program) (R : Room) (s : State) (m : MethodId) (args : Array Value) (meth : Method) (c : Code) (i d : Nat) (D : va_G) (A : Nat → Prop) (ad0 : Nat → Nat × ClassId) (sh0 : List zSh) (mm0 : zMm) (shF : List zSh) : Prop :=
  p.tables.exec = Jvm.exec ∧ c.code = zBy i ∧ c.maxLocals = zml i ∧ s.vm.findClass (zon (zoc i)) = some m.cls ∧ (∀ w ∈ zWS, w.before args s = true) ∧ (∀ w ∈ zNst, va_Nw w s) ∧ va_AO "SlipWheel$Sheet" s ∧ (∀ q, s.heap.size ≤ q → A q) ∧ (zmk i = 2 → meth.name = "<init>") ∧ (d + 1 ≤ R.frames ∧ 40 * (d + 1) ≤ R.locals) ∧ (shF.length - sh0.length ≤ R.cells ∧ ztot shF - ztot sh0 ≤ R.slots) ∧
  zScr A ad0 mm0 s
def zGo (p : Program) (l : Launch) (e : Env) (R : Room) (s : State) (m : MethodId) (args : Array Value) (below : List Frame) (meth : Method) (c : Code) (Q : State → Prop) (i : Nat) (D : va_G) (A : Nat → Prop) (ad0 : Nat → Nat × ClassId) (sh0 : List zSh) (mm0 : zMm) (pc : Nat) (ls : zLs) (st : List zV) (sh : List zSh) (mm : zMm) : Prop :=
  ∀ (tys : List (ClassId × FieldType)) (ad : Nat → Nat × ClassId) (H : Heap) (locs : List Loc) (lsR : Array Slot), zInv s D A tys ad sh mm H locs → zPs ad0 sh0 mm0 ad sh mm → zLc ad (zml i) ls lsR → (∀ v, some v ∈ ls → zrg sh.length v) → (∀ v ∈ st, zrg sh.length v) →
    W p l e R s m args below meth c H locs (sh.length - sh0.length) (ztot sh - ztot sh0) Q (F0 m pc lsR (st.map (zcv ad)))
def zEnd (p : Program) (l : Launch) (e : Env) (R : Room) (s : State) (m : MethodId) (args : Array Value) (below : List Frame) (meth : Method) (c : Code) (Q : State → Prop) (i : Nat) (D : va_G) (A : Nat → Prop) (ad0 : Nat → Nat × ClassId) (sh0 : List zSh) (mm0 : zMm) (v : Option zV) (sh : List zSh) (mm : zMm) : Prop :=
  ∀ (pc : Nat) (tys : List (ClassId × FieldType)) (ad : Nat → Nat × ClassId) (H : Heap) (locs : List Loc) (lsR : Array Slot), zInv s D A tys ad sh mm H locs → zPs ad0 sh0 mm0 ad sh mm → (match v with
    | none => zRt i = none → decode (zBy i) pc = .ok (.return_, 1) → W p l e R s m args below meth c H locs (sh.length - sh0.length) (ztot sh - ztot sh0) Q (F0 m pc lsR [])
    | some (.inl x) => zr32 x → (zRt i = some .boolean ∧ (x = 0 ∨ x = 1) ∨ zRt i = some .int) → decode (zBy i) pc = .ok (.ireturn, 1) → W p l e R s m args below meth c H locs (sh.length - sh0.length) (ztot sh - ztot sh0) Q (F0 m pc lsR [.int (Int32.ofInt x)])
    | _ => True)
def zGG (p : Program) (l : Launch) (e : Env) (R : Room) (s : State) (m : MethodId) (args : Array Value) (below : List Frame) (meth : Method) (c : Code) (Q : State → Prop) (i : Nat) (D : va_G) (A : Nat → Prop) (ad0 : Nat → Nat × ClassId) (sh0 : List zSh) (mm0 : zMm) (shF : List zSh) (pc : Nat) (ls : zLs) (st : List zV) (sh : List zSh) (mm : zMm) : Prop :=
  zGo p l e R s m args below meth c Q i D A ad0 sh0 mm0 pc ls st sh mm ∧ sh.length ≤ shF.length ∧ ztot sh ≤ ztot shF
def zKK (C : zC0) (G : Nat → zLs → List zV → List zSh → zMm → Prop) (j : Nat) (b : Bool) (as : List zV) (pc : Nat) (ls : zLs) (rest : List zV) (sh : List zSh) (mm : zMm) : Prop :=
  bif b then ∃ x sh' mm', C j as sh mm = some (some (.inl x), sh', mm') ∧ G pc ls (.inl x :: rest) sh' mm' else ∃ sh' mm', C j as sh mm = some (none, sh', mm') ∧ G pc ls rest sh' mm'
/-- one instruction is sound -/
def zSd (p : Program) (l : Launch) (e : Env) (R : Room) (s : State) (m : MethodId) (args : Array Value) (below : List Frame) (meth : Method) (c : Code) (Q : State → Prop) (i : Nat) (D : va_G) (A : Nat → Prop) (ad0 : Nat → Nat × ClassId) (sh0 : List zSh) (mm0 : zMm) (shF : List zSh) (C : zC0) (e0 : zEn) : Prop :=
  ∀ pc ls st sh mm, zC i pc = some e0 → zs1 (β := Prop) False (zEnd p l e R s m args below meth c Q i D A ad0 sh0 mm0) (zGG p l e R s m args below meth c Q i D A ad0 sh0 mm0 shF) (zKK C (zGG p l e R s m args below meth c Q i D A ad0 sh0 mm0 shF)) e0 pc ls st sh mm → zGo p l e R s m args below meth c Q i D A ad0 sh0 mm0 pc ls st sh mm
theorem zx_b1 {st : List zV} {f : Int → List zV → Prop} (h : zb1 False st f) : ∃ x t, st = .inl x :: t ∧ f x t := by
  unfold zb1 at h
  split at h
  · exact ⟨_, _, rfl, h⟩
  · exact h.elim
theorem zx_b2 {st : List zV} {f : Int → Int → List zV → Prop} (h : zb2 False st f) : ∃ x y t, st = .inl y :: .inl x :: t ∧ f x y t := by
  unfold zb2 at h
  split at h
  · exact ⟨_, _, _, rfl, h⟩
  · exact h.elim
theorem zx_bl1 {st : List zV} {f : Int → List zV → Prop} (h : zbl1 False st f) : ∃ x t, st = .inr (.inl x) :: t ∧ f x t := by
  unfold zbl1 at h
  split at h
  · exact ⟨_, _, rfl, h⟩
  · exact h.elim
theorem zx_bl2 {st : List zV} {f : Int → Int → List zV → Prop} (h : zbl2 False st f) : ∃ x y t, st = .inr (.inl y) :: .inr (.inl x) :: t ∧ f x y t := by
  unfold zbl2 at h
  split at h
  · exact ⟨_, _, _, rfl, h⟩
  · exact h.elim
theorem zx_bli {st : List zV} {f : Int → Int → List zV → Prop} (h : zbli False st f) : ∃ x y t, st = .inl y :: .inr (.inl x) :: t ∧ f x y t := by
  unfold zbli at h
  split at h
  · exact ⟨_, _, _, rfl, h⟩
  · exact h.elim
theorem zx_br {st : List zV} {f : Nat → List zV → Prop} (h : zbr False st f) : ∃ x t, st = .inr (.inr x) :: t ∧ f x t := by
  unfold zbr at h
  split at h
  · exact ⟨_, _, rfl, h⟩
  · exact h.elim
theorem zx_bir {st : List zV} {f : Nat → Int → List zV → Prop} (h : zbir False st f) : ∃ a j t, st = .inl j :: .inr (.inr a) :: t ∧ f a j t := by
  unfold zbir at h
  split at h
  · exact ⟨_, _, _, rfl, h⟩
  · exact h.elim
theorem zx_biir {st : List zV} {f : Nat → Int → Int → List zV → Prop} (h : zbiir False st f) : ∃ a j x t, st = .inl x :: .inl j :: .inr (.inr a) :: t ∧ f a j x t := by
  unfold zbiir at h
  split at h
  · exact ⟨_, _, _, _, rfl, h⟩
  · exact h.elim
theorem zx_sh {sh : List zSh} {a : Nat} {f : Nat → Nat → List Nat → Prop} (h : zsh False sh a f) : ∃ k n rs, sh[a]? = some (k, n, rs) ∧ f k n rs := by
  unfold zsh at h
  split at h
  · rename_i hh
    exact ⟨_, _, _, hh, h⟩
  · exact h.elim
theorem zx_ld {ls : zLs} {j : Nat} {f : zV → Prop} (h : zld False ls j f) : ∃ v, ls[j]? = some (some v) ∧ f v := by
  unfold zld at h
  split at h
  · rename_i hh
    exact ⟨_, hh, h⟩
  · exact h.elim
theorem zx_cond {b : Bool} {P : Prop} (h : bif b then P else False) : b = true ∧ P := by
  cases b
  · exact h.elim
  · exact ⟨rfl, h⟩
theorem zx_ite {b : Prop} [Decidable b] {P : Prop} (h : if b then P else False) : b ∧ P := by
  split at h
  · rename_i hh
    exact ⟨hh, h⟩
  · exact h.elim
theorem zx_ite2 {b : Prop} [Decidable b] {P : Prop} (h : if b then False else P) : ¬ b ∧ P := by
  split at h
  · exact h.elim
  · rename_i hh
    exact ⟨hh, h⟩
theorem zx_sw {x : Int} {f : Nat → Prop} {dd : Nat} : ∀ {ts : List Nat} {lo : Int}, zsw x f dd lo ts → (∃ (k : Nat) (t : Nat), x = lo + k ∧ ts[k]? = some t ∧ f t) ∨ ((x < lo ∨ lo + ts.length ≤ x) ∧ f dd)
  | [], lo, h => Or.inr ⟨by simp only [List.length_nil]; omega, h⟩
  | t :: ts, lo, h => by
    unfold zsw at h
    split at h
    · rename_i hx
      exact Or.inl ⟨0, t, by omega, rfl, h⟩
    · rename_i hx
      rcases zx_sw h with ⟨k, u, h1, h2, h3⟩ | ⟨h1, h2⟩
      · exact Or.inl ⟨k + 1, u, by omega, h2, h3⟩
      · refine Or.inr ⟨?_, h2⟩
        simp only [List.length_cons]
        omega
section ZSD
variable {p : Program} {l : Launch} {e : Env} {R : Room} {s : State} {m : MethodId} {args : Array Value} {below : List Frame} {meth : Method} {c : Code} {Q : State → Prop}
variable {i d : Nat} {D : va_G} {A : Nat → Prop} {ad0 : Nat → Nat × ClassId} {sh0 : List zSh} {mm0 : zMm} {shF : List zSh}
theorem zsd_iadd {C : zC0} {len pp r : Nat} {q : Int} (C0 : zCtx p R s m args meth c i d D A ad0 sh0 mm0 shF) : zSd p l e R s m args below meth c Q i D A ad0 sh0 mm0 shF C (.iadd, len, pp, r, q) := by
  intro pc ls st sh mm hc hz tys ad H locs lsR hI hP hL hls hst
  obtain ⟨hx, hb, hml, hown, hts, hnw, hao, hA, hin, hR, hRc, hscr⟩ := C0
  have hk := zC_chk hc
  obtain rfl : len = 1 := Nat.eq_of_beq_eq_true hk
  have hd : decode (zBy i) pc = .ok (.iadd, 1) := zC_dec hc
  obtain ⟨x, y, t, rfl, hz⟩ := zx_b2 hz
  obtain ⟨ry, hst⟩ := List.forall_mem_cons.mp hst
  obtain ⟨rx, hst⟩ := List.forall_mem_cons.mp hst
  refine lv_iadd (x := Int32.ofInt x) (y := Int32.ofInt y) hx hb hd ?_
  rw [show Int32.ofInt x + Int32.ofInt y = Int32.ofInt (zw (x + y)) from by rw [zw_o, Int32.ofInt_add]]
  exact hz.1 tys ad H locs lsR hI hP hL hls (List.forall_mem_cons.mpr ⟨zw_r _, hst⟩)
theorem zsd_isub {C : zC0} {len pp r : Nat} {q : Int} (C0 : zCtx p R s m args meth c i d D A ad0 sh0 mm0 shF) : zSd p l e R s m args below meth c Q i D A ad0 sh0 mm0 shF C (.isub, len, pp, r, q) := by
  intro pc ls st sh mm hc hz tys ad H locs lsR hI hP hL hls hst
  obtain ⟨hx, hb, hml, hown, hts, hnw, hao, hA, hin, hR, hRc, hscr⟩ := C0
  have hk := zC_chk hc
  obtain rfl : len = 1 := Nat.eq_of_beq_eq_true hk
  have hd : decode (zBy i) pc = .ok (.isub, 1) := zC_dec hc
  obtain ⟨x, y, t, rfl, hz⟩ := zx_b2 hz
  obtain ⟨ry, hst⟩ := List.forall_mem_cons.mp hst
  obtain ⟨rx, hst⟩ := List.forall_mem_cons.mp hst
  refine lv_isub (x := Int32.ofInt x) (y := Int32.ofInt y) hx hb hd ?_
  rw [show Int32.ofInt x - Int32.ofInt y = Int32.ofInt (zw (x - y)) from by rw [zw_o, Int32.ofInt_sub]]
  exact hz.1 tys ad H locs lsR hI hP hL hls (List.forall_mem_cons.mpr ⟨zw_r _, hst⟩)
theorem zsd_imul {C : zC0} {len pp r : Nat} {q : Int} (C0 : zCtx p R s m args meth c i d D A ad0 sh0 mm0 shF) : zSd p l e R s m args below meth c Q i D A ad0 sh0 mm0 shF C (.imul, len, pp, r, q) := by
  intro pc ls st sh mm hc hz tys ad H locs lsR hI hP hL hls hst
  obtain ⟨hx, hb, hml, hown, hts, hnw, hao, hA, hin, hR, hRc, hscr⟩ := C0
  have hk := zC_chk hc
  obtain rfl : len = 1 := Nat.eq_of_beq_eq_true hk
  have hd : decode (zBy i) pc = .ok (.imul, 1) := zC_dec hc
  obtain ⟨x, y, t, rfl, hz⟩ := zx_b2 hz
  obtain ⟨ry, hst⟩ := List.forall_mem_cons.mp hst
  obtain ⟨rx, hst⟩ := List.forall_mem_cons.mp hst
  refine lv_imul (x := Int32.ofInt x) (y := Int32.ofInt y) hx hb hd ?_
  rw [show Int32.ofInt x * Int32.ofInt y = Int32.ofInt (zw (x * y)) from by rw [zw_o, Int32.ofInt_mul]]
  exact hz.1 tys ad H locs lsR hI hP hL hls (List.forall_mem_cons.mpr ⟨zw_r _, hst⟩)
theorem zsd_ishl {C : zC0} {len pp r : Nat} {q : Int} (C0 : zCtx p R s m args meth c i d D A ad0 sh0 mm0 shF) : zSd p l e R s m args below meth c Q i D A ad0 sh0 mm0 shF C (.ishl, len, pp, r, q) := by
  intro pc ls st sh mm hc hz tys ad H locs lsR hI hP hL hls hst
  obtain ⟨hx, hb, hml, hown, hts, hnw, hao, hA, hin, hR, hRc, hscr⟩ := C0
  have hk := zC_chk hc
  obtain rfl : len = 1 := Nat.eq_of_beq_eq_true hk
  have hd : decode (zBy i) pc = .ok (.ishl, 1) := zC_dec hc
  obtain ⟨x, y, t, rfl, hz⟩ := zx_b2 hz
  obtain ⟨ry, hst⟩ := List.forall_mem_cons.mp hst
  obtain ⟨rx, hst⟩ := List.forall_mem_cons.mp hst
  refine lv_ishl (x := Int32.ofInt x) (y := Int32.ofInt y) hx hb hd ?_
  have h := hz.1 tys ad H locs lsR hI hP hL hls (List.forall_mem_cons.mpr ⟨zr_i _, hst⟩)
  simp only [List.map_cons, zcv, zshl, Int32.ofInt_toInt] at h
  exact h
theorem zsd_ishr {C : zC0} {len pp r : Nat} {q : Int} (C0 : zCtx p R s m args meth c i d D A ad0 sh0 mm0 shF) : zSd p l e R s m args below meth c Q i D A ad0 sh0 mm0 shF C (.ishr, len, pp, r, q) := by
  intro pc ls st sh mm hc hz tys ad H locs lsR hI hP hL hls hst
  obtain ⟨hx, hb, hml, hown, hts, hnw, hao, hA, hin, hR, hRc, hscr⟩ := C0
  have hk := zC_chk hc
  obtain rfl : len = 1 := Nat.eq_of_beq_eq_true hk
  have hd : decode (zBy i) pc = .ok (.ishr, 1) := zC_dec hc
  obtain ⟨x, y, t, rfl, hz⟩ := zx_b2 hz
  obtain ⟨ry, hst⟩ := List.forall_mem_cons.mp hst
  obtain ⟨rx, hst⟩ := List.forall_mem_cons.mp hst
  refine lv_ishr (x := Int32.ofInt x) (y := Int32.ofInt y) hx hb hd ?_
  have h := hz.1 tys ad H locs lsR hI hP hL hls (List.forall_mem_cons.mpr ⟨zr_i _, hst⟩)
  simp only [List.map_cons, zcv, zshr, Int32.ofInt_toInt] at h
  exact h
theorem zsd_iand {C : zC0} {len pp r : Nat} {q : Int} (C0 : zCtx p R s m args meth c i d D A ad0 sh0 mm0 shF) : zSd p l e R s m args below meth c Q i D A ad0 sh0 mm0 shF C (.iand, len, pp, r, q) := by
  intro pc ls st sh mm hc hz tys ad H locs lsR hI hP hL hls hst
  obtain ⟨hx, hb, hml, hown, hts, hnw, hao, hA, hin, hR, hRc, hscr⟩ := C0
  have hk := zC_chk hc
  obtain rfl : len = 1 := Nat.eq_of_beq_eq_true hk
  have hd : decode (zBy i) pc = .ok (.iand, 1) := zC_dec hc
  obtain ⟨x, y, t, rfl, hz⟩ := zx_b2 hz
  obtain ⟨ry, hst⟩ := List.forall_mem_cons.mp hst
  obtain ⟨rx, hst⟩ := List.forall_mem_cons.mp hst
  refine lv_iand (x := Int32.ofInt x) (y := Int32.ofInt y) hx hb hd ?_
  have h := hz.1 tys ad H locs lsR hI hP hL hls (List.forall_mem_cons.mpr ⟨zr_i _, hst⟩)
  simp only [List.map_cons, zcv, zand, Int32.ofInt_toInt] at h
  exact h
theorem zsd_ior {C : zC0} {len pp r : Nat} {q : Int} (C0 : zCtx p R s m args meth c i d D A ad0 sh0 mm0 shF) : zSd p l e R s m args below meth c Q i D A ad0 sh0 mm0 shF C (.ior, len, pp, r, q) := by
  intro pc ls st sh mm hc hz tys ad H locs lsR hI hP hL hls hst
  obtain ⟨hx, hb, hml, hown, hts, hnw, hao, hA, hin, hR, hRc, hscr⟩ := C0
  have hk := zC_chk hc
  obtain rfl : len = 1 := Nat.eq_of_beq_eq_true hk
  have hd : decode (zBy i) pc = .ok (.ior, 1) := zC_dec hc
  obtain ⟨x, y, t, rfl, hz⟩ := zx_b2 hz
  obtain ⟨ry, hst⟩ := List.forall_mem_cons.mp hst
  obtain ⟨rx, hst⟩ := List.forall_mem_cons.mp hst
  refine lv_ior (x := Int32.ofInt x) (y := Int32.ofInt y) hx hb hd ?_
  have h := hz.1 tys ad H locs lsR hI hP hL hls (List.forall_mem_cons.mpr ⟨zr_i _, hst⟩)
  simp only [List.map_cons, zcv, zor, Int32.ofInt_toInt] at h
  exact h
theorem zsd_ixor {C : zC0} {len pp r : Nat} {q : Int} (C0 : zCtx p R s m args meth c i d D A ad0 sh0 mm0 shF) : zSd p l e R s m args below meth c Q i D A ad0 sh0 mm0 shF C (.ixor, len, pp, r, q) := by
  intro pc ls st sh mm hc hz tys ad H locs lsR hI hP hL hls hst
  obtain ⟨hx, hb, hml, hown, hts, hnw, hao, hA, hin, hR, hRc, hscr⟩ := C0
  have hk := zC_chk hc
  obtain rfl : len = 1 := Nat.eq_of_beq_eq_true hk
  have hd : decode (zBy i) pc = .ok (.ixor, 1) := zC_dec hc
  obtain ⟨x, y, t, rfl, hz⟩ := zx_b2 hz
  obtain ⟨ry, hst⟩ := List.forall_mem_cons.mp hst
  obtain ⟨rx, hst⟩ := List.forall_mem_cons.mp hst
  refine lv_ixor (x := Int32.ofInt x) (y := Int32.ofInt y) hx hb hd ?_
  have h := hz.1 tys ad H locs lsR hI hP hL hls (List.forall_mem_cons.mpr ⟨zr_i _, hst⟩)
  simp only [List.map_cons, zcv, zxor, Int32.ofInt_toInt] at h
  exact h
theorem zsd_iushr {C : zC0} {len pp r : Nat} {q : Int} (C0 : zCtx p R s m args meth c i d D A ad0 sh0 mm0 shF) : zSd p l e R s m args below meth c Q i D A ad0 sh0 mm0 shF C (.iushr, len, pp, r, q) := by
  intro pc ls st sh mm hc hz tys ad H locs lsR hI hP hL hls hst
  obtain ⟨hx, hb, hml, hown, hts, hnw, hao, hA, hin, hR, hRc, hscr⟩ := C0
  have hk := zC_chk hc
  obtain rfl : len = 1 := Nat.eq_of_beq_eq_true hk
  have hd : decode (zBy i) pc = .ok (.iushr, 1) := zC_dec hc
  obtain ⟨x, y, t, rfl, hz⟩ := zx_b2 hz
  obtain ⟨ry, hst⟩ := List.forall_mem_cons.mp hst
  obtain ⟨rx, hst⟩ := List.forall_mem_cons.mp hst
  refine lv_iushr (x := Int32.ofInt x) (y := Int32.ofInt y) (v := Int32.ofInt (zush x y)) hx hb hd (Int32.ofInt_toInt _).symm ?_
  exact hz.1 tys ad H locs lsR hI hP hL hls (List.forall_mem_cons.mpr ⟨zr_i _, hst⟩)
theorem zsd_idiv {C : zC0} {len pp r : Nat} {q : Int} (C0 : zCtx p R s m args meth c i d D A ad0 sh0 mm0 shF) : zSd p l e R s m args below meth c Q i D A ad0 sh0 mm0 shF C (.idiv, len, pp, r, q) := by
  intro pc ls st sh mm hc hz tys ad H locs lsR hI hP hL hls hst
  obtain ⟨hx, hb, hml, hown, hts, hnw, hao, hA, hin, hR, hRc, hscr⟩ := C0
  have hk := zC_chk hc
  obtain rfl : len = 1 := Nat.eq_of_beq_eq_true hk
  have hd : decode (zBy i) pc = .ok (.idiv, 1) := zC_dec hc
  obtain ⟨x, y, t, rfl, hz⟩ := zx_b2 hz
  obtain ⟨hy, hz⟩ := zx_ite2 hz
  obtain ⟨ry, hst⟩ := List.forall_mem_cons.mp hst
  obtain ⟨rx, hst⟩ := List.forall_mem_cons.mp hst
  refine lv_idiv (x := Int32.ofInt x) (y := Int32.ofInt y) hx hb hd (fun q0 => hy ((zo_eq ry zr_0).mp q0)) ?_
  have h := hz.1 tys ad H locs lsR hI hP hL hls (List.forall_mem_cons.mpr ⟨zr_i _, hst⟩)
  simp only [List.map_cons, zcv, zdiv, Int32.ofInt_toInt] at h
  exact h
theorem zsd_irem {C : zC0} {len pp r : Nat} {q : Int} (C0 : zCtx p R s m args meth c i d D A ad0 sh0 mm0 shF) : zSd p l e R s m args below meth c Q i D A ad0 sh0 mm0 shF C (.irem, len, pp, r, q) := by
  intro pc ls st sh mm hc hz tys ad H locs lsR hI hP hL hls hst
  obtain ⟨hx, hb, hml, hown, hts, hnw, hao, hA, hin, hR, hRc, hscr⟩ := C0
  have hk := zC_chk hc
  obtain rfl : len = 1 := Nat.eq_of_beq_eq_true hk
  have hd : decode (zBy i) pc = .ok (.irem, 1) := zC_dec hc
  obtain ⟨x, y, t, rfl, hz⟩ := zx_b2 hz
  obtain ⟨hy, hz⟩ := zx_ite2 hz
  obtain ⟨ry, hst⟩ := List.forall_mem_cons.mp hst
  obtain ⟨rx, hst⟩ := List.forall_mem_cons.mp hst
  refine lv_irem (x := Int32.ofInt x) (y := Int32.ofInt y) hx hb hd (fun q0 => hy ((zo_eq ry zr_0).mp q0)) ?_
  have h := hz.1 tys ad H locs lsR hI hP hL hls (List.forall_mem_cons.mpr ⟨zr_i _, hst⟩)
  simp only [List.map_cons, zcv, zrem, Int32.ofInt_toInt] at h
  exact h
theorem zsd_i2b {C : zC0} {len pp r : Nat} {q : Int} (C0 : zCtx p R s m args meth c i d D A ad0 sh0 mm0 shF) : zSd p l e R s m args below meth c Q i D A ad0 sh0 mm0 shF C (.i2b, len, pp, r, q) := by
  intro pc ls st sh mm hc hz tys ad H locs lsR hI hP hL hls hst
  obtain ⟨hx, hb, hml, hown, hts, hnw, hao, hA, hin, hR, hRc, hscr⟩ := C0
  have hk := zC_chk hc
  obtain rfl : len = 1 := Nat.eq_of_beq_eq_true hk
  have hd : decode (zBy i) pc = .ok (.i2b, 1) := zC_dec hc
  obtain ⟨x, t, rfl, hz⟩ := zx_b1 hz
  obtain ⟨rx, hst⟩ := List.forall_mem_cons.mp hst
  refine lv_i2b (x := Int32.ofInt x) (v := Int32.ofInt (zi2b x)) hx hb hd (Int32.ofInt_toInt _).symm ?_
  exact hz.1 tys ad H locs lsR hI hP hL hls (List.forall_mem_cons.mpr ⟨zr_i _, hst⟩)
theorem zsd_i2s {C : zC0} {len pp r : Nat} {q : Int} (C0 : zCtx p R s m args meth c i d D A ad0 sh0 mm0 shF) : zSd p l e R s m args below meth c Q i D A ad0 sh0 mm0 shF C (.i2s, len, pp, r, q) := by
  intro pc ls st sh mm hc hz tys ad H locs lsR hI hP hL hls hst
  obtain ⟨hx, hb, hml, hown, hts, hnw, hao, hA, hin, hR, hRc, hscr⟩ := C0
  have hk := zC_chk hc
  obtain rfl : len = 1 := Nat.eq_of_beq_eq_true hk
  have hd : decode (zBy i) pc = .ok (.i2s, 1) := zC_dec hc
  obtain ⟨x, t, rfl, hz⟩ := zx_b1 hz
  obtain ⟨rx, hst⟩ := List.forall_mem_cons.mp hst
  refine lv_i2s (x := Int32.ofInt x) (v := Int32.ofInt (zi2s x)) hx hb hd (Int32.ofInt_toInt _).symm ?_
  exact hz.1 tys ad H locs lsR hI hP hL hls (List.forall_mem_cons.mpr ⟨zr_i _, hst⟩)
theorem zsd_i2l {C : zC0} {len pp r : Nat} {q : Int} (C0 : zCtx p R s m args meth c i d D A ad0 sh0 mm0 shF) : zSd p l e R s m args below meth c Q i D A ad0 sh0 mm0 shF C (.i2l, len, pp, r, q) := by
  intro pc ls st sh mm hc hz tys ad H locs lsR hI hP hL hls hst
  obtain ⟨hx, hb, hml, hown, hts, hnw, hao, hA, hin, hR, hRc, hscr⟩ := C0
  have hk := zC_chk hc
  obtain rfl : len = 1 := Nat.eq_of_beq_eq_true hk
  have hd : decode (zBy i) pc = .ok (.i2l, 1) := zC_dec hc
  obtain ⟨x, t, rfl, hz⟩ := zx_b1 hz
  obtain ⟨rx, hst⟩ := List.forall_mem_cons.mp hst
  refine lv_i2l (x := Int32.ofInt x) (v := Int64.ofInt x) hx hb hd (zo_il rx) ?_
  exact hz.1 tys ad H locs lsR hI hP hL hls (List.forall_mem_cons.mpr ⟨zr_il rx, hst⟩)
theorem zsd_l2i {C : zC0} {len pp r : Nat} {q : Int} (C0 : zCtx p R s m args meth c i d D A ad0 sh0 mm0 shF) : zSd p l e R s m args below meth c Q i D A ad0 sh0 mm0 shF C (.l2i, len, pp, r, q) := by
  intro pc ls st sh mm hc hz tys ad H locs lsR hI hP hL hls hst
  obtain ⟨hx, hb, hml, hown, hts, hnw, hao, hA, hin, hR, hRc, hscr⟩ := C0
  have hk := zC_chk hc
  obtain rfl : len = 1 := Nat.eq_of_beq_eq_true hk
  have hd : decode (zBy i) pc = .ok (.l2i, 1) := zC_dec hc
  obtain ⟨x, t, rfl, hz⟩ := zx_bl1 hz
  obtain ⟨rx, hst⟩ := List.forall_mem_cons.mp hst
  refine lv_l2i (x := Int64.ofInt x) (v := Int32.ofInt (zw x)) hx hb hd (by rw [zw_o, Int64.toInt32_ofInt]) ?_
  exact hz.1 tys ad H locs lsR hI hP hL hls (List.forall_mem_cons.mpr ⟨zw_r _, hst⟩)
theorem zsd_ladd {C : zC0} {len pp r : Nat} {q : Int} (C0 : zCtx p R s m args meth c i d D A ad0 sh0 mm0 shF) : zSd p l e R s m args below meth c Q i D A ad0 sh0 mm0 shF C (.ladd, len, pp, r, q) := by
  intro pc ls st sh mm hc hz tys ad H locs lsR hI hP hL hls hst
  obtain ⟨hx, hb, hml, hown, hts, hnw, hao, hA, hin, hR, hRc, hscr⟩ := C0
  have hk := zC_chk hc
  obtain rfl : len = 1 := Nat.eq_of_beq_eq_true hk
  have hd : decode (zBy i) pc = .ok (.ladd, 1) := zC_dec hc
  obtain ⟨x, y, t, rfl, hz⟩ := zx_bl2 hz
  obtain ⟨ry, hst⟩ := List.forall_mem_cons.mp hst
  obtain ⟨rx, hst⟩ := List.forall_mem_cons.mp hst
  refine lv_ladd (x := Int64.ofInt x) (y := Int64.ofInt y) hx hb hd ?_
  rw [show Int64.ofInt x + Int64.ofInt y = Int64.ofInt (zwl (x + y)) by rw [zwl_o, Int64.ofInt_add]]
  exact hz.1 tys ad H locs lsR hI hP hL hls (List.forall_mem_cons.mpr ⟨zwl_r _, hst⟩)
theorem zsd_lmul {C : zC0} {len pp r : Nat} {q : Int} (C0 : zCtx p R s m args meth c i d D A ad0 sh0 mm0 shF) : zSd p l e R s m args below meth c Q i D A ad0 sh0 mm0 shF C (.lmul, len, pp, r, q) := by
  intro pc ls st sh mm hc hz tys ad H locs lsR hI hP hL hls hst
  obtain ⟨hx, hb, hml, hown, hts, hnw, hao, hA, hin, hR, hRc, hscr⟩ := C0
  have hk := zC_chk hc
  obtain rfl : len = 1 := Nat.eq_of_beq_eq_true hk
  have hd : decode (zBy i) pc = .ok (.lmul, 1) := zC_dec hc
  obtain ⟨x, y, t, rfl, hz⟩ := zx_bl2 hz
  obtain ⟨ry, hst⟩ := List.forall_mem_cons.mp hst
  obtain ⟨rx, hst⟩ := List.forall_mem_cons.mp hst
  refine lv_lmul (x := Int64.ofInt x) (y := Int64.ofInt y) hx hb hd ?_
  rw [show Int64.ofInt x * Int64.ofInt y = Int64.ofInt (zwl (x * y)) by rw [zwl_o, Int64.ofInt_mul]]
  exact hz.1 tys ad H locs lsR hI hP hL hls (List.forall_mem_cons.mpr ⟨zwl_r _, hst⟩)
theorem zsd_land {C : zC0} {len pp r : Nat} {q : Int} (C0 : zCtx p R s m args meth c i d D A ad0 sh0 mm0 shF) : zSd p l e R s m args below meth c Q i D A ad0 sh0 mm0 shF C (.land, len, pp, r, q) := by
  intro pc ls st sh mm hc hz tys ad H locs lsR hI hP hL hls hst
  obtain ⟨hx, hb, hml, hown, hts, hnw, hao, hA, hin, hR, hRc, hscr⟩ := C0
  have hk := zC_chk hc
  obtain rfl : len = 1 := Nat.eq_of_beq_eq_true hk
  have hd : decode (zBy i) pc = .ok (.land, 1) := zC_dec hc
  obtain ⟨x, y, t, rfl, hz⟩ := zx_bl2 hz
  obtain ⟨ry, hst⟩ := List.forall_mem_cons.mp hst
  obtain ⟨rx, hst⟩ := List.forall_mem_cons.mp hst
  refine lv_land (x := Int64.ofInt x) (y := Int64.ofInt y) hx hb hd ?_
  have h := hz.1 tys ad H locs lsR hI hP hL hls (List.forall_mem_cons.mpr ⟨zr_l _, hst⟩)
  simp only [List.map_cons, zcv, zland, Int64.ofInt_toInt] at h
  exact h
theorem zsd_lor {C : zC0} {len pp r : Nat} {q : Int} (C0 : zCtx p R s m args meth c i d D A ad0 sh0 mm0 shF) : zSd p l e R s m args below meth c Q i D A ad0 sh0 mm0 shF C (.lor, len, pp, r, q) := by
  intro pc ls st sh mm hc hz tys ad H locs lsR hI hP hL hls hst
  obtain ⟨hx, hb, hml, hown, hts, hnw, hao, hA, hin, hR, hRc, hscr⟩ := C0
  have hk := zC_chk hc
  obtain rfl : len = 1 := Nat.eq_of_beq_eq_true hk
  have hd : decode (zBy i) pc = .ok (.lor, 1) := zC_dec hc
  obtain ⟨x, y, t, rfl, hz⟩ := zx_bl2 hz
  obtain ⟨ry, hst⟩ := List.forall_mem_cons.mp hst
  obtain ⟨rx, hst⟩ := List.forall_mem_cons.mp hst
  refine lv_lor (x := Int64.ofInt x) (y := Int64.ofInt y) hx hb hd ?_
  have h := hz.1 tys ad H locs lsR hI hP hL hls (List.forall_mem_cons.mpr ⟨zr_l _, hst⟩)
  simp only [List.map_cons, zcv, zlor, Int64.ofInt_toInt] at h
  exact h
theorem zsd_lshl {C : zC0} {len pp r : Nat} {q : Int} (C0 : zCtx p R s m args meth c i d D A ad0 sh0 mm0 shF) : zSd p l e R s m args below meth c Q i D A ad0 sh0 mm0 shF C (.lshl, len, pp, r, q) := by
  intro pc ls st sh mm hc hz tys ad H locs lsR hI hP hL hls hst
  obtain ⟨hx, hb, hml, hown, hts, hnw, hao, hA, hin, hR, hRc, hscr⟩ := C0
  have hk := zC_chk hc
  obtain rfl : len = 1 := Nat.eq_of_beq_eq_true hk
  have hd : decode (zBy i) pc = .ok (.lshl, 1) := zC_dec hc
  obtain ⟨x, y, t, rfl, hz⟩ := zx_bli hz
  obtain ⟨ry, hst⟩ := List.forall_mem_cons.mp hst
  obtain ⟨rx, hst⟩ := List.forall_mem_cons.mp hst
  refine lv_lshl (x := Int64.ofInt x) (y := Int32.ofInt y) (v := Int64.ofInt (zlshl x y)) hx hb hd (Int64.ofInt_toInt _).symm ?_
  exact hz.1 tys ad H locs lsR hI hP hL hls (List.forall_mem_cons.mpr ⟨zr_l _, hst⟩)
theorem zsd_lshr {C : zC0} {len pp r : Nat} {q : Int} (C0 : zCtx p R s m args meth c i d D A ad0 sh0 mm0 shF) : zSd p l e R s m args below meth c Q i D A ad0 sh0 mm0 shF C (.lshr, len, pp, r, q) := by
  intro pc ls st sh mm hc hz tys ad H locs lsR hI hP hL hls hst
  obtain ⟨hx, hb, hml, hown, hts, hnw, hao, hA, hin, hR, hRc, hscr⟩ := C0
  have hk := zC_chk hc
  obtain rfl : len = 1 := Nat.eq_of_beq_eq_true hk
  have hd : decode (zBy i) pc = .ok (.lshr, 1) := zC_dec hc
  obtain ⟨x, y, t, rfl, hz⟩ := zx_bli hz
  obtain ⟨ry, hst⟩ := List.forall_mem_cons.mp hst
  obtain ⟨rx, hst⟩ := List.forall_mem_cons.mp hst
  refine lv_lshr (x := Int64.ofInt x) (y := Int32.ofInt y) (v := Int64.ofInt (zlshr x y)) hx hb hd (Int64.ofInt_toInt _).symm ?_
  exact hz.1 tys ad H locs lsR hI hP hL hls (List.forall_mem_cons.mpr ⟨zr_l _, hst⟩)
theorem zsd_lcmp {C : zC0} {len pp r : Nat} {q : Int} (C0 : zCtx p R s m args meth c i d D A ad0 sh0 mm0 shF) : zSd p l e R s m args below meth c Q i D A ad0 sh0 mm0 shF C (.lcmp, len, pp, r, q) := by
  intro pc ls st sh mm hc hz tys ad H locs lsR hI hP hL hls hst
  obtain ⟨hx, hb, hml, hown, hts, hnw, hao, hA, hin, hR, hRc, hscr⟩ := C0
  have hk := zC_chk hc
  obtain rfl : len = 1 := Nat.eq_of_beq_eq_true hk
  have hd : decode (zBy i) pc = .ok (.lcmp, 1) := zC_dec hc
  obtain ⟨x, y, t, rfl, hz⟩ := zx_bl2 hz
  obtain ⟨ry, hst⟩ := List.forall_mem_cons.mp hst
  obtain ⟨rx, hst⟩ := List.forall_mem_cons.mp hst
  simp only [zs1, zbl2] at hz
  refine W.lcmp (x := Int64.ofInt x) (y := Int64.ofInt y) hx hb hd ?_
  have e1 : (Int64.ofInt x > Int64.ofInt y) = (y < x) := propext (zo_llt ry rx)
  have e2 : (Int64.ofInt x = Int64.ofInt y) = (x = y) := propext (zo_leq rx ry)
  unfold lg_cmp
  by_cases h1 : x < y
  · rw [if_pos h1] at hz
    simp only [e1, e2]
    rw [if_neg (show ¬ y < x by omega), if_neg (show ¬ x = y by omega)]
    exact hz.1 tys ad H locs lsR hI hP hL hls (List.forall_mem_cons.mpr ⟨⟨by decide, by decide⟩, hst⟩)
  · rw [if_neg h1] at hz
    by_cases h2 : x = y
    · rw [if_pos h2] at hz
      simp only [e1, e2]
      rw [if_neg (show ¬ y < x by omega), if_pos h2]
      exact hz.1 tys ad H locs lsR hI hP hL hls (List.forall_mem_cons.mpr ⟨zr_0, hst⟩)
    · rw [if_neg h2] at hz
      simp only [e1, e2]
      rw [if_pos (show y < x by omega)]
      exact hz.1 tys ad H locs lsR hI hP hL hls (List.forall_mem_cons.mpr ⟨⟨by decide, by decide⟩, hst⟩)
theorem zsd_dup {C : zC0} {len pp r : Nat} {q : Int} (C0 : zCtx p R s m args meth c i d D A ad0 sh0 mm0 shF) : zSd p l e R s m args below meth c Q i D A ad0 sh0 mm0 shF C (.dup, len, pp, r, q) := by
  intro pc ls st sh mm hc hz tys ad H locs lsR hI hP hL hls hst
  obtain ⟨hx, hb, hml, hown, hts, hnw, hao, hA, hin, hR, hRc, hscr⟩ := C0
  have hk := zC_chk hc
  obtain rfl : len = 1 := Nat.eq_of_beq_eq_true hk
  have hd : decode (zBy i) pc = .ok (.dup, 1) := zC_dec hc
  simp only [zs1] at hz
  split at hz
  · rename_i x t
    obtain ⟨rx, hst⟩ := List.forall_mem_cons.mp hst
    refine lv_dup (va := .int (Int32.ofInt x)) hx hb hd rfl ?_
    exact hz.1 tys ad H locs lsR hI hP hL hls (List.forall_mem_cons.mpr ⟨rx, List.forall_mem_cons.mpr ⟨rx, hst⟩⟩)
  · rename_i x t
    obtain ⟨rx, hst⟩ := List.forall_mem_cons.mp hst
    refine lv_dup (va := .ref (ad x).1) hx hb hd rfl ?_
    exact hz.1 tys ad H locs lsR hI hP hL hls (List.forall_mem_cons.mpr ⟨rx, List.forall_mem_cons.mpr ⟨rx, hst⟩⟩)
  · exact hz.elim
theorem zsd_dup2 {C : zC0} {len pp r : Nat} {q : Int} (C0 : zCtx p R s m args meth c i d D A ad0 sh0 mm0 shF) : zSd p l e R s m args below meth c Q i D A ad0 sh0 mm0 shF C (.dup2, len, pp, r, q) := by
  intro pc ls st sh mm hc hz tys ad H locs lsR hI hP hL hls hst
  obtain ⟨hx, hb, hml, hown, hts, hnw, hao, hA, hin, hR, hRc, hscr⟩ := C0
  have hk := zC_chk hc
  obtain rfl : len = 1 := Nat.eq_of_beq_eq_true hk
  have hd : decode (zBy i) pc = .ok (.dup2, 1) := zC_dec hc
  obtain ⟨a, j, t, rfl, hz⟩ := zx_bir hz
  obtain ⟨rj, hst⟩ := List.forall_mem_cons.mp hst
  obtain ⟨ra, hst⟩ := List.forall_mem_cons.mp hst
  refine lv_dup2_11 (va := .int (Int32.ofInt j)) (vb := .ref (ad a).1) hx hb hd rfl rfl ?_
  exact hz.1 tys ad H locs lsR hI hP hL hls (List.forall_mem_cons.mpr ⟨rj, List.forall_mem_cons.mpr ⟨ra, List.forall_mem_cons.mpr ⟨rj, List.forall_mem_cons.mpr ⟨ra, hst⟩⟩⟩⟩)
theorem zsd_pop {C : zC0} {len pp r : Nat} {q : Int} (C0 : zCtx p R s m args meth c i d D A ad0 sh0 mm0 shF) : zSd p l e R s m args below meth c Q i D A ad0 sh0 mm0 shF C (.pop, len, pp, r, q) := by
  intro pc ls st sh mm hc hz tys ad H locs lsR hI hP hL hls hst
  obtain ⟨hx, hb, hml, hown, hts, hnw, hao, hA, hin, hR, hRc, hscr⟩ := C0
  have hk := zC_chk hc
  obtain rfl : len = 1 := Nat.eq_of_beq_eq_true hk
  have hd : decode (zBy i) pc = .ok (.pop, 1) := zC_dec hc
  obtain ⟨x, t, rfl, hz⟩ := zx_b1 hz
  obtain ⟨rx, hst⟩ := List.forall_mem_cons.mp hst
  refine lv_pop (va := .int (Int32.ofInt x)) hx hb hd rfl ?_
  exact hz.1 tys ad H locs lsR hI hP hL hls hst
theorem zsd_bipush {C : zC0} {len pp r : Nat} {q : Int} {n : Int} (C0 : zCtx p R s m args meth c i d D A ad0 sh0 mm0 shF) : zSd p l e R s m args below meth c Q i D A ad0 sh0 mm0 shF C (.bipush n, len, pp, r, q) := by
  intro pc ls st sh mm hc hz tys ad H locs lsR hI hP hL hls hst
  obtain ⟨hx, hb, hml, hown, hts, hnw, hao, hA, hin, hR, hRc, hscr⟩ := C0
  have hk := zC_chk hc
  simp only [zchk, Bool.and_eq_true, decide_eq_true_eq] at hk
  obtain ⟨h1, k⟩ := hk
  obtain rfl : len = 2 := Nat.eq_of_beq_eq_true h1
  have hd : decode (zBy i) pc = .ok (.bipush n, 2) := zC_dec hc
  refine lv_bipush (v := Int32.ofInt q) hx hb hd k.1 ?_
  exact hz.1 tys ad H locs lsR hI hP hL hls (List.forall_mem_cons.mpr ⟨k.2, hst⟩)
theorem zsd_sipush {C : zC0} {len pp r : Nat} {q : Int} {n : Int} (C0 : zCtx p R s m args meth c i d D A ad0 sh0 mm0 shF) : zSd p l e R s m args below meth c Q i D A ad0 sh0 mm0 shF C (.sipush n, len, pp, r, q) := by
  intro pc ls st sh mm hc hz tys ad H locs lsR hI hP hL hls hst
  obtain ⟨hx, hb, hml, hown, hts, hnw, hao, hA, hin, hR, hRc, hscr⟩ := C0
  have hk := zC_chk hc
  simp only [zchk, Bool.and_eq_true, decide_eq_true_eq] at hk
  obtain ⟨h1, k⟩ := hk
  obtain rfl : len = 3 := Nat.eq_of_beq_eq_true h1
  have hd : decode (zBy i) pc = .ok (.sipush n, 3) := zC_dec hc
  refine lv_sipush (v := Int32.ofInt q) hx hb hd k.1 ?_
  exact hz.1 tys ad H locs lsR hI hP hL hls (List.forall_mem_cons.mpr ⟨k.2, hst⟩)
theorem zsd_iconst {C : zC0} {len pp r : Nat} {q : Int} {n : Int} (C0 : zCtx p R s m args meth c i d D A ad0 sh0 mm0 shF) : zSd p l e R s m args below meth c Q i D A ad0 sh0 mm0 shF C (.iconst n, len, pp, r, q) := by
  intro pc ls st sh mm hc hz tys ad H locs lsR hI hP hL hls hst
  obtain ⟨hx, hb, hml, hown, hts, hnw, hao, hA, hin, hR, hRc, hscr⟩ := C0
  have hk := zC_chk hc
  simp only [zchk, Bool.and_eq_true, decide_eq_true_eq] at hk
  obtain ⟨h1, k⟩ := hk
  obtain rfl : len = 1 := Nat.eq_of_beq_eq_true h1
  have hd : decode (zBy i) pc = .ok (.iconst n, 1) := zC_dec hc
  refine lv_iconst (v := Int32.ofInt q) hx hb hd k.1 ?_
  exact hz.1 tys ad H locs lsR hI hP hL hls (List.forall_mem_cons.mpr ⟨k.2, hst⟩)
theorem zsd_lconst {C : zC0} {len pp r : Nat} {q : Int} {n : Fin 2} (C0 : zCtx p R s m args meth c i d D A ad0 sh0 mm0 shF) : zSd p l e R s m args below meth c Q i D A ad0 sh0 mm0 shF C (.lconst n, len, pp, r, q) := by
  intro pc ls st sh mm hc hz tys ad H locs lsR hI hP hL hls hst
  obtain ⟨hx, hb, hml, hown, hts, hnw, hao, hA, hin, hR, hRc, hscr⟩ := C0
  have hk := zC_chk hc
  simp only [zchk, Bool.and_eq_true, decide_eq_true_eq] at hk
  obtain ⟨h1, k⟩ := hk
  obtain rfl : len = 1 := Nat.eq_of_beq_eq_true h1
  have hd : decode (zBy i) pc = .ok (.lconst n, 1) := zC_dec hc
  refine lv_lconst (v := Int64.ofInt q) hx hb hd k.1 ?_
  exact hz.1 tys ad H locs lsR hI hP hL hls (List.forall_mem_cons.mpr ⟨k.2, hst⟩)
theorem zLk_ok {i idx : Nat} {w : Cond} (h : zLk i idx w = true) (hg : goodWord w = true) : w ∈ zWS := by
  simp only [zLk, Bool.and_eq_true, decide_eq_true_eq] at h
  have h1 := zlk_ok h.1
  rw [h.2] at h1
  exact zWS_in h1.1 hg
theorem zLk_okN {i idx : Nat} {w : Cond} (h : zLk i idx w = true) (hg : zisN w = true) : w ∈ zNst := by
  simp only [zLk, Bool.and_eq_true, decide_eq_true_eq] at h
  have h1 := zlk_ok h.1
  rw [h.2] at h1
  exact zNst_in h1.1 hg
theorem zsd_ldc {C : zC0} {len pp r : Nat} {q : Int} {n : Nat} (C0 : zCtx p R s m args meth c i d D A ad0 sh0 mm0 shF) : zSd p l e R s m args below meth c Q i D A ad0 sh0 mm0 shF C (.ldc n, len, pp, r, q) := by
  intro pc ls st sh mm hc hz tys ad H locs lsR hI hP hL hls hst
  obtain ⟨hx, hb, hml, hown, hts, hnw, hao, hA, hin, hR, hRc, hscr⟩ := C0
  have hk := zC_chk hc
  simp only [zchk, Bool.and_eq_true, decide_eq_true_eq] at hk
  obtain ⟨⟨h1, k1⟩, k⟩ := hk
  obtain rfl : len = 2 := Nat.eq_of_beq_eq_true h1
  have hd : decode (zBy i) pc = .ok (.ldc n, 2) := zC_dec hc
  refine lv_ldc (v := Int32.ofInt q) hx hb hown (hts _ (zLk_ok k1 rfl)) hd ?_
  exact hz.1 tys ad H locs lsR hI hP hL hls (List.forall_mem_cons.mpr ⟨k, hst⟩)
theorem zsd_ldcw {C : zC0} {len pp r : Nat} {q : Int} {n : Nat} (C0 : zCtx p R s m args meth c i d D A ad0 sh0 mm0 shF) : zSd p l e R s m args below meth c Q i D A ad0 sh0 mm0 shF C (.ldc_w n, len, pp, r, q) := by
  intro pc ls st sh mm hc hz tys ad H locs lsR hI hP hL hls hst
  obtain ⟨hx, hb, hml, hown, hts, hnw, hao, hA, hin, hR, hRc, hscr⟩ := C0
  have hk := zC_chk hc
  simp only [zchk, Bool.and_eq_true, decide_eq_true_eq] at hk
  obtain ⟨⟨h1, k1⟩, k⟩ := hk
  obtain rfl : len = 3 := Nat.eq_of_beq_eq_true h1
  have hd : decode (zBy i) pc = .ok (.ldc_w n, 3) := zC_dec hc
  refine lv_ldcw (v := Int32.ofInt q) hx hb hown (hts _ (zLk_ok k1 rfl)) hd ?_
  exact hz.1 tys ad H locs lsR hI hP hL hls (List.forall_mem_cons.mpr ⟨k, hst⟩)
theorem zsd_ldc2 {C : zC0} {len pp r : Nat} {q : Int} {n : Nat} (C0 : zCtx p R s m args meth c i d D A ad0 sh0 mm0 shF) : zSd p l e R s m args below meth c Q i D A ad0 sh0 mm0 shF C (.ldc2_w n, len, pp, r, q) := by
  intro pc ls st sh mm hc hz tys ad H locs lsR hI hP hL hls hst
  obtain ⟨hx, hb, hml, hown, hts, hnw, hao, hA, hin, hR, hRc, hscr⟩ := C0
  have hk := zC_chk hc
  simp only [zchk, Bool.and_eq_true, decide_eq_true_eq] at hk
  obtain ⟨⟨h1, k1⟩, k⟩ := hk
  obtain rfl : len = 3 := Nat.eq_of_beq_eq_true h1
  have hd : decode (zBy i) pc = .ok (.ldc2_w n, 3) := zC_dec hc
  refine lv_ldc2 (v := Int64.ofInt q) hx hb hown (hts _ (zLk_ok k1 rfl)) hd ?_
  exact hz.1 tys ad H locs lsR hI hP hL hls (List.forall_mem_cons.mpr ⟨k, hst⟩)
theorem zsd_iload {C : zC0} {len pp r : Nat} {q : Int} {n : Nat} (C0 : zCtx p R s m args meth c i d D A ad0 sh0 mm0 shF) : zSd p l e R s m args below meth c Q i D A ad0 sh0 mm0 shF C (.iload n, len, pp, r, q) := by
  intro pc ls st sh mm hc hz tys ad H locs lsR hI hP hL hls hst
  obtain ⟨hx, hb, hml, hown, hts, hnw, hao, hA, hin, hR, hRc, hscr⟩ := C0
  have hk := zC_chk hc
  obtain rfl : len = 2 := Nat.eq_of_beq_eq_true hk
  have hd : decode (zBy i) pc = .ok (.iload n, 2) := zC_dec hc
  obtain ⟨v, hv, hz⟩ := zx_ld hz
  have hr := hls v (List.mem_of_getElem? hv)
  have hv2 := hL.2.2.2 _ _ hv
  rcases v with x | x | x
  · refine lv_iload hx hb hd (x := Int32.ofInt x) hv2 ?_
    exact hz.1 tys ad H locs lsR hI hP hL hls (List.forall_mem_cons.mpr ⟨hr, hst⟩)
  · exact hz.elim
  · exact hz.elim
theorem zsd_iload_n {C : zC0} {len pp r : Nat} {q : Int} {n : Fin 4} (C0 : zCtx p R s m args meth c i d D A ad0 sh0 mm0 shF) : zSd p l e R s m args below meth c Q i D A ad0 sh0 mm0 shF C (.iload_n n, len, pp, r, q) := by
  intro pc ls st sh mm hc hz tys ad H locs lsR hI hP hL hls hst
  obtain ⟨hx, hb, hml, hown, hts, hnw, hao, hA, hin, hR, hRc, hscr⟩ := C0
  have hk := zC_chk hc
  obtain rfl : len = 1 := Nat.eq_of_beq_eq_true hk
  have hd : decode (zBy i) pc = .ok (.iload_n n, 1) := zC_dec hc
  obtain ⟨v, hv, hz⟩ := zx_ld hz
  have hr := hls v (List.mem_of_getElem? hv)
  have hv2 := hL.2.2.2 _ _ hv
  rcases v with x | x | x
  · refine lv_iload_n hx hb hd rfl (x := Int32.ofInt x) hv2 ?_
    exact hz.1 tys ad H locs lsR hI hP hL hls (List.forall_mem_cons.mpr ⟨hr, hst⟩)
  · exact hz.elim
  · exact hz.elim
theorem zsd_lload {C : zC0} {len pp r : Nat} {q : Int} {n : Nat} (C0 : zCtx p R s m args meth c i d D A ad0 sh0 mm0 shF) : zSd p l e R s m args below meth c Q i D A ad0 sh0 mm0 shF C (.lload n, len, pp, r, q) := by
  intro pc ls st sh mm hc hz tys ad H locs lsR hI hP hL hls hst
  obtain ⟨hx, hb, hml, hown, hts, hnw, hao, hA, hin, hR, hRc, hscr⟩ := C0
  have hk := zC_chk hc
  obtain rfl : len = 2 := Nat.eq_of_beq_eq_true hk
  have hd : decode (zBy i) pc = .ok (.lload n, 2) := zC_dec hc
  obtain ⟨v, hv, hz⟩ := zx_ld hz
  have hr := hls v (List.mem_of_getElem? hv)
  have hv2 := hL.2.2.2 _ _ hv
  rcases v with x | x | x
  · exact hz.elim
  · refine lv_lload hx hb hd (x := Int64.ofInt x) hv2 ?_
    exact hz.1 tys ad H locs lsR hI hP hL hls (List.forall_mem_cons.mpr ⟨hr, hst⟩)
  · exact hz.elim
theorem zsd_lload_n {C : zC0} {len pp r : Nat} {q : Int} {n : Fin 4} (C0 : zCtx p R s m args meth c i d D A ad0 sh0 mm0 shF) : zSd p l e R s m args below meth c Q i D A ad0 sh0 mm0 shF C (.lload_n n, len, pp, r, q) := by
  intro pc ls st sh mm hc hz tys ad H locs lsR hI hP hL hls hst
  obtain ⟨hx, hb, hml, hown, hts, hnw, hao, hA, hin, hR, hRc, hscr⟩ := C0
  have hk := zC_chk hc
  obtain rfl : len = 1 := Nat.eq_of_beq_eq_true hk
  have hd : decode (zBy i) pc = .ok (.lload_n n, 1) := zC_dec hc
  obtain ⟨v, hv, hz⟩ := zx_ld hz
  have hr := hls v (List.mem_of_getElem? hv)
  have hv2 := hL.2.2.2 _ _ hv
  rcases v with x | x | x
  · exact hz.elim
  · refine lv_lload_n hx hb hd rfl (x := Int64.ofInt x) hv2 ?_
    exact hz.1 tys ad H locs lsR hI hP hL hls (List.forall_mem_cons.mpr ⟨hr, hst⟩)
  · exact hz.elim
theorem zsd_aload {C : zC0} {len pp r : Nat} {q : Int} {n : Nat} (C0 : zCtx p R s m args meth c i d D A ad0 sh0 mm0 shF) : zSd p l e R s m args below meth c Q i D A ad0 sh0 mm0 shF C (.aload n, len, pp, r, q) := by
  intro pc ls st sh mm hc hz tys ad H locs lsR hI hP hL hls hst
  obtain ⟨hx, hb, hml, hown, hts, hnw, hao, hA, hin, hR, hRc, hscr⟩ := C0
  have hk := zC_chk hc
  obtain rfl : len = 2 := Nat.eq_of_beq_eq_true hk
  have hd : decode (zBy i) pc = .ok (.aload n, 2) := zC_dec hc
  obtain ⟨v, hv, hz⟩ := zx_ld hz
  have hr := hls v (List.mem_of_getElem? hv)
  have hv2 := hL.2.2.2 _ _ hv
  rcases v with x | x | x
  · exact hz.elim
  · exact hz.elim
  · refine lv_aload hx hb hd (x := (ad x).1) hv2 ?_
    exact hz.1 tys ad H locs lsR hI hP hL hls (List.forall_mem_cons.mpr ⟨hr, hst⟩)
theorem zsd_aload_n {C : zC0} {len pp r : Nat} {q : Int} {n : Fin 4} (C0 : zCtx p R s m args meth c i d D A ad0 sh0 mm0 shF) : zSd p l e R s m args below meth c Q i D A ad0 sh0 mm0 shF C (.aload_n n, len, pp, r, q) := by
  intro pc ls st sh mm hc hz tys ad H locs lsR hI hP hL hls hst
  obtain ⟨hx, hb, hml, hown, hts, hnw, hao, hA, hin, hR, hRc, hscr⟩ := C0
  have hk := zC_chk hc
  obtain rfl : len = 1 := Nat.eq_of_beq_eq_true hk
  have hd : decode (zBy i) pc = .ok (.aload_n n, 1) := zC_dec hc
  obtain ⟨v, hv, hz⟩ := zx_ld hz
  have hr := hls v (List.mem_of_getElem? hv)
  have hv2 := hL.2.2.2 _ _ hv
  rcases v with x | x | x
  · exact hz.elim
  · exact hz.elim
  · refine lv_aload_n hx hb hd rfl (x := (ad x).1) hv2 ?_
    exact hz.1 tys ad H locs lsR hI hP hL hls (List.forall_mem_cons.mpr ⟨hr, hst⟩)
theorem zsd_istore {C : zC0} {len pp r : Nat} {q : Int} {n : Nat} (C0 : zCtx p R s m args meth c i d D A ad0 sh0 mm0 shF) : zSd p l e R s m args below meth c Q i D A ad0 sh0 mm0 shF C (.istore n, len, pp, r, q) := by
  intro pc ls st sh mm hc hz tys ad H locs lsR hI hP hL hls hst
  obtain ⟨hx, hb, hml, hown, hts, hnw, hao, hA, hin, hR, hRc, hscr⟩ := C0
  have hk := zC_chk hc
  obtain rfl : len = 2 := Nat.eq_of_beq_eq_true hk
  have hd : decode (zBy i) pc = .ok (.istore n, 2) := zC_dec hc
  obtain ⟨hn, hz⟩ := zx_cond hz
  have hn := Nat.blt_eq.mp hn
  obtain ⟨x, t, rfl, hz⟩ := zx_b1 hz
  obtain ⟨rx, hst⟩ := List.forall_mem_cons.mp hst
  have hn2 : n < zml i := by rw [← hL.2.1]; exact hn
  refine lv_istore hx hb hd hL.has hn2 rfl (fun ls' hl => ?_)
  exact hz.1 tys ad H locs ls' hI hP (zLc.st hL.2.1 hn2 hl) (fun v hv => by
    rcases zst_mem hn hv with rfl | hv
    · exact rx
    · exact hls v hv) hst
theorem zsd_istore_n {C : zC0} {len pp r : Nat} {q : Int} {n : Fin 4} (C0 : zCtx p R s m args meth c i d D A ad0 sh0 mm0 shF) : zSd p l e R s m args below meth c Q i D A ad0 sh0 mm0 shF C (.istore_n n, len, pp, r, q) := by
  intro pc ls st sh mm hc hz tys ad H locs lsR hI hP hL hls hst
  obtain ⟨hx, hb, hml, hown, hts, hnw, hao, hA, hin, hR, hRc, hscr⟩ := C0
  have hk := zC_chk hc
  obtain rfl : len = 1 := Nat.eq_of_beq_eq_true hk
  have hd : decode (zBy i) pc = .ok (.istore_n n, 1) := zC_dec hc
  obtain ⟨hn, hz⟩ := zx_cond hz
  have hn := Nat.blt_eq.mp hn
  obtain ⟨x, t, rfl, hz⟩ := zx_b1 hz
  obtain ⟨rx, hst⟩ := List.forall_mem_cons.mp hst
  have hn2 : n.val < zml i := by rw [← hL.2.1]; exact hn
  refine lv_istore_n hx hb hd rfl hL.has hn2 rfl (fun ls' hl => ?_)
  exact hz.1 tys ad H locs ls' hI hP (zLc.st hL.2.1 hn2 hl) (fun v hv => by
    rcases zst_mem hn hv with rfl | hv
    · exact rx
    · exact hls v hv) hst
theorem zsd_astore {C : zC0} {len pp r : Nat} {q : Int} {n : Nat} (C0 : zCtx p R s m args meth c i d D A ad0 sh0 mm0 shF) : zSd p l e R s m args below meth c Q i D A ad0 sh0 mm0 shF C (.astore n, len, pp, r, q) := by
  intro pc ls st sh mm hc hz tys ad H locs lsR hI hP hL hls hst
  obtain ⟨hx, hb, hml, hown, hts, hnw, hao, hA, hin, hR, hRc, hscr⟩ := C0
  have hk := zC_chk hc
  obtain rfl : len = 2 := Nat.eq_of_beq_eq_true hk
  have hd : decode (zBy i) pc = .ok (.astore n, 2) := zC_dec hc
  obtain ⟨hn, hz⟩ := zx_cond hz
  have hn := Nat.blt_eq.mp hn
  obtain ⟨x, t, rfl, hz⟩ := zx_br hz
  obtain ⟨rx, hst⟩ := List.forall_mem_cons.mp hst
  have hn2 : n < zml i := by rw [← hL.2.1]; exact hn
  refine lv_astore hx hb hd hL.has hn2 rfl (fun ls' hl => ?_)
  exact hz.1 tys ad H locs ls' hI hP (zLc.st hL.2.1 hn2 hl) (fun v hv => by
    rcases zst_mem hn hv with rfl | hv
    · exact rx
    · exact hls v hv) hst
theorem zsd_astore_n {C : zC0} {len pp r : Nat} {q : Int} {n : Fin 4} (C0 : zCtx p R s m args meth c i d D A ad0 sh0 mm0 shF) : zSd p l e R s m args below meth c Q i D A ad0 sh0 mm0 shF C (.astore_n n, len, pp, r, q) := by
  intro pc ls st sh mm hc hz tys ad H locs lsR hI hP hL hls hst
  obtain ⟨hx, hb, hml, hown, hts, hnw, hao, hA, hin, hR, hRc, hscr⟩ := C0
  have hk := zC_chk hc
  obtain rfl : len = 1 := Nat.eq_of_beq_eq_true hk
  have hd : decode (zBy i) pc = .ok (.astore_n n, 1) := zC_dec hc
  obtain ⟨hn, hz⟩ := zx_cond hz
  have hn := Nat.blt_eq.mp hn
  obtain ⟨x, t, rfl, hz⟩ := zx_br hz
  obtain ⟨rx, hst⟩ := List.forall_mem_cons.mp hst
  have hn2 : n.val < zml i := by rw [← hL.2.1]; exact hn
  refine lv_astore_n hx hb hd rfl hL.has hn2 rfl (fun ls' hl => ?_)
  exact hz.1 tys ad H locs ls' hI hP (zLc.st hL.2.1 hn2 hl) (fun v hv => by
    rcases zst_mem hn hv with rfl | hv
    · exact rx
    · exact hls v hv) hst
theorem zsd_iinc {C : zC0} {len pp r : Nat} {q : Int} {n : Nat} {k : Int} (C0 : zCtx p R s m args meth c i d D A ad0 sh0 mm0 shF) : zSd p l e R s m args below meth c Q i D A ad0 sh0 mm0 shF C (.iinc n k, len, pp, r, q) := by
  intro pc ls st sh mm hc hz tys ad H locs lsR hI hP hL hls hst
  obtain ⟨hx, hb, hml, hown, hts, hnw, hao, hA, hin, hR, hRc, hscr⟩ := C0
  have hk := zC_chk hc
  obtain rfl : len = 3 := Nat.eq_of_beq_eq_true hk
  have hd : decode (zBy i) pc = .ok (.iinc n k, 3) := zC_dec hc
  obtain ⟨v, hv, hz⟩ := zx_ld hz
  have hn : n < ls.length := (List.getElem?_eq_some_iff.mp hv).1
  have hn2 : n < zml i := by rw [← hL.2.1]; exact hn
  rcases v with x | x | x
  · obtain ⟨z, hz1⟩ := List.mem_iff_getElem?.mp ((zlp_mem (ad := ad) (ls := ls) (q := (n, zcv ad (.inl x)))).mpr ⟨_, hv, rfl⟩)
    refine lv_iinc (x := Int32.ofInt x) (v := Int32.ofInt (zw (x + k))) (k := z) hx hb hd hL.has hz1 (by rw [zw_o, Int32.ofInt_add]) hn2 rfl (fun ls' hl => ?_)
    exact hz.1 tys ad H locs ls' hI hP (zLc.st hL.2.1 hn2 hl) (fun v hv => by
      rcases zst_mem hn hv with rfl | hv
      · exact zw_r _
      · exact hls v hv) hst
  · exact hz.elim
  · exact hz.elim
theorem zsd_goto {C : zC0} {len pp r : Nat} {q : Int} {n : Int} (C0 : zCtx p R s m args meth c i d D A ad0 sh0 mm0 shF) : zSd p l e R s m args below meth c Q i D A ad0 sh0 mm0 shF C (.goto n, len, pp, r, q) := by
  intro pc ls st sh mm hc hz tys ad H locs lsR hI hP hL hls hst
  obtain ⟨hx, hb, hml, hown, hts, hnw, hao, hA, hin, hR, hRc, hscr⟩ := C0
  have hk := zC_chk hc
  simp only [zchk, Bool.and_eq_true, decide_eq_true_eq] at hk
  obtain ⟨h1, k⟩ := hk
  obtain rfl : len = 3 := Nat.eq_of_beq_eq_true h1
  have hd : decode (zBy i) pc = .ok (.goto n, 3) := zC_dec hc
  exact lv_goto hx hb hd k (hz.1 tys ad H locs lsR hI hP hL hls hst)
theorem zsd_ificmp {C : zC0} {len pp r : Nat} {q : Int} {k : ClassFile.Cond} {n : Int} (C0 : zCtx p R s m args meth c i d D A ad0 sh0 mm0 shF) : zSd p l e R s m args below meth c Q i D A ad0 sh0 mm0 shF C (.if_icmp k n, len, pp, r, q) := by
  intro pc ls st sh mm hc hz tys ad H locs lsR hI hP hL hls hst
  obtain ⟨hx, hb, hml, hown, hts, hnw, hao, hA, hin, hR, hRc, hscr⟩ := C0
  have hk := zC_chk hc
  simp only [zchk, Bool.and_eq_true, decide_eq_true_eq] at hk
  obtain ⟨h1, kk⟩ := hk
  obtain rfl : len = 3 := Nat.eq_of_beq_eq_true h1
  have hd : decode (zBy i) pc = .ok (.if_icmp k n, 3) := zC_dec hc
  obtain ⟨x, y, t, rfl, hz⟩ := zx_b2 hz
  obtain ⟨ry, hst⟩ := List.forall_mem_cons.mp hst
  obtain ⟨rx, hst⟩ := List.forall_mem_cons.mp hst
  have ry : zr32 y := ry
  have rx : zr32 x := rx
  cases k
  · simp only [zs1, zb2, zcn] at hz
    refine lv_icmp_eq hx hb hd kk (fun q0 => ?_) (fun q0 => ?_)
    · rw [if_pos (show x = y from (zo_eq rx ry).mp q0)] at hz
      exact hz.1 tys ad H locs lsR hI hP hL hls hst
    · rw [if_neg (show ¬ x = y from fun z => q0 ((zo_eq rx ry).mpr z))] at hz
      exact hz.1 tys ad H locs lsR hI hP hL hls hst
  · simp only [zs1, zb2, zcn] at hz
    refine lv_icmp_ne hx hb hd kk (fun q0 => ?_) (fun q0 => ?_)
    · rw [if_neg (show ¬ x = y from fun z => q0 ((zo_eq rx ry).mpr z))] at hz
      exact hz.1 tys ad H locs lsR hI hP hL hls hst
    · rw [if_pos (show x = y from (zo_eq rx ry).mp q0)] at hz
      exact hz.1 tys ad H locs lsR hI hP hL hls hst
  · simp only [zs1, zb2, zcn] at hz
    refine lv_icmp_lt hx hb hd kk (fun q0 => ?_) (fun q0 => ?_)
    · rw [if_pos (show x < y from (zo_lt rx ry).mp q0)] at hz
      exact hz.1 tys ad H locs lsR hI hP hL hls hst
    · rw [if_neg (show ¬ x < y from fun z => q0 ((zo_lt rx ry).mpr z))] at hz
      exact hz.1 tys ad H locs lsR hI hP hL hls hst
  · simp only [zs1, zb2, zcn] at hz
    refine lv_icmp_ge hx hb hd kk (fun q0 => ?_) (fun q0 => ?_)
    · rw [if_neg (show ¬ x < y from by have := (zo_le ry rx).mp q0; omega)] at hz
      exact hz.1 tys ad H locs lsR hI hP hL hls hst
    · rw [if_pos (show x < y from by have := mt (zo_le ry rx).mpr q0; omega)] at hz
      exact hz.1 tys ad H locs lsR hI hP hL hls hst
  · simp only [zs1, zb2, zcn] at hz
    refine lv_icmp_gt hx hb hd kk (fun q0 => ?_) (fun q0 => ?_)
    · rw [if_pos (show y < x from (zo_lt ry rx).mp q0)] at hz
      exact hz.1 tys ad H locs lsR hI hP hL hls hst
    · rw [if_neg (show ¬ y < x from fun z => q0 ((zo_lt ry rx).mpr z))] at hz
      exact hz.1 tys ad H locs lsR hI hP hL hls hst
  · simp only [zs1, zb2, zcn] at hz
    refine lv_icmp_le hx hb hd kk (fun q0 => ?_) (fun q0 => ?_)
    · rw [if_neg (show ¬ y < x from by have := (zo_le rx ry).mp q0; omega)] at hz
      exact hz.1 tys ad H locs lsR hI hP hL hls hst
    · rw [if_pos (show y < x from by have := mt (zo_le rx ry).mpr q0; omega)] at hz
      exact hz.1 tys ad H locs lsR hI hP hL hls hst
theorem zsd_ifc {C : zC0} {len pp r : Nat} {q : Int} {k : ClassFile.Cond} {n : Int} (C0 : zCtx p R s m args meth c i d D A ad0 sh0 mm0 shF) : zSd p l e R s m args below meth c Q i D A ad0 sh0 mm0 shF C (.ifCond k n, len, pp, r, q) := by
  intro pc ls st sh mm hc hz tys ad H locs lsR hI hP hL hls hst
  obtain ⟨hx, hb, hml, hown, hts, hnw, hao, hA, hin, hR, hRc, hscr⟩ := C0
  have hk := zC_chk hc
  simp only [zchk, Bool.and_eq_true, decide_eq_true_eq] at hk
  obtain ⟨h1, kk⟩ := hk
  obtain rfl : len = 3 := Nat.eq_of_beq_eq_true h1
  have hd : decode (zBy i) pc = .ok (.ifCond k n, 3) := zC_dec hc
  obtain ⟨x, t, rfl, hz⟩ := zx_b1 hz
  obtain ⟨rx, hst⟩ := List.forall_mem_cons.mp hst
  have rx : zr32 x := rx
  cases k
  · simp only [zs1, zb1, zcn] at hz
    refine lv_if_eq hx hb hd kk (fun q0 => ?_) (fun q0 => ?_)
    · rw [if_pos (show x = 0 from (zo_eq rx zr_0).mp q0)] at hz
      exact hz.1 tys ad H locs lsR hI hP hL hls hst
    · rw [if_neg (show ¬ x = 0 from fun z => q0 ((zo_eq rx zr_0).mpr z))] at hz
      exact hz.1 tys ad H locs lsR hI hP hL hls hst
  · simp only [zs1, zb1, zcn] at hz
    refine lv_if_ne hx hb hd kk (fun q0 => ?_) (fun q0 => ?_)
    · rw [if_neg (show ¬ x = 0 from fun z => q0 ((zo_eq rx zr_0).mpr z))] at hz
      exact hz.1 tys ad H locs lsR hI hP hL hls hst
    · rw [if_pos (show x = 0 from (zo_eq rx zr_0).mp q0)] at hz
      exact hz.1 tys ad H locs lsR hI hP hL hls hst
  · simp only [zs1, zb1, zcn] at hz
    refine lv_if_lt hx hb hd kk (fun q0 => ?_) (fun q0 => ?_)
    · rw [if_pos (show x < 0 from (zo_lt rx zr_0).mp q0)] at hz
      exact hz.1 tys ad H locs lsR hI hP hL hls hst
    · rw [if_neg (show ¬ x < 0 from fun z => q0 ((zo_lt rx zr_0).mpr z))] at hz
      exact hz.1 tys ad H locs lsR hI hP hL hls hst
  · simp only [zs1, zb1, zcn] at hz
    refine lv_if_ge hx hb hd kk (fun q0 => ?_) (fun q0 => ?_)
    · rw [if_neg (show ¬ x < 0 from by have := (zo_le zr_0 rx).mp q0; omega)] at hz
      exact hz.1 tys ad H locs lsR hI hP hL hls hst
    · rw [if_pos (show x < 0 from by have := mt (zo_le zr_0 rx).mpr q0; omega)] at hz
      exact hz.1 tys ad H locs lsR hI hP hL hls hst
  · simp only [zs1, zb1, zcn] at hz
    refine lv_if_gt hx hb hd kk (fun q0 => ?_) (fun q0 => ?_)
    · rw [if_pos (show 0 < x from (zo_lt zr_0 rx).mp q0)] at hz
      exact hz.1 tys ad H locs lsR hI hP hL hls hst
    · rw [if_neg (show ¬ 0 < x from fun z => q0 ((zo_lt zr_0 rx).mpr z))] at hz
      exact hz.1 tys ad H locs lsR hI hP hL hls hst
  · simp only [zs1, zb1, zcn] at hz
    refine lv_if_le hx hb hd kk (fun q0 => ?_) (fun q0 => ?_)
    · rw [if_neg (show ¬ 0 < x from by have := (zo_le rx zr_0).mp q0; omega)] at hz
      exact hz.1 tys ad H locs lsR hI hP hL hls hst
    · rw [if_pos (show 0 < x from by have := mt (zo_le rx zr_0).mpr q0; omega)] at hz
      exact hz.1 tys ad H locs lsR hI hP hL hls hst
theorem zsd_tsw {C : zC0} {len pp r : Nat} {q : Int} {dd lo hi : Int} {offs : Array Int} (C0 : zCtx p R s m args meth c i d D A ad0 sh0 mm0 shF) : zSd p l e R s m args below meth c Q i D A ad0 sh0 mm0 shF C (.tableswitch dd lo hi offs, len, pp, r, q) := by
  intro pc ls st sh mm hc hz tys ad H locs lsR hI hP hL hls hst
  obtain ⟨hx, hb, hml, hown, hts, hnw, hao, hA, hin, hR, hRc, hscr⟩ := C0
  have hk := zC_chk hc
  simp only [zchk, Bool.and_eq_true, decide_eq_true_eq, List.all_eq_true] at hk
  obtain ⟨⟨k1, k2⟩, k3⟩ := hk
  have hd : decode (zBy i) pc = .ok (.tableswitch dd lo hi offs, len) := zC_dec hc
  obtain ⟨x, t, rfl, hz⟩ := zx_b1 hz
  obtain ⟨rx, hst⟩ := List.forall_mem_cons.mp hst
  have rx : zr32 x := rx
  rcases zx_sw hz with ⟨k, tg, hxk, htk, hz⟩ | ⟨hout, hz⟩
  · rw [List.getElem?_map] at htk
    cases ho : offs.toList[k]? with
    | none => rw [ho] at htk; cases htk
    | some o =>
      rw [ho] at htk
      have htg : ((pc : Int) + o).toNat = tg := Option.some.inj htk
      have hk : k < offs.size := by
        have := (List.getElem?_eq_some_iff.mp ho).1
        simpa using this
      have h2 := k2 o (List.mem_of_getElem? ho)
      refine lv_tableIn (x := Int32.ofInt x) (off := o) (tgt := tg) hx hb hd (by rw [zo_i rx]; omega) (by rw [zo_i rx]; omega) ?_ (by omega) ?_
      · rw [zo_i rx, ← Array.getElem?_toList, show (x - lo).toNat = k by omega]
        exact ho
      · exact hz.1 tys ad H locs lsR hI hP hL hls hst
  · refine lv_tableOut (x := Int32.ofInt x) (tgt := ((pc : Int) + dd).toNat) hx hb hd ?_ (by omega) ?_
    · rw [zo_i rx]
      have : (offs.toList.map fun o => ((pc : Int) + o).toNat).length = offs.size := by simp
      rw [this] at hout
      omega
    · exact hz.1 tys ad H locs lsR hI hP hL hls hst
theorem zsd_ireturn {C : zC0} {len pp r : Nat} {q : Int} (C0 : zCtx p R s m args meth c i d D A ad0 sh0 mm0 shF) : zSd p l e R s m args below meth c Q i D A ad0 sh0 mm0 shF C (.ireturn, len, pp, r, q) := by
  intro pc ls st sh mm hc hz tys ad H locs lsR hI hP hL hls hst
  obtain ⟨hx, hb, hml, hown, hts, hnw, hao, hA, hin, hR, hRc, hscr⟩ := C0
  have hk := zC_chk hc
  simp only [zchk, Bool.and_eq_true] at hk
  obtain ⟨h1, kk⟩ := hk
  obtain rfl : len = 1 := Nat.eq_of_beq_eq_true h1
  have hd : decode (zBy i) pc = .ok (.ireturn, 1) := zC_dec hc
  simp only [zs1] at hz
  split at hz
  · rename_i x
    have rx : zr32 x := hst (.inl x) List.mem_cons_self
    by_cases hq : q = 1
    · rw [if_pos hq] at hz kk
      obtain ⟨h01, hz⟩ := zx_ite hz
      exact hz pc tys ad H locs lsR hI hP rx (Or.inl ⟨of_decide_eq_true kk, h01⟩) hd
    · rw [if_neg hq] at hz kk
      exact hz pc tys ad H locs lsR hI hP rx (Or.inr (of_decide_eq_true kk)) hd
  · exact hz.elim
theorem zsd_vreturn {C : zC0} {len pp r : Nat} {q : Int} (C0 : zCtx p R s m args meth c i d D A ad0 sh0 mm0 shF) : zSd p l e R s m args below meth c Q i D A ad0 sh0 mm0 shF C (.return_, len, pp, r, q) := by
  intro pc ls st sh mm hc hz tys ad H locs lsR hI hP hL hls hst
  obtain ⟨hx, hb, hml, hown, hts, hnw, hao, hA, hin, hR, hRc, hscr⟩ := C0
  have hk := zC_chk hc
  simp only [zchk, Bool.and_eq_true] at hk
  obtain ⟨h1, kk⟩ := hk
  obtain rfl : len = 1 := Nat.eq_of_beq_eq_true h1
  have hd : decode (zBy i) pc = .ok (.return_, 1) := zC_dec hc
  simp only [zs1] at hz
  split at hz
  · exact hz pc tys ad H locs lsR hI hP (of_decide_eq_true kk) hd
  · exact hz.elim
end ZSD
