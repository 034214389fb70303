section ZE
variable {X : Prop}
theorem ze_b1 {st : List zV} {f : Int → List zV → Prop} (h : zb1 False st f) (k : ∀ x s, f x s → X) : X := by obtain ⟨x, t, -, h⟩ := zx_b1 h; exact k _ _ h
theorem ze_b2 {st : List zV} {f : Int → Int → List zV → Prop} (h : zb2 False st f) (k : ∀ x y s, f x y s → X) : X := by obtain ⟨x, y, t, -, h⟩ := zx_b2 h; exact k _ _ _ h
theorem ze_bl1 {st : List zV} {f : Int → List zV → Prop} (h : zbl1 False st f) (k : ∀ x s, f x s → X) : X := by obtain ⟨x, t, -, h⟩ := zx_bl1 h; exact k _ _ h
theorem ze_bl2 {st : List zV} {f : Int → Int → List zV → Prop} (h : zbl2 False st f) (k : ∀ x y s, f x y s → X) : X := by obtain ⟨x, y, t, -, h⟩ := zx_bl2 h; exact k _ _ _ h
theorem ze_bli {st : List zV} {f : Int → Int → List zV → Prop} (h : zbli False st f) (k : ∀ x y s, f x y s → X) : X := by obtain ⟨x, y, t, -, h⟩ := zx_bli h; exact k _ _ _ h
theorem ze_br {st : List zV} {f : Nat → List zV → Prop} (h : zbr False st f) (k : ∀ x s, f x s → X) : X := by obtain ⟨x, t, -, h⟩ := zx_br h; exact k _ _ h
theorem ze_bir {st : List zV} {f : Nat → Int → List zV → Prop} (h : zbir False st f) (k : ∀ a x s, f a x s → X) : X := by obtain ⟨a, x, t, -, h⟩ := zx_bir h; exact k _ _ _ h
theorem ze_biir {st : List zV} {f : Nat → Int → Int → List zV → Prop} (h : zbiir False st f) (k : ∀ a x y s, f a x y s → X) : X := by obtain ⟨a, x, y, t, -, h⟩ := zx_biir h; exact k _ _ _ _ h
theorem ze_sh {sh : List zSh} {a : Nat} {f : Nat → Nat → List Nat → Prop} (h : zsh False sh a f) (k : ∀ x y z, sh[a]? = some (x, y, z) → f x y z → X) : X := by obtain ⟨x, y, z, h1, h⟩ := zx_sh h; exact k _ _ _ h1 h
theorem ze_ld {ls : zLs} {i : Nat} {f : zV → Prop} (h : zld False ls i f) (k : ∀ v, f v → X) : X := by obtain ⟨v, -, h⟩ := zx_ld h; exact k _ h
theorem ze_cond {b : Bool} {P : Prop} (h : bif b then P else False) (k : P → X) : X := k (zx_cond h).2
theorem ze_cond2 {b : Bool} {P Q : Prop} (h : bif b then P else Q) (k : P → X) (k2 : Q → X) : X := by
  cases b
  · exact k2 h
  · exact k h
theorem ze_ite {b : Prop} [Decidable b] {P : Prop} (h : if b then P else False) (k : P → X) : X := k (zx_ite h).2
theorem ze_ite2 {b : Prop} [Decidable b] {P Q : Prop} (h : if b then P else Q) (k : P → X) (k2 : Q → X) : X := by
  split at h
  · exact k h
  · exact k2 h
theorem ze_cn {c : ClassFile.Cond} {x y : Int} {a b : Prop} (h : zcn c x y a b) (k : a → X) (k2 : b → X) : X := by
  unfold zcn at h
  cases c <;> (dsimp only at h; split at h <;> first | exact k h | exact k2 h)
theorem ze_sw {x : Int} {f : Nat → Prop} {d : Nat} {ts : List Nat} {lo : Int} (h : zsw x f d lo ts) (k : ∀ t, f t → X) : X := by
  rcases zx_sw h with ⟨_, t, _, _, h⟩ | ⟨_, h⟩
  · exact k _ h
  · exact k _ h
end ZE
def zP (a b : Nat) (sh : List zSh) : Prop := sh.length ≤ a ∧ ztot sh ≤ b
theorem zP_app {a b : Nat} {sh : List zSh} {x : zSh} (h : zP a b (sh ++ [x])) : zP a b sh := by
  unfold zP ztot at *
  simp at h
  omega
theorem zP_set {a b i k n : Nat} {rs rs' : List Nat} {sh : List zSh} (hs : sh[i]? = some (k, n, rs)) (h : zP a b (sh.set i (k, n, rs'))) : zP a b sh := by
  unfold zP at *
  rw [List.length_set, ztot_set hs] at h
  exact h
theorem zg_inv {a b : Nat} {len p r : Nat} {q : Int} {pc : Nat} {ls : zLs} {st : List zV} {sh : List zSh} {mm : zMm} (h : zinv (β := Prop) False (fun _ _ _ sh _ => zP a b sh) (fun _ _ _ _ _ _ sh _ => zP a b sh) len p r q pc ls st sh mm) : zP a b sh := by
  unfold zinv at h
  refine ze_ite2 h (fun h => ze_br h fun _ _ h => ze_cond h id) fun h => ze_ite2 h (fun h => ?_) fun h => ze_cond h fun h => ze_ite2 h id fun h => ?_
  · split at h
    · exact ze_sh h fun _ _ _ _ h => ze_sh h fun _ _ _ _ h => ze_ite h id
    · exact h.elim
  · split at h
    · exact ze_sh h fun _ _ _ _ h => ze_cond h id
    · exact h.elim
set_option maxHeartbeats 4000000 in
/-- cells only come -/
theorem zg_s1 {a b : Nat} {e : zEn} {pc : Nat} {ls : zLs} {st : List zV} {sh : List zSh} {mm : zMm} (hz : zs1 (β := Prop) False (fun _ sh _ => zP a b sh) (fun _ _ _ sh _ => zP a b sh) (fun _ _ _ _ _ _ sh _ => zP a b sh) e pc ls st sh mm) : zP a b sh := by
  obtain ⟨ins, len, p, r, q⟩ := e
  cases ins
  case iload i => exact ze_ld hz fun v h => by split at h <;> first | exact h | exact h.elim
  case iload_n i => exact ze_ld hz fun v h => by split at h <;> first | exact h | exact h.elim
  case lload i => exact ze_ld hz fun v h => by split at h <;> first | exact h | exact h.elim
  case lload_n i => exact ze_ld hz fun v h => by split at h <;> first | exact h | exact h.elim
  case aload i => exact ze_ld hz fun v h => by split at h <;> first | exact h | exact h.elim
  case aload_n i => exact ze_ld hz fun v h => by split at h <;> first | exact h | exact h.elim
  case iinc i c => exact ze_ld hz fun v h => by split at h <;> first | exact h | exact h.elim
  case istore i => exact ze_cond hz fun h => ze_b1 h fun _ _ h => h
  case istore_n i => exact ze_cond hz fun h => ze_b1 h fun _ _ h => h
  case astore i => exact ze_cond hz fun h => ze_br h fun _ _ h => h
  case astore_n i => exact ze_cond hz fun h => ze_br h fun _ _ h => h
  case bipush => exact hz
  case sipush => exact hz
  case iconst => exact hz
  case ldc => exact hz
  case ldc_w => exact hz
  case lconst => exact hz
  case ldc2_w => exact hz
  case goto => exact hz
  case iadd => exact ze_b2 hz fun _ _ _ h => h
  case isub => exact ze_b2 hz fun _ _ _ h => h
  case imul => exact ze_b2 hz fun _ _ _ h => h
  case ishl => exact ze_b2 hz fun _ _ _ h => h
  case ishr => exact ze_b2 hz fun _ _ _ h => h
  case iushr => exact ze_b2 hz fun _ _ _ h => h
  case iand => exact ze_b2 hz fun _ _ _ h => h
  case ior => exact ze_b2 hz fun _ _ _ h => h
  case ixor => exact ze_b2 hz fun _ _ _ h => h
  case idiv => exact ze_b2 hz fun _ _ _ h => ze_ite2 h False.elim id
  case irem => exact ze_b2 hz fun _ _ _ h => ze_ite2 h False.elim id
  case i2b => exact ze_b1 hz fun _ _ h => h
  case i2s => exact ze_b1 hz fun _ _ h => h
  case i2l => exact ze_b1 hz fun _ _ h => h
  case pop => exact ze_b1 hz fun _ _ h => h
  case l2i => exact ze_bl1 hz fun _ _ h => h
  case ladd => exact ze_bl2 hz fun _ _ _ h => h
  case lmul => exact ze_bl2 hz fun _ _ _ h => h
  case land => exact ze_bl2 hz fun _ _ _ h => h
  case lor => exact ze_bl2 hz fun _ _ _ h => h
  case lshl => exact ze_bli hz fun _ _ _ h => h
  case lshr => exact ze_bli hz fun _ _ _ h => h
  case lcmp => exact ze_bl2 hz fun _ _ _ h => ze_ite2 h id fun h => ze_ite2 h id id
  case dup => simp only [zs1] at hz; split at hz <;> first | exact hz | exact hz.elim
  case dup2 => exact ze_bir hz fun _ _ _ h => h
  case if_icmp c o => exact ze_b2 hz fun _ _ _ h => ze_cn h id id
  case ifCond c o => exact ze_b1 hz fun _ _ h => ze_cn h id id
  case tableswitch => exact ze_b1 hz fun _ _ h => ze_sw h fun _ h => h
  case getfield i =>
    refine ze_br hz fun _ _ h => ze_sh h fun _ _ _ _ h => ze_cond h fun h => ze_cond2 h (fun h => ?_) id
    split at h <;> first | exact h | exact h.elim
  case putfield i =>
    simp only [zs1] at hz
    split at hz
    · exact ze_sh hz fun _ _ _ _ h => ze_cond h fun h => ze_cond2 h id fun h => ze_cond h fun h => ze_ite h id
    · exact ze_sh hz fun _ _ _ hs h => ze_cond h fun h => zP_set hs h
    · exact hz.elim
  case iaload => exact ze_cond2 hz (fun h => ze_bir h fun _ _ _ h => ze_cond h fun h => ze_ite h id) (fun h => ze_bir h fun _ _ _ h => ze_sh h fun _ _ _ _ h => ze_cond h fun h => ze_ite h id)
  case baload => exact ze_bir hz fun _ _ _ h => ze_sh h fun _ _ _ _ h => ze_cond h fun h => ze_ite h id
  case aaload =>
    refine ze_bir hz fun _ _ _ h => ze_sh h fun _ _ _ _ h => ze_cond h fun h => ze_ite h fun h => ?_
    split at h <;> first | exact h | exact h.elim
  case iastore => exact ze_biir hz fun _ _ _ _ h => ze_sh h fun _ _ _ _ h => ze_cond h fun h => ze_ite h id
  case bastore => exact ze_biir hz fun _ _ _ _ h => ze_sh h fun _ _ _ _ h => ze_cond2 h (fun h => ze_ite h id) fun h => ze_cond h fun h => ze_ite h id
  case aastore =>
    simp only [zs1] at hz
    split at hz
    · exact ze_sh hz fun _ _ _ hs h => ze_sh h fun _ _ _ _ h => ze_cond h fun h => ze_ite h fun h => zP_set hs h
    · exact hz.elim
  case arraylength => exact ze_cond2 hz (fun h => ze_br h fun _ _ h => ze_cond h id) (fun h => ze_br h fun _ _ h => ze_sh h fun _ _ _ _ h => ze_cond h id)
  case new => exact ze_cond hz fun h => zP_app h
  case newarray t =>
    refine ze_b1 hz fun _ _ h => ze_cond h fun h => ze_ite h fun h => ?_
    cases t <;> first | exact zP_app h | exact h.elim
  case anewarray => exact ze_b1 hz fun _ _ h => ze_cond h fun h => ze_ite h fun h => zP_app h
  case invokevirtual => exact zg_inv (mm := mm) (pc := pc) (ls := ls) (len := len) hz
  case invokestatic => exact zg_inv (mm := mm) (pc := pc) (ls := ls) (len := len) hz
  case invokespecial => exact zg_inv (mm := mm) (pc := pc) (ls := ls) (len := len) hz
  case ireturn =>
    simp only [zs1] at hz
    split at hz
    · exact ze_ite2 hz (fun h => ze_ite h id) id
    · exact hz.elim
  case return_ =>
    simp only [zs1] at hz
    split at hz
    · exact hz
    · exact hz.elim
  all_goals exact hz.elim
def zCg (C : zC0) : Prop := ∀ j as sh mm v sh' mm', C j as sh mm = some (v, sh', mm') → sh.length ≤ sh'.length ∧ ztot sh ≤ ztot sh'
/-- what a call gives -/
theorem zK_x {C : zC0} {j : Nat} {b : Bool} {as : List zV} {sh : List zSh} {mm : zMm} {k : Int → List zSh → zMm → zRes} {k2 : List zSh → zMm → zRes} {r : Option zV × List zSh × zMm} (h : (bif b then zcI (C j as sh mm) k else zcV (C j as sh mm) k2) = some r) :
    (b = true ∧ ∃ x sh' mm', C j as sh mm = some (some (.inl x), sh', mm') ∧ k x sh' mm' = some r) ∨ (b = false ∧ ∃ sh' mm', C j as sh mm = some (none, sh', mm') ∧ k2 sh' mm' = some r) := by
  cases b with
  | true =>
    left
    refine ⟨rfl, ?_⟩
    have h : zcI (C j as sh mm) k = some r := h
    cases hc : C j as sh mm with
    | none => rw [hc] at h; cases h
    | some v =>
      rw [hc] at h
      obtain ⟨v, sh', mm'⟩ := v
      rcases v with _ | x | x
      · cases h
      · exact ⟨x, sh', mm', rfl, h⟩
      · cases h
  | false =>
    right
    refine ⟨rfl, ?_⟩
    have h : zcV (C j as sh mm) k2 = some r := h
    cases hc : C j as sh mm with
    | none => rw [hc] at h; cases h
    | some v =>
      rw [hc] at h
      obtain ⟨v, sh', mm'⟩ := v
      cases v with
      | none => exact ⟨sh', mm', rfl, h⟩
      | some x => cases h
theorem zrun_grow {C : zC0} (hC : zCg C) (i : Nat) : ∀ (n pc : Nat) (ls : zLs) (st : List zV) (sh : List zSh) (mm : zMm) (v : Option zV) (sh' : List zSh) (mm' : zMm), zrun C i n pc ls st sh mm = some (v, sh', mm') → zP sh'.length (ztot sh') sh
  | 0, _, _, _, _, _, _, _, _, h => by cases h
  | n + 1, pc, ls, st, sh, mm, v, sh', mm', h => by
    unfold zrun at h
    cases hc : zC i pc with
    | none => rw [hc] at h; cases h
    | some e =>
      rw [hc] at h
      have h : zstep C e pc ls st sh mm (zrun C i n) = some (v, sh', mm') := h
      rw [zstep_p] at h
      refine zg_s1 (zm_s1 (zle.rf ls) (fun v1 sh1 mm1 h1 => ?_) (fun pc1 ls1 ls2 st1 sh1 mm1 _ h1 => zrun_grow hC i n _ _ _ _ _ _ _ _ h1) (fun j b as pc1 ls1 ls2 st1 sh1 mm1 _ h1 => ?_) h)
      · cases h1
        exact ⟨Nat.le_refl _, Nat.le_refl _⟩
      · rcases zK_x h1 with ⟨-, x, sh2, mm2, h2, h3⟩ | ⟨-, sh2, mm2, h2, h3⟩
        · have g1 := hC _ _ _ _ _ _ _ h2
          have g2 := zrun_grow hC i n _ _ _ _ _ _ _ _ h3
          exact ⟨Nat.le_trans g1.1 g2.1, Nat.le_trans g1.2 g2.2⟩
        · have g1 := hC _ _ _ _ _ _ _ h2
          have g2 := zrun_grow hC i n _ _ _ _ _ _ _ _ h3
          exact ⟨Nat.le_trans g1.1 g2.1, Nat.le_trans g1.2 g2.2⟩
theorem zcall_in {N d j : Nat} {as : List zV} {sh : List zSh} {mm : zMm} {r : Option zV × List zSh × zMm} (h : zcall N (d + 1) j as sh mm = some r) : (zin0 as).length ≤ zml j ∧ zrun (zcall N d) j N 0 (zin (zml j) as) [] sh mm = some r := by
  unfold zcall at h
  cases hb : Nat.ble (zin0 as).length (zml j) with
  | false => rw [hb] at h; cases h
  | true =>
    rw [hb] at h
    exact ⟨Nat.le_of_ble_eq_true hb, h⟩
theorem zcall_grow (N : Nat) : ∀ d, zCg (zcall N d)
  | 0, _, _, _, _, _, _, _, h => by cases h
  | d + 1, j, as, sh, mm, v, sh', mm', h => zrun_grow (zcall_grow N d) j N 0 _ _ _ _ _ _ _ (zcall_in h).2
section ZSD
variable {p : Program} {l : Launch} {e : Env} {R : Room} {s : State} {m : MethodId} {args : Array Value} {below : List Frame} {meth : Method} {c : Code} {Q : State → Prop}
variable {i d : Nat} {D : va_G} {A : Nat → Prop} {ad0 : Nat → Nat × ClassId} {sh0 : List zSh} {mm0 : zMm} {shF : List zSh}
set_option maxHeartbeats 4000000 in
theorem zsd_all {C : zC0} (hM : zMt l d C) (C0 : zCtx p R s m args meth c i d D A ad0 sh0 mm0 shF) (e0 : zEn) : zSd p l e R s m args below meth c Q i D A ad0 sh0 mm0 shF C e0 := by
  obtain ⟨ins, len, pp, r, q⟩ := e0
  cases ins
  case iadd => exact zsd_iadd C0
  case isub => exact zsd_isub C0
  case imul => exact zsd_imul C0
  case ishl => exact zsd_ishl C0
  case ishr => exact zsd_ishr C0
  case iushr => exact zsd_iushr C0
  case iand => exact zsd_iand C0
  case ior => exact zsd_ior C0
  case ixor => exact zsd_ixor C0
  case idiv => exact zsd_idiv C0
  case irem => exact zsd_irem C0
  case i2b => exact zsd_i2b C0
  case i2s => exact zsd_i2s C0
  case i2l => exact zsd_i2l C0
  case l2i => exact zsd_l2i C0
  case ladd => exact zsd_ladd C0
  case lmul => exact zsd_lmul C0
  case land => exact zsd_land C0
  case lor => exact zsd_lor C0
  case lshl => exact zsd_lshl C0
  case lshr => exact zsd_lshr C0
  case lcmp => exact zsd_lcmp C0
  case dup => exact zsd_dup C0
  case dup2 => exact zsd_dup2 C0
  case pop => exact zsd_pop C0
  case iaload => exact zsd_iaload C0
  case baload => exact zsd_baload C0
  case aaload => exact zsd_aaload C0
  case iastore => exact zsd_iastore C0
  case bastore => exact zsd_bastore C0
  case aastore => exact zsd_aastore C0
  case arraylength => exact zsd_arraylength C0
  case ireturn => exact zsd_ireturn C0
  case bipush => exact zsd_bipush C0
  case sipush => exact zsd_sipush C0
  case iconst => exact zsd_iconst C0
  case lconst => exact zsd_lconst C0
  case iload => exact zsd_iload C0
  case iload_n => exact zsd_iload_n C0
  case lload => exact zsd_lload C0
  case lload_n => exact zsd_lload_n C0
  case aload => exact zsd_aload C0
  case aload_n => exact zsd_aload_n C0
  case istore => exact zsd_istore C0
  case istore_n => exact zsd_istore_n C0
  case astore => exact zsd_astore C0
  case astore_n => exact zsd_astore_n C0
  case iinc => exact zsd_iinc C0
  case goto => exact zsd_goto C0
  case getfield => exact zsd_getfield C0
  case putfield => exact zsd_putfield C0
  case new => exact zsd_new C0
  case newarray => exact zsd_newarray C0
  case anewarray => exact zsd_anewarray C0
  case ldc => exact zsd_ldc C0
  case ldc_w => exact zsd_ldcw C0
  case ldc2_w => exact zsd_ldc2 C0
  case if_icmp => exact zsd_ificmp C0
  case ifCond => exact zsd_ifc C0
  case tableswitch => exact zsd_tsw C0
  case return_ => exact zsd_vreturn C0
  case invokevirtual => exact zsd_virt hM C0
  case invokestatic => exact zsd_stat hM C0
  case invokespecial => exact zsd_spec hM C0
  all_goals exact fun pc ls st sh mm hc hz => hz.elim
theorem zrun_sound {C : zC0} (hM : zMt l d C) (hC : zCg C) (C0 : zCtx p R s m args meth c i d D A ad0 sh0 mm0 shF) {vF : Option zV} {mmF : zMm} (hend : zEnd p l e R s m args below meth c Q i D A ad0 sh0 mm0 vF shF mmF) : ∀ (n pc : Nat) (ls : zLs) (st : List zV) (sh : List zSh) (mm : zMm), zrun C i n pc ls st sh mm = some (vF, shF, mmF) → zGG p l e R s m args below meth c Q i D A ad0 sh0 mm0 shF pc ls st sh mm
  | 0, _, _, _, _, _, h => by cases h
  | n + 1, pc, ls, st, sh, mm, h => by
    have hgr := zrun_grow hC i _ _ _ _ _ _ _ _ _ h
    refine ⟨?_, hgr.1, hgr.2⟩
    unfold zrun at h
    cases hc : zC i pc with
    | none => rw [hc] at h; cases h
    | some e0 =>
      rw [hc] at h
      have h : zstep C e0 pc ls st sh mm (zrun C i n) = some (vF, shF, mmF) := h
      rw [zstep_p] at h
      refine zsd_all hM C0 e0 pc ls st sh mm hc (zm_s1 (zle.rf ls) (fun v1 sh1 mm1 h1 => ?_) (fun pc1 ls1 ls2 st1 sh1 mm1 hl h1 => ?_) (fun j b as pc1 ls1 ls2 st1 sh1 mm1 hl h1 => ?_) h)
      · cases h1
        exact hend
      · exact zrun_sound hM hC C0 hend n _ _ _ _ _ (zrun_mono (fun _ _ _ _ _ h => h) i n n (Nat.le_refl n) _ _ _ _ _ _ _ hl h1)
      · rcases zK_x h1 with ⟨rfl, x, sh2, mm2, h2, h3⟩ | ⟨rfl, sh2, mm2, h2, h3⟩
        · exact ⟨x, sh2, mm2, h2, zrun_sound hM hC C0 hend n _ _ _ _ _ (zrun_mono (fun _ _ _ _ _ h => h) i n n (Nat.le_refl n) _ _ _ _ _ _ _ hl h3)⟩
        · exact ⟨sh2, mm2, h2, zrun_sound hM hC C0 hend n _ _ _ _ _ (zrun_mono (fun _ _ _ _ _ h => h) i n n (Nat.le_refl n) _ _ _ _ _ _ _ hl h3)⟩
end ZSD
theorem zin0_at (ad : Nat → Nat × ClassId) : ∀ (as : List zV) (j : Nat) (v : zV), (zin0 as)[j]? = some (some v) → (lg_sl (as.map (zcv ad)))[j]? = some (.val (zcv ad v))
  | [], j, v, h => by simp [zin0] at h
  | a :: as, j, v, h => by
    have ih := zin0_at ad as
    rcases a with x | x | x
    · cases j with
      | zero => simp [zin0] at h; subst h; rfl
      | succ j => exact ih j v h
    · match j, h with
      | 0, h => simp [zin0] at h; subst h; rfl
      | 1, h => simp [zin0] at h
      | j + 2, h => exact ih j v h
    · cases j with
      | zero => simp [zin0] at h; subst h; rfl
      | succ j => exact ih j v h
theorem zin0_len (ad : Nat → Nat × ClassId) : ∀ (as : List zV), (lg_sl (as.map (zcv ad))).length = (zin0 as).length
  | [] => rfl
  | a :: as => by
    have ih := zin0_len ad as
    rcases a with x | x | x
    · exact congrArg (fun z => z + 1) ih
    · exact congrArg (fun z => z + 2) ih
    · exact congrArg (fun z => z + 1) ih
theorem zin0_mem : ∀ (as : List zV) (v : zV), some v ∈ zin0 as → v ∈ as
  | [], v, h => by simp [zin0] at h
  | a :: as, v, h => by
    rcases a with x | x | x
    · simp only [zin0, List.mem_cons, Option.some.injEq] at h
      rcases h with h | h
      · exact List.mem_cons.mpr (Or.inl h)
      · exact List.mem_cons_of_mem _ (zin0_mem as v h)
    · simp only [zin0, List.mem_cons, Option.some.injEq] at h
      rcases h with h | h | h
      · exact List.mem_cons.mpr (Or.inl h)
      · cases h
      · exact List.mem_cons_of_mem _ (zin0_mem as v h)
    · simp only [zin0, List.mem_cons, Option.some.injEq] at h
      rcases h with h | h
      · exact List.mem_cons.mpr (Or.inl h)
      · exact List.mem_cons_of_mem _ (zin0_mem as v h)
theorem zin_mem {n : Nat} {as : List zV} {v : zV} (h : some v ∈ zin n as) : v ∈ as := by
  unfold zin at h
  rcases List.mem_append.mp h with h | h
  · exact zin0_mem as v h
  · have := (List.mem_replicate.mp h).2
    cases this
theorem zin_Lc (ad : Nat → Nat × ClassId) {n : Nat} {as : List zV} (h : (zin0 as).length ≤ n) : zLc ad n (zin n as) ((lg_sl (as.map (zcv ad)) ++ List.replicate (n - (lg_sl (as.map (zcv ad))).length) Slot.unset).toArray) := by
  have hl := lv_entry (as.map (zcv ad)) (n := n) (by rw [zin0_len]; exact h)
  refine ⟨hl.1, by unfold zin; simp; omega, hl.2.1, fun j v hj => ?_⟩
  unfold zin at hj
  rw [List.getElem?_append] at hj
  split at hj
  · have h1 := zin0_at ad as j v hj
    rw [List.getElem?_toArray, List.getElem?_append_left (List.getElem?_eq_some_iff.mp h1).1]
    exact h1
  · rw [List.getElem?_replicate] at hj
    split at hj <;> cases hj
/-- as Met.ofW, also where the class has methods that an entry runs -/
theorem zMet_ofW {l : Launch} {y : MethodName} {ws ws' : List Cond} {rm : Room} {Pc : Array Value → State → Prop} {Qc : Array Value → State → Outcome → State → Prop} {mc ms : Nat} {free : Addr → Prop} {cc : ByteArray} {maxL : Nat} {ret : Option FieldType}
    (hy : plainFor y = true) (hw : ws = Cond.code y cc maxL ret :: ws')
    (body : ∀ p e s m args below meth c s₁, BodyLoose p l y (headSpec ws rm) cc maxL ret e s m args below meth c s₁ → c.maxLocals = maxL → Pc args s →
      W p l e (headSpec ws rm).room s m args below meth c s.heap [] 0 0 (MQ below Qc args s mc ms free) (entryFrame m args maxL)) : Met l y ws rm Pc Qc mc ms free := by
  refine MetFree.of_bodySF (code := cc) (maxLocals := maxL) (ret := ret) hy ?_ ?_
  · intro args s m h hn
    obtain ⟨meth, c, h1, h2, h3, h4, h5, h6, -, -⟩ := Cond.code_spec hn (atoms_spec (ws := ws) h _ (by rw [hw]; exact List.mem_cons_self))
    exact ⟨meth, c, h1, h2, h3, h4, h5, h6⟩
  · intro p e s m args below meth c s₁ B hml hP _
    have hh0 : s₁.heap = s.heap := by rw [B.state]; rfl
    obtain ⟨t, a1, o, b1, b2, b3⟩ := body p e s m args below meth c s₁ B hml hP s₁ hh0 (Stand.of_body B)
    exact ⟨t, o, a1, b1, b2, ⟨b3.1, b3.2⟩⟩
set_option maxHeartbeats 1000000 in
/-- THE CALLEES' CONTRACTS: every method that the mini machine runs through -/
theorem zmt_all (l : Launch) (N : Nat) : ∀ d, zMt l d (zcall N d)
  | 0, _, _, _, _, _, _, _, _, h => by cases h
  | d + 1, j, as, sh, mm, v, sh', mm', hj, h => by
    refine ⟨zcall_grow N (d + 1) j as sh mm v sh' mm' h, fun D tys ad sz hwf hty has => ?_⟩
    obtain ⟨hlen, hrun⟩ := zcall_in h
    have hmb := zmb_ok hj
    simp only [zmb, Bool.and_eq_true, decide_eq_true_eq] at hmb
    obtain ⟨⟨⟨⟨⟨⟨⟨m1, m2⟩, m3⟩, m4⟩, m5⟩, m6⟩, m7⟩, m8⟩ := hmb
    refine zMet_ofW (cc := zBy j) (maxL := zml j) (ret := zRt j) m4 rfl ?_
    intro p e s m args below meth c s₁ B hml hv
    obtain ⟨rfl, hsz, hP, hK, hD0, hnw, hao, hscr⟩ := hv
    have hts := atoms_spec (ws := zwj j) B.pre
    have hown : s.vm.findClass (zNm j).cls = some m.cls := findClass_of_methodNamed B.named
    have hlocks := B.notSynchronized
    have hr := B.returns
    have hnm := (name_of_methodNamed B.named B.method).1
    subst hsz
    have C0 : zCtx p (headSpec (zwj j) ({ frames := d + 1, cells := sh'.length - sh.length, slots := ztot sh' - ztot sh, locals := 40 * (d + 1) })).room s m (as.map (zcv ad)).toArray meth c j d D (va_A (zws ad sh mm) s.heap.size) ad sh mm sh' :=
      ⟨B.exec, B.bytes, hml, by rw [← m2]; exact hown, fun w hw => hts w (List.mem_cons_of_mem _ hw), hnw, hao, fun q hq => Or.inr hq, fun h2 => by
        rw [h2] at m8
        simp only [Bool.and_eq_true, decide_eq_true_eq] at m8
        rw [hnm]
        exact m8.1.2, ⟨Nat.le_refl _, Nat.le_refl _⟩, ⟨Nat.le_refl _, Nat.le_refl _⟩, hscr⟩
    have hend : zEnd p l e (headSpec (zwj j) ({ frames := d + 1, cells := sh'.length - sh.length, slots := ztot sh' - ztot sh, locals := 40 * (d + 1) })).room s m (as.map (zcv ad)).toArray below meth c (MQ below (zQ0 D ad sh mm s.heap.size v sh' mm') (as.map (zcv ad)).toArray s (sh'.length - sh.length) (ztot sh' - ztot sh) (va_A (zws ad sh mm) s.heap.size)) j D (va_A (zws ad sh mm) s.heap.size) ad sh mm v sh' mm' := by
      intro pc tys' ad' H locs lsR hI hPs
      rcases v with _ | x | x
      · intro hret hd
        exact W.vret B.exec B.bytes (hr.trans hret) (fun t ht hW => ⟨⟨tys', ad', rfl, by rw [ht]; exact hI.1, va_K.moved hW.alike hI.2.2.1, hI.2.1, hI.2.2.2.2.1, hI.2.2.2.2.2, hPs.2.2.1, hPs.2.2.2, fun x hx => by cases hx⟩, hI.2.2.2.1.F ht⟩) hI.2.2.2.1.2.2 hd
      · intro rx hret hd
        have hq : ∀ t : State, t.heap = H → s.WarmedH t.vm → zQ0 D ad sh mm s.heap.size (some (.inl x)) sh' mm' (as.map (zcv ad)).toArray s (.returned (some (.int (Int32.ofInt x)))) t := fun t ht hW => ⟨⟨tys', ad', rfl, by rw [ht]; exact hI.1, va_K.moved hW.alike hI.2.2.1, hI.2.1, hI.2.2.2.2.1, hI.2.2.2.2.2, hPs.2.2.1, hPs.2.2.2, fun y hy => by cases hy; exact rx⟩, hI.2.2.2.1.F ht⟩
        rcases hret with ⟨hret, h01⟩ | hret
        · exact W.zret (ty := .boolean) B.exec B.bytes (hr.trans hret) (zbool_n h01).1 hq hI.2.2.2.1.2.2 hd
        · exact W.iret B.exec B.bytes (hr.trans hret) hq hI.2.2.2.1.2.2 hd
      · trivial
    have hgo := zrun_sound (zmt_all l N d) (zcall_grow N d) C0 hend N 0 _ _ _ _ hrun
    have hfin := hgo.1 tys ad s.heap [] _ ⟨hP, hD0.self, hK, va_S.rf, hwf, hty⟩ ⟨Nat.le_refl _, Nat.le_refl _, fun _ _ => rfl, fun _ _ => rfl⟩ (zin_Lc ad hlen) (fun v hv => has v (zin_mem hv)) (fun v hv => absurd hv List.not_mem_nil)
    rw [lg_entry_eq]
    rw [Nat.sub_self, Nat.sub_self] at hfin
    exact hfin
