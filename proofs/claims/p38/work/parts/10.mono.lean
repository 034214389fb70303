/-- what zs1 tells, as data -/
abbrev zNF : Type := Option ((Option zV × List zSh × zMm) ⊕ ((Nat × zLs × List zV × List zSh × zMm) ⊕ (Nat × Bool × List zV × Nat × zLs × List zV × List zSh × zMm)))
def znf (e : zEn) (pc : Nat) (ls : zLs) (st : List zV) (sh : List zSh) (mm : zMm) : zNF :=
  zs1 (β := zNF) none (fun v sh mm => some (.inl (v, sh, mm))) (fun pc ls st sh mm => some (.inr (.inl (pc, ls, st, sh, mm)))) (fun j b as pc ls rest sh mm => some (.inr (.inr (j, b, as, pc, ls, rest, sh, mm)))) e pc ls st sh mm
def zint {β : Type} (F : β) (R : Option zV → List zSh → zMm → β) (G : Nat → zLs → List zV → List zSh → zMm → β) (K : Nat → Bool → List zV → Nat → zLs → List zV → List zSh → zMm → β) : zNF → β
  | none => F
  | some (.inl (v, sh, mm)) => R v sh mm
  | some (.inr (.inl (pc, ls, st, sh, mm))) => G pc ls st sh mm
  | some (.inr (.inr (j, b, as, pc, ls, rest, sh, mm))) => K j b as pc ls rest sh mm
theorem zs1_nf {β : Type} (F : β) (R : Option zV → List zSh → zMm → β) (G : Nat → zLs → List zV → List zSh → zMm → β) (K : Nat → Bool → List zV → Nat → zLs → List zV → List zSh → zMm → β) (e : zEn) (pc : Nat) (ls : zLs) (st : List zV) (sh : List zSh) (mm : zMm) :
    zs1 F R G K e pc ls st sh mm = zint F R G K (znf e pc ls st sh mm) := (zq_s1 (γ := zNF) (zint F R G K) none (fun v sh mm => some (.inl (v, sh, mm))) (fun pc ls st sh mm => some (.inr (.inl (pc, ls, st, sh, mm)))) (fun j b as pc ls rest sh mm => some (.inr (.inr (j, b, as, pc, ls, rest, sh, mm)))) e pc ls st sh mm).symm
/-- a step's success, as a Prop -/
theorem zstep_p (C : Nat → List zV → List zSh → zMm → zRes) (e : zEn) (pc : Nat) (ls : zLs) (st : List zV) (sh : List zSh) (mm : zMm) (k : Nat → zLs → List zV → List zSh → zMm → zRes) (r : Option zV × List zSh × zMm) :
    (zstep C e pc ls st sh mm k = some r) = zs1 (β := Prop) False (fun v sh mm => (v, sh, mm) = r) (fun pc ls st sh mm => k pc ls st sh mm = some r)
      (fun j b as pc ls rest sh mm => (bif b then zcI (C j as sh mm) (fun x sh' mm' => k pc ls (.inl x :: rest) sh' mm') else zcV (C j as sh mm) (fun sh' mm' => k pc ls rest sh' mm')) = some r) e pc ls st sh mm := by
  have h := zq_s1 (fun z : zRes => z = some r) none (fun v sh mm => some (v, sh, mm)) k (fun j b as pc ls rest sh mm => bif b then zcI (C j as sh mm) (fun x sh' mm' => k pc ls (.inl x :: rest) sh' mm') else zcV (C j as sh mm) (fun sh' mm' => k pc ls rest sh' mm')) e pc ls st sh mm
  unfold zstep
  rw [h]
  simp
/-- fewer known locals -/
def zle (ls ls' : zLs) : Prop := ls.length = ls'.length ∧ ∀ (i : Nat) (v : zV), ls[i]? = some (some v) → ls'[i]? = some (some v)
theorem zle.rf (ls : zLs) : zle ls ls := ⟨rfl, fun _ _ h => h⟩
theorem zle.set {ls ls' : zLs} (h : zle ls ls') (i : Nat) (o : Option zV) : zle (ls.set i o) (ls'.set i o) := by
  refine ⟨by simp [h.1], fun j v hj => ?_⟩
  rw [List.getElem?_set] at hj ⊢
  split at hj
  · rename_i e
    rw [if_pos e, ← h.1]
    exact hj
  · rename_i e
    rw [if_neg e]
    exact h.2 j v hj
theorem zle.non {ls ls' : zLs} (h : zle ls ls') (i : Nat) (hi : ∀ v, ls[i]? ≠ some (some v)) : zle ls (ls'.set i none) := by
  refine ⟨by simp [h.1], fun j v hj => ?_⟩
  rw [List.getElem?_set]
  split
  · rename_i e
    subst e
    exact absurd hj (hi v)
  · exact h.2 j v hj
theorem zle.st {ls ls' : zLs} (h : zle ls ls') (i : Nat) (v : zV) : zle (zst ls i v) (zst ls' i v) := by
  cases i with
  | zero => exact h.set 0 _
  | succ j =>
    simp only [zst]
    cases h1 : ls[j]? with
    | none =>
      have h2 : ls'[j]? = none := by
        rw [List.getElem?_eq_none_iff] at h1 ⊢
        rw [← h.1]
        exact h1
      rw [h2]
      exact h.set _ _
    | some o => cases o with
      | some w =>
        rw [h.2 j w h1]
        cases w with
        | inl x => exact h.set _ _
        | inr w => cases w with
          | inl x => exact (h.set _ _).set _ _
          | inr x => exact h.set _ _
      | none =>
        simp only
        split
        · exact (h.non j (fun v hv => by rw [h1] at hv; cases hv)).set _ _
        · exact h.set _ _
section ZM
theorem zp_b1 {F F' : Prop} (hF : F → F') {st : List zV} {f g : Int → List zV → Prop} (h : ∀ x s, f x s → g x s) : zb1 F st f → zb1 F' st g := by unfold zb1; split <;> first | exact h _ _ | exact hF
theorem zp_b2 {F F' : Prop} (hF : F → F') {st : List zV} {f g : Int → Int → List zV → Prop} (h : ∀ x y s, f x y s → g x y s) : zb2 F st f → zb2 F' st g := by unfold zb2; split <;> first | exact h _ _ _ | exact hF
theorem zp_bl1 {F F' : Prop} (hF : F → F') {st : List zV} {f g : Int → List zV → Prop} (h : ∀ x s, f x s → g x s) : zbl1 F st f → zbl1 F' st g := by unfold zbl1; split <;> first | exact h _ _ | exact hF
theorem zp_bl2 {F F' : Prop} (hF : F → F') {st : List zV} {f g : Int → Int → List zV → Prop} (h : ∀ x y s, f x y s → g x y s) : zbl2 F st f → zbl2 F' st g := by unfold zbl2; split <;> first | exact h _ _ _ | exact hF
theorem zp_bli {F F' : Prop} (hF : F → F') {st : List zV} {f g : Int → Int → List zV → Prop} (h : ∀ x y s, f x y s → g x y s) : zbli F st f → zbli F' st g := by unfold zbli; split <;> first | exact h _ _ _ | exact hF
theorem zp_br {F F' : Prop} (hF : F → F') {st : List zV} {f g : Nat → List zV → Prop} (h : ∀ x s, f x s → g x s) : zbr F st f → zbr F' st g := by unfold zbr; split <;> first | exact h _ _ | exact hF
theorem zp_bir {F F' : Prop} (hF : F → F') {st : List zV} {f g : Nat → Int → List zV → Prop} (h : ∀ a x s, f a x s → g a x s) : zbir F st f → zbir F' st g := by unfold zbir; split <;> first | exact h _ _ _ | exact hF
theorem zp_biir {F F' : Prop} (hF : F → F') {st : List zV} {f g : Nat → Int → Int → List zV → Prop} (h : ∀ a x y s, f a x y s → g a x y s) : zbiir F st f → zbiir F' st g := by unfold zbiir; split <;> first | exact h _ _ _ _ | exact hF
theorem zp_sh {F F' : Prop} (hF : F → F') {sh : List zSh} {a : Nat} {f g : Nat → Nat → List Nat → Prop} (h : ∀ x y z, f x y z → g x y z) : zsh F sh a f → zsh F' sh a g := by unfold zsh; split <;> first | exact h _ _ _ | exact hF
theorem zp_ld {F F' : Prop} (hF : F → F') {ls ls' : zLs} (hl : zle ls ls') {i : Nat} {f g : zV → Prop} (h : ∀ v, f v → g v) (hF' : ¬ F) : zld F ls i f → zld F' ls' i g := by
  unfold zld
  split
  · rename_i v hv
    rw [hl.2 i v hv]
    exact h v
  · exact fun z => absurd z hF'
theorem zp_cn {c : ClassFile.Cond} {x y : Int} {a b a' b' : Prop} (h1 : a → a') (h2 : b → b') : zcn c x y a b → zcn c x y a' b' := by
  unfold zcn
  cases c <;> (dsimp only; split <;> assumption)
theorem zp_sw {x : Int} {f g : Nat → Prop} {d : Nat} (h : ∀ t, f t → g t) : ∀ (ts : List Nat) (lo : Int), zsw x f d lo ts → zsw x g d lo ts
  | [], lo => h d
  | t :: ts, lo => by
    unfold zsw
    split
    · exact h t
    · exact zp_sw h ts _
theorem zp_cond {c : Bool} {a b a' b' : Prop} (h1 : a → a') (h2 : b → b') : (bif c then a else b) → bif c then a' else b' := by cases c <;> assumption
theorem zp_ite {c : Prop} [Decidable c] {a b a' b' : Prop} (h1 : a → a') (h2 : b → b') : (if c then a else b) → if c then a' else b' := by split <;> assumption
end ZM
theorem zff {P : Prop} : False → P := False.elim
section ZW
variable {R R' : Option zV → List zSh → zMm → Prop} {G G' : Nat → zLs → List zV → List zSh → zMm → Prop} {K K' : Nat → Bool → List zV → Nat → zLs → List zV → List zSh → zMm → Prop}
theorem zm_inv {len p r : Nat} {q : Int} {pc : Nat} {ls ls' : zLs} {st : List zV} {sh : List zSh} {mm : zMm} (hl : zle ls ls')
    (hG : ∀ pc ls ls' st sh mm, zle ls ls' → G pc ls st sh mm → G' pc ls' st sh mm) (hK : ∀ j b as pc ls ls' st sh mm, zle ls ls' → K j b as pc ls st sh mm → K' j b as pc ls' st sh mm) :
    zinv False G K len p r q pc ls st sh mm → zinv False G' K' len p r q pc ls' st sh mm := by
  unfold zinv
  refine zp_ite (zp_br zff fun _ _ => zp_cond (hG _ _ _ _ _ _ hl) zff) (zp_ite ?_ (zp_cond (zp_ite (hK _ _ _ _ _ _ _ _ _ hl) ?_) zff))
  · split
    · exact zp_sh zff fun _ _ _ => zp_sh zff fun _ _ _ => zp_ite (hG _ _ _ _ _ _ hl) zff
    · exact zff
  · split
    · exact zp_sh zff fun _ _ _ => zp_cond (hK _ _ _ _ _ _ _ _ _ hl) zff
    · exact zff
set_option maxHeartbeats 4000000 in
/-- more locals known, more calls, more steps: what came out comes out -/
theorem zm_s1 {e : zEn} {pc : Nat} {ls ls' : zLs} {st : List zV} {sh : List zSh} {mm : zMm} (hl : zle ls ls') (hR : ∀ v sh mm, R v sh mm → R' v sh mm)
    (hG : ∀ pc ls ls' st sh mm, zle ls ls' → G pc ls st sh mm → G' pc ls' st sh mm) (hK : ∀ j b as pc ls ls' st sh mm, zle ls ls' → K j b as pc ls st sh mm → K' j b as pc ls' st sh mm) :
    zs1 (β := Prop) False R G K e pc ls st sh mm → zs1 (β := Prop) False R' G' K' e pc ls' st sh mm := by
  obtain ⟨ins, len, p, r, q⟩ := e
  have g0 : ∀ {pc st sh mm}, G pc ls st sh mm → G' pc ls' st sh mm := fun {pc st sh mm} => hG _ _ _ _ _ _ hl
  have g1 : ∀ {pc st sh mm} (i : Nat) (v : zV), G pc (zst ls i v) st sh mm → G' pc (zst ls' i v) st sh mm := fun {pc st sh mm} i v => hG _ _ _ _ _ _ (hl.st i v)
  have ge : ls.length = ls'.length := hl.1
  cases ins
  case iload i => exact zp_ld zff hl (fun v => by split <;> first | exact g0 | exact zff) id
  case iload_n i => exact zp_ld zff hl (fun v => by split <;> first | exact g0 | exact zff) id
  case lload i => exact zp_ld zff hl (fun v => by split <;> first | exact g0 | exact zff) id
  case lload_n i => exact zp_ld zff hl (fun v => by split <;> first | exact g0 | exact zff) id
  case aload i => exact zp_ld zff hl (fun v => by split <;> first | exact g0 | exact zff) id
  case aload_n i => exact zp_ld zff hl (fun v => by split <;> first | exact g0 | exact zff) id
  case iinc i c => exact zp_ld zff hl (fun v => by split <;> first | exact g1 _ _ | exact zff) id
  case istore i => simp only [zs1, ge]; exact zp_cond (zp_b1 zff fun _ _ => g1 _ _) zff
  case istore_n i => simp only [zs1, ge]; exact zp_cond (zp_b1 zff fun _ _ => g1 _ _) zff
  case astore i => simp only [zs1, ge]; exact zp_cond (zp_br zff fun _ _ => g1 _ _) zff
  case astore_n i => simp only [zs1, ge]; exact zp_cond (zp_br zff fun _ _ => g1 _ _) zff
  case bipush => exact g0
  case sipush => exact g0
  case iconst => exact g0
  case ldc => exact g0
  case ldc_w => exact g0
  case lconst => exact g0
  case ldc2_w => exact g0
  case iadd => exact zp_b2 zff fun _ _ _ => g0
  case isub => exact zp_b2 zff fun _ _ _ => g0
  case imul => exact zp_b2 zff fun _ _ _ => g0
  case idiv => exact zp_b2 zff fun _ _ _ => zp_ite zff g0
  case irem => exact zp_b2 zff fun _ _ _ => zp_ite zff g0
  case ishl => exact zp_b2 zff fun _ _ _ => g0
  case ishr => exact zp_b2 zff fun _ _ _ => g0
  case iushr => exact zp_b2 zff fun _ _ _ => g0
  case iand => exact zp_b2 zff fun _ _ _ => g0
  case ior => exact zp_b2 zff fun _ _ _ => g0
  case ixor => exact zp_b2 zff fun _ _ _ => g0
  case i2b => exact zp_b1 zff fun _ _ => g0
  case i2s => exact zp_b1 zff fun _ _ => g0
  case i2l => exact zp_b1 zff fun _ _ => g0
  case l2i => exact zp_bl1 zff fun _ _ => g0
  case ladd => exact zp_bl2 zff fun _ _ _ => g0
  case lmul => exact zp_bl2 zff fun _ _ _ => g0
  case land => exact zp_bl2 zff fun _ _ _ => g0
  case lor => exact zp_bl2 zff fun _ _ _ => g0
  case lshl => exact zp_bli zff fun _ _ _ => g0
  case lshr => exact zp_bli zff fun _ _ _ => g0
  case lcmp => exact zp_bl2 zff fun _ _ _ => zp_ite g0 (zp_ite g0 g0)
  case dup => simp only [zs1]; split <;> first | exact g0 | exact zff
  case dup2 => exact zp_bir zff fun _ _ _ => g0
  case pop => exact zp_b1 zff fun _ _ => g0
  case goto => exact g0
  case if_icmp c o => exact zp_b2 zff fun _ _ _ => zp_cn g0 g0
  case ifCond c o => exact zp_b1 zff fun _ _ => zp_cn g0 g0
  case tableswitch => exact zp_b1 zff fun _ _ => zp_sw (fun _ => g0) _ _
  case getfield i =>
    refine zp_br zff fun _ _ => zp_sh zff fun _ _ _ => zp_cond (zp_cond ?_ g0) zff
    split <;> first | exact g0 | exact zff
  case putfield i =>
    simp only [zs1]
    split
    · exact zp_sh zff fun _ _ _ => zp_cond (zp_cond g0 (zp_cond (zp_ite g0 zff) zff)) zff
    · exact zp_sh zff fun _ _ _ => zp_cond g0 zff
    · exact zff
  case iaload => exact zp_cond (zp_bir zff fun _ _ _ => zp_cond (zp_ite g0 zff) zff) (zp_bir zff fun _ _ _ => zp_sh zff fun _ _ _ => zp_cond (zp_ite g0 zff) zff)
  case baload => exact zp_bir zff fun _ _ _ => zp_sh zff fun _ _ _ => zp_cond (zp_ite g0 zff) zff
  case aaload =>
    refine zp_bir zff fun _ _ _ => zp_sh zff fun _ _ _ => zp_cond (zp_ite ?_ zff) zff
    split <;> first | exact g0 | exact zff
  case iastore => exact zp_biir zff fun _ _ _ _ => zp_sh zff fun _ _ _ => zp_cond (zp_ite g0 zff) zff
  case bastore => exact zp_biir zff fun _ _ _ _ => zp_sh zff fun _ _ _ => zp_cond (zp_ite g0 zff) (zp_cond (zp_ite g0 zff) zff)
  case aastore =>
    simp only [zs1]
    split
    · exact zp_sh zff fun _ _ _ => zp_sh zff fun _ _ _ => zp_cond (zp_ite g0 zff) zff
    · exact zff
  case arraylength => exact zp_cond (zp_br zff fun _ _ => zp_cond g0 zff) (zp_br zff fun _ _ => zp_sh zff fun _ _ _ => zp_cond g0 zff)
  case new => exact zp_cond g0 zff
  case newarray t =>
    refine zp_b1 zff fun _ _ => zp_cond (zp_ite ?_ zff) zff
    cases t <;> first | exact g0 | exact zff
  case anewarray => exact zp_b1 zff fun _ _ => zp_cond (zp_ite g0 zff) zff
  case invokevirtual => exact zm_inv hl hG hK
  case invokestatic => exact zm_inv hl hG hK
  case invokespecial => exact zm_inv hl hG hK
  case ireturn =>
    simp only [zs1]
    split
    · exact zp_ite (zp_ite (hR _ _ _) zff) (hR _ _ _)
    · exact zff
  case return_ => simp only [zs1]; split <;> first | exact hR _ _ _ | exact zff
  all_goals exact zff
end ZW
