section ZQ
variable {γ β : Type} (φ : γ → β)
theorem zq_ite {c : Prop} [h : Decidable c] (a b : γ) : φ (if c then a else b) = if c then φ a else φ b := by split <;> rfl
theorem zq_cond (c : Bool) (a b : γ) : φ (bif c then a else b) = bif c then φ a else φ b := by cases c <;> rfl
theorem zq_b1 (F : γ) (st : List zV) (f : Int → List zV → γ) : φ (zb1 F st f) = zb1 (φ F) st (fun x s => φ (f x s)) := by unfold zb1; split <;> rfl
theorem zq_b2 (F : γ) (st : List zV) (f : Int → Int → List zV → γ) : φ (zb2 F st f) = zb2 (φ F) st (fun x y s => φ (f x y s)) := by unfold zb2; split <;> rfl
theorem zq_bl1 (F : γ) (st : List zV) (f : Int → List zV → γ) : φ (zbl1 F st f) = zbl1 (φ F) st (fun x s => φ (f x s)) := by unfold zbl1; split <;> rfl
theorem zq_bl2 (F : γ) (st : List zV) (f : Int → Int → List zV → γ) : φ (zbl2 F st f) = zbl2 (φ F) st (fun x y s => φ (f x y s)) := by unfold zbl2; split <;> rfl
theorem zq_bli (F : γ) (st : List zV) (f : Int → Int → List zV → γ) : φ (zbli F st f) = zbli (φ F) st (fun x y s => φ (f x y s)) := by unfold zbli; split <;> rfl
theorem zq_br (F : γ) (st : List zV) (f : Nat → List zV → γ) : φ (zbr F st f) = zbr (φ F) st (fun x s => φ (f x s)) := by unfold zbr; split <;> rfl
theorem zq_bir (F : γ) (st : List zV) (f : Nat → Int → List zV → γ) : φ (zbir F st f) = zbir (φ F) st (fun a x s => φ (f a x s)) := by unfold zbir; split <;> rfl
theorem zq_biir (F : γ) (st : List zV) (f : Nat → Int → Int → List zV → γ) : φ (zbiir F st f) = zbiir (φ F) st (fun a x y s => φ (f a x y s)) := by unfold zbiir; split <;> rfl
theorem zq_sh (F : γ) (sh : List zSh) (a : Nat) (f : Nat → Nat → List Nat → γ) : φ (zsh F sh a f) = zsh (φ F) sh a (fun x s t => φ (f x s t)) := by unfold zsh; split <;> rfl
theorem zq_ld (F : γ) (ls : zLs) (i : Nat) (f : zV → γ) : φ (zld F ls i f) = zld (φ F) ls i (fun v => φ (f v)) := by unfold zld; split <;> rfl
theorem zq_cn (c : ClassFile.Cond) (x y : Int) (a b : γ) : φ (zcn c x y a b) = zcn c x y (φ a) (φ b) := by unfold zcn; cases c <;> exact zq_ite φ _ _
theorem zq_sw (x : Int) (f : Nat → γ) (d : Nat) : ∀ (ts : List Nat) (lo : Int), φ (zsw x f d lo ts) = zsw x (fun t => φ (f t)) d lo ts
  | [], lo => rfl
  | t :: ts, lo => by
    unfold zsw
    rw [zq_ite φ, zq_sw x f d ts]
variable (F : γ) (R : Option zV → List zSh → zMm → γ) (G : Nat → zLs → List zV → List zSh → zMm → γ) (K : Nat → Bool → List zV → Nat → zLs → List zV → List zSh → zMm → γ)
theorem zq_inv (len p r : Nat) (q : Int) (pc : Nat) (ls : zLs) (st : List zV) (sh : List zSh) (mm : zMm) :
    φ (zinv F G K len p r q pc ls st sh mm) = zinv (φ F) (fun pc ls st sh mm => φ (G pc ls st sh mm)) (fun j b as pc ls rest sh mm => φ (K j b as pc ls rest sh mm)) len p r q pc ls st sh mm := by
  unfold zinv
  simp only [zq_ite φ, zq_cond φ, zq_br φ]
  congr 2
  · split
    · simp only [zq_ite φ, zq_sh φ]
    · rfl
  · congr 2
    split
    · simp only [zq_cond φ, zq_sh φ]
    · rfl
set_option maxHeartbeats 4000000 in
theorem zq_s1 (e : zEn) (pc : Nat) (ls : zLs) (st : List zV) (sh : List zSh) (mm : zMm) :
    φ (zs1 F R G K e pc ls st sh mm) = zs1 (φ F) (fun v sh mm => φ (R v sh mm)) (fun pc ls st sh mm => φ (G pc ls st sh mm)) (fun j b as pc ls rest sh mm => φ (K j b as pc ls rest sh mm)) e pc ls st sh mm := by
  obtain ⟨ins, len, p, r, q⟩ := e
  cases ins
  case iload i => simp only [zs1, zq_ld φ]; congr 1; funext v; split <;> rfl
  case iload_n i => simp only [zs1, zq_ld φ]; congr 1; funext v; split <;> rfl
  case lload i => simp only [zs1, zq_ld φ]; congr 1; funext v; split <;> rfl
  case lload_n i => simp only [zs1, zq_ld φ]; congr 1; funext v; split <;> rfl
  case aload i => simp only [zs1, zq_ld φ]; congr 1; funext v; split <;> rfl
  case aload_n i => simp only [zs1, zq_ld φ]; congr 1; funext v; split <;> rfl
  case iinc i c => simp only [zs1, zq_ld φ]; congr 1; funext v; split <;> rfl
  case istore i => simp only [zs1, zq_cond φ, zq_b1 φ]
  case istore_n i => simp only [zs1, zq_cond φ, zq_b1 φ]
  case astore i => simp only [zs1, zq_cond φ, zq_br φ]
  case astore_n i => simp only [zs1, zq_cond φ, zq_br φ]
  case dup => simp only [zs1]; split <;> rfl
  case getfield i =>
    simp only [zs1, zq_br φ, zq_sh φ, zq_cond φ]
    congr 1; funext a s; congr 1; funext k n rs; congr 1; congr 1; split <;> rfl
  case putfield i =>
    simp only [zs1]
    split
    · simp only [zq_sh φ, zq_cond φ, zq_ite φ]
    · simp only [zq_sh φ, zq_cond φ, zq_ite φ]
    · rfl
  case aaload =>
    simp only [zs1, zq_bir φ, zq_sh φ, zq_cond φ, zq_ite φ]
    congr 1; funext a x s; congr 1; funext k n rs; congr 1; congr 1; split <;> rfl
  case aastore =>
    simp only [zs1]
    split
    · simp only [zq_sh φ, zq_cond φ, zq_ite φ]
    · rfl
  case newarray t =>
    simp only [zs1, zq_b1 φ, zq_cond φ, zq_ite φ]
    congr 1; funext x s; congr 1; congr 1; split <;> rfl
  case ireturn =>
    simp only [zs1]
    split
    · simp only [zq_ite φ]
    · rfl
  case return_ => simp only [zs1]; split <;> rfl
  case invokevirtual i => exact zq_inv φ F G K len p r q pc ls st sh mm
  case invokestatic i => exact zq_inv φ F G K len p r q pc ls st sh mm
  case invokespecial i => exact zq_inv φ F G K len p r q pc ls st sh mm
  all_goals first | rfl | simp only [zs1, zq_b1 φ, zq_b2 φ, zq_bl1 φ, zq_bl2 φ, zq_bli φ, zq_br φ, zq_bir φ, zq_biir φ, zq_sh φ, zq_cond φ, zq_ite φ, zq_cn φ, zq_sw φ]
end ZQ
