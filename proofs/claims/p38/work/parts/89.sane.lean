/-! by sane cells no line stands, each word follows -/
theorem zdig_s (B : Nat → Int) (p n : Nat) (r : Int) : zdig B p (n + 1) r = (decide (B p = r % 8) && zdig B (p - 1) n (r / 8)) := rfl
theorem zdig_0 (B : Nat → Int) (p : Nat) (r : Int) : zdig B p 0 r = true := by cases p <;> rfl
theorem zdig_cong {B C : Nat → Int} : ∀ {n p : Nat} {r : Int}, (∀ q, q ≤ p → B q = C q) → zdig B p n r = zdig C p n r
  | 0, p, r, h => by rw [zdig_0, zdig_0]
  | n + 1, p, r, h => by rw [zdig_s, zdig_s, h p (Nat.le_refl p), zdig_cong (fun q hq => h q (by omega))]
theorem zline_cong {B C : Nat → Int} {LW LL : Nat → Int} {ln p : Nat} (h : ∀ q, q ≤ p → B q = C q) : zline B LW LL ln p = zline C LW LL ln p := by
  unfold zline
  refine zfst_cong fun l _ _ => ?_
  unfold zlm
  rw [zdig_cong h]
theorem zfst_n {P : Nat → Bool} : ∀ {f i : Nat}, (∀ j, i ≤ j → j < i + f → P j = false) → zfst P f i = -4
  | 0, _, _ => rfl
  | f + 1, i, h => by
    rw [zfst_s, h i (Nat.le_refl i) (by omega)]
    exact zfst_n fun j a b => h j (by omega) (by omega)
theorem zend_0 (B : Nat → Int) : zsl (zend B 0) = 1 := rfl
theorem zsl_w {e w : Nat} (he : e < 585) (hw : w < 8) : zsl (wpush e w) % 8 = w := by
  rw [zsl_push he hw]
  split <;> omega
/-- what the slip tells of the book's end -/
theorem zend_sl {B : Nat → Int} {u : Nat} (h : ∀ p, p < u → 0 ≤ B p ∧ B p < 8) : (u = 0 → zsl (zend B u) = 1) ∧ (u = 1 → (zsl (zend B u) : Int) = 8 + B 0) ∧ (u = 2 → (zsl (zend B u) : Int) = 64 + 8 * B 0 + B 1) ∧ (3 ≤ u → (zsl (zend B u) : Int) = 512 + 64 * B (u - 3) + 8 * B (u - 2) + B (u - 1)) := by
  have s1 : ∀ b : Nat, b < 8 → zsl (wpush 0 b) = 8 + b := fun b hb => by
    rw [zsl_push (by decide) hb, show zsl 0 = 1 from rfl, if_pos (by omega)]
  have s2 : ∀ e b : Nat, e < 585 → b < 8 → zsl e < 128 → zsl (wpush e b) = zsl e * 8 + b := fun e b he hb h => by
    rw [zsl_push he hb, if_pos (by omega)]
  refine ⟨fun e => ?_, fun e => ?_, fun e => ?_, fun e => ?_⟩
  · subst e; rfl
  · subst e
    have h0 := h 0 (by decide)
    show (zsl (wpush 0 (B 0).toNat) : Int) = _
    rw [s1 _ (by omega)]
    omega
  · subst e
    have h0 := h 0 (by decide)
    have h1 := h 1 (by decide)
    show (zsl (wpush (wpush 0 (B 0).toNat) (B 1).toNat) : Int) = _
    have e1 : wpush 0 (B 0).toNat < 585 := wpush_lt (by decide) (by omega)
    rw [s2 _ _ e1 (by omega) (by rw [s1 _ (by omega)]; omega), s1 _ (by omega)]
    omega
  · have h0 := h (u - 3) (by omega)
    have h1 := h (u - 2) (by omega)
    have h2 := h (u - 1) (by omega)
    have e0 : zend B u = wpush (wpush (wpush 0 (B (u - 3)).toNat) (B (u - 2)).toNat) (B (u - 1)).toNat := by
      unfold zend
      rw [if_neg (by omega)]
      show wpush (wpush (wpush 0 (B (u - 3)).toNat) (B (u - 3 + 1)).toNat) (B (u - 3 + 1 + 1)).toNat = _
      rw [show u - 3 + 1 = u - 2 by omega, show u - 2 + 1 = u - 1 by omega]
    have e1 : wpush 0 (B (u - 3)).toNat < 585 := wpush_lt (by decide) (by omega)
    have e2 : wpush (wpush 0 (B (u - 3)).toNat) (B (u - 2)).toNat < 585 := wpush_lt e1 (by omega)
    have q1 := s1 (B (u - 3)).toNat (by omega)
    have q2 := s2 _ (B (u - 2)).toNat e1 (by omega) (by rw [q1]; omega)
    have q3 := s2 _ (B (u - 1)).toNat e2 (by omega) (by rw [q2, q1]; omega)
    rw [e0, q3, q2, q1]
    omega
theorem zends_dig {B : Nat → Int} {u a : Nat} {R : Int} (h : ∀ p, p < u → 0 ≤ B p ∧ B p < 8) (ha : a ≤ 3) (hu : a ≤ u) (hR : 0 ≤ R ∧ R < ((8 ^ a : Nat) : Int)) (hd : zdig B (u - 1) a R = true) : zends (zend B u) R a = true := by
  obtain ⟨z0, z1, z2, z3⟩ := zend_sl h
  generalize zsl (zend B u) = s at *
  have hs : zends (zend B u) R a = (decide (8 ^ a ≤ zsl (zend B u)) && decide (((zsl (zend B u) % 8 ^ a : Nat) : Int) = R)) := rfl
  rw [hs]
  obtain ⟨y0, y1, y2, y3⟩ := zend_sl h
  generalize zsl (zend B u) = s at *
  have ca : a = 0 ∨ a = 1 ∨ a = 2 ∨ a = 3 := by omega
  rcases ca with q | q | q | q <;> subst q
  · have : R < 1 := hR.2
    simp only [Bool.and_eq_true, decide_eq_true_eq, Nat.pow_zero]
    refine ⟨?_, by omega⟩
    by_cases c0 : u = 0
    · have := y0 c0; omega
    by_cases c1 : u = 1
    · have := y1 c1; have := h 0 (by omega); omega
    by_cases c2 : u = 2
    · have := y2 c2; have := h 0 (by omega); have := h 1 (by omega); omega
    · have := y3 (by omega); have := h (u - 3) (by omega); have := h (u - 2) (by omega); have := h (u - 1) (by omega); omega
  · have hR2 : R < 8 := hR.2
    rw [zdig_s, zdig_0, Bool.and_true] at hd
    have hd := of_decide_eq_true hd
    simp only [Bool.and_eq_true, decide_eq_true_eq, show 8 ^ 1 = 8 from rfl]
    by_cases c1 : u = 1
    · have := y1 c1; have := h 0 (by omega); subst c1; rw [show 1 - 1 = 0 from rfl] at hd; omega
    by_cases c2 : u = 2
    · have := y2 c2; have := h 0 (by omega); have := h 1 (by omega); subst c2; rw [show 2 - 1 = 1 from rfl] at hd; omega
    · have := y3 (by omega); have := h (u - 3) (by omega); have := h (u - 2) (by omega); have := h (u - 1) (by omega); omega
  · have hR2 : R < 64 := hR.2
    rw [zdig_s, zdig_s, zdig_0, Bool.and_true, Bool.and_eq_true, show u - 1 - 1 = u - 2 by omega] at hd
    have hd1 := of_decide_eq_true hd.1
    have hd2 := of_decide_eq_true hd.2
    simp only [Bool.and_eq_true, decide_eq_true_eq, show 8 ^ 2 = 64 from rfl]
    by_cases c2 : u = 2
    · have := y2 c2; have := h 0 (by omega); have := h 1 (by omega); subst c2; rw [show 2 - 1 = 1 from rfl] at hd1; rw [show 2 - 2 = 0 from rfl] at hd2; omega
    · have := y3 (by omega); have := h (u - 3) (by omega); have := h (u - 2) (by omega); have := h (u - 1) (by omega); omega
  · have hR2 : R < 512 := hR.2
    rw [zdig_s, zdig_s, zdig_s, zdig_0, Bool.and_true, Bool.and_eq_true, Bool.and_eq_true, show u - 1 - 1 = u - 2 by omega, show u - 2 - 1 = u - 3 by omega] at hd
    have hd1 := of_decide_eq_true hd.1
    have hd2 := of_decide_eq_true hd.2.1
    have hd3 := of_decide_eq_true hd.2.2
    simp only [Bool.and_eq_true, decide_eq_true_eq, show 8 ^ 3 = 512 from rfl]
    have := y3 (by omega); have := h (u - 3) (by omega); have := h (u - 2) (by omega); have := h (u - 1) (by omega); omega
theorem zmay_x {F LW LL : Nat → Int} {lim : Int} {e w : Nat} : ∀ {n : Nat}, zmay F LW LL lim e w n = true → (decide (e = 0) || zbit (F (zsl e % 8)) w) = true ∧ ∀ i, i < n → zstands LW LL lim e w i = false
  | 0, h => ⟨h, fun i hi => absurd hi (Nat.not_lt_zero i)⟩
  | n + 1, h => by
    have h : (zmay F LW LL lim e w n && !zstands LW LL lim e w n) = true := h
    simp only [Bool.and_eq_true, Bool.not_eq_true'] at h
    obtain ⟨h1, h2⟩ := zmay_x h.1
    refine ⟨h1, fun i hi => ?_⟩
    by_cases q : i = n
    · rw [q]; exact h.2
    · exact h2 i (by omega)
/-- a word that may come ends no line -/
theorem zline_new {B C F LW LL : Nat → Int} {u w ln : Nat} (hB : ∀ p, p < u → 0 ≤ B p ∧ B p < 8) (hw : w < 8) (hC : ∀ p, p < u → C p = B p) (hCu : C u = w) (ht : ∀ i : Nat, i < ln → 1 ≤ LL i ∧ LL i ≤ 4 ∧ 0 ≤ LW i ∧ LW i < ((8 ^ (LL i).toNat : Nat) : Int)) (hm : zmay F LW LL 4 (zend B u) w ln = true) : zline C LW LL ln u = -4 := by
  obtain ⟨-, hs⟩ := zmay_x hm
  unfold zline
  refine zfst_n fun l _ hl => ?_
  have hl : l < ln := by omega
  obtain ⟨t1, t2, t3, t4⟩ := ht l hl
  have hs := hs l hl
  cases hz : zlm C LW LL u l with
  | false => rfl
  | true =>
    exfalso
    unfold zlm at hz
    simp only [Bool.and_eq_true, decide_eq_true_eq] at hz
    obtain ⟨a, ha⟩ : ∃ a : Nat, LL l = a + 1 := ⟨(LL l - 1).toNat, by omega⟩
    have hz2 := hz.2
    rw [ha, show ((a : Int) + 1).toNat = a + 1 by omega, zdig_s, Bool.and_eq_true, hCu] at hz2
    have e1 := of_decide_eq_true hz2.1
    rw [ha, show ((a : Int) + 1).toNat = a + 1 by omega, Nat.pow_succ] at t4
    have hd : zdig B (u - 1) a (LW l / 8) = true := by
      by_cases c : u = 0
      · have : a = 0 := by omega
        rw [this, zdig_0]
      · rw [← zdig_cong (B := C) (fun q hq => hC q (by omega))]
        exact hz2.2
    have he := zends_dig (u := u) (a := a) (R := LW l / 8) hB (by omega) (by omega) ⟨by omega, by omega⟩ hd
    unfold zstands at hs
    rw [ha, show ((a : Int) + 1 - 1).toNat = a by omega, he, decide_eq_true (show (a : Int) + 1 - 1 < 4 by omega), decide_eq_true (show LW l % 8 = w by omega)] at hs
    cases hs
/-- a word that may come follows -/
theorem zbit_new {B F LW LL : Nat → Int} {lim : Int} {u w ln : Nat} (hB : ∀ p, p < u → 0 ≤ B p ∧ B p < 8) (hu : 1 ≤ u) (hm : zmay F LW LL lim (zend B u) w ln = true) : zbit (F (B (u - 1)).toNat) w = true := by
  obtain ⟨h1, -⟩ := zmay_x hm
  obtain ⟨y0, y1, y2, y3⟩ := zend_sl hB
  have hb := hB (u - 1) (by omega)
  have e8 : zsl (zend B u) % 8 = (B (u - 1)).toNat := by
    by_cases c1 : u = 1
    · have := y1 c1; subst c1; rw [show 1 - 1 = 0 from rfl] at hb ⊢; omega
    by_cases c2 : u = 2
    · have := y2 c2; have := hB 0 (by omega); subst c2; rw [show 2 - 1 = 1 from rfl] at hb ⊢; omega
    · have := y3 (by omega); have := hB (u - 3) (by omega); have := hB (u - 2) (by omega); omega
  have hne : zend B u ≠ 0 := fun z => by
    have h8 := zsl_8 (e := zend B u)
    have := h8.mpr z
    by_cases c1 : u = 1
    · have := y1 c1; have := hB 0 (by omega); omega
    by_cases c2 : u = 2
    · have := y2 c2; have := hB 0 (by omega); have := hB 1 (by omega); omega
    · have := y3 (by omega); have := hB (u - 3) (by omega); have := hB (u - 2) (by omega); omega
  rw [decide_eq_false hne, Bool.false_or, e8] at h1
  exact h1
