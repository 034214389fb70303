/-- the first that is so; below 0: none is -/
def zfst (P : Nat → Bool) : Nat → Nat → Int
  | 0, _ => -4
  | f + 1, i => if P i then (i : Int) else zfst P f (i + 1)
theorem zfst_s (P : Nat → Bool) (f i : Nat) : zfst P (f + 1) i = if P i then (i : Int) else zfst P f (i + 1) := rfl
theorem zfst_cong {P Q : Nat → Bool} : ∀ {f i : Nat}, (∀ j, i ≤ j → j < i + f → P j = Q j) → zfst P f i = zfst Q f i
  | 0, _, _ => rfl
  | f + 1, i, h => by rw [zfst_s, zfst_s, h i (Nat.le_refl i) (by omega), zfst_cong (fun j a b => h j (by omega) (by omega))]
theorem zfst_r (P : Nat → Bool) : ∀ (f i : Nat), zfst P f i = -4 ∨ ∃ j : Nat, zfst P f i = j ∧ i ≤ j ∧ j < i + f ∧ P j = true
  | 0, _ => Or.inl rfl
  | f + 1, i => by
    rw [zfst_s]
    cases h : P i with
    | true => exact Or.inr ⟨i, by simp, Nat.le_refl i, by omega, h⟩
    | false =>
      rcases zfst_r P f (i + 1) with h1 | ⟨j, h1, h2, h3, h4⟩
      · exact Or.inl (by simpa using h1)
      · exact Or.inr ⟨j, by simpa using h1, by omega, by omega, h4⟩
/-- the digits of a number, the last first, are the words that end at a place -/
def zdig (B : Nat → Int) : Nat → Nat → Int → Bool
  | _, 0, _ => true
  | p, n + 1, r => decide (B p = r % 8) && zdig B (p - 1) n (r / 8)
/-- a line ends at a place -/
def zlm (B LW LL : Nat → Int) (p l : Nat) : Bool := decide (LL l ≤ (p : Int) + 1) && zdig B p (LL l).toNat (LW l)
/-- the first line that ends at a place -/
def zline (B LW LL : Nat → Int) (ln p : Nat) : Int := zfst (zlm B LW LL p) ln 0
/-- lines are no longer than they say -/
def zTl (LW LL : Nat → Int) (ln : Int) : Prop := ∀ i : Nat, (i : Int) < ln → LW i < ((8 ^ (LL i).toNat : Nat) : Int)
/-- the last four words as a number -/
def zfour (B : Nat → Int) (p : Nat) : Int := if p = 0 then B 0 else if p = 1 then B 0 * 8 + B 1 else if p = 2 then (B 0 * 8 + B 1) * 8 + B 2 else ((B (p - 3) * 8 + B (p - 2)) * 8 + B (p - 1)) * 8 + B p
theorem zfour_r {B : Nat → Int} {p : Nat} (hB : ∀ q, q ≤ p → 0 ≤ B q ∧ B q < 8) : 0 ≤ zfour B p ∧ zfour B p < 4096 := by
  have h0 := hB p (Nat.le_refl p)
  have h1 := hB (p - 1) (by omega)
  have h2 := hB (p - 2) (by omega)
  have h3 := hB (p - 3) (by omega)
  unfold zfour
  by_cases q0 : p = 0
  · subst q0
    simp only [if_true]
    omega
  · by_cases q1 : p = 1
    · subst q1
      simp only [if_true, q0, if_false]
      have h1 : 0 ≤ B 0 ∧ B 0 < 8 := h1
      omega
    · by_cases q2 : p = 2
      · subst q2
        simp only [if_true, q0, q1, if_false]
        have h1 : 0 ≤ B 1 ∧ B 1 < 8 := h1
        have h2 : 0 ≤ B 0 ∧ B 0 < 8 := h2
        omega
      · simp only [q0, q1, q2, if_false]
        omega
theorem zfour_x {B : Nat → Int} {p n : Nat} {W : Int} (hB : ∀ q, q ≤ p → 0 ≤ B q ∧ B q < 8) (h1 : 1 ≤ n) (h4 : n ≤ 4) (hp : n ≤ p + 1) (hW0 : 0 ≤ W) (hW : W < ((8 ^ n : Nat) : Int)) : decide (zfour B p % ((8 ^ n : Nat) : Int) = W) = zdig B p n W := by
  have b0 := hB p (Nat.le_refl p)
  have b1 := hB (p - 1) (by omega)
  have b2 := hB (p - 2) (by omega)
  have b3 := hB (p - 3) (by omega)
  have e2 : p - 1 - 1 = p - 2 := by omega
  have e3 : p - 2 - 1 = p - 3 := by omega
  have key : ∀ (P Q : Prop) [Decidable P] [Decidable Q], (P ↔ Q) → decide P = decide Q := fun P Q _ _ h => decide_eq_decide.mpr h
  have x1 : p = 0 ∨ p = 1 ∨ p = 2 ∨ 3 ≤ p := by omega
  have x2 : n = 1 ∨ n = 2 ∨ n = 3 ∨ n = 4 := by omega
  rcases x2 with rfl | rfl | rfl | rfl
  · have hW : W < 8 := hW
    show decide (_ % (8 : Int) = W) = (decide (B p = W % 8) && true)
    rw [Bool.and_true]
    apply key
    rcases x1 with rfl | rfl | rfl | x
    · unfold zfour; simp only [if_true]; omega
    · unfold zfour; simp only [if_true, if_false, show ¬ (1 = 0) by decide]; omega
    · unfold zfour; simp only [if_true, if_false, show ¬ (2 = 0) by decide, show ¬ (2 = 1) by decide]; omega
    · unfold zfour; simp only [if_false, show ¬ (p = 0) by omega, show ¬ (p = 1) by omega, show ¬ (p = 2) by omega]; omega
  · have hW : W < 64 := hW
    show decide (_ % (64 : Int) = W) = (decide (B p = W % 8) && (decide (B (p - 1) = W / 8 % 8) && true))
    rw [Bool.and_true, ← Bool.decide_and]
    apply key
    rcases x1 with rfl | rfl | rfl | x
    · omega
    · unfold zfour; simp only [if_true, if_false, show ¬ (1 = 0) by decide]; simp only [show 1 - 1 = 0 from rfl] at *; omega
    · unfold zfour; simp only [if_true, if_false, show ¬ (2 = 0) by decide, show ¬ (2 = 1) by decide]; simp only [show 2 - 1 = 1 from rfl] at *; omega
    · unfold zfour; simp only [if_false, show ¬ (p = 0) by omega, show ¬ (p = 1) by omega, show ¬ (p = 2) by omega]; omega
  · have hW : W < 512 := hW
    show decide (_ % (512 : Int) = W) = (decide (B p = W % 8) && (decide (B (p - 1) = W / 8 % 8) && (decide (B (p - 1 - 1) = W / 8 / 8 % 8) && true)))
    rw [Bool.and_true, ← Bool.decide_and, ← Bool.decide_and, e2]
    apply key
    rcases x1 with rfl | rfl | rfl | x
    · omega
    · omega
    · unfold zfour; simp only [if_true, if_false, show ¬ (2 = 0) by decide, show ¬ (2 = 1) by decide]; simp only [show 2 - 1 = 1 from rfl, show 2 - 2 = 0 from rfl] at *; omega
    · unfold zfour; simp only [if_false, show ¬ (p = 0) by omega, show ¬ (p = 1) by omega, show ¬ (p = 2) by omega]; omega
  · have hW : W < 4096 := hW
    show decide (_ % (4096 : Int) = W) = (decide (B p = W % 8) && (decide (B (p - 1) = W / 8 % 8) && (decide (B (p - 1 - 1) = W / 8 / 8 % 8) && (decide (B (p - 1 - 1 - 1) = W / 8 / 8 / 8 % 8) && true))))
    rw [Bool.and_true, ← Bool.decide_and, ← Bool.decide_and, ← Bool.decide_and, e2, e3]
    apply key
    rcases x1 with rfl | rfl | rfl | x
    · omega
    · omega
    · omega
    · unfold zfour; simp only [if_false, show ¬ (p = 0) by omega, show ¬ (p = 1) by omega, show ¬ (p = 2) by omega]; omega
section
variable {mm : zMm}
theorem s_lineAtEndOf (d : Nat) (v len : Int) (hv : 0 ≤ v ∧ v < 4096) (ht : zTg (mm 3) (mm 4) (mm 5) (mm 2 3)) : zL (d + 1) 46 [.inr (.inr 2), .inl v, .inl len] SH mm = zok (zfst (fun l => decide (mm 5 l ≤ len) && decide (v % ((8 ^ (mm 5 l).toNat : Nat) : Int) = mm 4 l)) (mm 2 3).toNat 0) mm := by
  obtain ⟨h0, h6, hF, hl⟩ := ht
  have key : ∀ (f i : Nat), i + f = (mm 2 3).toNat → zR d 46 2 [some (.inr (.inr 2)), some (.inl v), some (.inl len), some (.inl (i : Int)), none] [] SH mm = zok (zfst (fun l => decide (mm 5 l ≤ len) && decide (v % ((8 ^ (mm 5 l).toNat : Nat) : Int) = mm 4 l)) f i) mm := by
    intro f
    induction f with
    | zero =>
      intro i h
      rw [zb_X6_lineAtEndOf_2, if_neg (by omega)]
      rfl
    | succ f ih =>
      intro i h
      obtain ⟨l1, l2, l3, l4⟩ := hl i (by omega)
      have e1 : zw ((i : Int) + 1) = ((i + 1 : Nat) : Int) := by rw [zw_id (by omega) (by omega)]; omega
      have e2 : mm 5 i = ((mm 5 i).toNat : Int) := by omega
      rw [zb_X6_lineAtEndOf_2, zfst_s]
      simp (disch := omega) only [if_pos, Int.toNat_natCast]
      have e3 : zand v (zw (zshl 1 (zw (3 * mm 5 i)) - 1)) = v % ((8 ^ (mm 5 i).toNat : Nat) : Int) := by
        have := z8m (x := v) hv.1 (by omega) (n := (mm 5 i).toNat) (by omega)
        rw [← e2] at this
        exact this
      rw [e3, e1]
      by_cases c1 : len < mm 5 i
      · rw [if_pos c1, decide_eq_false (show ¬ (mm 5 i ≤ len) by omega)]
        exact zR_weak (by repeat first | exact zle_nil | apply zle_c | apply zle_n) (ih (i + 1) (by omega))
      · rw [if_neg c1, decide_eq_true (show mm 5 i ≤ len by omega)]
        by_cases c2 : v % ((8 ^ (mm 5 i).toNat : Nat) : Int) = mm 4 i
        · rw [if_pos c2, decide_eq_true c2]
          rfl
        · rw [if_neg c2, decide_eq_false c2]
          exact zR_weak (by repeat first | exact zle_nil | apply zle_c | apply zle_n) (ih (i + 1) (by omega))
  rw [ze_X6_lineAtEndOf, zb_X6_lineAtEndOf_0]
  exact key _ 0 (by omega)
theorem s_lineEnding_step (d p s : Nat) (acc : Int) (hp : xP mm) (hs : s ≤ p) (hp2 : (p : Int) < mm 12 2) (ha : 0 ≤ acc ∧ acc < 512) : zR (d + 2) 18 12 [some (.inr (.inr 1)), some (.inl (p : Int)), some (.inl acc), some (.inl (s : Int))] [] SH mm = zR (d + 2) 18 12 [some (.inr (.inr 1)), some (.inl (p : Int)), some (.inl (acc * 8 + mm 13 s)), some (.inl ((s + 1 : Nat) : Int))] [] SH mm := by
  have h1 := hp.2.1
  have h2 := hp.2.2 s (by omega)
  rw [zb_X1_lineEndingAt_12, if_neg (by omega), s_wordAt d s hp (by omega), zcI_ok, zb_X1_lineEndingAt_29, zw_id (x := acc * 8) (by omega) (by omega), zw_id (by omega) (by omega), zw_id (by omega) (by omega)]
  rfl
theorem s_lineEndingAt (d p : Nat) (hp : xP mm) (hp2 : (p : Int) < mm 12 2) (ht : zTg (mm 3) (mm 4) (mm 5) (mm 2 3)) (hl : zTl (mm 4) (mm 5) (mm 2 3)) : zL (d + 3) 18 [.inr (.inr 1), .inl p] SH mm = zok (zline (mm 13) (mm 4) (mm 5) (mm 2 3).toNat p) mm := by
  have h60 := hp.2.1
  have hB : ∀ q, q ≤ p → 0 ≤ mm 13 q ∧ mm 13 q < 8 := fun q hq => hp.2.2 q (by omega)
  have hr := zfour_r hB
  have fin : zR (d + 2) 18 12 [some (.inr (.inr 1)), some (.inl (p : Int)), some (.inl (zfour (mm 13) p)), some (.inl ((p + 1 : Nat) : Int))] [] SH mm = zok (zline (mm 13) (mm 4) (mm 5) (mm 2 3).toNat p) mm := by
    rw [zb_X1_lineEndingAt_12, if_pos (by omega), zw_id (by omega) (by omega), s_lineAtEndOf (d + 1) _ _ hr ht, zcI_ok, zb_X1_lineEndingAt_48]
    refine congrArg (fun x => zok x mm) ?_
    unfold zline
    refine zfst_cong fun l _ hl2 => ?_
    obtain ⟨l1, l2, l3, l4⟩ := ht.2.2.2 l (by have := ht.1; omega)
    have := hl l (by have := ht.1; omega)
    unfold zlm
    by_cases c : mm 5 l ≤ (p : Int) + 1
    · rw [zfour_x hB (by omega) (by omega) (by omega) l3 this]
    · rw [decide_eq_false c]
      rfl
  rw [ze_X1_lineEndingAt, zb_X1_lineEndingAt_0, zw_id (x := (p : Int) + 1) (by omega) (by omega), zw_id (by omega) (by omega), s_max, zcI_ok, zb_X1_lineEndingAt_11]
  have b0 := hB p (Nat.le_refl p)
  have b1 := hB (p - 1) (by omega)
  have b2 := hB (p - 2) (by omega)
  have b3 := hB (p - 3) (by omega)
  by_cases x0 : p = 0
  · subst x0
    rw [if_neg (by decide)]
    refine (s_lineEnding_step d 0 0 0 hp (by omega) hp2 (by omega)).trans ?_
    rw [show (0 : Int) * 8 + mm 13 0 = zfour (mm 13) 0 by unfold zfour; simp]
    exact fin
  · by_cases x1 : p = 1
    · subst x1
      rw [if_neg (by decide)]
      refine (s_lineEnding_step d 1 0 0 hp (by omega) hp2 (by omega)).trans ?_
      rw [s_lineEnding_step d 1 1 _ hp (by omega) hp2 (by simp only [show 1 - 1 = 0 from rfl] at *; omega)]
      have e : (0 * 8 + mm 13 0) * 8 + mm 13 1 = zfour (mm 13) 1 := by unfold zfour; simp
      rw [e]
      exact fin
    · by_cases x2 : p = 2
      · subst x2
        rw [if_neg (by decide)]
        simp only [show 2 - 1 = 1 from rfl, show 2 - 2 = 0 from rfl] at *
        refine (s_lineEnding_step d 2 0 0 hp (by omega) hp2 (by omega)).trans ?_
        rw [s_lineEnding_step d 2 1 _ hp (by omega) hp2 (by omega), s_lineEnding_step d 2 2 _ hp (by omega) hp2 (by omega)]
        have e : ((0 * 8 + mm 13 0) * 8 + mm 13 1) * 8 + mm 13 2 = zfour (mm 13) 2 := by unfold zfour; simp
        rw [e]
        exact fin
      · have e0 : (if (0 : Int) < (p : Int) + 1 - 4 then (p : Int) + 1 - 4 else 0) = ((p - 3 : Nat) : Int) := by split <;> omega
        rw [e0, s_lineEnding_step d p (p - 3) 0 hp (by omega) hp2 (by omega), show p - 3 + 1 = p - 2 by omega, s_lineEnding_step d p (p - 2) _ hp (by omega) hp2 (by omega), show p - 2 + 1 = p - 1 by omega, s_lineEnding_step d p (p - 1) _ hp (by omega) hp2 (by omega), show p - 1 + 1 = p by omega, s_lineEnding_step d p p _ hp (by omega) hp2 (by omega)]
        have e : (((0 * 8 + mm 13 (p - 3)) * 8 + mm 13 (p - 2)) * 8 + mm 13 (p - 1)) * 8 + mm 13 p = zfour (mm 13) p := by
          unfold zfour
          rw [if_neg x0, if_neg x1, if_neg x2]
          simp
        rw [e]
        exact fin
/-- the first place at which a line ends -/
def zfle (B LW LL : Nat → Int) (ln n : Nat) : Int := zfst (fun p => decide (0 ≤ zline B LW LL ln p)) n 0
theorem s_firstLineEnd (d : Nat) (hp : xP mm) (ht : zTg (mm 3) (mm 4) (mm 5) (mm 2 3)) (hl : zTl (mm 4) (mm 5) (mm 2 3)) : zL (d + 4) 19 [.inr (.inr 1)] SH mm = zok (zfle (mm 13) (mm 4) (mm 5) (mm 2 3).toNat (mm 12 2).toNat) mm := by
  have h0 := hp.1
  have h60 := hp.2.1
  have key : ∀ (f i : Nat), i + f = (mm 12 2).toNat → zR (d + 3) 19 2 [some (.inr (.inr 1)), some (.inl (i : Int))] [] SH mm = zok (zfst (fun p => decide (0 ≤ zline (mm 13) (mm 4) (mm 5) (mm 2 3).toNat p)) f i) mm := by
    intro f
    induction f with
    | zero =>
      intro i h
      rw [zb_X1_firstLineEnd_2, if_neg (by omega)]
      rfl
    | succ f ih =>
      intro i h
      have e1 : zw ((i : Int) + 1) = ((i + 1 : Nat) : Int) := by rw [zw_id (by omega) (by omega)]; omega
      rw [zb_X1_firstLineEnd_2, if_pos (by omega), s_lineEndingAt d i hp (by omega) ht hl, zcI_ok, zb_X1_firstLineEnd_18, zfst_s, e1]
      by_cases c : zline (mm 13) (mm 4) (mm 5) (mm 2 3).toNat i < 0
      · rw [if_pos c, decide_eq_false (by omega)]
        exact ih (i + 1) (by omega)
      · rw [if_neg c, decide_eq_true (by omega)]
        rfl
  rw [ze_X1_firstLineEnd, zb_X1_firstLineEnd_0]
  exact key _ 0 (by omega)
/-- what a writer could have written else -/
def zelse (cm : Nat → Nat → Nat → Bool) (B : Nat → Int) (c p : Nat) : Int := zand (mks (cm c (zend B p)) 8) (zxor (zshl 1 (B p)) (-1))
/-- who could have prevented it -/
def zprv (cm : Nat → Nat → Nat → Bool) (B Wr : Nat → Int) : Nat → Nat → Int → Int
  | 0, _, a => a
  | f + 1, p, a => zprv cm B Wr f (p + 1) (if 0 ≤ Wr p ∧ zelse cm B (Wr p).toNat p ≠ 0 then zor a (zshl 1 (Wr p)) else a)
/-- the writers are cells -/
def zWr (Wr : Nat → Int) (n k : Int) : Prop := ∀ p : Nat, (p : Int) < n → Wr p = -4 ∨ (0 ≤ Wr p ∧ Wr p < k)
theorem s_couldHave (d c p : Nat) (hc : (c : Int) < mm 6 3) (hp : xP mm) (hp2 : (p : Int) < mm 12 2) (hce : zCe (mm 7) (mm 9) (mm 8) (mm 6 3)) (ht : zTg (mm 3) (mm 4) (mm 5) (mm 2 3)) : zL (d + 4) 21 [.inr (.inr 1), .inl c, .inl p] SH mm = zok (if zelse (xcm mm) (mm 13) c p = 0 then 0 else 1) mm := by
  have he : zend (mm 13) p < 585 := zend_lt fun q hq => hp.2.2 q (by omega)
  rw [ze_X1_couldHaveWrittenElse, zb_X1_couldHaveWrittenElse_0, s_wordAt (d + 1) p hp hp2, zcI_ok, zb_X1_couldHaveWrittenElse_9, s_slipAheadOf d p hp (by omega), zcI_ok, zb_X1_couldHaveWrittenElse_21, s_canCome d c _ hc he hce ht, zcI_ok, zb_X1_couldHaveWrittenElse_24]
  unfold zelse
  split <;> rfl
theorem s_preventers (d p : Nat) (hp : xP mm) (hp2 : (p : Int) < mm 12 2) (hce : zCe (mm 7) (mm 9) (mm 8) (mm 6 3)) (ht : zTg (mm 3) (mm 4) (mm 5) (mm 2 3)) (hl : zTl (mm 4) (mm 5) (mm 2 3)) (hw : zWr (mm 14) (mm 12 2) (mm 6 3)) (l : Nat) (hz : zline (mm 13) (mm 4) (mm 5) (mm 2 3).toNat p = l) : zL (d + 5) 20 [.inr (.inr 1), .inl p] SH mm = zok (zprv (xcm mm) (mm 13) (mm 14) (mm 5 l).toNat (p + 1 - (mm 5 l).toNat) 0) mm := by
  have h60 := hp.2.1
  have h1 : (l : Int) < mm 2 3 ∧ mm 5 l ≤ (p : Int) + 1 := by
    have h2 := zfst_r (zlm (mm 13) (mm 4) (mm 5) p) (mm 2 3).toNat 0
    unfold zline at hz
    rcases h2 with h2 | ⟨j, h2, h3, h4, h5⟩
    · omega
    · obtain rfl : j = l := by omega
      refine ⟨by omega, ?_⟩
      unfold zlm at h5
      rw [Bool.and_eq_true] at h5
      exact of_decide_eq_true h5.1
  obtain ⟨l1, l2, l3, l4⟩ := ht.2.2.2 l h1.1
  have h6 := ht.2.1
  have key : ∀ (f i : Nat) (a : Int), i + f = p + 1 → zR (d + 4) 20 22 [some (.inr (.inr 1)), some (.inl (p : Int)), none, some (.inl a), some (.inl (i : Int)), none] [] SH mm = zok (zprv (xcm mm) (mm 13) (mm 14) f i a) mm := by
    intro f
    induction f with
    | zero =>
      intro i a h
      rw [zb_X1_preventers_22, if_pos (by omega)]
      rfl
    | succ f ih =>
      intro i a h
      have e1 : zw ((i : Int) + 1) = ((i + 1 : Nat) : Int) := by rw [zw_id (by omega) (by omega)]; omega
      have ww := hw i (by omega)
      rw [zb_X1_preventers_22, if_neg (by omega), s_writerAt (d + 2) i hp (by omega), zcI_ok, zb_X1_preventers_37, e1]
      have iha := ih (i + 1)
      show _ = zok (zprv (xcm mm) (mm 13) (mm 14) f (i + 1) (if 0 ≤ mm 14 i ∧ zelse (xcm mm) (mm 13) (mm 14 i).toNat i ≠ 0 then zor a (zshl 1 (mm 14 i)) else a)) mm
      by_cases c : mm 14 i < 0
      · rw [if_pos c, if_neg (fun q => by omega)]
        exact zR_weak (by repeat first | exact zle_nil | apply zle_c | apply zle_n) (iha a (by omega))
      · have e2 : mm 14 i = ((mm 14 i).toNat : Int) := by omega
        have hc := s_couldHave d (mm 14 i).toNat i (by omega) hp (by omega) hce ht
        rw [← e2] at hc
        rw [if_neg c, hc, zcI_ok, zb_X1_preventers_52, e1]
        by_cases c2 : zelse (xcm mm) (mm 13) (mm 14 i).toNat i = 0
        · rw [if_pos c2, if_pos rfl, if_neg (fun q => q.2 c2)]
          exact zR_weak (by repeat first | exact zle_nil | apply zle_c | apply zle_n) (iha a (by omega))
        · rw [if_neg c2, if_neg (by decide), if_pos ⟨by omega, c2⟩]
          exact zR_weak (by repeat first | exact zle_nil | apply zle_c | apply zle_n) (iha _ (by omega))
  rw [ze_X1_preventers, zb_X1_preventers_0, s_lineEndingAt (d + 1) p hp hp2 ht hl, zcI_ok, zb_X1_preventers_9, hz]
  have hlen : zL (d + 4) 47 [.inr (.inr 2), .inl (l : Int)] SH mm = zok (mm 5 l) mm := by
    rw [ze_X6_lengthOfLine, zb_X6_lengthOfLine_0]
    simp (disch := omega) only [if_pos, if_neg, Int.toNat_natCast]
  rw [hlen, zcI_ok, zb_X1_preventers_12, zw_id (x := (p : Int) + 1) (by omega) (by omega), zw_id (by omega) (by omega), show (p : Int) + 1 - mm 5 l = ((p + 1 - (mm 5 l).toNat : Nat) : Int) by omega]
  exact zR_weak (by repeat first | exact zle_nil | apply zle_c | apply zle_n) (key _ _ 0 (by omega))
end
