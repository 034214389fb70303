/-! the last words, as a number: 0 nothing; 1..8 a word; 9..72 two; 73..584 three -/
def wpush (e w : Nat) : Nat := if e = 0 then 1 + w else if e < 9 then 9 + 8 * (e - 1) + w else if e < 73 then 73 + 8 * (e - 9) + w else 73 + (e - 73) % 64 * 8 + w
def zsl (e : Nat) : Nat := if e = 0 then 1 else if e < 9 then e + 7 else if e < 73 then e + 55 else e + 439
def zfold (B : Nat → Int) : Nat → Nat → Nat → Nat
  | 0, _, e => e
  | c + 1, s, e => zfold B c (s + 1) (wpush e (B s).toNat)
def zend (B : Nat → Int) (u : Nat) : Nat := if u < 3 then zfold B u 0 0 else zfold B 3 (u - 3) 0
theorem wpush_lt {e w : Nat} (he : e < 585) (hw : w < 8) : wpush e w < 585 := by
  unfold wpush
  (repeat' split) <;> omega
theorem wpush_pos (e w : Nat) : 0 < wpush e w := by
  unfold wpush
  (repeat' split) <;> omega
theorem zsl_push {e w : Nat} (he : e < 585) (hw : w < 8) : zsl (wpush e w) = if zsl e * 8 + w < 1024 then zsl e * 8 + w else 512 + (zsl e * 8 + w) % 512 := by
  unfold zsl wpush
  (repeat' split) <;> omega
theorem zsl_r {e : Nat} (he : e < 585) : 1 ≤ zsl e ∧ zsl e < 1024 := by
  unfold zsl
  (repeat' split) <;> omega
theorem zsl_8 {e : Nat} : zsl e < 8 ↔ e = 0 := by
  unfold zsl
  (repeat' split) <;> omega
theorem zsl_inj {a b : Nat} (h : zsl a = zsl b) (ha : a < 585) (hb : b < 585) : a = b := by
  unfold zsl at h
  (repeat' split at h) <;> omega
theorem zfold_lt {B : Nat → Int} : ∀ {c s e : Nat}, (∀ p, s ≤ p → p < s + c → 0 ≤ B p ∧ B p < 8) → e < 585 → zfold B c s e < 585
  | 0, _, _, _, he => he
  | c + 1, s, e, h, he => by
    have h1 := h s (Nat.le_refl s) (by omega)
    exact zfold_lt (c := c) (s := s + 1) (fun p a b => h p (by omega) (by omega)) (wpush_lt he (by omega))
theorem zend_lt {B : Nat → Int} {u : Nat} (h : ∀ p, p < u → 0 ≤ B p ∧ B p < 8) : zend B u < 585 := by
  unfold zend
  split
  · exact zfold_lt (fun p _ b => h p (by omega)) (by decide)
  · exact zfold_lt (fun p _ b => h p (by omega)) (by decide)
theorem zand_m {x : Int} (h0 : 0 ≤ x) (h1 : x < 2147483648) {m : Int} (k : Nat) (hm : (Int32.ofInt m).toBitVec.toNat = 2 ^ k - 1) : zand x m = x % ((2 ^ k : Nat) : Int) := by
  obtain ⟨n, rfl⟩ : ∃ n : Nat, x = n := ⟨x.toNat, by omega⟩
  unfold zand
  rw [Int32.ofInt_eq_ofNat]
  show (nI n &&& Int32.ofInt m).toInt = _
  have hlt : n % 2 ^ k ≤ n := Nat.mod_le _ _
  rw [pk_andN (by omega) k hm, nI_toInt (by omega)]
  exact Int.natCast_emod n (2 ^ k)
theorem zand7 {x : Int} (h0 : 0 ≤ x) (h1 : x < 2147483648) : zand x 7 = x % 8 := zand_m h0 h1 3 (by decide +kernel)
theorem zand511 {x : Int} (h0 : 0 ≤ x) (h1 : x < 2147483648) : zand x 511 = x % 512 := zand_m h0 h1 9 (by decide +kernel)
theorem zand255 {x : Int} (h0 : 0 ≤ x) (h1 : x < 2147483648) : zand x 255 = x % 256 := zand_m h0 h1 8 (by decide +kernel)
theorem zshr_n {x : Int} {k : Nat} (hk : k < 32) : zshr x k = (Int32.ofInt x).toInt / ((2 ^ k : Nat) : Int) := by
  have : ∀ k, k < 32 → ((Int32.ofInt (k : Nat) &&& 31).toBitVec.smod 32).toNat = k := by decide +kernel
  unfold zshr
  rw [pk_shr _ _ k (this k hk), Int.shiftRight_eq_div_pow]
theorem zshr3 {x : Int} (h0 : 0 ≤ x) (h1 : x < 2147483648) : zshr x 3 = x / 8 := by
  have := zshr_n (x := x) (k := 3) (by decide)
  rw [zo_i ⟨by omega, h1⟩] at this
  exact this
theorem z8 {n : Nat} (h : n ≤ 6) : zshl 1 (zw (3 * (n : Int))) = ((8 ^ n : Nat) : Int) := by
  have : ∀ n, n < 7 → zshl 1 (zw (3 * ((n : Nat) : Int))) = ((8 ^ n : Nat) : Int) := by decide +kernel
  exact this n (by omega)
theorem z8m {x : Int} (h0 : 0 ≤ x) (h1 : x < 2147483648) {n : Nat} (h : n ≤ 6) : zand x (zw (zshl 1 (zw (3 * (n : Int))) - 1)) = x % ((8 ^ n : Nat) : Int) := by
  have h2 : ∀ n, n < 7 → (Int32.ofInt (zw (zshl 1 (zw (3 * ((n : Nat) : Int))) - 1))).toBitVec.toNat = 2 ^ (3 * n) - 1 := by decide +kernel
  rw [zand_m h0 h1 (3 * n) (h2 n (by omega)), Nat.pow_mul]
theorem s_slipWith (d : Nat) {e w : Nat} (he : e < 585) (hw : w < 8) (mm : zMm) : zL (d + 1) 83 [.inl (zsl e), .inl w] SH mm = zok (zsl (wpush e w)) mm := by
  have h := zsl_r he
  rw [ze_X8_slipWith, zb_X8_slipWith_0, zsl_push he hw]
  simp (disch := omega) only [zw_id]
  by_cases h1 : (zsl e : Int) * 8 + w < 1024
  · rw [if_pos h1, if_pos (by omega)]
    simp
  · rw [if_neg h1, if_neg (by omega)]
    simp (disch := omega) only [zand511, zw_id]
    simp
/-- whether a slip ends so -/
def zends (e : Nat) (words : Int) (n : Nat) : Bool := decide (8 ^ n ≤ zsl e) && decide (((zsl e % 8 ^ n : Nat) : Int) = words)
theorem s_slipEndsWith (d : Nat) {e n : Nat} (he : e < 585) (hn : n ≤ 6) (words : Int) (mm : zMm) : zL (d + 1) 84 [.inl (zsl e), .inl words, .inl n] SH mm = zok (if zends e words n then 1 else 0) mm := by
  have h := zsl_r he
  rw [ze_X8_slipEndsWith, zb_X8_slipEndsWith_0, z8m (by omega) (by omega) hn, z8 hn, ← Int.natCast_emod]
  unfold zends
  by_cases h1 : 8 ^ n ≤ zsl e
  · rw [if_neg (by omega)]
    by_cases h2 : ((zsl e % 8 ^ n : Nat) : Int) = words
    · rw [if_pos h2]
      simp [h1, h2]
    · rw [if_neg h2, decide_eq_false h2, Bool.and_false]
      rfl
  · rw [if_pos (by omega)]
    simp [h1]
section X2
variable {mm : zMm}
/-- the book -/
def xP (mm : zMm) : Prop := 0 ≤ mm 12 2 ∧ mm 12 2 ≤ 60 ∧ ∀ p : Nat, (p : Int) < mm 12 2 → 0 ≤ mm 13 p ∧ mm 13 p < 8
theorem s_isFull (d : Nat) : zL (d + 1) 24 [.inr (.inr 12)] SH mm = zok (if mm 12 2 < 60 then 0 else 1) mm := by
  rw [ze_X2_isFull, zb_X2_isFull_0]
  split <;> rfl
theorem s_phas (d : Nat) (a : Int) (hp : xP mm) : zL (d + 1) 25 [.inr (.inr 12), .inl a] SH mm = zok (if 0 ≤ a ∧ a < mm 12 2 then 1 else 0) mm := by
  have := hp.2.1
  rw [ze_X2_has, zb_X2_has_0]
  (repeat' split) <;> first | rfl | (exfalso; omega)
theorem s_wordAt (d p : Nat) (hp : xP mm) (h : (p : Int) < mm 12 2) : zL (d + 2) 27 [.inr (.inr 12), .inl p] SH mm = zok (mm 13 p) mm := by
  have := hp.2.1
  rw [ze_X2_wordAt, zb_X2_wordAt_0, s_phas d p hp, zcI_ok, zb_X2_wordAt_5]
  simp (disch := omega) only [if_pos, if_neg, if_true, if_false, Int.toNat_natCast]
theorem s_wordAtN (d : Nat) (a : Int) (hp : xP mm) (h : ¬ (0 ≤ a ∧ a < mm 12 2)) : zL (d + 2) 27 [.inr (.inr 12), .inl a] SH mm = zok (-4) mm := by
  rw [ze_X2_wordAt, zb_X2_wordAt_0, s_phas d a hp, zcI_ok, zb_X2_wordAt_5]
  simp (disch := omega) only [if_pos, if_neg, if_true, if_false]
theorem s_writerAt (d p : Nat) (hp : xP mm) (h : (p : Int) < mm 12 2) : zL (d + 2) 28 [.inr (.inr 12), .inl p] SH mm = zok (mm 14 p) mm := by
  have := hp.2.1
  rw [ze_X2_writerAt, zb_X2_writerAt_0, s_phas d p hp, zcI_ok, zb_X2_writerAt_5]
  simp (disch := omega) only [if_pos, if_neg, if_true, if_false, Int.toNat_natCast]
theorem s_pappend (d : Nat) (a b : Int) (hp : xP mm) (h : mm 12 2 < 60) : zL (d + 1) 26 [.inr (.inr 12), .inl a, .inl b] SH mm = zvd (zu (zu (zu mm 13 ((mm 12 2).toNat) a) 14 ((mm 12 2).toNat) b) 12 2 (mm 12 2 + 1)) := by
  have := hp.1
  rw [ze_X2_append, zb_X2_append_0]
  simp (disch := omega) only [if_pos, if_neg, if_true, if_false, zw_id]
/-- how many are so -/
def zcnt (P : Nat → Bool) : Nat → Int
  | 0 => 0
  | n + 1 => if P n then zcnt P n + 1 else zcnt P n
theorem zcnt_s (P : Nat → Bool) (n : Nat) : zcnt P (n + 1) = if P n then zcnt P n + 1 else zcnt P n := rfl
theorem zcnt_r (P : Nat → Bool) : ∀ n : Nat, 0 ≤ zcnt P n ∧ zcnt P n ≤ n
  | 0 => by simp [zcnt]
  | n + 1 => by
    have := zcnt_r P n
    unfold zcnt
    split <;> omega
theorem zcnt_cong {P Q : Nat → Bool} : ∀ {n : Nat}, (∀ j, j < n → P j = Q j) → zcnt P n = zcnt Q n
  | 0, _ => rfl
  | n + 1, h => by
    unfold zcnt
    rw [h n (by omega), zcnt_cong (fun j hj => h j (by omega))]
theorem s_known (d : Nat) (hp : xP mm) : zL (d + 3) 29 [.inr (.inr 12)] SH mm = zok (zcnt (fun p => decide (0 ≤ mm 14 p)) (mm 12 2).toNat) mm := by
  have h0 := hp.1
  have h60 := hp.2.1
  rw [ze_X2_known, zb_X2_known_0]
  refine zup (P := fun i => zR (d + 2) 29 4 [some (.inr (.inr 12)), some (.inl (zcnt (fun p => decide (0 ≤ mm 14 p)) i)), some (.inl (i : Int))] [] SH mm = _) (n := (mm 12 2).toNat) ?_ ?_ 0 (by omega)
  · rw [zb_X2_known_4, if_neg (by omega)]
  · intro i hi ih
    have hc := zcnt_r (fun p => decide (0 ≤ mm 14 p)) i
    rw [zb_X2_known_4, if_pos (by omega), s_writerAt d i hp (by omega), zcI_ok, zb_X2_known_17]
    rw [show zw ((i : Int) + 1) = ((i + 1 : Nat) : Int) by rw [zw_id (by omega) (by omega)]; omega]
    rw [zcnt_s] at ih
    by_cases h : mm 14 i < 0
    · rw [if_pos h]
      simp only [show ¬ (0 ≤ mm 14 i) by omega, decide_false, Bool.false_eq_true, if_false] at ih
      exact ih
    · rw [if_neg h, zw_id (by omega) (by omega)]
      simp only [show (0 ≤ mm 14 i) by omega, decide_true, if_true] at ih
      exact ih
/-- habits -/
def zhab (B Wr : Nat → Int) (a b : Int) (p : Nat) : Bool := decide (Wr p = a) && decide (B p = b)
theorem s_habitOf (d : Nat) (a b : Int) (hp : xP mm) : zL (d + 3) 30 [.inr (.inr 12), .inl a, .inl b] SH mm = zok (zcnt (zhab (mm 13) (mm 14) a b) (mm 12 2).toNat) mm := by
  have h0 := hp.1
  have h60 := hp.2.1
  rw [ze_X2_habitOf, zb_X2_habitOf_0]
  refine zup (P := fun i => zR (d + 2) 30 5 [some (.inr (.inr 12)), some (.inl a), some (.inl b), some (.inl (zcnt (zhab (mm 13) (mm 14) a b) i)), some (.inl (i : Int))] [] SH mm = _) (n := (mm 12 2).toNat) ?_ ?_ 0 (by omega)
  · rw [zb_X2_habitOf_5, if_neg (by omega)]
  · intro i hi ih
    have hc := zcnt_r (zhab (mm 13) (mm 14) a b) i
    rw [zb_X2_habitOf_5, if_pos (by omega), s_writerAt d i hp (by omega), zcI_ok, zb_X2_habitOf_20]
    rw [show zw ((i : Int) + 1) = ((i + 1 : Nat) : Int) by rw [zw_id (by omega) (by omega)]; omega]
    rw [zcnt_s] at ih
    by_cases h : mm 14 i = a
    · rw [if_pos h, s_wordAt d i hp (by omega), zcI_ok, zb_X2_habitOf_30, zw_id (by omega) (by omega)]
      rw [show zw ((i : Int) + 1) = ((i + 1 : Nat) : Int) by rw [zw_id (by omega) (by omega)]; omega]
      by_cases h2 : mm 13 i = b
      · rw [if_pos h2]
        simp only [zhab, h, h2, decide_true, Bool.and_self, if_true] at ih
        exact ih
      · rw [if_neg h2]
        simp only [zhab, h2, decide_false, Bool.and_false, Bool.false_eq_true, if_false] at ih
        exact ih
    · rw [if_neg h]
      simp only [zhab, h, decide_false, Bool.false_and, Bool.false_eq_true, if_false] at ih
      exact ih
theorem s_slipAhead_loop (d u : Nat) (hp : xP mm) (hu : (u : Int) ≤ mm 12 2) : ∀ (c s e : Nat), s + c = u → e < 585 → zR (d + 2) 32 10 [some (.inr (.inr 12)), some (.inl (u : Int)), some (.inl (zsl e : Int)), some (.inl (s : Int))] [] SH mm = zok (zsl (zfold (mm 13) c s e)) mm
  | 0, s, e, h, he => by
    have := hp.2.1
    rw [zb_X2_slipAheadOf_10, if_neg (by omega)]
    rfl
  | c + 1, s, e, h, he => by
    have h60 := hp.2.1
    have hw := hp.2.2 s (by omega)
    rw [zb_X2_slipAheadOf_10, if_pos (by omega), s_wordAt d s hp (by omega), zcI_ok, zb_X2_slipAheadOf_21]
    have e1 : mm 13 s = ((mm 13 s).toNat : Int) := by omega
    rw [e1, s_slipWith (d + 1) he (by omega), zcI_ok, zb_X2_slipAheadOf_24]
    rw [show zw ((s : Int) + 1) = ((s + 1 : Nat) : Int) by rw [zw_id (by omega) (by omega)]; omega]
    exact s_slipAhead_loop d u hp hu c (s + 1) _ (by omega) (wpush_lt he (by omega))
theorem s_max (d : Nat) (a b : Int) : zL (d + 1) 88 [.inl a, .inl b] SH mm = zok (if a < b then b else a) mm := by
  rw [ze_J9_max_7cf53, zb_J9_max_7cf53_0]
  split <;> rfl
theorem s_slipAheadOf (d u : Nat) (hp : xP mm) (hu : (u : Int) ≤ mm 12 2) : zL (d + 3) 32 [.inr (.inr 12), .inl u] SH mm = zok (zsl (zend (mm 13) u)) mm := by
  have h60 := hp.2.1
  rw [ze_X2_slipAheadOf, zb_X2_slipAheadOf_0, zw_id (by omega) (by omega), s_max, zcI_ok, zb_X2_slipAheadOf_9]
  unfold zend
  by_cases h : u < 3
  · rw [if_neg (by omega), if_pos h]
    exact s_slipAhead_loop d u hp hu u 0 0 (by omega) (by decide)
  · rw [if_neg h]
    have e1 : (if (0 : Int) < (u : Int) - 3 then (u : Int) - 3 else 0) = ((u - 3 : Nat) : Int) := by
      split <;> omega
    rw [e1]
    exact s_slipAhead_loop d u hp hu 3 (u - 3) 0 (by omega) (by decide)
theorem s_slip (d : Nat) (hp : xP mm) : zL (d + 4) 31 [.inr (.inr 12)] SH mm = zok (zsl (zend (mm 13) (mm 12 2).toNat)) mm := by
  have h0 := hp.1
  rw [ze_X2_slip, zb_X2_slip_0]
  have e : mm 12 2 = ((mm 12 2).toNat : Int) := by omega
  rw [e, s_slipAheadOf d _ hp (by omega), zcI_ok, zb_X2_slip_8]
  rw [Int.toNat_natCast]
end X2
