theorem zw_id {x : Int} (h1 : -2147483648 ≤ x) (h2 : x < 2147483648) : zw x = x := by rw [zw_eq, zo_i ⟨h1, h2⟩]
theorem zwl_id {x : Int} (h1 : -9223372036854775808 ≤ x) (h2 : x < 9223372036854775808) : zwl x = x := by rw [zwl_eq, zo_l ⟨h1, h2⟩]
theorem zup_aux {P : Nat → Prop} : ∀ (k i : Nat), (∀ j, i ≤ j → j < i + k → P (j + 1) → P j) → P (i + k) → P i
  | 0, _, _, h => h
  | k + 1, i, hs, h => hs i (Nat.le_refl i) (by omega) (zup_aux k (i + 1) (fun j a b => hs j (by omega) (by omega)) (by rw [show i + 1 + k = i + (k + 1) by omega]; exact h))
theorem zup {P : Nat → Prop} {n : Nat} (h0 : P n) (hs : ∀ i, i < n → P (i + 1) → P i) : ∀ i, i ≤ n → P i := fun i hi =>
  zup_aux (n - i) i (fun j _ b => hs j (by omega)) (by rw [show i + (n - i) = n by omega]; exact h0)
theorem zu_s (mm : zMm) (k j : Nat) (v : Int) : zu mm k j v k j = v := if_pos ⟨rfl, rfl⟩
theorem zu_j (mm : zMm) {k j j' : Nat} (v : Int) (h : j' ≠ j) : zu mm k j v k j' = mm k j' := if_neg (fun z => h z.2)
theorem zu_k (mm : zMm) {k j k' : Nat} (v : Int) (h : k' ≠ k) : zu mm k j v k' = mm k' := zu_ne h
/-- a bit of an int -/
def zbit (x : Int) (j : Nat) : Bool := (Int32.ofInt x).toBitVec.getLsbD j
theorem zbit_of (x : Int32) (j : Nat) : zbit x.toInt j = x.toBitVec.getLsbD j := by unfold zbit; rw [Int32.ofInt_toInt]
theorem zbit_and (x y : Int) (j : Nat) : zbit (zand x y) j = (zbit x j && zbit y j) := by unfold zand; rw [zbit_of, Int32.toBitVec_and, BitVec.getLsbD_and]; rfl
theorem zbit_or (x y : Int) (j : Nat) : zbit (zor x y) j = (zbit x j || zbit y j) := by unfold zor; rw [zbit_of, Int32.toBitVec_or, BitVec.getLsbD_or]; rfl
theorem zbit_xor (x y : Int) (j : Nat) : zbit (zxor x y) j = (zbit x j ^^ zbit y j) := by unfold zxor; rw [zbit_of, Int32.toBitVec_xor, BitVec.getLsbD_xor]; rfl
theorem zbit_big (x : Int) {j : Nat} (h : 32 ≤ j) : zbit x j = false := BitVec.getLsbD_of_ge _ _ h
theorem zbit_m1 {j : Nat} (h : j < 32) : zbit (-1) j = true := by
  have : ∀ j, j < 32 → zbit (-1) j = true := by decide +kernel
  exact this j h
theorem zbit_0 (j : Nat) : zbit 0 j = false := by
  by_cases h : j < 32
  · have : ∀ j, j < 32 → zbit 0 j = false := by decide +kernel
    exact this j h
  · exact zbit_big 0 (by omega)
theorem zbit_ext {x y : Int} (hx : zr32 x) (hy : zr32 y) (h : ∀ j, j < 32 → zbit x j = zbit y j) : x = y := by
  have h1 : (Int32.ofInt x).toBitVec = (Int32.ofInt y).toBitVec := by
    apply BitVec.eq_of_getLsbD_eq
    intro j hj
    exact h j hj
  have h2 : Int32.ofInt x = Int32.ofInt y := Int32.toBitVec_inj.mp h1
  exact (zo_eq hx hy).mp h2
theorem zbit_p {k : Nat} (hk : k < 32) (j : Nat) : zbit (zshl 1 k) j = decide (j = k) := by
  by_cases h : j < 32
  · have : ∀ k, k < 32 → ∀ j, j < 32 → zbit (zshl 1 (k : Nat)) j = decide (j = k) := by decide +kernel
    exact this k hk j h
  · rw [zbit_big _ (by omega)]
    simp
    omega
theorem zshl_p {k : Nat} (hk : k < 31) : zshl 1 k = (2 : Int) ^ k := by
  have : ∀ k, k < 31 → zshl 1 (k : Nat) = (2 : Int) ^ k := by decide +kernel
  exact this k hk
theorem zr_and (x y : Int) : zr32 (zand x y) := zr_i _
theorem zr_or (x y : Int) : zr32 (zor x y) := zr_i _
theorem zr_xor (x y : Int) : zr32 (zxor x y) := zr_i _
theorem zr_shl (x y : Int) : zr32 (zshl x y) := zr_i _
theorem zr_shr (x y : Int) : zr32 (zshr x y) := zr_i _
theorem zshr_bv {x : Int} {k : Nat} (hk : k < 32) : (Int32.ofInt (zshr x k)).toBitVec = (Int32.ofInt x).toBitVec.sshiftRight k := by
  unfold zshr
  rw [Int32.ofInt_toInt, Int32.toBitVec_shiftRight]
  have : ∀ k, k < 32 → ((Int32.ofInt (k : Nat) &&& 31).toBitVec.smod 32).toNat = k := by decide +kernel
  show (Int32.ofInt x).toBitVec.sshiftRight' _ = _
  unfold BitVec.sshiftRight'
  rw [this k hk]
/-- the test of a bit -/
theorem zbit_test (x : Int) {k : Nat} (hk : k < 32) : zand (zshr x k) 1 = if zbit x k then 1 else 0 := by
  have h1 : zbit (zshr x k) 0 = zbit x k := by
    unfold zbit
    rw [zshr_bv hk, BitVec.getLsbD_sshiftRight]
    simp [hk]
  have h2 : ∀ j, zbit 1 j = decide (j = 0) := by
    intro j
    have := zbit_p (k := 0) (by decide) j
    rwa [show zshl 1 (0 : Nat) = 1 by decide +kernel] at this
  apply zbit_ext (zr_and _ _) (by split <;> exact ⟨by decide, by decide⟩)
  intro j hj
  rw [zbit_and, h2]
  by_cases h : j = 0
  · subst h
    rw [h1]
    cases zbit x k <;> simp [h2, zbit_0]
  · cases zbit x k <;> simp [h, h2, zbit_0]
/-- a set of the numbers below n -/
def mks (P : Nat → Bool) : Nat → Int
  | 0 => 0
  | n + 1 => if P n then zor (mks P n) (zshl 1 n) else mks P n
theorem mks_bit (P : Nat → Bool) : ∀ n, n ≤ 32 → ∀ j, zbit (mks P n) j = (decide (j < n) && P j)
  | 0, _, j => by simp [mks, zbit_0]
  | n + 1, h, j => by
    have ih := mks_bit P n (by omega) j
    unfold mks
    by_cases hj : j = n
    · subst hj
      cases hp : P j <;> simp [hp, ih, zbit_or, zbit_p (show j < 32 by omega)]
    · have e : decide (j < n + 1) = decide (j < n) := by
        by_cases q : j < n
        · simp [q]; omega
        · simp [q]; omega
      cases hp : P n <;> simp [ih, zbit_or, zbit_p (show n < 32 by omega), hj, e]
theorem mks_r (P : Nat → Bool) : ∀ n, zr32 (mks P n)
  | 0 => zr_0
  | n + 1 => by
    unfold mks
    split
    · exact zr_or _ _
    · exact mks_r P n
theorem mks_cong {P Q : Nat → Bool} : ∀ {n : Nat}, (∀ j, j < n → P j = Q j) → mks P n = mks Q n
  | 0, _ => rfl
  | n + 1, h => by
    unfold mks
    rw [h n (by omega), mks_cong (fun j hj => h j (by omega))]
theorem zset_eq {x : Int} {P : Nat → Bool} {n : Nat} (hn : n ≤ 32) (hx : zr32 x) (h : ∀ j, j < 32 → zbit x j = (decide (j < n) && P j)) : x = mks P n :=
  zbit_ext hx (mks_r P n) fun j hj => by rw [h j hj, mks_bit P n hn]
theorem mks_0 {P : Nat → Bool} {n : Nat} (hn : n ≤ 32) : mks P n = 0 ↔ ∀ j, j < n → P j = false := by
  constructor
  · intro h j hj
    have := mks_bit P n hn j
    rw [h, zbit_0] at this
    simpa [hj] using this.symm
  · intro h
    refine zbit_ext (mks_r P n) zr_0 fun j _ => ?_
    rw [mks_bit P n hn, zbit_0]
    by_cases hj : j < n
    · simp [h j hj]
    · simp [hj]
theorem zr_256 {x : Int} (h0 : 0 ≤ x) (h1 : x < 256) : x = mks (zbit x) 8 := by
  refine zset_eq (by decide) ⟨by omega, by omega⟩ fun j hj => ?_
  by_cases h : j < 8
  · simp [h]
  · have hb : ∀ n : Nat, n < 256 → ∀ j, j < 32 → 8 ≤ j → zbit (n : Nat) j = false := by decide +kernel
    have := hb x.toNat (by omega) j hj (by omega)
    rw [show ((x.toNat : Nat) : Int) = x by omega] at this
    simp [h, this]
theorem mks_and (P Q : Nat → Bool) {n : Nat} (hn : n ≤ 32) : zand (mks P n) (mks Q n) = mks (fun j => P j && Q j) n :=
  zset_eq hn (zr_and _ _) fun j _ => by
    rw [zbit_and, mks_bit P n hn, mks_bit Q n hn]
    cases decide (j < n) <;> simp
/-- without one of them -/
theorem mks_not (P : Nat → Bool) {n k : Nat} (hn : n ≤ 32) (hk : k < 32) : zand (mks P n) (zxor (zshl 1 k) (-1)) = mks (fun j => P j && !decide (j = k)) n :=
  zset_eq hn (zr_and _ _) fun j hj => by
    rw [zbit_and, mks_bit P n hn, zbit_xor, zbit_p hk, zbit_m1 hj]
    cases decide (j < n) <;> simp
theorem mks_andnot (P Q : Nat → Bool) {n m : Nat} (hn : n ≤ 32) (hm : m ≤ 32) : zand (mks P n) (zxor (mks Q m) (-1)) = mks (fun j => P j && !(decide (j < m) && Q j)) n :=
  zset_eq hn (zr_and _ _) fun j hj => by
    rw [zbit_and, mks_bit P n hn, zbit_xor, mks_bit Q m hm, zbit_m1 hj]
    cases decide (j < n) <;> simp
theorem mks_or1 (P : Nat → Bool) {n k : Nat} (hn : n ≤ 32) (hk : k < n) : zor (mks P n) (zshl 1 k) = mks (fun j => P j || decide (j = k)) n :=
  zset_eq hn (zr_or _ _) fun j hj => by
    rw [zbit_or, mks_bit P n hn, zbit_p (by omega)]
    by_cases h : j = k
    · subst h
      simp [hk]
    · simp [h]
theorem mks_test (P : Nat → Bool) {n k : Nat} (hn : n ≤ 32) (hk : k < n) : zand (zshr (mks P n) k) 1 = if P k then 1 else 0 := by
  rw [zbit_test _ (by omega), mks_bit P n hn]
  simp [hk]
theorem zdiv_n {a b : Int} (ha : 0 ≤ a) (ha2 : a < 2147483648) (hb : 0 < b) (hb2 : b < 2147483648) : zdiv a b = a / b := by
  have h1 := zo_i (x := a) ⟨by omega, ha2⟩
  have h2 := zo_i (x := b) ⟨by omega, hb2⟩
  unfold zdiv
  rw [Int32.toInt_div, h1, h2, Int.tdiv_eq_ediv_of_nonneg ha]
  have h3 : 0 ≤ a / b := Int.ediv_nonneg ha (by omega)
  have h4 : a / b ≤ a := Int.ediv_le_self b ha
  exact Int.bmod_eq_of_le (by omega) (by omega)
theorem zrem_n {a b : Int} (ha : 0 ≤ a) (ha2 : a < 2147483648) (hb : 0 < b) (hb2 : b < 2147483648) : zrem a b = a % b := by
  have hd := zdiv_n ha ha2 hb hb2
  unfold zdiv at hd
  have h3 : 0 ≤ a / b := Int.ediv_nonneg ha (by omega)
  have h4 : a / b ≤ a := Int.ediv_le_self b ha
  have e : Int32.ofInt a / Int32.ofInt b = Int32.ofInt (a / b) := by rw [← hd, Int32.ofInt_toInt]
  unfold zrem
  rw [e, ← Int32.ofInt_mul, ← Int32.ofInt_sub]
  have h5 : a - a / b * b = a % b := by
    have := Int.emod_add_mul_ediv a b
    rw [Int.mul_comm] at this
    omega
  have h6 : 0 ≤ a % b := Int.emod_nonneg a (by omega)
  have h7 : a % b < b := Int.emod_lt_of_pos a hb
  rw [h5]
  exact zo_i ⟨by omega, by omega⟩
