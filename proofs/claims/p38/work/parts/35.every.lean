def zsum (f : Nat → Int) : Nat → Int
  | 0 => 0
  | n + 1 => zsum f n + f n
theorem zsum_s (f : Nat → Int) (n : Nat) : zsum f (n + 1) = zsum f n + f n := rfl
theorem zsum_cong {f g : Nat → Int} : ∀ {n : Nat}, (∀ j, j < n → f j = g j) → zsum f n = zsum g n
  | 0, _ => rfl
  | n + 1, h => by rw [zsum_s, zsum_s, h n (by omega), zsum_cong (fun j hj => h j (by omega))]
theorem zsum_r {f : Nat → Int} {a b : Int} (ha : a ≤ 0) (hb : 0 ≤ b) : ∀ {n : Nat}, (∀ j, j < n → a ≤ f j ∧ f j ≤ b) → n * a ≤ zsum f n ∧ zsum f n ≤ n * b
  | 0, _ => by simp [zsum]
  | n + 1, h => by
    have h1 := zsum_r ha hb (n := n) (fun j hj => h j (by omega))
    have h2 := h n (by omega)
    rw [zsum_s]
    have e1 : ((n + 1 : Nat) : Int) * a = n * a + a := by rw [Int.natCast_add, Int.add_mul]; simp
    have e2 : ((n + 1 : Nat) : Int) * b = n * b + b := by rw [Int.natCast_add, Int.add_mul]; simp
    omega
/-- the weights of a set -/
def zwt (Wt : Nat → Int) (P : Nat → Bool) (c w : Nat) : Int := if P w then Wt (8 * c + w) else 0
theorem zwt_r {Wt : Nat → Int} (hW : ∀ j : Nat, 0 ≤ Wt j ∧ Wt j ≤ 9) (P : Nat → Bool) (c : Nat) (n : Nat) : 0 ≤ zsum (zwt Wt P c) n ∧ zsum (zwt Wt P c) n ≤ n * 9 := by
  have := zsum_r (f := zwt Wt P c) (a := 0) (b := 9) (by decide) (by decide) (n := n) (fun j _ => by
    unfold zwt
    have := hW (8 * c + j)
    split <;> omega)
  simpa using this
/-- the draw -/
def zlot (x : Int) : Int := (x * 1103515245 + 12345) % 2147483648
theorem zlot_r (x : Int) : 0 ≤ zlot x ∧ zlot x < 2147483648 := by
  unfold zlot
  omega
theorem zand_low (z : Int) : zand z 2147483647 = z % 2147483648 := by
  unfold zand
  rw [pk_and (Int32.ofInt z) 31 (by decide +kernel)]
  have h : (Int32.ofInt z).toBitVec.toNat = (z % 4294967296).toNat := by
    show (BitVec.ofInt 32 z).toNat = _
    rw [BitVec.toNat_ofInt]
    rfl
  rw [h]
  have h1 : (z % 4294967296).toNat % 2 ^ 31 < 2 ^ 31 := Nat.mod_lt _ (by decide)
  rw [nI_toInt h1]
  omega
theorem zlot_x (x : Int) : zand (zw (zw (x * 1103515245) + 12345)) 2147483647 = zlot x := by
  rw [zand_low]
  unfold zw zlot
  have h1 := Int.emod_emod_of_dvd (Int.bmod (Int.bmod (x * 1103515245) 4294967296 + 12345) 4294967296) (show (2147483648 : Int) ∣ 4294967296 by decide)
  have h2 := Int.emod_emod_of_dvd (x * 1103515245 + 12345) (show (2147483648 : Int) ∣ 4294967296 by decide)
  rw [← h1, ← h2]
  congr 1
  rw [show (4294967296 : Int) = ((4294967296 : Nat) : Int) from rfl, Int.bmod_emod, Int.add_emod, Int.bmod_emod, ← Int.add_emod]
/-- the word that falls -/
def zdrw (P : Nat → Bool) (Wt : Nat → Int) (c : Nat) : Nat → Nat → Int → Nat
  | 0, w, _ => w
  | f + 1, w, v => if P w && decide (v < Wt (8 * c + w)) then w else zdrw P Wt c f (w + 1) (v - zwt Wt P c w)
section
variable {mm : zMm}
theorem s_weightOfSet (d c : Nat) (P : Nat → Bool) (hn : xN mm) (hc : (c : Int) < mm 6 3) (hW : ∀ j : Nat, 0 ≤ mm 9 j ∧ mm 9 j ≤ 9) : zL (d + 3) 10 [.inr (.inr 6), .inl c, .inl (mks P 8)] SH mm = zok (zsum (zwt (mm 9) P c) 8) mm := by
  rw [ze_X0_weightOfSet, zb_X0_weightOfSet_0]
  refine zup (P := fun i => zR (d + 2) 10 5 [some (.inr (.inr 6)), some (.inl c), some (.inl (mks P 8)), some (.inl (zsum (zwt (mm 9) P c) i)), some (.inl (i : Int))] [] SH mm = _) (n := 8) ?_ ?_ 0 (by omega)
  · rw [zb_X0_weightOfSet_5]
    rfl
  · intro i hi ih
    have hr := zwt_r hW P c i
    have hw := hW (8 * c + i)
    have e1 : zw ((i : Int) + 1) = ((i + 1 : Nat) : Int) := by rw [zw_id (by omega) (by omega)]; omega
    rw [zsum_s] at ih
    rw [zb_X0_weightOfSet_5, if_pos (by omega), s_holds (d + 1) _ i (by omega), zcI_ok, zb_X0_weightOfSet_18, mks_bit P 8 (by decide), decide_eq_true hi, Bool.true_and]
    cases hp : P i with
    | false =>
      simp only [zwt, hp, Bool.false_eq_true, if_false, Int.add_zero] at ih
      rw [if_pos (by simp), e1]
      exact ih
    | true =>
      simp only [zwt, hp, if_true] at ih
      rw [if_neg (by simp), s_weightOf d c i hn hc hi, zcI_ok, zb_X0_weightOfSet_29, e1, zw_id (by omega) (by omega)]
      exact ih
theorem s_hasEnded (d e : Nat) (he : e < 585) (hce : zCe (mm 7) (mm 9) (mm 8) (mm 6 3)) (ht : zTg (mm 3) (mm 4) (mm 5) (mm 2 3)) : zL (d + 4) 15 [.inr (.inr 1), .inl (zsl e)] SH mm = zok (if ∀ c : Nat, c < 6 → (xal mm c && decide (mks (xcm mm c e) 8 ≠ 0)) = false then 1 else 0) mm := by
  have hn : xN mm := ⟨hce.1, hce.2.1⟩
  rw [ze_X1_hasEnded, zb_X1_hasEnded_0]
  refine zup (P := fun i => (∀ c : Nat, c < i → (xal mm c && decide (mks (xcm mm c e) 8 ≠ 0)) = false) → zR (d + 3) 15 2 [some (.inr (.inr 1)), some (.inl (zsl e : Int)), some (.inl (i : Int))] [] SH mm = _) (n := 6) ?_ ?_ 0 (by omega) (fun c hc => absurd hc (by omega))
  · intro h
    rw [zb_X1_hasEnded_2, if_neg (by omega), if_pos h]
  · intro i hi ih h
    have e1 : zw ((i : Int) + 1) = ((i + 1 : Nat) : Int) := by rw [zw_id (by omega) (by omega)]; omega
    rw [zb_X1_hasEnded_2, if_pos (by omega), s_isAlive (d + 1) i hn, zcI_ok, zb_X1_hasEnded_16]
    cases ha : xal mm i with
    | false =>
      rw [if_pos (by simp), e1]
      exact ih (fun c hc => by
        by_cases q : c = i
        · subst q; rw [ha]; rfl
        · exact h c (by omega))
    | true =>
      have hlt : (i : Int) < mm 6 3 := by
        unfold xal at ha
        simp only [Bool.and_eq_true, decide_eq_true_eq] at ha
        exact ha.1
      rw [if_neg (by simp), s_canCome d i e hlt he hce ht, zcI_ok, zb_X1_hasEnded_25]
      by_cases hm : mks (xcm mm i e) 8 = 0
      · rw [if_pos hm, e1]
        exact ih (fun c hc => by
          by_cases q : c = i
          · subst q; rw [ha]; simp [hm]
          · exact h c (by omega))
      · rw [if_neg hm, if_neg (fun q => by have := q i hi; rw [ha] at this; simp [hm] at this)]
/-- likelihood -/
def zlik (B Wr : Nat → Int) (n : Nat) (b : Int) (c : Nat) : Int := 16 * (zcnt (zhab B Wr c b) n + 1) / (zsum (fun w => zcnt (zhab B Wr c w) n) 8 + 8)
/-- the likeliest -/
def zbst (K : Nat → Int) (lik : Nat → Int) : Nat → Int × Int
  | 0 => (-4, -1)
  | c + 1 => if K c ≠ 3 ∧ (zbst K lik c).2 < lik c then ((c : Int), lik c) else zbst K lik c
theorem zbst_s (K : Nat → Int) (lik : Nat → Int) (c : Nat) : zbst K lik (c + 1) = if K c ≠ 3 ∧ (zbst K lik c).2 < lik c then ((c : Int), lik c) else zbst K lik c := rfl
end
