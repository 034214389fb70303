/-! the wheel -/
def zpo (n k seat i : Nat) : Nat := (seat + i * k) % n
def zfind (al : Nat → Bool) (n k seat : Nat) : Nat → Nat → Int
  | 0, _ => -4
  | f + 1, i => if al (zpo n k seat i) then ((zpo n k seat i : Nat) : Int) else zfind al n k seat f (i + 1)
def zliv (al : Nat → Bool) (n k seat : Nat) : Int := zfind al n k seat n 1
/-- seats: each cell on one -/
def zSe (S : Nat → Int) (n : Int) : Prop := (∀ s : Nat, (s : Int) < n → 0 ≤ S s ∧ S s < n) ∧ (∀ s t : Nat, (s : Int) < n → (t : Int) < n → S s = S t → s = t) ∧ ∀ c : Nat, (c : Int) < n → ∃ s : Nat, (s : Int) < n ∧ S s = c
theorem zfm_all : ∀ n, n < 7 → ∀ j, j < 20 → n ≠ 0 → (if zxor ((j : Nat) - 7 : Int) (n : Nat) < 0 then if zrem ((j : Nat) - 7 : Int) (n : Nat) = 0 then zrem ((j : Nat) - 7 : Int) (n : Nat) else zw (zrem ((j : Nat) - 7 : Int) (n : Nat) + (n : Nat)) else zrem ((j : Nat) - 7 : Int) (n : Nat)) = (((j : Nat) - 7 : Int) % (n : Nat)) := by decide +kernel
theorem s_floorMod {mm : zMm} (d : Nat) (x : Int) (n : Nat) (hx : -7 ≤ x ∧ x < 13) (hn : 0 < n ∧ n ≤ 6) : zL (d + 1) 87 [.inl x, .inl n] SH mm = zok (x % n) mm := by
  have h := zfm_all n (by omega) (x + 7).toNat (by omega) (by omega)
  have e : (((x + 7).toNat : Nat) : Int) - 7 = x := by omega
  rw [e] at h
  rw [ze_J9_floorMod_7cf53, zb_J9_floorMod_7cf53_0, if_neg (by omega), ← h]
  (repeat' split) <;> rfl
theorem zpo_1 (n seat i : Nat) : (((seat : Int) + i * 1) % (n : Int)) = ((zpo n 1 seat i : Nat) : Int) := by
  unfold zpo
  rw [Nat.mul_one, Int.mul_one, Int.natCast_emod, Int.natCast_add]
theorem zpo_m {n seat i : Nat} (hn : n ≤ 6) (hs : seat < n) (hi : i ≤ n) : (((seat : Int) + i * (-1)) % (n : Int)) = ((zpo n (n - 1) seat i : Nat) : Int) := by
  have : ∀ n, n < 7 → ∀ seat, seat < n → ∀ i, i < n + 1 → (((seat : Nat) + (i : Nat) * (-1) : Int) % (n : Nat)) = ((zpo n (n - 1) seat i : Nat) : Int) := by decide +kernel
  exact this n (by omega) seat hs i (by omega)
theorem zpo_lt {n k seat i : Nat} (hn : 0 < n) : zpo n k seat i < n := Nat.mod_lt _ hn
section
variable {mm : zMm}
theorem s_cellOn (d s : Nat) (hn : xN mm) (h : (s : Int) < mm 6 3) : zL (d + 2) 51 [.inr (.inr 10), .inl s] SH mm = zok (mm 11 s) mm := by
  have := hn.2
  rw [ze_X7_cellOn, zb_X7_cellOn_0, s_has d s hn, zcI_ok, zb_X7_cellOn_8]
  simp (disch := omega) only [if_pos, if_neg, if_true, if_false, Int.toNat_natCast]
theorem s_cellOnN (d : Nat) (a : Int) (hn : xN mm) (h : ¬ (0 ≤ a ∧ a < mm 6 3)) : zL (d + 2) 51 [.inr (.inr 10), .inl a] SH mm = zok (-4) mm := by
  rw [ze_X7_cellOn, zb_X7_cellOn_0, s_has d a hn, zcI_ok, zb_X7_cellOn_8]
  simp (disch := omega) only [if_pos, if_neg, if_true, if_false]
theorem s_seatOf (d s c : Nat) (hn : xN mm) (hS : zSe (mm 11) (mm 6 3)) (hs : (s : Int) < mm 6 3) (hc : mm 11 s = c) : zL (d + 3) 52 [.inr (.inr 10), .inl c] SH mm = zok s mm := by
  have h6 := hn.2
  rw [ze_X7_seatOf, zb_X7_seatOf_0]
  refine zup (P := fun i => zR (d + 2) 52 2 [some (.inr (.inr 10)), some (.inl (c : Int)), some (.inl (i : Int))] [] SH mm = zok s mm) (n := s) ?_ ?_ 0 (by omega)
  · rw [zb_X7_seatOf_2, if_pos (by omega), s_cellOn d s hn hs, zcI_ok, zb_X7_seatOf_13, if_pos hc]
  · intro i hi ih
    rw [zb_X7_seatOf_2, if_pos (by omega), s_cellOn d i hn (by omega), zcI_ok, zb_X7_seatOf_13, if_neg (fun q => by have := hS.2.1 i s (by omega) hs (by omega); omega)]
    rw [show zw ((i : Int) + 1) = ((i + 1 : Nat) : Int) by rw [zw_id (by omega) (by omega)]; omega]
    exact ih
/-- whether the cell on a seat lives -/
def xas (mm : zMm) (s : Nat) : Bool := xal mm (mm 11 s).toNat
theorem s_aliveOn (d s : Nat) (hn : xN mm) (hS : zSe (mm 11) (mm 6 3)) (hs : (s : Int) < mm 6 3) : zL (d + 2) 5 [.inr (.inr 6), .inl (mm 11 s)] SH mm = zok (if xas mm s then 1 else 0) mm := by
  have h := hS.1 s hs
  have e : mm 11 s = ((mm 11 s).toNat : Int) := by omega
  rw [e]
  exact s_isAlive d _ hn
theorem s_livingSeatPast (d seat n k : Nat) (step : Int) (hnn : mm 6 3 = n) (hn : xN mm) (hS : zSe (mm 11) (mm 6 3)) (hs : seat < n ∨ n = 0) (hst : step = 1 ∧ k = 1 ∨ step = -1 ∧ k = n - 1) : zL (d + 3) 56 [.inr (.inr 10), .inl seat, .inl step] SH mm = zok (zliv (xas mm) n k seat) mm := by
  have h6 := hn.2
  have key : ∀ (f i : Nat), i + f = n + 1 → 1 ≤ i → zR (d + 2) 56 11 [some (.inr (.inr 10)), some (.inl (seat : Int)), some (.inl step), some (.inl (n : Int)), some (.inl (i : Int)), none] [] SH mm = zok (zfind (xas mm) n k seat f i) mm := by
    intro f
    induction f with
    | zero =>
      intro i h1 h2
      rw [zb_X7_livingSeatPast_11, if_pos (by omega)]
      rfl
    | succ f ih =>
      intro i h1 h2
      have e0 : zw ((i : Int) * step) = i * step := by
        rcases hst with ⟨rfl, _⟩ | ⟨rfl, _⟩ <;> exact zw_id (by omega) (by omega)
      have e1 : zw ((seat : Int) + i * step) = seat + i * step := by
        rcases hst with ⟨rfl, _⟩ | ⟨rfl, _⟩ <;> exact zw_id (by omega) (by omega)
      have e2 : ((seat : Int) + i * step) % (n : Int) = ((zpo n k seat i : Nat) : Int) := by
        rcases hst with ⟨rfl, rfl⟩ | ⟨rfl, rfl⟩
        · exact zpo_1 n seat i
        · exact zpo_m (by omega) (by omega) (by omega)
      have hr : -7 ≤ (seat : Int) + i * step ∧ (seat : Int) + i * step < 13 := by
        rcases hst with ⟨rfl, _⟩ | ⟨rfl, _⟩ <;> omega
      have hp := zpo_lt (k := k) (seat := seat) (i := i) (show 0 < n by omega)
      rw [zb_X7_livingSeatPast_11, if_neg (by omega), if_pos (by omega), e0, e1, s_floorMod (d + 1) _ n hr (by omega), zcI_ok, e2, zb_X7_livingSeatPast_31, s_cellOn d _ hn (by omega), zcI_ok, zb_X7_livingSeatPast_47, s_aliveOn d _ hn hS (by omega), zcI_ok, zb_X7_livingSeatPast_50]
      unfold zfind
      cases ha : xas mm (zpo n k seat i) with
      | true =>
        simp only [if_true]
        rw [if_neg (by decide)]
      | false =>
        simp only [Bool.false_eq_true, if_false, if_true]
        rw [show zw ((i : Int) + 1) = ((i + 1 : Nat) : Int) by rw [zw_id (by omega) (by omega)]; omega]
        exact zR_weak (by repeat first | exact zle_nil | apply zle_c | apply zle_n) (ih (i + 1) (by omega) (by omega))
  rw [ze_X7_livingSeatPast, zb_X7_livingSeatPast_0, hnn]
  exact key n 1 (by omega) (by omega)
/-- how far the wheel goes at a step -/
def zstep1 (back : Int) (n : Nat) : Nat := if back = 0 then 1 else n - 1
theorem s_seatBehind (d seat n : Nat) (hnn : mm 6 3 = n) (hn : xN mm) (hS : zSe (mm 11) (mm 6 3)) (hs : seat < n ∨ n = 0) : zL (d + 4) 55 [.inr (.inr 10), .inl seat] SH mm = zok (zliv (xas mm) n (zstep1 (mm 10 4) n) seat) mm := by
  rw [ze_X7_seatBehind, zb_X7_seatBehind_0]
  unfold zstep1
  by_cases h : mm 10 4 = 0
  · rw [if_pos h, if_pos h, s_livingSeatPast d seat n 1 1 hnn hn hS hs (Or.inl ⟨rfl, rfl⟩), zcI_ok, zb_X7_seatBehind_17]
  · rw [if_neg h, if_neg h, s_livingSeatPast d seat n (n - 1) (-1) hnn hn hS hs (Or.inr ⟨rfl, rfl⟩), zcI_ok, zb_X7_seatBehind_17]
/-- the seat whose turn it is -/
def zturn (al : Nat → Bool) (n k st : Nat) : Int := if n = 0 then -4 else if al st then st else zliv al n k st
theorem s_seatOfTurn (d st n : Nat) (hnn : mm 6 3 = n) (hn : xN mm) (hS : zSe (mm 11) (mm 6 3)) (hst : mm 10 2 = st) (hs : st < n ∨ n = 0) : zL (d + 5) 54 [.inr (.inr 10)] SH mm = zok (zturn (xas mm) n (zstep1 (mm 10 4) n) st) mm := by
  rw [ze_X7_seatOfTurn, zb_X7_seatOfTurn_0, hst]
  unfold zturn
  by_cases h0 : n = 0
  · rw [s_cellOnN (d + 2) st hn (by omega), zcI_ok, zb_X7_seatOfTurn_12, s_isAliveN (d + 2) (-4) hn (by omega), zcI_ok, zb_X7_seatOfTurn_15, hst, if_pos rfl, s_seatBehind d st n hnn hn hS hs, zcI_ok, zb_X7_seatOfTurn_33, if_pos h0]
    subst h0
    rfl
  · rw [s_cellOn (d + 2) st hn (by omega), zcI_ok, zb_X7_seatOfTurn_12, s_aliveOn (d + 2) st hn hS (by omega), zcI_ok, zb_X7_seatOfTurn_15, hst, if_neg h0]
    cases xas mm st with
    | true =>
      simp only [if_true]
      rw [if_neg (by decide)]
    | false =>
      simp only [Bool.false_eq_true, if_false, if_true]
      rw [s_seatBehind d st n hnn hn hS hs, zcI_ok, zb_X7_seatOfTurn_33]
theorem zfind_r {al : Nat → Bool} {n k seat : Nat} (hn : 0 < n) : ∀ {f i : Nat}, zfind al n k seat f i = -4 ∨ ∃ s : Nat, zfind al n k seat f i = s ∧ s < n ∧ al s = true
  | 0, _ => Or.inl rfl
  | f + 1, i => by
    unfold zfind
    cases h : al (zpo n k seat i) with
    | true => exact Or.inr ⟨_, by simp, zpo_lt hn, h⟩
    | false =>
      simp only [Bool.false_eq_true, if_false]
      exact zfind_r hn
theorem zturn_r {al : Nat → Bool} {n k st : Nat} (hs : st < n ∨ n = 0) : zturn al n k st = -4 ∨ ∃ s : Nat, zturn al n k st = s ∧ s < n ∧ al s = true := by
  unfold zturn
  by_cases h0 : n = 0
  · rw [if_pos h0]; exact Or.inl rfl
  · rw [if_neg h0]
    cases h : al st with
    | true => exact Or.inr ⟨st, by simp, by omega, h⟩
    | false =>
      simp only [Bool.false_eq_true, if_false]
      exact zfind_r (by omega)
theorem s_goOn (d st n t : Nat) (hnn : mm 6 3 = n) (hn : xN mm) (hS : zSe (mm 11) (mm 6 3)) (hst : mm 10 2 = st) (hs : st < n ∨ n = 0) (ht : zturn (xas mm) n (zstep1 (mm 10 4) n) st = t) (htn : t < n) :
    zL (d + 6) 57 [.inr (.inr 10)] SH mm = zvd (zu (zu mm 10 2 (zliv (xas mm) n (zstep1 (mm 10 4) n) t)) 10 3 (zw (mm 10 3 + 1))) := by
  rw [ze_X7_goOn, zb_X7_goOn_0, s_seatOfTurn d st n hnn hn hS hst hs, zcI_ok, ht, zb_X7_goOn_6, s_seatBehind (d + 1) t n hnn hn hS (Or.inl htn), zcI_ok, zb_X7_goOn_9]
end
