theorem zby_l (x : Int) (i : Nat) : zland (zlshr x (8 * i)) 255 = zby x i := by
  unfold zby
  rw [zland255, zand255a]
theorem zby_r (x : Int) (i : Nat) : 0 ≤ zby x i ∧ zby x i < 256 := by
  unfold zby
  rw [zand255a]
  omega
theorem zu_zu (m : zMm) (k j : Nat) (v w : Int) : zu (zu m k j v) k j w = zu m k j w := by
  funext a b
  unfold zu
  by_cases h : a = k ∧ b = j
  · rw [if_pos h, if_pos h]
  · rw [if_neg h, if_neg h, if_neg h]
theorem zu_id (m : zMm) (k j : Nat) {v : Int} (h : m k j = v) : zu m k j v = m := by
  funext a b
  unfold zu
  by_cases q : a = k ∧ b = j
  · rw [if_pos q, q.1, q.2, h]
  · rw [if_neg q]
/-- what typing answers -/
theorem t_type (d n : Nat) (x : Int) (m : zMm) (h1 : 1 ≤ n) (h8 : n ≤ 8) (hT : 0 ≤ m 45 17 ∧ m 45 17 ≤ 80) : zL (d + 2) 140 [.inr (.inr 45), .inr (.inl x), .inl n] SH m = if zall (zbok x) n = false then zok (-1) m else if m 45 17 + n ≤ 80 then zok (m 45 17 + n) (ztp m 55 45 17 x n (m 45 17).toNat n) else zok (-3) m := by
  have fin : zall (zbok x) n = true → zR (d + 1) 140 19 [some (.inr (.inr 45)), some (.inr (.inl x)), none, some (.inl (n : Int)), some (.inl (((0 : Nat) : Int) - 1))] [] SH m = if zall (zbok x) n = false then zok (-1) m else if m 45 17 + n ≤ 80 then zok (m 45 17 + n) (ztp m 55 45 17 x n (m 45 17).toNat n) else zok (-3) m := by
    intro ha
    rw [ha, if_neg (by decide), zb_X9_type_19, if_pos (by decide), zw_id (by omega) (by omega)]
    by_cases c : m 45 17 + n ≤ 80
    · have key : ∀ (f k : Nat), k + f = n → zR (d + 1) 140 74 [some (.inr (.inr 45)), some (.inr (.inl x)), none, none, some (.inl ((f : Int) - 1))] [] SH (ztp m 55 45 17 x n (m 45 17).toNat k) = zok (m 45 17 + n) (ztp m 55 45 17 x n (m 45 17).toNat n) := by
        intro f
        induction f with
        | zero =>
          intro k h
          obtain rfl : k = n := by omega
          rw [zb_X9_type_74, if_pos (by decide)]
          have : ztp m 55 45 17 x k (m 45 17).toNat k 45 17 = (((m 45 17).toNat + k : Nat) : Int) := by unfold ztp; simp
          rw [this]
          congr 1
          omega
        | succ f ih =>
          intro k h
          have e2 : ztp m 55 45 17 x n (m 45 17).toNat k 45 17 = (((m 45 17).toNat + k : Nat) : Int) := by unfold ztp; simp
          have hb := zby_r x f
          rw [show ((f + 1 : Nat) : Int) - 1 = (f : Int) by omega, zb_X9_type_74, if_neg (by omega), e2, if_pos (by omega), Int.toNat_natCast, zw_id (x := 8 * (f : Int)) (by omega) (by omega), show (8 : Int) * (f : Int) = ((8 : Int) * ((f : Nat) : Int)) from rfl, zby_l x f, zw_id (x := zby x f) (by omega) (by omega), zw_id (x := ((((m 45 17).toNat + k : Nat)) : Int) + 1) (by omega) (by omega), show zby x f = zby x (n - 1 - k) by rw [show n - 1 - k = f by omega], show ((((m 45 17).toNat + k : Nat)) : Int) + 1 = (((m 45 17).toNat + k + 1 : Nat) : Int) by omega, ztp_s (by decide), show zw ((f : Int) + -1) = (f : Int) - 1 from zw_id (by omega) (by omega)]
          exact ih (k + 1) (by omega)
      have e5 : ztp m 55 45 17 x n (m 45 17).toNat 0 = m := by
        funext k j
        unfold ztp
        by_cases q : k = 45 ∧ j = 17
        · rw [q.1, q.2]
          simp
          omega
        · rw [if_neg (by omega), if_neg q]
      have k0 := key n 0 (by omega)
      rw [e5] at k0
      rw [if_neg (by omega), if_pos c, zw_id (by omega) (by omega)]
      exact zR_weak (by repeat first | exact zle_nil | apply zle_c | apply zle_n) k0
    · rw [if_pos (by omega), if_neg c]
  have key1 : ∀ f : Nat, f ≤ n → (∀ j, f ≤ j → j < n → zbok x j = true) → zR (d + 1) 140 19 [some (.inr (.inr 45)), some (.inr (.inl x)), none, some (.inl (n : Int)), some (.inl ((f : Int) - 1))] [] SH m = if zall (zbok x) n = false then zok (-1) m else if m 45 17 + n ≤ 80 then zok (m 45 17 + n) (ztp m 55 45 17 x n (m 45 17).toNat n) else zok (-3) m := by
    intro f
    induction f with
    | zero =>
      intro h ha
      exact fin (zall_i.mpr fun j hj => ha j (by omega) hj)
    | succ f ih =>
      intro h ha
      rw [show ((f + 1 : Nat) : Int) - 1 = (f : Int) by omega, zb_X9_type_19, if_neg (by omega), zw_id (x := 8 * (f : Int)) (by omega) (by omega), zby_l x f, t_in, zcI_ok, zb_X9_type_44]
      by_cases c : 32 ≤ zby x f ∧ zby x f ≤ 126
      · rw [if_pos c, if_neg (by decide), show zw ((f : Int) + -1) = (f : Int) - 1 from zw_id (by omega) (by omega)]
        refine ih (by omega) fun j hj hj2 => ?_
        by_cases q : j = f
        · rw [q]
          unfold zbok
          rw [decide_eq_true c.1, decide_eq_true c.2]
          rfl
        · exact ha j (by omega) hj2
      · rw [if_neg c, if_pos rfl]
        have : zbok x f = false := by
          unfold zbok
          cases q1 : decide (32 ≤ zby x f) with
          | false => rfl
          | true =>
            have := of_decide_eq_true q1
            rw [decide_eq_false (by omega)]
            rfl
        rw [zall_f this (show f < n by omega), if_pos rfl]
  rw [ze_X9_type, zb_X9_type_0, t_in, zcI_ok, zb_X9_type_9, if_pos (show 1 ≤ (n : Int) ∧ (n : Int) ≤ 8 by omega), if_neg (by decide), zw_id (x := (n : Int) - 1) (by omega) (by omega)]
  exact key1 n (Nat.le_refl n) (fun j a b => absurd b (by omega))
/-- the next place that is no blank -/
def zsk (T : Nat → Int) : Nat → Nat → Nat
  | 0, p => p
  | f + 1, p => if T p = 32 then zsk T f (p + 1) else p
theorem zsk_s (T : Nat → Int) (f p : Nat) : zsk T (f + 1) p = if T p = 32 then zsk T f (p + 1) else p := rfl
theorem zsk_r (T : Nat → Int) : ∀ (f p : Nat), p ≤ zsk T f p ∧ zsk T f p ≤ p + f ∧ (zsk T f p < p + f → T (zsk T f p) ≠ 32)
  | 0, p => ⟨Nat.le_refl p, Nat.le_refl p, fun h => absurd h (Nat.lt_irrefl p)⟩
  | f + 1, p => by
    rw [zsk_s]
    by_cases c : T p = 32
    · rw [if_pos c]
      have := zsk_r T f (p + 1)
      exact ⟨by omega, by omega, fun h => this.2.2 (by omega)⟩
    · rw [if_neg c]
      exact ⟨Nat.le_refl p, by omega, fun _ => c⟩
theorem t_nextByte (d n : Nat) (m : zMm) (hn : m 45 17 = n) (h80 : n ≤ 80) : ∀ (f p : Nat), p + f = n → zR d 141 0 [some (.inr (.inr 45))] [] SH (zu m 45 18 p) = zok (if zsk (m 55) f p < n then m 55 (zsk (m 55) f p) else -1) (zu m 45 18 (zsk (m 55) f p))
  | 0, p, h => by
    have e18 : zu m 45 18 p 45 18 = p := zu_s _ _ _ _
    have e17 : zu m 45 18 p 45 17 = m 45 17 := zu_j _ _ (by decide)
    have e : zsk (m 55) 0 p = p := rfl
    rw [zb_X9_nextByte_0, e18, e17, hn, if_neg (by omega), if_neg (by omega), e, if_neg (by omega)]
  | f + 1, p, h => by
    have e18 : zu m 45 18 p 45 18 = p := zu_s _ _ _ _
    have e17 : zu m 45 18 p 45 17 = m 45 17 := zu_j _ _ (by decide)
    have e55 : zu m 45 18 p 55 = m 55 := zu_k _ _ (by decide)
    rw [zb_X9_nextByte_0, e18, e17, e55, hn, if_pos (by omega), if_pos (by omega), Int.toNat_natCast, zsk_s]
    by_cases c : m 55 p = 32
    · rw [if_pos c, if_pos c, zw_inc p (by omega), zu_zu]
      exact t_nextByte d n m hn h80 f (p + 1) (by omega)
    · rw [if_neg c, if_neg c, if_pos (by omega), if_pos (by omega), if_pos (by omega)]
