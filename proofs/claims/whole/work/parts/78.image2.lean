/-- where a thing that is carried lies in the image; 206: it isn't carried -/
def zixat (a b : Nat) : Nat := if a = 46 ∧ b < 8 then b else if a = 47 ∧ b < 6 then b + 8 else if a = 48 ∧ b < 6 then b + 14 else if a = 50 ∧ b < 48 then b + 20 else if a = 49 ∧ b < 6 then b + 68 else if a = 51 ∧ b < 6 then b + 74 else if a = 52 ∧ b < 6 then b + 80 else if a = 53 ∧ b < 60 then b + 86 else if a = 54 ∧ b < 60 then b + 146 else 206
theorem zixat_r (a : Nat) (b : Nat) : zixat a b ≤ 206 := by
  unfold zixat
  (repeat' split) <;> omega
theorem zcw_ix (m : zMm) (k : Nat) (v : Int) (hk : k < 206) : zcw m k v = fun a b => if zixat a b = k then v else m a b := by
  have key : ∀ (r o : Nat) (h : ∀ a b, zixat a b = k ↔ a = r ∧ b = k - o), zu m r (k - o) v = fun a b => if zixat a b = k then v else m a b := by
    intro r o h
    funext a b
    unfold zu
    by_cases q : a = r ∧ b = k - o
    · rw [if_pos q, if_pos ((h a b).mpr q)]
    · rw [if_neg q, if_neg (fun z => q ((h a b).mp z))]
  unfold zcw
  by_cases c1 : k < 8
  · rw [if_pos c1]
    exact key 46 0 (fun a b => by unfold zixat; (repeat' split) <;> omega)
  by_cases c2 : k < 14
  · rw [if_neg c1, if_pos c2]
    exact key 47 8 (fun a b => by unfold zixat; (repeat' split) <;> omega)
  by_cases c3 : k < 20
  · rw [if_neg c1, if_neg c2, if_pos c3]
    exact key 48 14 (fun a b => by unfold zixat; (repeat' split) <;> omega)
  by_cases c4 : k < 68
  · rw [if_neg c1, if_neg c2, if_neg c3, if_pos c4]
    exact key 50 20 (fun a b => by unfold zixat; (repeat' split) <;> omega)
  by_cases c5 : k < 74
  · rw [if_neg c1, if_neg c2, if_neg c3, if_neg c4, if_pos c5]
    exact key 49 68 (fun a b => by unfold zixat; (repeat' split) <;> omega)
  by_cases c6 : k < 80
  · rw [if_neg c1, if_neg c2, if_neg c3, if_neg c4, if_neg c5, if_pos c6]
    exact key 51 74 (fun a b => by unfold zixat; (repeat' split) <;> omega)
  by_cases c7 : k < 86
  · rw [if_neg c1, if_neg c2, if_neg c3, if_neg c4, if_neg c5, if_neg c6, if_pos c7]
    exact key 52 80 (fun a b => by unfold zixat; (repeat' split) <;> omega)
  by_cases c8 : k < 146
  · rw [if_neg c1, if_neg c2, if_neg c3, if_neg c4, if_neg c5, if_neg c6, if_neg c7, if_pos c8]
    exact key 53 86 (fun a b => by unfold zixat; (repeat' split) <;> omega)
  · rw [if_neg c1, if_neg c2, if_neg c3, if_neg c4, if_neg c5, if_neg c6, if_neg c7, if_neg c8]
    exact key 54 146 (fun a b => by unfold zixat; (repeat' split) <;> omega)
/-- the model when it has kept an image -/
def zkeep (m : zMm) : zMm := zu (zu (zu (zu (zu (zu (zu (zu (zur m 63 (fun j => if j < 206 then zca m j else m 63 j)) 64 0 (m 45 3)) 64 1 (m 45 8)) 64 2 (m 45 11)) 64 3 (m 45 12)) 64 4 (m 45 13)) 64 5 (m 45 14)) 64 6 (m 45 15)) 45 28 1
theorem zca_63 (m : zMm) (R : Nat → Int) (k : Nat) : zca (zur m 63 R) k = zca m k := by
  unfold zca
  simp (disch := decide) only [zur_k]
theorem t_image (d : Nat) (m : zMm) (hb : m 45 13 = 0 ∨ m 45 13 = 1) : zL (d + 2) 187 [.inr (.inr 45)] SH m = zok 1 (zkeep m) := by
  have key : ∀ i : Nat, i ≤ 206 → zR (d + 1) 187 2 [some (.inr (.inr 45)), some (.inl (i : Int))] [] SH (zur m 63 (fun j => if j < i then zca m j else m 63 j)) = zok 1 (zkeep m) := by
    refine zup ?_ ?_
    · have e : zur m 63 (fun j => if j < 206 then zca m j else m 63 j) 45 = m 45 := zur_k _ _ (by decide)
      rw [zb_X9_image_2, if_neg (by decide), e]
      unfold zkeep
      rcases hb with h | h
      · rw [if_pos h, h]
      · rw [if_neg (by omega), h]
    · intro i hi ih
      have e : zset (fun j => if j < i then zca m j else m 63 j) i (zca m i) = fun j => if j < i + 1 then zca m j else m 63 j := by
        funext j
        unfold zset
        by_cases q : j = i
        · subst q; simp
        · by_cases c : j < i
          · simp [q, c, show j < i + 1 by omega]
          · simp [q, c, show ¬ j < i + 1 by omega]
      rw [zb_X9_image_2, if_pos (by omega), t_carried d i _ hi, zcI_ok, zb_X9_image_21, if_pos (by omega), Int.toNat_natCast, zca_63, zu_zur, e, zw_inc i (by omega)]
      exact ih
  have e0 : zur m 63 (fun j => if j < 0 then zca m j else m 63 j) = m := zur_id m 63
  have k0 := key 0 (by omega)
  rw [e0] at k0
  rw [ze_X9_image, zb_X9_image_0]
  exact k0
/-- the model with the image's rows, so far -/
def zrback (m : zMm) (i : Nat) : zMm := fun a b => if zixat a b < i then m 63 (zixat a b) else m a b
theorem zrback_s (m : zMm) (i : Nat) (hi : i < 206) : zcw (zrback m i) i (m 63 i) = zrback m (i + 1) := by
  rw [zcw_ix _ _ _ hi]
  funext a b
  unfold zrback
  by_cases q : zixat a b = i
  · rw [if_pos q, if_pos (by omega), q]
  · rw [if_neg q]
    by_cases c : zixat a b < i
    · rw [if_pos c, if_pos (by omega)]
    · rw [if_neg c, if_neg (by omega)]
theorem zrback_k (m : zMm) (i : Nat) (hi : i ≤ 206) {a : Nat} (h : a < 46 ∨ 54 < a) : zrback m i a = m a := by
  funext b
  unfold zrback
  rw [if_neg]
  unfold zixat
  (repeat' split) <;> omega
/-- the model when it has brought the image back -/
def zbrought (m : zMm) : zMm := zu (zu (zu (zu (zu (zu (zu (zrback m 206) 45 3 (m 64 0)) 45 8 (m 64 1)) 45 11 (m 64 2)) 45 12 (m 64 3)) 45 13 (m 64 4)) 45 14 (m 64 5)) 45 15 (m 64 6)
theorem t_restore (d : Nat) (m : zMm) (hb : m 64 4 = 0 ∨ m 64 4 = 1) : zL (d + 2) 188 [.inr (.inr 45)] SH m = if m 45 28 = 0 then zok (-4) m else zok 1 (zbrought m) := by
  rw [ze_X9_restore, zb_X9_restore_0]
  by_cases c : m 45 28 = 0
  · rw [if_pos c, if_pos c]
  · rw [if_neg c, if_neg c]
    have key : ∀ i : Nat, i ≤ 206 → zR (d + 1) 188 12 [some (.inr (.inr 45)), some (.inl (i : Int))] [] SH (zrback m i) = zok 1 (zbrought m) := by
      refine zup ?_ ?_
      · have e : zrback m 206 64 = m 64 := zrback_k _ _ (by decide) (by decide)
        rw [zb_X9_restore_12, if_neg (by decide), e]
        unfold zbrought
        rcases hb with h | h
        · rw [if_neg (by omega), h]
        · rw [if_pos h, h]
      · intro i hi ih
        have e : zrback m i 63 = m 63 := zrback_k _ _ (by omega) (by decide)
        rw [zb_X9_restore_12, if_pos (by omega), if_pos (by omega), Int.toNat_natCast, e, t_carriedW d i _ _ hi, zcI_ok, zb_X9_restore_31, zrback_s m i hi, zw_inc i (by omega)]
        exact ih
    have e0 : zrback m 0 = m := by
      funext a b
      unfold zrback
      rw [if_neg (Nat.not_lt_zero _)]
    have k0 := key 0 (by omega)
    rw [e0] at k0
    exact k0
