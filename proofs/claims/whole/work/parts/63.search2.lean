/-- what is looked at of a memory beside the model's own rows of the search -/
def zFm (m' m : zMm) : Prop := (∀ k, k ≠ 45 → k ≠ 57 → k ≠ 58 → m' k = m k) ∧ ∀ j, j ≠ 23 → m' 45 j = m 45 j
theorem zFm_r (m : zMm) : zFm m m := ⟨fun _ _ _ _ => rfl, fun _ _ => rfl⟩
theorem zFm_t {a b c : zMm} (h : zFm a b) (h2 : zFm b c) : zFm a c := ⟨fun k x y z => (h.1 k x y z).trans (h2.1 k x y z), fun j x => (h.2 j x).trans (h2.2 j x)⟩
theorem mR_Fm {m m' mm : zMm} (h : mR m mm) (f : zFm m' m) : mR m' mm := by
  have g : ∀ k, k ≠ 45 → k ≠ 57 → k ≠ 58 → m' k = m k := f.1
  refine ⟨?_, ?_, ?_, ?_, ?_, ?_, ?_, ?_, ?_, ?_, ?_, ?_, ?_, ?_, ?_, ?_⟩
  · rw [g 46 (by decide) (by decide) (by decide)]; exact h.fo
  · rw [g 47 (by decide) (by decide) (by decide)]; exact h.lw
  · rw [g 48 (by decide) (by decide) (by decide)]; exact h.ll
  · rw [g 49 (by decide) (by decide) (by decide)]; exact h.ki
  · rw [g 50 (by decide) (by decide) (by decide)]; exact h.we
  · rw [g 51 (by decide) (by decide) (by decide)]; exact h.de
  · rw [g 52 (by decide) (by decide) (by decide)]; exact h.ce
  · rw [g 53 (by decide) (by decide) (by decide)]; exact h.bo
  · rw [g 54 (by decide) (by decide) (by decide)]; exact h.wr
  · rw [f.2 3 (by decide)]; exact h.lm
  · rw [f.2 8 (by decide)]; exact h.mn
  · rw [f.2 11 (by decide)]; exact h.sz
  · rw [f.2 12 (by decide)]; exact h.st
  · rw [f.2 13 (by decide)]; exact h.bk
  · rw [f.2 14 (by decide)]; exact h.tn
  · rw [f.2 15 (by decide)]; exact h.dr
/-- the model's rows of the search: L tells the turn of each state found -/
def zMS (st : zQ) (L : Nat → Nat) (m : zMm) : Prop := m 45 23 = st.2.1 ∧ (∀ i, i < st.2.1 → m 58 i = st.1 i ∧ st.2.2 (st.1 i) = true ∧ m 57 (st.1 i) = L i) ∧ (∀ c, c < 3510 → st.2.2 c = false → m 57 c = -1) ∧ ∀ c, c < 3510 → st.2.2 c = true → 0 ≤ m 57 c
/-- the turns, when a state is told anew -/
def zLn (st : zQ) (L : Nat → Nat) (c t : Nat) : Nat → Nat := if st.2.2 c then L else fun i => if i = st.2.1 then t else L i
theorem t_reachTo (d c t : Nat) (st : zQ) (L : Nat → Nat) (m : zMm) (hc : c < 3510) (ho : zQok st) (h : zMS st L m) : ∃ m', zL (d + 1) 170 [.inr (.inr 45), .inl c, .inl t] SH m = zvd m' ∧ zMS (zqn st c) (zLn st L c t) m' ∧ zFm m' m := by
  obtain ⟨h1, h2, h3, h4⟩ := h
  by_cases hp : st.2.2 c = true
  · refine ⟨m, ?_, ?_, zFm_r m⟩
    · have := h4 c hc hp
      rw [ze_X9_reachTo, zb_X9_reachTo_0, if_pos (by omega), Int.toNat_natCast, if_neg (by omega)]
    · unfold zqn zLn
      rw [hp]
      exact (⟨h1, h2, h3, h4⟩ : zMS st L m)
  · have hp : st.2.2 c = false := by simpa using hp
    have hlt := zQ_lt ho hc hp
    refine ⟨zu (zu (zu m 57 c t) 58 st.2.1 c) 45 23 ((st.2.1 : Int) + 1), ?_, ?_, ?_, ?_⟩
    · have := h3 c hc hp
      rw [ze_X9_reachTo, zb_X9_reachTo_0, if_pos (by omega), Int.toNat_natCast, if_pos (by omega), if_pos (by omega), h1, if_pos (by omega), Int.toNat_natCast, zw_id (by omega) (by omega)]
    · unfold zqn zLn
      rw [hp]
      refine ⟨?_, fun i hi => ?_, fun c' hc' hp' => ?_, fun c' hc' hp' => ?_⟩
      · rw [zu_s]
        show (st.2.1 : Int) + 1 = ((st.2.1 + 1 : Nat) : Int)
        omega
      · have hi : i < st.2.1 + 1 := hi
        show zu _ 45 23 _ 58 i = ((if i = st.2.1 then c else st.1 i : Nat) : Int) ∧ (st.2.2 (if i = st.2.1 then c else st.1 i) || decide ((if i = st.2.1 then c else st.1 i) = c)) = true ∧ zu _ 45 23 _ 57 (if i = st.2.1 then c else st.1 i) = ((if i = st.2.1 then t else L i : Nat) : Int)
        have e58 : ∀ x, zu (zu (zu m 57 c t) 58 st.2.1 c) 45 23 ((st.2.1 : Int) + 1) 58 x = zu (zu m 57 c t) 58 st.2.1 c 58 x := fun x => by rw [zu_k _ _ (show 58 ≠ 45 by decide)]
        have e57 : ∀ x, zu (zu (zu m 57 c t) 58 st.2.1 c) 45 23 ((st.2.1 : Int) + 1) 57 x = zu m 57 c t 57 x := fun x => by rw [zu_k _ _ (show 57 ≠ 45 by decide), zu_k _ _ (show 57 ≠ 58 by decide)]
        rw [e58, e57]
        by_cases q : i = st.2.1
        · rw [if_pos q, if_pos q, q, zu_s, zu_s]
          exact ⟨rfl, by simp, rfl⟩
        · have hq := h2 i (by omega)
          have hne : st.1 i ≠ c := fun z => by rw [z, hp] at hq; cases hq.2.1
          rw [if_neg q, if_neg q, zu_j _ _ q, zu_k _ _ (show 58 ≠ 57 by decide), zu_j _ _ hne]
          exact ⟨hq.1, by rw [hq.2.1]; rfl, hq.2.2⟩
      · have hp2 : (st.2.2 c' || decide (c' = c)) = false := hp'
        rw [Bool.or_eq_false_iff] at hp2
        rw [zu_k _ _ (by decide), zu_k _ _ (by decide), zu_j _ _ (of_decide_eq_false hp2.2)]
        exact h3 c' hc' hp2.1
      · have hp2 : (st.2.2 c' || decide (c' = c)) = true := hp'
        rw [zu_k _ _ (by decide), zu_k _ _ (by decide)]
        by_cases q : c' = c
        · rw [q, zu_s]
          omega
        · rw [zu_j _ _ q]
          rw [decide_eq_false q, Bool.or_false] at hp2
          exact h4 c' hc' hp2
    · intro k k1 k2 k3
      rw [zu_k _ _ k1, zu_k _ _ k3, zu_k _ _ k2]
    · intro j hj
      rw [zu_j _ _ hj, zu_k _ _ (by decide), zu_k _ _ (by decide)]
