theorem mR_fr {m m' mm : zMm} (g : ∀ k, 46 ≤ k → k ≤ 54 → m' k = m k) (g2 : ∀ j, j ≤ 15 → m' 45 j = m 45 j) (h : mR m mm) : mR m' mm := by
  refine ⟨?_, ?_, ?_, ?_, ?_, ?_, ?_, ?_, ?_, ?_, ?_, ?_, ?_, ?_, ?_, ?_⟩
  · rw [g 46 (by decide) (by decide)]; exact h.fo
  · rw [g 47 (by decide) (by decide)]; exact h.lw
  · rw [g 48 (by decide) (by decide)]; exact h.ll
  · rw [g 49 (by decide) (by decide)]; exact h.ki
  · rw [g 50 (by decide) (by decide)]; exact h.we
  · rw [g 51 (by decide) (by decide)]; exact h.de
  · rw [g 52 (by decide) (by decide)]; exact h.ce
  · rw [g 53 (by decide) (by decide)]; exact h.bo
  · rw [g 54 (by decide) (by decide)]; exact h.wr
  · rw [g2 3 (by decide)]; exact h.lm
  · rw [g2 8 (by decide)]; exact h.mn
  · rw [g2 11 (by decide)]; exact h.sz
  · rw [g2 12 (by decide)]; exact h.st
  · rw [g2 13 (by decide)]; exact h.bk
  · rw [g2 14 (by decide)]; exact h.tn
  · rw [g2 15 (by decide)]; exact h.dr
/-- the model while it looks ahead -/
def zlook (m : zMm) (R Q : Nat → Int) : zMm := zur (zur m 59 R) 60 Q
theorem zlook_k (m : zMm) (R Q : Nat → Int) {k : Nat} (h : k ≠ 59) (h2 : k ≠ 60) : zlook m R Q k = m k := by
  unfold zlook
  rw [zur_k _ _ h2, zur_k _ _ h]
theorem zlook_59 (m : zMm) (R Q : Nat → Int) : zlook m R Q 59 = R := by
  unfold zlook
  rw [zur_k _ _ (by decide), zur_s]
theorem zlook_60 (m : zMm) (R Q : Nat → Int) : zlook m R Q 60 = Q := zur_s _ _ _
theorem zlook_u60 (m : zMm) (R Q : Nat → Int) (j : Nat) (v : Int) : zu (zlook m R Q) 60 j v = zlook m R (zset Q j v) := zu_zur _ _ _ _ _
theorem zlook_u59 (m : zMm) (R Q : Nat → Int) (j : Nat) (v : Int) : zu (zlook m R Q) 59 j v = zlook m (zset R j v) Q := by
  funext a b
  unfold zlook zu zur zset
  by_cases h : a = 59
  · subst h
    by_cases q : b = j <;> simp [q]
  · by_cases h2 : a = 60 <;> simp [h, h2]
theorem mR_lk {m mm : zMm} (R Q : Nat → Int) (h : mR m mm) : mR (zlook m R Q) mm := mR_fr (fun k a b => zlook_k m R Q (by omega) (by omega)) (fun j _ => by rw [zlook_k m R Q (by decide) (by decide)]) h
theorem zlook_id (m : zMm) : zlook m (m 59) (m 60) = m := by
  unfold zlook
  rw [zur_id, zur_id]
section
variable {m mm : zMm}
/-- the table of so many turns -/
def zTable (mm : zMm) (word N n : Nat) (R : Nat → Int) : Prop := ∀ e s, e < 585 → s < N → xas mm s = true → R (6 * e + s) = zsoon (xcm mm) (mm 9) (xS mm) (xnx mm) word n s e
theorem t_soon_s (d n e word N : Nat) (a2 a3 : Int) (R : Nat → Int) (hw : word < 8) (hN : mm 6 3 = N) (he : e < 585) (hr : mR m mm) (hI : xI mm) (hT : zTable mm word N n R) : ∀ (f s : Nat) (Q : Nat → Int), s + f = N → ∃ Q' : Nat → Int, (∀ r, zR (d + 5) 176 63 [some (.inr (.inr 45)), some (.inl (word : Int)), some (.inl a2), some (.inl a3), some (.inl ((e + 1 : Nat) : Int)), none] [] SH (zlook m R Q') = some r → zR (d + 5) 176 74 [some (.inr (.inr 45)), some (.inl (word : Int)), some (.inl a2), some (.inl a3), some (.inl (e : Int)), some (.inl (s : Int))] [] SH (zlook m R Q) = some r) ∧ (∀ x, x < 6 * e + s → Q' x = Q x) ∧ ∀ s', s ≤ s' → s' < N → xas mm s' = true → Q' (6 * e + s') = zsoon (xcm mm) (mm 9) (xS mm) (xnx mm) word (n + 1) s' e := by
  have h6 := hI.ce.2.1
  intro f
  induction f with
  | zero =>
    intro s Q h
    refine ⟨Q, fun r hr2 => ?_, fun _ _ => rfl, fun s' a b => absurd b (by omega)⟩
    rw [zb_X9_soon_74, (mR_lk R Q hr).mn, if_neg (by omega), zw_inc e (by omega)]
    exact zR_weak (by repeat first | exact zle_nil | apply zle_c | apply zle_n) hr2
  | succ f ih =>
    intro s Q h
    have hr' := mR_lk R Q hr
    have h11 := hI.se.1 s (by omega)
    have hd := hI.ce.2.2.1
    have ez : zw (zw (6 * (e : Int)) + (s : Int)) = ((6 * e + s : Nat) : Int) := by
      rw [zw_id (x := 6 * (e : Int)) (by omega) (by omega), zw_id (by omega) (by omega)]
      omega
    have hx := xas_x s (by omega) hI
    by_cases c : mm 8 (mm 11 s).toNat = 1
    · obtain ⟨Q', h1, h2, h3⟩ := ih (s + 1) (zset Q (6 * e + s) 0) (by omega)
      refine ⟨Q', fun r hr2 => ?_, fun x hx => ?_, fun s' a b al => ?_⟩
      · rw [zb_X9_soon_74, hr'.mn, if_pos (by omega), if_pos (by omega), Int.toNat_natCast, hr'.ce, hr'.de, if_pos (by omega), if_pos c, ez, if_pos (by omega), Int.toNat_natCast, zlook_u60, zw_inc s (by omega)]
        exact h1 r hr2
      · rw [h2 x (by omega), zset_j _ _ (by omega)]
      · by_cases q : s' = s
        · subst q
          rw [hx, c] at al
          cases al
        · exact h3 s' (by omega) b al
    · have hal : xas mm s = true := by
        rw [hx]
        have := hI.ce.2.2.2.2 (mm 11 s).toNat
        exact decide_eq_true (by omega)
      have hso := t_soonIn (m := zlook m R Q) d n s e word N hw hN (by omega) hal he hr' hI (by rw [zlook_59]; exact fun e' s' a b c => hT e' s' a b c)
      obtain ⟨Q', h1, h2, h3⟩ := ih (s + 1) (zset Q (6 * e + s) (zsoon (xcm mm) (mm 9) (xS mm) (xnx mm) word (n + 1) s e)) (by omega)
      refine ⟨Q', fun r hr2 => ?_, fun x hx => ?_, fun s' a b al => ?_⟩
      · rw [zb_X9_soon_74, hr'.mn, if_pos (by omega), if_pos (by omega), Int.toNat_natCast, hr'.ce, hr'.de, if_pos (by omega), if_neg c, hso, zcI_ok, zb_X9_soon_124, ez, if_pos (by omega), Int.toNat_natCast, zlook_u60, zw_inc s (by omega)]
        exact h1 r hr2
      · rw [h2 x (by omega), zset_j _ _ (by omega)]
      · by_cases q : s' = s
        · subst q
          rw [h2 _ (by omega), zset_s]
        · exact h3 s' (by omega) b al
theorem t_soon_e (d n word N : Nat) (a2 a3 : Int) (R : Nat → Int) (hw : word < 8) (hN : mm 6 3 = N) (hr : mR m mm) (hI : xI mm) (hT : zTable mm word N n R) : ∀ (f e : Nat) (Q : Nat → Int), e + f = 585 → ∃ Q' : Nat → Int, (∀ r, zR (d + 5) 176 140 [some (.inr (.inr 45)), some (.inl (word : Int)), some (.inl a2), some (.inl a3), some (.inl 0), none] [] SH (zlook m R Q') = some r → zR (d + 5) 176 63 [some (.inr (.inr 45)), some (.inl (word : Int)), some (.inl a2), some (.inl a3), some (.inl (e : Int)), none] [] SH (zlook m R Q) = some r) ∧ (∀ x, x < 6 * e → Q' x = Q x) ∧ ∀ e' s', e ≤ e' → e' < 585 → s' < N → xas mm s' = true → Q' (6 * e' + s') = zsoon (xcm mm) (mm 9) (xS mm) (xnx mm) word (n + 1) s' e' := by
  have h6 := hI.ce.2.1
  intro f
  induction f with
  | zero =>
    intro e Q h
    refine ⟨Q, fun r hr2 => ?_, fun _ _ => rfl, fun e' s' a b => absurd b (by omega)⟩
    rw [zb_X9_soon_63, if_neg (by omega)]
    exact hr2
  | succ f ih =>
    intro e Q h
    obtain ⟨Q1, x1, x2, x3⟩ := t_soon_s d n e word N a2 a3 R hw hN (by omega) hr hI hT N 0 Q (by omega)
    obtain ⟨Q2, y1, y2, y3⟩ := ih (e + 1) Q1 (by omega)
    refine ⟨Q2, fun r hr2 => ?_, fun x hx => ?_, fun e' s' a b c al => ?_⟩
    · rw [zb_X9_soon_63, if_pos (by omega)]
      exact x1 r (y1 r hr2)
    · rw [y2 x (by omega), x2 x (by omega)]
    · by_cases q : e' = e
      · subst q
        rw [y2 _ (by omega), x3 s' (Nat.zero_le _) c al]
      · exact y3 e' s' (by omega) b c al
end
