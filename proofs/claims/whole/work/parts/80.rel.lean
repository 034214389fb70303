theorem xI_fr {mm mc : zMm} (f : ∀ k, 1 ≤ k → k ≤ 14 → mc k = mm k) (h : xI mm) : xI mc := by
  have h' := h
  unfold xI xP at h' ⊢
  rw [f 1 (by decide) (by decide), f 2 (by decide) (by decide), f 3 (by decide) (by decide), f 4 (by decide) (by decide), f 5 (by decide) (by decide), f 6 (by decide) (by decide), f 7 (by decide) (by decide), f 8 (by decide) (by decide), f 9 (by decide) (by decide), f 10 (by decide) (by decide), f 11 (by decide) (by decide), f 12 (by decide) (by decide), f 13 (by decide) (by decide), f 14 (by decide) (by decide)]
  exact h'
/-- the rows of the image, as now's -/
def zsh14 (mm : zMm) : zMm := fun k => mm (k + 14)
/-- the tapes -/
def zTapes (m mm : zMm) : Prop := m 55 = mm 30 ∧ m 45 17 = mm 29 2 ∧ xT mm
/-- the images -/
def zKept (m mm : zMm) : Prop := m 45 28 = mm 0 6 ∧ (mm 0 6 = 0 ∨ mm 0 6 = 1) ∧ xI (zsh14 mm) ∧ (mm 0 6 = 1 → (∀ j : Nat, j < 8 → m 63 j = mm 17 j) ∧ (∀ j : Nat, j < 6 → m 63 (j + 8) = mm 18 j) ∧ (∀ j : Nat, j < 6 → m 63 (j + 14) = mm 19 j) ∧ (∀ j : Nat, (j : Int) < 8 * mm 20 3 → m 63 (j + 20) = mm 23 j) ∧ (∀ j : Nat, j < 6 → m 63 (j + 68) = mm 21 j) ∧ (∀ j : Nat, j < 6 → m 63 (j + 74) = mm 22 j) ∧ (∀ j : Nat, j < 6 → m 63 (j + 80) = mm 25 j) ∧ (∀ j : Nat, j < 60 → m 63 (j + 86) = mm 27 j) ∧ (∀ j : Nat, j < 60 → m 63 (j + 146) = mm 28 j) ∧ m 64 0 = mm 16 3 ∧ m 64 1 = mm 20 3 ∧ m 64 2 = mm 26 2 ∧ m 64 3 = mm 24 2 ∧ m 64 4 = mm 24 4 ∧ m 64 5 = mm 24 3 ∧ m 64 6 = mm 15 4)
/-- model and class tell the same -/
def zRel (m mm : zMm) : Prop := xI mm ∧ mR m mm ∧ zTapes m mm ∧ zKept m mm ∧ zSR m mm
theorem zTapes_fr {m m' mm mc : zMm} (h : zTapes m mm) (f1 : mc 29 2 = mm 29 2) (f2 : mc 30 = mm 30) (g1 : m' 55 = m 55) (g2 : m' 45 17 = m 45 17) : zTapes m' mc := by
  unfold zTapes xT at *
  rw [f1, f2, g1, g2]
  exact h
theorem zKept_fr {m m' mm mc : zMm} (h : zKept m mm) (f1 : mc 0 6 = mm 0 6) (f : ∀ k, 15 ≤ k → k ≤ 28 → mc k = mm k) (g1 : m' 45 28 = m 45 28) (g2 : m' 63 = m 63) (g3 : m' 64 = m 64) : zKept m' mc := by
  obtain ⟨h1, h2, h3, h4⟩ := h
  refine ⟨by rw [g1, f1, h1], by rw [f1]; exact h2, xI_fr (fun k a b => f (k + 14) (by omega) (by omega)) h3, fun q => ?_⟩
  rw [f1] at q
  have h4 := h4 q
  rw [g2, g3, f 15 (by decide) (by decide), f 16 (by decide) (by decide), f 17 (by decide) (by decide), f 18 (by decide) (by decide), f 19 (by decide) (by decide), f 20 (by decide) (by decide), f 21 (by decide) (by decide), f 22 (by decide) (by decide), f 23 (by decide) (by decide), f 24 (by decide) (by decide), f 25 (by decide) (by decide), f 26 (by decide) (by decide), f 27 (by decide) (by decide), f 28 (by decide) (by decide)]
  exact h4
theorem zSR_fr {m m' mm mc : zMm} (h : zSR m mm) (f : ∀ k, 37 ≤ k → k ≤ 44 → mc k = mm k) (g : ∀ k, 65 ≤ k → k ≤ 67 → m' k = m k) : zSR m' mc := by
  intro s hs
  have := h s hs
  rw [g 65 (by decide) (by decide), g 66 (by decide) (by decide), g 67 (by decide) (by decide), f (37 + 2 * s) (by omega) (by omega), f (38 + 2 * s) (by omega) (by omega)]
  exact this
/-- what a call of now leaves alone -/
theorem zRel_now {m m' mm mc : zMm} (h : zRel m mm) (f0 : mc 0 6 = mm 0 6) (f : ∀ k, (15 ≤ k ∧ k ≤ 30) ∨ (37 ≤ k ∧ k ≤ 44) → mc k = mm k) (g0 : m' 45 17 = m 45 17) (g1 : m' 45 28 = m 45 28) (g : ∀ k, k = 55 ∨ (63 ≤ k ∧ k ≤ 67) → m' k = m k) (hI : xI mc) (hR : mR m' mc) : zRel m' mc := by
  obtain ⟨_, _, h3, h4, h5⟩ := h
  refine ⟨hI, hR, zTapes_fr h3 (by rw [f 29 (by omega)]) (f 30 (by omega)) (g 55 (by omega)) g0, zKept_fr h4 f0 (fun k a b => f k (by omega)) g1 (g 63 (by omega)) (g 64 (by omega)), zSR_fr h5 (fun k a b => f k (by omega)) (fun k a b => g k (by omega))⟩
/-- one call on both -/
def zBoth (d jx jm : Nat) (as : List zV) (m mm : zMm) : Prop := ∃ (v : Int) (mc m' : zMm), zL (d + 20) jx (.inr (.inr 0) :: as) SH mm = zok v mc ∧ zL (d + 20) jm (.inr (.inr 45) :: as) SH m = zok v m' ∧ zRel m' mc ∧ (∀ k, 45 ≤ k → mc k = mm k) ∧ ∀ k, (k < 45 ∨ 68 ≤ k) → m' k = m k
theorem zBoth_0 {d jx jm : Nat} {as : List zV} {m mm : zMm} (v : Int) (h : zRel m mm) (hx : zL (d + 20) jx (.inr (.inr 0) :: as) SH mm = zok v mm) (hm : zL (d + 20) jm (.inr (.inr 45) :: as) SH m = zok v m) : zBoth d jx jm as m mm := ⟨v, mm, m, hx, hm, h, fun _ _ => rfl, fun _ _ => rfl⟩
/-- what only looks: rows of the searches change -/
theorem zBoth_q {d jx jm : Nat} {as : List zV} {m mm m' mc : zMm} (v : Int) (h : zRel m mm) (hx : zL (d + 20) jx (.inr (.inr 0) :: as) SH mm = zok v mc) (hm : zL (d + 20) jm (.inr (.inr 45) :: as) SH m = zok v m') (f : ∀ k, k < 33 ∨ 37 ≤ k → mc k = mm k) (g : ∀ k, k < 45 ∨ 63 ≤ k ∨ (46 ≤ k ∧ k ≤ 56) → m' k = m k) (g2 : ∀ j, j ≠ 23 → m' 45 j = m 45 j) : zBoth d jx jm as m mm := by
  refine ⟨v, mc, m', hx, hm, ?_, fun k a => f k (by omega), fun k a => g k (by omega)⟩
  obtain ⟨hI, hR, _⟩ := id h
  refine zRel_now h (by rw [f 0 (by omega)]) (fun k a => f k (by omega)) (g2 17 (by decide)) (g2 28 (by decide)) (fun k a => g k (by omega)) (xI_fr (fun k a b => f k (by omega)) hI) ?_
  have r := mR_fr (m' := m') (fun k a b => g k (by omega)) (fun j a => g2 j (by omega)) hR
  have e : ∀ k, 1 ≤ k → k ≤ 14 → mc k = mm k := fun k a b => f k (by omega)
  unfold mR at r ⊢
  rw [e 1 (by decide) (by decide), e 2 (by decide) (by decide), e 3 (by decide) (by decide), e 4 (by decide) (by decide), e 5 (by decide) (by decide), e 6 (by decide) (by decide), e 7 (by decide) (by decide), e 8 (by decide) (by decide), e 9 (by decide) (by decide), e 10 (by decide) (by decide), e 11 (by decide) (by decide), e 12 (by decide) (by decide), e 13 (by decide) (by decide), e 14 (by decide) (by decide)]
  exact r
theorem zu_row {m mm : zMm} {a b : Nat} (h : m a = mm b) (j : Nat) (v : Int) : zu m a j v a = zu mm b j v b := by
  funext i
  unfold zu
  by_cases q : i = j
  · simp [q]
  · simp [q, h]
