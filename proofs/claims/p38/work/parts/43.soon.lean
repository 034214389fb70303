theorem zw_dec (n : Nat) (h : n < 2147483647) : zw (((n + 1 : Nat) : Int) - 1) = (n : Int) := by rw [zw_id (by omega) (by omega)]; omega
theorem zw_inc (n : Nat) (h : n < 2147483647) : zw ((n : Int) + 1) = ((n + 1 : Nat) : Int) := by rw [zw_id (by omega) (by omega)]; omega
/-- a word's weight, times its worth -/
def zfw (Wt : Nat → Int) (P : Nat → Bool) (c : Nat) (V : Nat → Int) (w : Nat) : Int := if P w then Wt (8 * c + w) * V w else 0
theorem zfw_f {Wt : Nat → Int} {P : Nat → Bool} {c : Nat} {V : Nat → Int} {w : Nat} (h : P w = false) : zfw Wt P c V w = 0 := by unfold zfw; rw [h]; rfl
theorem zfw_t {Wt : Nat → Int} {P : Nat → Bool} {c : Nat} {V : Nat → Int} {w : Nat} (h : P w = true) : zfw Wt P c V w = Wt (8 * c + w) * V w := by unfold zfw; rw [h]; rfl
theorem zwt_f {Wt : Nat → Int} {P : Nat → Bool} {c w : Nat} (h : P w = false) : zwt Wt P c w = 0 := by unfold zwt; rw [h]; rfl
theorem zwt_t {Wt : Nat → Int} {P : Nat → Bool} {c w : Nat} (h : P w = true) : zwt Wt P c w = Wt (8 * c + w) := by unfold zwt; rw [h]; rfl
theorem zsum_mul {f g : Nat → Int} (h : ∀ j, 0 ≤ f j ∧ f j ≤ 1000 * g j) : ∀ n : Nat, 0 ≤ zsum f n ∧ zsum f n ≤ 1000 * zsum g n
  | 0 => by simp [zsum]
  | n + 1 => by
    have h1 := zsum_mul h n
    have h2 := h n
    rw [zsum_s, zsum_s]
    omega
theorem zfw_r {Wt : Nat → Int} (hW : ∀ j : Nat, 0 ≤ Wt j ∧ Wt j ≤ 9) {P : Nat → Bool} {c : Nat} {V : Nat → Int} (hV : ∀ w, 0 ≤ V w ∧ V w ≤ 1000) (w : Nat) : 0 ≤ zfw Wt P c V w ∧ zfw Wt P c V w ≤ 1000 * zwt Wt P c w := by
  have h1 := hW (8 * c + w)
  have hv := hV w
  cases h : P w with
  | false => rw [zfw_f h, zwt_f h]; decide
  | true =>
    rw [zfw_t h, zwt_t h]
    have := Int.mul_nonneg h1.1 hv.1
    have h3 := Int.mul_le_mul_of_nonneg_left hv.2 h1.1
    omega
/-- how soon a word comes -/
def zsoon (cm : Nat → Nat → Nat → Bool) (Wt : Nat → Int) (S : Nat → Nat) (nxt : Nat → Nat) (word : Nat) : Nat → Nat → Nat → Int
  | 0, _, _ => 0
  | n + 1, s, e => if mks (cm (S s) e) 8 = 0 then zsoon cm Wt S nxt word n (nxt s) e else zsum (zfw Wt (cm (S s) e) (S s) (fun w => if w = word then 1000 else zsoon cm Wt S nxt word n (nxt s) (wpush e w))) 8 / zsum (zwt Wt (cm (S s) e) (S s)) 8
theorem zsoon_s (cm : Nat → Nat → Nat → Bool) (Wt : Nat → Int) (S : Nat → Nat) (nxt : Nat → Nat) (word n s e : Nat) : zsoon cm Wt S nxt word (n + 1) s e = if mks (cm (S s) e) 8 = 0 then zsoon cm Wt S nxt word n (nxt s) e else zsum (zfw Wt (cm (S s) e) (S s) (fun w => if w = word then 1000 else zsoon cm Wt S nxt word n (nxt s) (wpush e w))) 8 / zsum (zwt Wt (cm (S s) e) (S s)) 8 := rfl
theorem zsoon_r {cm : Nat → Nat → Nat → Bool} {Wt : Nat → Int} {S nxt : Nat → Nat} {word : Nat} (hW : ∀ j : Nat, 0 ≤ Wt j ∧ Wt j ≤ 9) : ∀ n s e : Nat, 0 ≤ zsoon cm Wt S nxt word n s e ∧ zsoon cm Wt S nxt word n s e ≤ 1000
  | 0, _, _ => by simp [zsoon]
  | n + 1, s, e => by
    rw [zsoon_s]
    split
    · exact zsoon_r hW n _ _
    · have h := zsum_mul (zfw_r hW (P := cm (S s) e) (c := S s) (V := fun w => if w = word then 1000 else zsoon cm Wt S nxt word n (nxt s) (wpush e w)) (fun w => by
        show 0 ≤ (if w = word then (1000 : Int) else _) ∧ (if w = word then (1000 : Int) else _) ≤ 1000
        split
        · exact ⟨by decide, by decide⟩
        · exact zsoon_r hW n _ _)) 8
      have hg := zwt_r hW (cm (S s) e) (S s) 8
      refine ⟨Int.ediv_nonneg h.1 hg.1, ?_⟩
      by_cases q : zsum (zwt Wt (cm (S s) e) (S s)) 8 = 0
      · rw [q, Int.ediv_zero]
        decide
      · exact Int.ediv_le_of_le_mul (by omega) h.2
/-- what can come has weight -/
def zcmw (cm : Nat → Nat → Nat → Bool) (Wt : Nat → Int) : Prop := ∀ c e w, cm c e w = true → 0 < Wt (8 * c + w)
theorem zcmw_p {cm : Nat → Nat → Nat → Bool} {Wt : Nat → Int} (hW : ∀ j : Nat, 0 ≤ Wt j ∧ Wt j ≤ 9) (h : zcmw cm Wt) {c e : Nat} (h0 : mks (cm c e) 8 ≠ 0) : 0 < zsum (zwt Wt (cm c e) c) 8 := by
  have h1 : ¬ ∀ j, j < 8 → cm c e j = false := fun q => h0 ((mks_0 (by decide)).mpr q)
  have h2 : ∃ j, j < 8 ∧ cm c e j = true := by
    apply Classical.byContradiction
    intro q
    exact h1 fun j hj => by
      cases hz : cm c e j with
      | false => rfl
      | true => exact absurd ⟨j, hj, hz⟩ q
  obtain ⟨j, hj, hz⟩ := h2
  have hpos := h c e j hz
  have hnn : ∀ i, 0 ≤ zwt Wt (cm c e) c i := fun i => by
    unfold zwt
    have := hW (8 * c + i)
    split <;> omega
  have h3 := zsum_le hnn (show j + 1 ≤ 8 by omega)
  have h4 := zsum_le hnn (show 0 ≤ j by omega)
  rw [zsum_s] at h3
  have h5 : zwt Wt (cm c e) c j = Wt (8 * c + j) := by unfold zwt; rw [hz]; rfl
  have h6 : zsum (zwt Wt (cm c e) c) 0 = 0 := rfl
  omega
section
variable {mm : zMm}
theorem xcm_w : zcmw (xcm mm) (mm 9) := by
  intro c e w h
  unfold xcm zcome at h
  simp only [Bool.and_eq_true, decide_eq_true_eq] at h
  exact h.2.1
/-- the seats' cells; the seat behind -/
def xS (mm : zMm) (s : Nat) : Nat := (mm 11 s).toNat
def xnx (mm : zMm) (s : Nat) : Nat := (zliv (xas mm) (mm 6 3).toNat (zstep1 (mm 10 4) (mm 6 3).toNat) s).toNat
theorem s_soon_loop (D n word c e nx : Nat) (P : Nat → Bool) (V : Nat → Int) (hD : 5 ≤ D) (hw : word < 8) (h5 : n < 5) (he : e < 585) (hn : xN mm) (hc : (c : Int) < mm 6 3) (hW : ∀ j : Nat, 0 ≤ mm 9 j ∧ mm 9 j ≤ 9) (hV : ∀ w, 0 ≤ V w ∧ V w ≤ 1000) (hpos : 0 < zsum (zwt (mm 9) P c) 8) (hv : V word = 1000)
    (hcall : ∀ w, w < 8 → w ≠ word → zL D 85 [.inr (.inr 1), .inl nx, .inl (zsl (wpush e w)), .inl word, .inl n] SH mm = zok (V w) mm) :
    zR D 85 70 [some (.inr (.inr 1)), none, some (.inl (zsl e : Int)), some (.inl (word : Int)), some (.inl ((n + 1 : Nat) : Int)), some (.inl (c : Int)), some (.inl (nx : Int)), some (.inl (mks P 8)), some (.inl 0), some (.inl 0), some (.inl 0), none, none] [] SH mm = zok (zsum (zfw (mm 9) P c V) 8 / zsum (zwt (mm 9) P c) 8) mm := by
  obtain ⟨D, rfl⟩ : ∃ D', D = D' + 5 := ⟨D - 5, by omega⟩
  have hft := zfw_r hW (P := P) (c := c) hV
  have hf8 := zsum_mul hft
  have key : ∀ i, i ≤ 8 → zR (D + 5) 85 70 [some (.inr (.inr 1)), none, some (.inl (zsl e : Int)), some (.inl (word : Int)), some (.inl ((n + 1 : Nat) : Int)), some (.inl (c : Int)), some (.inl (nx : Int)), some (.inl (mks P 8)), some (.inl (zsum (zfw (mm 9) P c V) i)), some (.inl (zsum (zwt (mm 9) P c) i)), some (.inl (i : Int)), none, none] [] SH mm = zok (zsum (zfw (mm 9) P c V) 8 / zsum (zwt (mm 9) P c) 8) mm := by
    refine zup ?_ ?_
    · have h8 := hf8 8
      have hg8 := zwt_r hW P c 8
      rw [zb_X8_soonWithin_70, if_neg (by decide), if_pos hpos, if_neg (by omega), zdiv_n h8.1 (by omega) hpos (by omega)]
    · intro i hi ihl
      rw [zsum_s, zsum_s] at ihl
      rw [zb_X8_soonWithin_70, if_pos (by omega), s_holds (D + 4) _ i (by omega), zcI_ok, zb_X8_soonWithin_84, mks_bit _ 8 (by decide), decide_eq_true (show i < 8 by omega), Bool.true_and, zw_inc i (by omega)]
      have hgi := zwt_r hW P c i
      have hfi := hf8 i
      have hti := hft i
      have hwi := hW (8 * c + i)
      cases hp : P i with
      | false =>
        rw [zfw_f hp, zwt_f hp, Int.add_zero, Int.add_zero] at ihl
        rw [if_pos (by simp)]
        exact ihl
      | true =>
        rw [zfw_t hp, zwt_t hp] at ihl hti
        rw [if_neg (by simp)]
        by_cases q : i = word
        · subst q
          rw [hv] at ihl hti
          rw [if_pos rfl, s_weightOf (D + 3) c i hn hc (by omega), zcI_ok, zb_X8_soonWithin_129, zw_inc i (by omega), zw_id (x := mm 9 (8 * c + i) * 1000) (by omega) (by omega), zw_id (by omega) (by omega), zw_id (by omega) (by omega)]
          exact zR_weak (by repeat first | exact zle_nil | apply zle_c | apply zle_n) ihl
        · rw [if_neg (by omega), s_slipWith (D + 4) he (by omega), zcI_ok, zb_X8_soonWithin_108, zw_dec n (by omega), hcall i (by omega) q, zcI_ok, zb_X8_soonWithin_116, s_weightOf (D + 3) c i hn hc (by omega), zcI_ok, zb_X8_soonWithin_129, zw_inc i (by omega), zw_id (x := mm 9 (8 * c + i) * V i) (by omega) (by omega), zw_id (by omega) (by omega), zw_id (by omega) (by omega)]
          exact zR_weak (by repeat first | exact zle_nil | apply zle_c | apply zle_n) ihl
  exact key 0 (by omega)
theorem s_soonWithin (d word N : Nat) (hw : word < 8) (hnn : mm 6 3 = N) (hS : zSe (mm 11) (mm 6 3)) (hce : zCe (mm 7) (mm 9) (mm 8) (mm 6 3)) (ht : zTg (mm 3) (mm 4) (mm 5) (mm 2 3)) : ∀ (n s e : Nat), n ≤ 5 → s < N → xas mm s = true → e < 585 → zL (d + 5 + n) 85 [.inr (.inr 1), .inl s, .inl (zsl e), .inl word, .inl n] SH mm = zok (zsoon (xcm mm) (mm 9) (xS mm) (xnx mm) word n s e) mm
  | 0, s, e, h5, hs, ha, he => by
    rw [show d + 5 + 0 = d + 4 + 1 by omega, ze_X8_soonWithin, zb_X8_soonWithin_0, if_pos (by decide)]
    rfl
  | n + 1, s, e, h5, hs, ha, he => by
    have hn : xN mm := ⟨hce.1, hce.2.1⟩
    have hn6 := hn.2
    have hW := hce.2.2.2.1
    have h11 := hS.1 s (by omega)
    have e11 : mm 11 s = ((xS mm s : Nat) : Int) := by unfold xS; omega
    have hc : ((xS mm s : Nat) : Int) < mm 6 3 := by omega
    obtain ⟨nx, e2, e3, e4⟩ := zliv_al (k := zstep1 (mm 10 4) N) hs ha
    have enx : xnx mm s = nx := by unfold xnx; rw [hnn, Int.toNat_natCast, e2, Int.toNat_natCast]
    have ih := s_soonWithin d word N hw hnn hS hce ht n
    have hcm := s_canCome (mm := mm) (d + 2 + n) (xS mm s) e hc he hce ht
    rw [show d + 5 + (n + 1) = d + 5 + n + 1 by omega, ze_X8_soonWithin, zb_X8_soonWithin_0, if_neg (by omega), if_neg (by omega), show d + 5 + n = d + 3 + n + 2 by omega, s_cellOn (d + 3 + n) s hn (by omega), zcI_ok, zb_X8_soonWithin_22, show d + 3 + n + 2 = d + 1 + n + 4 by omega, s_seatBehind (d + 1 + n) s N hnn hn hS (Or.inl hs), e2, zcI_ok, zb_X8_soonWithin_32, e11, show d + 1 + n + 4 = d + 2 + n + 3 by omega, hcm, zcI_ok, zb_X8_soonWithin_41, zw_dec n (by omega), zsoon_s, enx, show d + 2 + n + 3 = d + 5 + n by omega]
    by_cases c0 : mks (xcm mm (xS mm s) e) 8 = 0
    · rw [if_pos c0, if_pos c0, ih nx e (by omega) e3 e4 he, zcI_ok, zb_X8_soonWithin_60]
    · rw [if_neg c0, if_neg c0]
      have hpos := zcmw_p hW xcm_w c0
      exact zR_weak (by repeat first | exact zle_nil | apply zle_c | apply zle_n) (s_soon_loop (mm := mm) (d + 5 + n) n word (xS mm s) e nx (xcm mm (xS mm s) e) (fun w => if w = word then 1000 else zsoon (xcm mm) (mm 9) (xS mm) (xnx mm) word n nx (wpush e w)) (by omega) hw (by omega) he hn hc hW (fun w => by
        show 0 ≤ (if w = word then (1000 : Int) else _) ∧ (if w = word then (1000 : Int) else _) ≤ 1000
        split
        · exact ⟨by decide, by decide⟩
        · exact zsoon_r hW n _ _) hpos (if_pos rfl) (fun w hw8 hne => by
        show _ = zok (if w = word then 1000 else _) mm
        rw [if_neg hne]
        exact ih nx _ (by omega) e3 e4 (wpush_lt he hw8)))
/-- the common divisor, tried downwards -/
def zgd (a b : Int) : Nat → Int
  | 0 => 1
  | n + 1 => if n = 0 then 1 else if a % ((n + 1 : Nat) : Int) = 0 ∧ b % ((n + 1 : Nat) : Int) = 0 then ((n + 1 : Nat) : Int) else zgd a b n
end
