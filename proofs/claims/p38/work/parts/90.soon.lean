/-! what is soon can be reached; within more turns it is no less -/
theorem zsum_mono {f g : Nat → Int} : ∀ {n : Nat}, (∀ j, j < n → f j ≤ g j) → zsum f n ≤ zsum g n
  | 0, _ => Int.le_refl _
  | n + 1, h => by
    have := zsum_mono (n := n) (fun j hj => h j (by omega))
    have := h n (by omega)
    rw [zsum_s, zsum_s]
    omega
theorem zsum_pos {f : Nat → Int} : ∀ {n : Nat}, 0 < zsum f n → ∃ j, j < n ∧ 0 < f j
  | 0, h => absurd (show (0 : Int) < 0 from h) (by decide)
  | n + 1, h => by
    rw [zsum_s] at h
    by_cases c : 0 < f n
    · exact ⟨n, by omega, c⟩
    · obtain ⟨j, h1, h2⟩ := zsum_pos (n := n) (f := f) (by omega)
      exact ⟨j, by omega, h2⟩
theorem zdiv_mono {a b c : Int} (hc : 0 ≤ c) (h : a ≤ b) : a / c ≤ b / c := by
  by_cases q : c = 0
  · rw [q, Int.ediv_zero, Int.ediv_zero]
    exact Int.le_refl 0
  · exact Int.ediv_le_ediv (by omega) h
section
variable {cm : Nat → Nat → Nat → Bool} {Wt : Nat → Int} {S nxt : Nat → Nat} {word : Nat}
theorem zsoon_mono (hW : ∀ j : Nat, 0 ≤ Wt j ∧ Wt j ≤ 9) : ∀ n s e : Nat, zsoon cm Wt S nxt word n s e ≤ zsoon cm Wt S nxt word (n + 1) s e
  | 0, s, e => (zsoon_r (cm := cm) (S := S) (nxt := nxt) (word := word) hW 1 s e).1
  | n + 1, s, e => by
    rw [zsoon_s, zsoon_s]
    by_cases c : mks (cm (S s) e) 8 = 0
    · rw [if_pos c, if_pos c]
      exact zsoon_mono hW n (nxt s) e
    · rw [if_neg c, if_neg c]
      refine zdiv_mono (zwt_r hW _ _ 8).1 (zsum_mono fun j _ => ?_)
      unfold zfw
      split
      · refine Int.mul_le_mul_of_nonneg_left ?_ (hW _).1
        dsimp only
        split
        · exact Int.le_refl _
        · exact zsoon_mono hW n (nxt s) (wpush e j)
      · exact Int.le_refl _
/-- what one turn can make of an end -/
def zsc (cm : Nat → Nat → Nat → Bool) (s e e1 : Nat) : Prop := (mks (cm s e) 8 = 0 ∧ e1 = e) ∨ ∃ w, w < 8 ∧ cm s e w = true ∧ e1 = wpush e w
/-- turns, so many, to an aim -/
def zpt (cm : Nat → Nat → Nat → Bool) (nxt : Nat → Nat) (aim : Nat → Bool) : Nat → Nat → Nat → Prop
  | 0, _, e => aim e = true
  | r + 1, s, e => ∃ e1, zsc cm s e e1 ∧ zpt cm nxt aim r (nxt s) e1
theorem zsoon_p (hW : ∀ j : Nat, 0 ≤ Wt j ∧ Wt j ≤ 9) {aim : Nat → Bool} (ha : ∀ e, e < 585 → aim (wpush e word) = true) : ∀ n s e : Nat, e < 585 → 0 < zsoon cm Wt S nxt word n s e → ∃ r, r ≤ n ∧ zpt (fun s e => cm (S s) e) nxt aim r s e
  | 0, s, e, _, h => absurd (show (0 : Int) < 0 from h) (by decide)
  | n + 1, s, e, he, h => by
    rw [zsoon_s] at h
    by_cases c : mks (cm (S s) e) 8 = 0
    · rw [if_pos c] at h
      obtain ⟨r, h1, h2⟩ := zsoon_p hW ha n (nxt s) e he h
      exact ⟨r + 1, by omega, e, .inl ⟨c, rfl⟩, h2⟩
    · rw [if_neg c] at h
      have hd := (zwt_r hW (cm (S s) e) (S s) 8).1
      have hp : 0 < zsum (zfw Wt (cm (S s) e) (S s) (fun w => if w = word then 1000 else zsoon cm Wt S nxt word n (nxt s) (wpush e w))) 8 := by
        by_cases q : 0 < zsum (zfw Wt (cm (S s) e) (S s) (fun w => if w = word then 1000 else zsoon cm Wt S nxt word n (nxt s) (wpush e w))) 8
        · exact q
        · have := zdiv_mono hd (a := zsum (zfw Wt (cm (S s) e) (S s) (fun w => if w = word then 1000 else zsoon cm Wt S nxt word n (nxt s) (wpush e w))) 8) (b := 0) (by omega)
          rw [Int.zero_ediv] at this
          omega
      obtain ⟨w, hw, h2⟩ := zsum_pos hp
      cases hc : cm (S s) e w with
      | false => rw [zfw_f hc] at h2; omega
      | true =>
        rw [zfw_t hc] at h2
        by_cases q : w = word
        · subst q
          exact ⟨1, by omega, wpush e w, .inr ⟨w, hw, hc, rfl⟩, ha e he⟩
        · rw [if_neg q] at h2
          have h3 : 0 < zsoon cm Wt S nxt word n (nxt s) (wpush e w) := by
            have hr := (zsoon_r (cm := cm) (S := S) (nxt := nxt) (word := word) hW n (nxt s) (wpush e w)).1
            by_cases z : zsoon cm Wt S nxt word n (nxt s) (wpush e w) = 0
            · rw [z, Int.mul_zero] at h2; omega
            · omega
          obtain ⟨r, g1, g2⟩ := zsoon_p hW ha n (nxt s) (wpush e w) (wpush_lt he hw) h3
          exact ⟨r + 1, by omega, wpush e w, .inr ⟨w, hw, hc, rfl⟩, g2⟩
end
/-- the row and the marks tell the same -/
def zMk (st : zQ) : Prop := ∀ x, st.2.2 x = true ↔ ∃ i, i < st.2.1 ∧ st.1 i = x
def zG (nx : Nat) (a b : zQ) : Prop := zQg a b ∧ (∀ x, a.2.2 x = true → b.2.2 x = true) ∧ (zMk a → zMk b) ∧ ∀ j, a.2.1 ≤ j → j < b.2.1 → b.1 j % 6 = nx
theorem zG_r (nx : Nat) (a : zQ) : zG nx a a := ⟨zQg_r a, fun _ h => h, fun h => h, fun j h1 h2 => by omega⟩
theorem zG_t {nx : Nat} {a b c : zQ} (h : zG nx a b) (g : zG nx b c) : zG nx a c := by
  refine ⟨zQg_t h.1 g.1, fun x q => g.2.1 x (h.2.1 x q), fun q => g.2.2.1 (h.2.2.1 q), fun j h1 h2 => ?_⟩
  by_cases q : j < b.2.1
  · rw [g.1.2 j q]
    exact h.2.2.2 j h1 q
  · exact g.2.2.2 j (by omega) h2
theorem zqn_t {st : zQ} {c : Nat} (h : st.2.2 c = true) : zqn st c = st := if_pos h
theorem zqn_n {st : zQ} {c : Nat} (h : ¬ st.2.2 c = true) : zqn st c = (fun i => if i = st.2.1 then c else st.1 i, st.2.1 + 1, fun x => st.2.2 x || decide (x = c)) := if_neg h
theorem zqn_G (st : zQ) (e nx : Nat) (hx : nx < 6) : zG nx st (zqn st (6 * e + nx)) ∧ (zqn st (6 * e + nx)).2.2 (6 * e + nx) = true := by
  by_cases c : st.2.2 (6 * e + nx) = true
  · rw [zqn_t c]
    exact ⟨zG_r nx st, c⟩
  · rw [zqn_n c]
    refine ⟨⟨⟨Nat.le_succ _, fun i hi => if_neg (by omega)⟩, fun x hx => ?_, fun h x => ?_, fun j h1 h2 => ?_⟩, ?_⟩
    · show (st.2.2 x || decide (x = 6 * e + nx)) = true
      rw [hx, Bool.true_or]
    · show (st.2.2 x || decide (x = 6 * e + nx)) = true ↔ ∃ i, i < st.2.1 + 1 ∧ (if i = st.2.1 then 6 * e + nx else st.1 i) = x
      rw [Bool.or_eq_true, decide_eq_true_eq]
      constructor
      · rintro (q | q)
        · obtain ⟨i, h1, h2⟩ := (h x).mp q
          exact ⟨i, by omega, by rw [if_neg (by omega)]; exact h2⟩
        · exact ⟨st.2.1, by omega, by rw [if_pos rfl, q]⟩
      · rintro ⟨i, h1, h2⟩
        by_cases q : i = st.2.1
        · rw [if_pos q] at h2
          exact .inr h2.symm
        · rw [if_neg q] at h2
          exact .inl ((h x).mpr ⟨i, by omega, h2⟩)
    · have h2 : j < st.2.1 + 1 := h2
      show (if j = st.2.1 then 6 * e + nx else st.1 j) % 6 = nx
      rw [if_pos (by omega)]
      omega
    · show (st.2.2 _ || decide _) = true
      rw [decide_eq_true rfl, Bool.or_true]
theorem zspw_G {cm : Nat → Bool} {e nx : Nat} (hx : nx < 6) : ∀ (f w : Nat) (st : zQ), zG nx st (zspw cm e nx f w st) ∧ ∀ w', w ≤ w' → w' < w + f → cm w' = true → (zspw cm e nx f w st).2.2 (6 * wpush e w' + nx) = true
  | 0, w, st => ⟨zG_r nx st, fun w' h1 h2 => by omega⟩
  | f + 1, w, st => by
    rw [zspw_s]
    have h1 : zG nx st (if cm w then zqn st (6 * wpush e w + nx) else st) := by
      split
      · exact (zqn_G st (wpush e w) nx hx).1
      · exact zG_r nx st
    obtain ⟨g1, g2⟩ := zspw_G (cm := cm) (e := e) hx f (w + 1) (if cm w then zqn st (6 * wpush e w + nx) else st)
    refine ⟨zG_t h1 g1, fun w' h2 h3 h4 => ?_⟩
    by_cases q : w' = w
    · subst q
      rw [if_pos h4] at g1 ⊢
      exact g1.2.1 _ (zqn_G st (wpush e w') nx hx).2
    · exact g2 w' (by omega) (by omega) h4
theorem zspr_G {cm : Nat → Nat → Nat → Bool} {s e nx : Nat} (hx : nx < 6) (st : zQ) : zG nx st (zspr (cm s e) e nx st) ∧ ∀ e1, zsc cm s e e1 → (zspr (cm s e) e nx st).2.2 (6 * e1 + nx) = true := by
  unfold zspr
  have h1 : zG nx st (if mks (cm s e) 8 = 0 then zqn st (6 * e + nx) else st) := by
    split
    · exact (zqn_G st e nx hx).1
    · exact zG_r nx st
  obtain ⟨g1, g2⟩ := zspw_G (cm := cm s e) (e := e) hx 8 0 (if mks (cm s e) 8 = 0 then zqn st (6 * e + nx) else st)
  refine ⟨zG_t h1 g1, fun e1 he => ?_⟩
  rcases he with ⟨h2, h3⟩ | ⟨w, h2, h3, h4⟩
  · subst h3
    rw [if_pos h2] at g1 ⊢
    exact g1.2.1 _ (zqn_G st e1 nx hx).2
  · subst h4
    exact g2 w (by omega) (by omega) h3
theorem zlev_G {cm : Nat → Nat → Nat → Bool} {s nx : Nat} (hx : nx < 6) : ∀ (f i : Nat) (st : zQ), i + f ≤ st.2.1 → zG nx st (zlev (cm s) nx f i st) ∧ ∀ j, i ≤ j → j < i + f → ∀ e1, zsc cm s (st.1 j / 6) e1 → (zlev (cm s) nx f i st).2.2 (6 * e1 + nx) = true
  | 0, i, st, h => ⟨zG_r nx st, fun j h1 h2 => by omega⟩
  | f + 1, i, st, h => by
    rw [zlev_s]
    obtain ⟨a1, a2⟩ := zspr_G (cm := cm) (s := s) (e := st.1 i / 6) hx st
    obtain ⟨b1, b2⟩ := zlev_G (cm := cm) (s := s) hx f (i + 1) (zspr (cm s (st.1 i / 6)) (st.1 i / 6) nx st) (by have := a1.1.1; omega)
    refine ⟨zG_t a1 b1, fun j h1 h2 e1 he => ?_⟩
    by_cases q : j = i
    · subst q
      exact b1.2.1 _ (a2 e1 he)
    · refine b2 j (by omega) (by omega) e1 ?_
      rw [a1.1.2 j (by omega)]
      exact he
theorem zfst_neg {P : Nat → Bool} : ∀ {f i : Nat}, ¬ 0 ≤ zfst P f i → ∀ j, i ≤ j → j < i + f → P j = false
  | 0, i, _, j, h1, h2 => by omega
  | f + 1, i, h, j, h1, h2 => by
    rw [zfst_s] at h
    cases hp : P i with
    | true => rw [hp, if_pos rfl] at h; omega
    | false =>
      rw [hp, if_neg (by decide)] at h
      by_cases q : j = i
      · rw [q]; exact hp
      · exact zfst_neg h j (by omega) (by omega)
/-- what can be reached in so many turns is found by then -/
theorem zftn_le {cm : Nat → Nat → Nat → Bool} {nxt : Nat → Nat} {aim : Nat → Bool} (hnx : ∀ s, s < 6 → nxt s < 6) : ∀ (r f t s first : Nat) (st : zQ) (x : Nat), r < f → s < 6 → first ≤ st.2.1 → zMk st → (∀ i, i < first → ∀ e1, zsc cm (st.1 i % 6) (st.1 i / 6) e1 → st.2.2 (6 * e1 + nxt (st.1 i % 6)) = true) → (∀ i, first ≤ i → i < st.2.1 → st.1 i % 6 = s) → (∀ i, i < first → aim (st.1 i / 6) = false) → st.2.2 x = true → zpt cm nxt aim r (x % 6) (x / 6) → ∃ v : Nat, zftn cm aim nxt f t s first st = v ∧ t ≤ v ∧ v ≤ t + r
  | r, 0, t, s, first, st, x, hf, _, _, _, _, _, _, _, _ => by omega
  | r, f + 1, t, s, first, st, x, hf, hs, h0, h1, h2, h3, h4, h5, h6 => by
    have e : zftn cm aim nxt (f + 1) t s first st = if 0 ≤ zfst (fun i => aim (st.1 i / 6)) (st.2.1 - first) first then (t : Int) else zftn cm aim nxt f (t + 1) (nxt s) st.2.1 (zlev (cm s) (nxt s) (st.2.1 - first) first st) := rfl
    rw [e]
    by_cases c : 0 ≤ zfst (fun i => aim (st.1 i / 6)) (st.2.1 - first) first
    · rw [if_pos c]
      exact ⟨t, rfl, Nat.le_refl t, Nat.le_add_right t r⟩
    · rw [if_neg c]
      have hn := zfst_neg c
      have hall : ∀ i, i < st.2.1 → aim (st.1 i / 6) = false := fun i hi => by
        by_cases q : i < first
        · exact h4 i q
        · exact hn i (by omega) (by omega)
      obtain ⟨i0, hi0, ei0⟩ := (h1 x).mp h5
      cases r with
      | zero =>
        have h6 : aim (x / 6) = true := h6
        rw [← ei0, hall i0 hi0] at h6
        cases h6
      | succ r =>
        obtain ⟨e1, g1, g2⟩ := h6
        obtain ⟨L1, L2⟩ := zlev_G (cm := cm) (s := s) (nx := nxt s) (hnx s hs) (st.2.1 - first) first st (by omega)
        generalize zlev (cm s) (nxt s) (st.2.1 - first) first st = st' at L1 L2 ⊢
        have hin : ∀ i, i < st.2.1 → ∀ e1, zsc cm (st.1 i % 6) (st.1 i / 6) e1 → st'.2.2 (6 * e1 + nxt (st.1 i % 6)) = true := by
          intro i hi e1 he
          by_cases q : i < first
          · exact L1.2.1 _ (h2 i q e1 he)
          · rw [h3 i (by omega) hi] at he ⊢
            exact L2 i (by omega) (by omega) e1 he
        have hx6 := hnx (x % 6) (Nat.mod_lt _ (by decide))
        have hx' : st'.2.2 (6 * e1 + nxt (x % 6)) = true := by
          have := hin i0 hi0 e1 (by rw [ei0]; exact g1)
          rw [ei0] at this
          exact this
        obtain ⟨v, k1, k2, k3⟩ := zftn_le (cm := cm) (aim := aim) hnx r f (t + 1) (nxt s) st.2.1 st' (6 * e1 + nxt (x % 6)) (by omega) (hnx s hs) L1.1.1 (L1.2.2.1 h1) (fun i hi e2 he => by
            rw [L1.1.2 i hi] at he ⊢
            exact hin i hi e2 he) (fun i hi hi2 => L1.2.2.2 i hi hi2) (fun i hi => by rw [L1.1.2 i hi]; exact hall i hi) hx' (by
            rw [show (6 * e1 + nxt (x % 6)) % 6 = nxt (x % 6) by omega, show (6 * e1 + nxt (x % 6)) / 6 = e1 by omega]
            exact g2)
        exact ⟨v, k1, by omega, by omega⟩
theorem zMk_0 : zMk zq0 := fun x => Iff.intro (fun h => (by cases h)) (fun ⟨i, h, _⟩ => absurd h (Nat.not_lt_zero i))
section
variable {mm : zMm}
theorem xnx_lt (hI : xI mm) (s : Nat) (hs : s < 6) : xnx mm s < 6 := by
  have h6 := hI.ce.2.1
  unfold xnx zliv
  by_cases c : (mm 6 3).toNat = 0
  · rw [c]
    show (-4 : Int).toNat < 6
    decide
  · rcases zfind_r (al := xas mm) (n := (mm 6 3).toNat) (k := zstep1 (mm 10 4) (mm 6 3).toNat) (seat := s) (by omega) (f := (mm 6 3).toNat) (i := 1) with q | ⟨u, q, q2, q3⟩
    · rw [q]; decide
    · rw [q]; omega
theorem xrc_le (hI : xI mm) (w r : Nat) (hs : xst mm < 6) (hr : r < 31) (h : zpt (fun s e => xcm mm (xS mm s) e) (xnx mm) (zaim (xal mm) (xcm mm) w 1) r (xst mm) (xe mm)) : ∃ v : Nat, xrc mm w = v ∧ v ≤ r := by
  have hG := zqn_G zq0 (xe mm) (xst mm) hs
  obtain ⟨v, h1, h2, h3⟩ := zftn_le (cm := fun s e => xcm mm (xS mm s) e) (aim := zaim (xal mm) (xcm mm) w 1) (xnx_lt hI) r 31 0 (xst mm) 0 (zqn zq0 (6 * xe mm + xst mm)) (6 * xe mm + xst mm) hr hs (Nat.zero_le _) (hG.1.2.2.1 zMk_0) (fun i hi => absurd hi (Nat.not_lt_zero i)) (fun i _ hi2 => hG.1.2.2.2 i (Nat.zero_le i) hi2) (fun i hi => absurd hi (Nat.not_lt_zero i)) hG.2 (by
    rw [show (6 * xe mm + xst mm) % 6 = xst mm by omega, show (6 * xe mm + xst mm) / 6 = xe mm by omega]
    exact h)
  exact ⟨v, h1, by omega⟩
theorem zends_1 {e w : Nat} (he : e < 585) (hw : w < 8) (h0 : e ≠ 0) (h : zsl e % 8 = w) : zends e (w : Int) 1 = true := by
  have h8 := zsl_8 (e := e)
  unfold zends
  rw [Bool.and_eq_true, decide_eq_true_eq, decide_eq_true_eq, show 8 ^ 1 = 8 from rfl]
  exact ⟨by omega, by omega⟩
/-- what is soon can be reached by then -/
theorem xrc_soon (hI : xI mm) (hz : 0 < xlv mm) (w n : Nat) (hw : w < 8) (hn : n ≤ 5) (h : 0 < zsoon (xcm mm) (mm 9) (xS mm) (xnx mm) w n (xst mm) (xe mm)) : 0 ≤ xrc mm w ∧ xrc mm w ≤ n := by
  obtain ⟨N, st, hN2, hst, hlt, hN6, ht, htn, hal, ec, hcl, -⟩ := xst_r hI hz
  obtain ⟨r, h1, h2⟩ := zsoon_p (aim := zaim (xal mm) (xcm mm) w 1) hI.ce.2.2.2.1 (fun e he => by
    show zends (wpush e w) (w : Int) 1 = true
    exact zends_1 (wpush_lt he hw) hw (by have := wpush_pos e w; omega) (zsl_w he hw)) n (xst mm) (xe mm) (xe_lt hI.pg) h
  obtain ⟨v, h3, h4⟩ := xrc_le hI w r (by omega) (by omega) h2
  omega
/-- the last word is reached at once -/
theorem xrc_last (hI : xI mm) (hz : 0 < xlv mm) (w : Nat) (hw : w < 8) (h0 : 0 < mm 12 2) (h : mm 13 ((mm 12 2).toNat - 1) = w) : xrc mm w = 0 := by
  obtain ⟨N, st, hN2, hst, hlt, hN6, ht, htn, hal, ec, hcl, -⟩ := xst_r hI hz
  have hB : ∀ p, p < (mm 12 2).toNat → 0 ≤ mm 13 p ∧ mm 13 p < 8 := fun p hp => hI.pg.2.2 p (by omega)
  obtain ⟨y0, y1, y2, y3⟩ := zend_sl hB
  have he := xe_lt hI.pg
  have h8 := zsl_8 (e := xe mm)
  have hx : xe mm = zend (mm 13) (mm 12 2).toNat := rfl
  rw [← hx] at y0 y1 y2 y3
  have hu : 0 < (mm 12 2).toNat := by omega
  have key : xe mm ≠ 0 ∧ zsl (xe mm) % 8 = w := by
    generalize (mm 12 2).toNat = u at *
    by_cases c1 : u = 1
    · have := y1 c1; subst c1; rw [show 1 - 1 = 0 from rfl] at h; omega
    by_cases c2 : u = 2
    · have := y2 c2; have := hB 0 (by omega); subst c2; rw [show 2 - 1 = 1 from rfl] at h; omega
    by_cases c0 : u = 0
    · omega
    · have := y3 (by omega); have := hB (u - 3) (by omega); have := hB (u - 2) (by omega); omega
  obtain ⟨v, h3, h4⟩ := xrc_le hI w 0 (by omega) (by decide) (show zends (xe mm) (w : Int) 1 = true from zends_1 he hw key.1 key.2)
  omega
end
