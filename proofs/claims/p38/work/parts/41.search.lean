theorem zcnt_lt {P : Nat → Bool} {c : Nat} (h : P c = false) : ∀ {n : Nat}, c < n → zcnt P n < n
  | n + 1, hn => by
    have := zcnt_r P n
    rw [zcnt_s]
    by_cases q : c = n
    · subst q
      rw [h]
      simp only [Bool.false_eq_true, if_false]
      omega
    · have := zcnt_lt h (show c < n by omega)
      split <;> omega
theorem zcnt_up {P : Nat → Bool} {c : Nat} (h : P c = false) : ∀ {n : Nat}, c < n → zcnt (fun x => P x || decide (x = c)) n = zcnt P n + 1
  | n + 1, hn => by
    rw [zcnt_s, zcnt_s]
    by_cases q : c = n
    · subst q
      rw [h, zcnt_cong (P := fun x => P x || decide (x = c)) (Q := P) (fun j hj => by simp [show j ≠ c by omega])]
      simp
    · rw [zcnt_up h (show c < n by omega)]
      simp only [show decide (n = c) = false by simp; omega, Bool.or_false]
      split <;> omega
/-- the states found: the row of them, how many, which -/
def zQ := (Nat → Nat) × Nat × (Nat → Bool)
def zqn (st : zQ) (c : Nat) : zQ := if st.2.2 c then st else (fun i => if i = st.2.1 then c else st.1 i, st.2.1 + 1, fun x => st.2.2 x || decide (x = c))
def zQok (st : zQ) : Prop := (st.2.1 : Int) = zcnt st.2.2 3510 ∧ ∀ i, i < st.2.1 → st.1 i < 3510
theorem zqn_ok {st : zQ} {c : Nat} (h : zQok st) (hc : c < 3510) : zQok (zqn st c) := by
  unfold zqn
  cases hp : st.2.2 c with
  | true => simpa using h
  | false =>
    simp only [Bool.false_eq_true, if_false]
    refine ⟨?_, fun i hi => ?_⟩
    · show ((st.2.1 + 1 : Nat) : Int) = zcnt (fun x => st.2.2 x || decide (x = c)) 3510
      rw [zcnt_up hp hc, ← h.1]
      omega
    · show (if i = st.2.1 then c else st.1 i) < 3510
      have hi : i < st.2.1 + 1 := hi
      split
      · exact hc
      · exact h.2 i (by omega)
theorem zQ_lt {st : zQ} {c : Nat} (h : zQok st) (hc : c < 3510) (hp : st.2.2 c = false) : st.2.1 < 3510 := by
  have := zcnt_lt hp hc
  have := h.1
  omega
/-- what is looked at of a memory beside the search's own rows -/
def zFr (m mm : zMm) : Prop := ∀ k, k ≠ 33 → k ≠ 34 → k ≠ 35 → m k = mm k
theorem zFr_r (mm : zMm) : zFr mm mm := fun _ _ _ _ => rfl
theorem zFr_t {a b c : zMm} (h : zFr a b) (h2 : zFr b c) : zFr a c := fun k x y z => (h k x y z).trans (h2 k x y z)
/-- the class's rows of the search -/
def zCS (st : zQ) (m : zMm) : Prop := m 33 2 = st.2.1 ∧ (∀ i, i < st.2.1 → m 34 i = zsl (st.1 i / 6)) ∧ ∀ e, e < 585 → m 35 (zsl e) = mks (fun s => st.2.2 (6 * e + s)) 6
theorem mks_64 (P : Nat → Bool) : 0 ≤ mks P 6 ∧ mks P 6 < 64 := by
  unfold mks mks mks mks mks mks mks
  cases P 0 <;> cases P 1 <;> cases P 2 <;> cases P 3 <;> cases P 4 <;> cases P 5 <;> decide +kernel
theorem zi2b_id {x : Int} (h0 : 0 ≤ x) (h1 : x < 128) : zi2b x = x := by
  have : ∀ n, n < 128 → zi2b (n : Nat) = (n : Nat) := by decide +kernel
  obtain ⟨n, rfl⟩ : ∃ n : Nat, x = n := ⟨x.toNat, by omega⟩
  exact this n (by omega)
theorem s_note (d e s : Nat) (st : zQ) (m : zMm) (he : e < 585) (hs : s < 6) (ho : zQok st) (h : zCS st m) : ∃ m', zL (d + 2) 38 [.inr (.inr 33), .inl (zsl e), .inl s] SH m = zvd m' ∧ zCS (zqn st (6 * e + s)) m' ∧ zFr m' m := by
  obtain ⟨h1, h2, h3⟩ := h
  have hr := zsl_r he
  have hz := mks_64 (fun s => st.2.2 (6 * e + s))
  by_cases hp : st.2.2 (6 * e + s) = true
  · have hle : (st.2.1 : Int) ≤ 3510 := by rw [ho.1]; exact (zcnt_r _ _).2
    refine ⟨m, ?_, ?_, zFr_r m⟩
    · rw [ze_X3_note, zb_X3_note_0, if_neg (by omega), if_pos (by omega), h1, if_neg (by omega)]
      by_cases c : (st.2.1 : Int) < 3510
      · rw [if_pos c, if_pos (by omega), Int.toNat_natCast, h3 e he, s_holds d _ s (by omega), zcI_ok, zb_X3_note_41, mks_bit _ 6 (by decide), hp, decide_eq_true hs]
        rfl
      · rw [if_neg c]
    · unfold zqn
      rw [hp]
      exact (⟨h1, h2, h3⟩ : zCS st m)
  · have hp : st.2.2 (6 * e + s) = false := by simpa using hp
    have hlt := zQ_lt ho (show 6 * e + s < 3510 by omega) hp
    have es : zi2b (zshl 1 (s : Int)) = zshl 1 s := by
      have : ∀ s, s < 6 → zi2b (zshl 1 ((s : Nat) : Int)) = zshl 1 (s : Nat) := by decide +kernel
      exact this s hs
    have hz2 := mks_64 (fun j => st.2.2 (6 * e + j) || decide (j = s))
    refine ⟨zu (zu (zu m 35 (zsl e) (mks (fun j => st.2.2 (6 * e + j) || decide (j = s)) 6)) 34 st.2.1 (zsl e)) 33 2 ((st.2.1 : Int) + 1), ?_, ?_, ?_⟩
    · rw [ze_X3_note, zb_X3_note_0, if_neg (by omega), if_pos (by omega), h1, if_neg (by omega), if_pos (by omega), if_pos (by omega), Int.toNat_natCast, h3 e he, s_holds d _ s (by omega), zcI_ok, zb_X3_note_41, mks_bit _ 6 (by decide), hp, Bool.and_false, if_pos (by simp), if_pos (by omega), if_pos (by omega), h1, if_pos (by omega), Int.toNat_natCast, Int.toNat_natCast, h3 e he, es, mks_or1 _ (by decide) hs, zi2b_id hz2.1 (by omega), zi2b_id hz2.1 (by omega), zw_id (by omega) (by omega)]
    · unfold zqn
      rw [hp]
      simp only [Bool.false_eq_true, if_false]
      refine ⟨?_, fun i hi => ?_, fun e' he' => ?_⟩
      · rw [zu_s]
        show (st.2.1 : Int) + 1 = ((st.2.1 + 1 : Nat) : Int)
        omega
      · show zu _ 33 2 _ 34 i = ((zsl ((if i = st.2.1 then 6 * e + s else st.1 i) / 6) : Nat) : Int)
        have hi : i < st.2.1 + 1 := hi
        rw [zu_k _ _ (by decide)]
        by_cases q : i = st.2.1
        · rw [q, zu_s, if_pos rfl, show (6 * e + s) / 6 = e by omega]
        · rw [zu_j _ _ q, if_neg q, zu_k _ _ (by decide)]
          exact h2 i (by omega)
      · show zu _ 33 2 _ 35 (zsl e') = mks (fun s' => st.2.2 (6 * e' + s') || decide (6 * e' + s' = 6 * e + s)) 6
        rw [zu_k _ _ (by decide), zu_k _ _ (by decide)]
        by_cases q : e' = e
        · subst q
          rw [zu_s]
          exact mks_cong fun j _ => by simp
        · rw [zu_j _ _ (fun z => q (zsl_inj z he' he)), h3 e' he']
          exact mks_cong fun j hj => by simp [show ¬ (6 * e' + j = 6 * e + s) by omega]
    · intro k k3 k4 k5
      rw [zu_k _ _ k3, zu_k _ _ k4, zu_k _ _ k5]
/-- what comes of a state -/
def zspw (cm : Nat → Bool) (e nx : Nat) : Nat → Nat → zQ → zQ
  | 0, _, st => st
  | f + 1, w, st => zspw cm e nx f (w + 1) (if cm w then zqn st (6 * wpush e w + nx) else st)
theorem zspw_s (cm : Nat → Bool) (e nx f w : Nat) (st : zQ) : zspw cm e nx (f + 1) w st = zspw cm e nx f (w + 1) (if cm w then zqn st (6 * wpush e w + nx) else st) := rfl
def zspr (cm : Nat → Bool) (e nx : Nat) (st : zQ) : zQ := zspw cm e nx 8 0 (if mks cm 8 = 0 then zqn st (6 * e + nx) else st)
theorem zspw_ok {cm : Nat → Bool} {e nx : Nat} (he : e < 585) (hx : nx < 6) : ∀ {f w : Nat} {st : zQ}, w + f = 8 → zQok st → zQok (zspw cm e nx f w st)
  | 0, _, _, _, h => h
  | f + 1, w, st, hw, h => by
    rw [zspw_s]
    refine zspw_ok he hx (by omega) ?_
    split
    · exact zqn_ok h (by have := wpush_lt he (show w < 8 by omega); omega)
    · exact h
theorem zspr_ok {cm : Nat → Bool} {e nx : Nat} {st : zQ} (he : e < 585) (hx : nx < 6) (h : zQok st) : zQok (zspr cm e nx st) := by
  unfold zspr
  refine zspw_ok he hx rfl ?_
  split
  · exact zqn_ok h (by omega)
  · exact h
theorem s_spread_loop (d e nx : Nat) (cm : Nat → Bool) (he : e < 585) (hx : nx < 6) : ∀ (f w : Nat) (st : zQ) (m : zMm), w + f = 8 → zQok st → zCS st m → ∃ m', zR (d + 2) 37 30 [some (.inr (.inr 33)), none, some (.inl (zsl e : Int)), none, some (.inl (nx : Int)), some (.inl (mks cm 8)), some (.inl (w : Int))] [] SH m = zvd m' ∧ zCS (zspw cm e nx f w st) m' ∧ zFr m' m
  | 0, w, st, m, h, ho, hc => ⟨m, by rw [zb_X3_spread_30, if_neg (by omega)], hc, zFr_r m⟩
  | f + 1, w, st, m, h, ho, hc => by
    have e1 : zw ((w : Int) + 1) = ((w + 1 : Nat) : Int) := by rw [zw_id (by omega) (by omega)]; omega
    rw [zb_X3_spread_30, if_pos (by omega), s_holds (d + 1) _ w (by omega), zcI_ok, zb_X3_spread_44, mks_bit cm 8 (by decide), decide_eq_true (show w < 8 by omega), Bool.true_and, e1, zspw_s]
    cases hp : cm w with
    | false =>
      rw [if_pos (by simp)]
      simp only [Bool.false_eq_true, if_false]
      exact s_spread_loop d e nx cm he hx f (w + 1) st m (by omega) ho hc
    | true =>
      rw [if_neg (by simp), s_slipWith (d + 1) he (by omega), zcI_ok, zb_X3_spread_54]
      simp only [if_true]
      have hw := wpush_lt he (show w < 8 by omega)
      obtain ⟨m1, x1, x2, x3⟩ := s_note d (wpush e w) nx st m hw hx ho hc
      rw [x1, zcV_vd, zb_X3_spread_59, e1]
      obtain ⟨m2, y1, y2, y3⟩ := s_spread_loop d e nx cm he hx f (w + 1) (zqn st (6 * wpush e w + nx)) m1 (by omega) (zqn_ok ho (by omega)) x2
      exact ⟨m2, y1, y2, zFr_t y3 x3⟩
section
variable {mm : zMm}
theorem f_canCome (d c e : Nat) {m : zMm} (hf : zFr m mm) (hc : (c : Int) < mm 6 3) (he : e < 585) (hce : zCe (mm 7) (mm 9) (mm 8) (mm 6 3)) (ht : zTg (mm 3) (mm 4) (mm 5) (mm 2 3)) : zL (d + 3) 14 [.inr (.inr 1), .inl c, .inl (zsl e)] SH m = zok (mks (xcm mm c e) 8) m := by
  have g : ∀ k, k < 33 → m k = mm k := fun k hk => hf k (by omega) (by omega) (by omega)
  have := s_canCome (mm := m) d c e (by rw [g 6 (by decide)]; exact hc) he (by rw [g 6 (by decide), g 7 (by decide), g 8 (by decide), g 9 (by decide)]; exact hce) (by rw [g 2 (by decide), g 3 (by decide), g 4 (by decide), g 5 (by decide)]; exact ht)
  unfold xcm at this ⊢
  rw [g 2 (by decide), g 3 (by decide), g 4 (by decide), g 5 (by decide), g 7 (by decide), g 9 (by decide)] at this
  exact this
theorem s_spread (d e s nx : Nat) (st : zQ) (m : zMm) (hf : zFr m mm) (hs : (s : Int) < mm 6 3) (he : e < 585) (hx : nx < 6) (hS : zSe (mm 11) (mm 6 3)) (hce : zCe (mm 7) (mm 9) (mm 8) (mm 6 3)) (ht : zTg (mm 3) (mm 4) (mm 5) (mm 2 3)) (ho : zQok st) (hc : zCS st m) : ∃ m', zL (d + 4) 37 [.inr (.inr 33), .inr (.inr 1), .inl (zsl e), .inl s, .inl nx] SH m = zvd m' ∧ zCS (zspr (xcm mm (mm 11 s).toNat e) e nx st) m' ∧ zFr m' m := by
  have g : ∀ k, k < 33 → m k = mm k := fun k hk => hf k (by omega) (by omega) (by omega)
  have hn : xN m := by unfold xN; rw [g 6 (by decide)]; exact ⟨hce.1, hce.2.1⟩
  have h11 := hS.1 s hs
  have e11 : mm 11 s = ((mm 11 s).toNat : Int) := by omega
  have hcc := f_canCome (mm := mm) d (mm 11 s).toNat e hf (by omega) he hce ht
  rw [← e11] at hcc
  rw [ze_X3_spread, zb_X3_spread_0, s_cellOn (mm := m) (d + 1) s hn (by rw [g 6 (by decide)]; exact hs), zcI_ok, zb_X3_spread_9, g 11 (by decide), hcc, zcI_ok, zb_X3_spread_13]
  unfold zspr
  by_cases c : mks (xcm mm (mm 11 s).toNat e) 8 = 0
  · obtain ⟨m1, x1, x2, x3⟩ := s_note (d + 1) e nx st m he hx ho hc
    rw [if_pos c, if_pos c, x1, zcV_vd, zb_X3_spread_27]
    obtain ⟨m2, y1, y2, y3⟩ := s_spread_loop (d + 1) e nx (xcm mm (mm 11 s).toNat e) he hx 8 0 _ m1 rfl (zqn_ok ho (show 6 * e + nx < 3510 by omega)) x2
    exact ⟨m2, zR_weak (by repeat first | exact zle_nil | apply zle_c | apply zle_n) y1, y2, zFr_t y3 x3⟩
  · rw [if_neg c, if_neg c]
    obtain ⟨m2, y1, y2, y3⟩ := s_spread_loop (d + 1) e nx (xcm mm (mm 11 s).toNat e) he hx 8 0 st m rfl ho hc
    exact ⟨m2, zR_weak (by repeat first | exact zle_nil | apply zle_c | apply zle_n) y1, y2, y3⟩
/-- the book can't go on -/
def zover (al : Nat → Bool) (cm : Nat → Nat → Nat → Bool) (e : Nat) : Bool := decide (∀ c : Nat, c < 6 → (al c && decide (mks (cm c e) 8 ≠ 0)) = false)
def zaim (al : Nat → Bool) (cm : Nat → Nat → Nat → Bool) (words : Int) (n e : Nat) : Bool := if n = 0 then zover al cm e else zends e words n
theorem f_over (d e : Nat) {m : zMm} (hf : zFr m mm) (he : e < 585) (hce : zCe (mm 7) (mm 9) (mm 8) (mm 6 3)) (ht : zTg (mm 3) (mm 4) (mm 5) (mm 2 3)) : zL (d + 4) 15 [.inr (.inr 1), .inl (zsl e)] SH m = zok (if zover (xal mm) (xcm mm) e then 1 else 0) m := by
  have g : ∀ k, k < 33 → m k = mm k := fun k hk => hf k (by omega) (by omega) (by omega)
  have e1 : xal m = xal mm := by unfold xal; rw [g 6 (by decide), g 8 (by decide)]
  have e2 : xcm m = xcm mm := by unfold xcm; rw [g 2 (by decide), g 3 (by decide), g 4 (by decide), g 5 (by decide), g 7 (by decide), g 9 (by decide)]
  have := s_hasEnded (mm := m) d e he (by rw [g 6 (by decide), g 7 (by decide), g 8 (by decide), g 9 (by decide)]; exact hce) (by rw [g 2 (by decide), g 3 (by decide), g 4 (by decide), g 5 (by decide)]; exact ht)
  rw [e1, e2] at this
  rw [this]
  unfold zover
  simp only [decide_eq_true_eq]
theorem s_hasAim (d first : Nat) (words : Int) (n : Nat) (hn : n ≤ 3) (st : zQ) (m : zMm) (hf : zFr m mm) (hce : zCe (mm 7) (mm 9) (mm 8) (mm 6 3)) (ht : zTg (mm 3) (mm 4) (mm 5) (mm 2 3)) (ho : zQok st) (hc : zCS st m) (h1 : first ≤ st.2.1) : zL (d + 5) 35 [.inr (.inr 33), .inr (.inr 1), .inl first, .inl (st.2.1 : Int), .inl words, .inl n] SH m = zok (if 0 ≤ zfst (fun i => zaim (xal mm) (xcm mm) words n (st.1 i / 6)) (st.2.1 - first) first then 1 else 0) m := by
  have hle : (st.2.1 : Int) ≤ 3510 := by rw [ho.1]; exact (zcnt_r _ _).2
  have key : ∀ (f i : Nat), i + f = st.2.1 → zR (d + 4) 35 3 [some (.inr (.inr 33)), some (.inr (.inr 1)), none, some (.inl (st.2.1 : Int)), some (.inl words), some (.inl (n : Int)), some (.inl (i : Int))] [] SH m = zok (if 0 ≤ zfst (fun i => zaim (xal mm) (xcm mm) words n (st.1 i / 6)) f i then 1 else 0) m := by
    intro f
    induction f with
    | zero =>
      intro i h
      rw [zb_X3_hasAim_3, if_neg (by omega)]
      rfl
    | succ f ih =>
      intro i h
      have e1 : zw ((i : Int) + 1) = ((i + 1 : Nat) : Int) := by rw [zw_id (by omega) (by omega)]; omega
      have hq := ho.2 i (by omega)
      have hs : zL (d + 4) 36 [.inr (.inr 33), .inl (i : Int)] SH m = zok (zsl (st.1 i / 6)) m := by
        rw [ze_X3_slipAt, zb_X3_slipAt_0]
        simp (disch := omega) only [if_pos, if_neg, Int.toNat_natCast]
        rw [hc.2.1 i (by omega)]
      rw [zb_X3_hasAim_3, if_pos (by omega), zfst_s]
      by_cases c : n = 0
      · rw [if_pos (by omega), hs, zcI_ok, zb_X3_hasAim_21, f_over (mm := mm) d _ hf (by omega) hce ht, zcI_ok, zb_X3_hasAim_24, e1]
        unfold zaim
        rw [if_pos c]
        cases hz : zover (xal mm) (xcm mm) (st.1 i / 6) with
        | true => 
          rw [if_pos rfl, if_neg (by decide), if_pos rfl, if_pos (by omega)]
        | false =>
          simp only [Bool.false_eq_true, if_false, if_true]
          rw [ih (i + 1) (by omega)]
          rfl
      · rw [if_neg (by omega), hs, zcI_ok, zb_X3_hasAim_36, s_slipEndsWith (d + 3) (by omega) (by omega), zcI_ok, zb_X3_hasAim_43, e1]
        unfold zaim
        rw [if_neg c]
        cases hz : zends (st.1 i / 6) words n with
        | true => 
          rw [if_pos rfl, if_neg (by decide), if_pos rfl, if_pos (by omega)]
        | false =>
          simp only [Bool.false_eq_true, if_false, if_true]
          rw [ih (i + 1) (by omega)]
          rfl
  rw [ze_X3_hasAim, zb_X3_hasAim_0]
  exact zR_weak (by repeat first | exact zle_nil | apply zle_c | apply zle_n) (key (st.2.1 - first) first (by omega))
end
