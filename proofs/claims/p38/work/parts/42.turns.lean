theorem zfind_n {al : Nat → Bool} {n k seat : Nat} : ∀ {f i : Nat}, zfind al n k seat f i = -4 → ∀ j, i ≤ j → j < i + f → al (zpo n k seat j) = false
  | 0, i, _, j, a, b => absurd b (by omega)
  | f + 1, i, h, j, a, b => by
    unfold zfind at h
    cases q : al (zpo n k seat i) with
    | true =>
      rw [q] at h
      simp only [if_true] at h
      omega
    | false =>
      rw [q] at h
      simp only [Bool.false_eq_true, if_false] at h
      by_cases r : j = i
      · rw [r]; exact q
      · exact zfind_n h j (by omega) (by omega)
/-- behind a seat whose cell lives there is one whose cell lives -/
theorem zliv_al {al : Nat → Bool} {n k s : Nat} (hs : s < n) (ha : al s = true) : ∃ t : Nat, zliv al n k s = t ∧ t < n ∧ al t = true := by
  rcases zfind_r (al := al) (n := n) (k := k) (seat := s) (show 0 < n by omega) (f := n) (i := 1) with h | h
  · have := zfind_n h n (by omega) (by omega)
    have e : zpo n k s n = s := by
      unfold zpo
      rw [Nat.add_mul_mod_self_left, Nat.mod_eq_of_lt hs]
    rw [e, ha] at this
    cases this
  · exact h
/-- a turn's states, from one on -/
def zlev (cm : Nat → Nat → Bool) (nx : Nat) : Nat → Nat → zQ → zQ
  | 0, _, st => st
  | f + 1, i, st => zlev cm nx f (i + 1) (zspr (cm (st.1 i / 6)) (st.1 i / 6) nx st)
theorem zlev_s (cm : Nat → Nat → Bool) (nx f i : Nat) (st : zQ) : zlev cm nx (f + 1) i st = zlev cm nx f (i + 1) (zspr (cm (st.1 i / 6)) (st.1 i / 6) nx st) := rfl
/-- growing: what is found stays -/
def zQg (a b : zQ) : Prop := a.2.1 ≤ b.2.1 ∧ ∀ i, i < a.2.1 → b.1 i = a.1 i
theorem zQg_r (a : zQ) : zQg a a := ⟨Nat.le_refl _, fun _ _ => rfl⟩
theorem zQg_t {a b c : zQ} (h : zQg a b) (h2 : zQg b c) : zQg a c := ⟨Nat.le_trans h.1 h2.1, fun i hi => (h2.2 i (Nat.lt_of_lt_of_le hi h.1)).trans (h.2 i hi)⟩
theorem zqn_g (st : zQ) (c : Nat) : zQg st (zqn st c) := by
  unfold zqn
  cases hp : st.2.2 c with
  | true => exact zQg_r st
  | false =>
    refine ⟨Nat.le_succ _, fun i hi => ?_⟩
    show (if i = st.2.1 then c else st.1 i) = st.1 i
    rw [if_neg (by omega)]
theorem zspw_g {cm : Nat → Bool} {e nx : Nat} : ∀ {f w : Nat} {st : zQ}, zQg st (zspw cm e nx f w st)
  | 0, _, st => zQg_r st
  | f + 1, w, st => by
    rw [zspw_s]
    refine zQg_t ?_ zspw_g
    split
    · exact zqn_g _ _
    · exact zQg_r st
theorem zspr_g {cm : Nat → Bool} {e nx : Nat} {st : zQ} : zQg st (zspr cm e nx st) := by
  unfold zspr
  refine zQg_t ?_ zspw_g
  split
  · exact zqn_g _ _
  · exact zQg_r st
theorem zlev_ok {cm : Nat → Nat → Bool} {nx : Nat} (hx : nx < 6) : ∀ {f i : Nat} {st : zQ}, i + f ≤ st.2.1 → zQok st → zQok (zlev cm nx f i st)
  | 0, _, _, _, h => h
  | f + 1, i, st, hi, h => by
    rw [zlev_s]
    have := h.2 i (by omega)
    have g := zspr_g (cm := cm (st.1 i / 6)) (e := st.1 i / 6) (nx := nx) (st := st)
    exact zlev_ok hx (by have := g.1; omega) (zspr_ok (by omega) hx h)
theorem zlev_g {cm : Nat → Nat → Bool} {nx : Nat} : ∀ {f i : Nat} {st : zQ}, zQg st (zlev cm nx f i st)
  | 0, _, st => zQg_r st
  | f + 1, i, st => by
    rw [zlev_s]
    exact zQg_t zspr_g zlev_g
/-- the fewest turns -/
def zftn (cm : Nat → Nat → Nat → Bool) (aim : Nat → Bool) (nxt : Nat → Nat) : Nat → Nat → Nat → Nat → zQ → Int
  | 0, _, _, _, _ => -4
  | f + 1, t, s, first, st => if 0 ≤ zfst (fun i => aim (st.1 i / 6)) (st.2.1 - first) first then (t : Int) else zftn cm aim nxt f (t + 1) (nxt s) st.2.1 (zlev (cm s) (nxt s) (st.2.1 - first) first st)
section
variable {mm : zMm}
theorem s_level (d s nx last t : Nat) (words n : Int) (hs : (s : Int) < mm 6 3) (hx : nx < 6) (hS : zSe (mm 11) (mm 6 3)) (hce : zCe (mm 7) (mm 9) (mm 8) (mm 6 3)) (ht : zTg (mm 3) (mm 4) (mm 5) (mm 2 3)) (hl : last ≤ 3510) (ht30 : t ≤ 30) : ∀ (f i : Nat) (st : zQ) (m : zMm), i + f = last → last ≤ st.2.1 → zFr m mm → zQok st → zCS st m →
    ∃ m', zR (d + 5) 34 113 [some (.inr (.inr 33)), some (.inr (.inr 1)), some (.inl words), some (.inl n), some (.inl (s : Int)), none, some (.inl (t : Int)), some (.inl (last : Int)), some (.inl (nx : Int)), some (.inl (i : Int))] [] SH m = zR (d + 5) 34 68 [some (.inr (.inr 33)), some (.inr (.inr 1)), some (.inl words), some (.inl n), some (.inl (nx : Int)), some (.inl (last : Int)), some (.inl ((t + 1 : Nat) : Int)), some (.inl (last : Int)), some (.inl (nx : Int)), some (.inl (last : Int))] [] SH m' ∧ zCS (zlev (fun e => xcm mm (mm 11 s).toNat e) nx f i st) m' ∧ zFr m' mm
  | 0, i, st, m, h, h2, hf, ho, hc => by
    obtain rfl : i = last := by omega
    exact ⟨m, by rw [zb_X3_fewestTurns_113, if_neg (by omega), show zw ((t : Int) + 1) = ((t + 1 : Nat) : Int) by rw [zw_id (by omega) (by omega)]; omega], hc, hf⟩
  | f + 1, i, st, m, h, h2, hf, ho, hc => by
    have e1 : zw ((i : Int) + 1) = ((i + 1 : Nat) : Int) := by rw [zw_id (by omega) (by omega)]; omega
    have hq := ho.2 i (by omega)
    have hsl : zL (d + 5) 36 [.inr (.inr 33), .inl (i : Int)] SH m = zok (zsl (st.1 i / 6)) m := by
      rw [ze_X3_slipAt, zb_X3_slipAt_0]
      simp (disch := omega) only [if_pos, if_neg, Int.toNat_natCast]
      rw [hc.2.1 i (by omega)]
    obtain ⟨m1, x1, x2, x3⟩ := s_spread (mm := mm) (d + 1) (st.1 i / 6) s nx st m hf hs (by omega) hx hS hce ht ho hc
    have g := zspr_g (cm := xcm mm (mm 11 s).toNat (st.1 i / 6)) (e := st.1 i / 6) (nx := nx) (st := st)
    obtain ⟨m2, y1, y2, y3⟩ := s_level d s nx last t words n hs hx hS hce ht hl ht30 f (i + 1) _ m1 (by omega) (Nat.le_trans h2 g.1) (zFr_t x3 hf) (zspr_ok (by omega) hx ho) x2
    refine ⟨m2, ?_, y2, y3⟩
    rw [zb_X3_fewestTurns_113, if_pos (by omega), hsl, zcI_ok, zb_X3_fewestTurns_128, x1, zcV_vd, zb_X3_fewestTurns_135, e1]
    exact y1
theorem f_seatBehind (d s n : Nat) {m : zMm} (hf : zFr m mm) (hnn : mm 6 3 = n) (hn : xN mm) (hS : zSe (mm 11) (mm 6 3)) (hs : s < n) : zL (d + 4) 55 [.inr (.inr 10), .inl s] SH m = zok (zliv (xas mm) n (zstep1 (mm 10 4) n) s) m := by
  have g : ∀ k, k < 33 → m k = mm k := fun k hk => hf k (by omega) (by omega) (by omega)
  have e1 : xas m = xas mm := by unfold xas xal; rw [g 6 (by decide), g 8 (by decide), g 11 (by decide)]
  have := s_seatBehind (mm := m) d s n (by rw [g 6 (by decide)]; exact hnn) (by unfold xN; rw [g 6 (by decide)]; exact hn) (by rw [g 6 (by decide), g 11 (by decide)]; exact hS) (Or.inl hs)
  rw [e1, g 10 (by decide)] at this
  exact this
theorem s_turns (d n : Nat) (words : Int) (k : Nat) (hk : k ≤ 3) (hnn : mm 6 3 = n) (hS : zSe (mm 11) (mm 6 3)) (hce : zCe (mm 7) (mm 9) (mm 8) (mm 6 3)) (ht : zTg (mm 3) (mm 4) (mm 5) (mm 2 3)) : ∀ (f t s first : Nat) (st : zQ) (m : zMm) (j8 j9 : Option zV), t + f = 31 → s < n → xas mm s = true → first ≤ st.2.1 → zFr m mm → zQok st → zCS st m →
    ∃ m', zR (d + 5) 34 68 [some (.inr (.inr 33)), some (.inr (.inr 1)), some (.inl words), some (.inl (k : Int)), some (.inl (s : Int)), some (.inl (first : Int)), some (.inl (t : Int)), none, none, none] [] SH m = zok (zftn (fun s e => xcm mm (mm 11 s).toNat e) (zaim (xal mm) (xcm mm) words k) (fun s => (zliv (xas mm) n (zstep1 (mm 10 4) n) s).toNat) f t s first st) m' ∧ zFr m' mm
  | 0, t, s, first, st, m, j8, j9, h, hs, hal, h1, hf, ho, hc => ⟨m, by rw [zb_X3_fewestTurns_68, if_pos (by omega)]; rfl, hf⟩
  | f + 1, t, s, first, st, m, j8, j9, h, hs, hal, h1, hf, ho, hc => by
    have hn : xN mm := ⟨hce.1, hce.2.1⟩
    have hn6 := hn.2
    have hle : (st.2.1 : Int) ≤ 3510 := by rw [ho.1]; exact (zcnt_r _ _).2
    rw [zb_X3_fewestTurns_68, if_neg (by omega), hc.1, s_hasAim (mm := mm) d first words k hk st m hf hce ht ho hc h1, zcI_ok, zb_X3_fewestTurns_92]
    unfold zftn
    by_cases c : 0 ≤ zfst (fun i => zaim (xal mm) (xcm mm) words k (st.1 i / 6)) (st.2.1 - first) first
    · rw [if_pos c, if_neg (by decide), if_pos c]
      exact ⟨m, rfl, hf⟩
    · obtain ⟨nx, e2, e3, e4⟩ := zliv_al (k := zstep1 (mm 10 4) n) hs hal
      rw [if_neg c, if_pos rfl, if_neg c, f_seatBehind (mm := mm) (d + 1) s n hf hnn hn hS hs, zcI_ok, zb_X3_fewestTurns_107, e2]
      simp only [e2, Int.toNat_natCast]
      obtain ⟨m1, x1, x2, x3⟩ := s_level (mm := mm) d s nx st.2.1 t words k (by omega) (by omega) hS hce ht (by omega) (by omega) (st.2.1 - first) first st m (by omega) (Nat.le_refl _) hf ho hc
      have g := zlev_g (cm := fun e => xcm mm (mm 11 s).toNat e) (nx := nx) (f := st.2.1 - first) (i := first) (st := st)
      have ok := zlev_ok (cm := fun e => xcm mm (mm 11 s).toNat e) (nx := nx) (show nx < 6 by omega) (f := st.2.1 - first) (i := first) (st := st) (by omega) ho
      obtain ⟨m2, y1, y2⟩ := s_turns d n words k hk hnn hS hce ht f (t + 1) nx st.2.1 _ m1 none none (by omega) e3 e4 g.1 x3 ok x2
      refine ⟨m2, ?_, y2⟩
      exact zR_weak (by repeat first | exact zle_nil | apply zle_c | apply zle_n) (x1.trans (zR_weak (by repeat first | exact zle_nil | apply zle_c | apply zle_n) y1))
end
