theorem zfst_app (P : Nat → Bool) : ∀ (a b i : Nat), zfst P (a + b) i = if 0 ≤ zfst P a i then zfst P a i else zfst P b (i + a)
  | 0, b, i => by
    rw [Nat.zero_add, show zfst P 0 i = -4 from rfl, if_neg (by decide)]
    rfl
  | a + 1, b, i => by
    rw [show a + 1 + b = (a + b) + 1 by omega, zfst_s, zfst_s]
    cases h : P i with
    | true => rw [if_pos rfl, if_pos rfl, if_pos (by omega)]
    | false =>
      simp only [Bool.false_eq_true, if_false]
      rw [zfst_app P a b (i + 1), show i + 1 + a = i + (a + 1) by omega]
/-- all states, level by level -/
def zfin (cm : Nat → Nat → Nat → Bool) (nxt : Nat → Nat) : Nat → Nat → Nat → zQ → zQ
  | 0, _, _, st => st
  | f + 1, s, first, st => zfin cm nxt f (nxt s) st.2.1 (zlev (cm s) (nxt s) (st.2.1 - first) first st)
section
variable {m mm : zMm}
theorem t_flevel (d s nx N last t : Nat) (hN : mm 6 3 = N) (hI : xI mm) (hsN : s < N) (hx : zliv (xas mm) N (zstep1 (mm 10 4) N) s = nx) (hnx : nx < 6) (ht : t < 30) : ∀ (f i : Nat) (st : zQ) (L : Nat → Nat) (m : zMm), mR m mm → i + f = last → last ≤ st.2.1 → zQok st → zMS st L m → (∀ j, i ≤ j → j < last → L j = t ∧ st.1 j % 6 = s) →
    ∃ (m' : zMm) (L' : Nat → Nat), (∀ r, zR (d + 5) 171 50 [some (.inr (.inr 45)), some (.inl (last : Int)), none, none, none, none, none, none] [] SH m' = some r → zR (d + 5) 171 50 [some (.inr (.inr 45)), some (.inl (i : Int)), none, none, none, none, none, none] [] SH m = some r) ∧ zMS (zlev (fun e => xcm mm (mm 11 s).toNat e) nx f i st) L' m' ∧ zGr (t + 1) nx st L (zlev (fun e => xcm mm (mm 11 s).toNat e) nx f i st) L' ∧ zFm m' m := by
  intro f
  induction f with
  | zero =>
    intro i st L m hr h hl ho hm hL
    obtain rfl : i = last := by omega
    exact ⟨m, L, fun r h => h, hm, zGr_r _ _ _ _, zFm_r m⟩
  | succ f ih =>
    intro i st L m hr h hl ho hm hL
    have hi := hL i (Nat.le_refl i) (by omega)
    obtain ⟨m1, L1, x1, x2, x3, x4⟩ := t_fstep d i s nx N st L m hN hI hr (by omega) ho hm hi.2 hsN hx hnx (by omega)
    have hq := ho.2 i (by omega)
    rw [hi.1] at x3
    obtain ⟨m2, L2, y1, y2, y3, y4⟩ := ih (i + 1) _ L1 m1 (mR_Fm hr x4) (by omega) (Nat.le_trans hl x3.1.1) (zspr_ok (by omega) hnx ho) x2 (fun j a b => by
      have := hL j (by omega) b
      rw [x3.2.1 j (by omega), x3.1.2 j (by omega)]
      exact this)
    exact ⟨m2, L2, fun r h => x1 r (y1 r h), y2, zGr_t x3 y3, zFm_t y4 x4⟩
theorem t_levels (d N : Nat) (hN : mm 6 3 = N) (hI : xI mm) : ∀ (f t s first : Nat) (st : zQ) (L : Nat → Nat) (m : zMm), t + f = 30 → s < N → xas mm s = true → mR m mm → first ≤ st.2.1 → zQok st → zMS st L m → (∀ j, first ≤ j → j < st.2.1 → L j = t ∧ st.1 j % 6 = s) →
    ∃ (m' : zMm) (F : zQ) (L' : Nat → Nat), zR (d + 5) 171 50 [some (.inr (.inr 45)), some (.inl (first : Int)), none, none, none, none, none, none] [] SH m = zvd m' ∧ zMS F L' m' ∧ zQok F ∧ zFm m' m ∧ zQg st F ∧ (∀ i, i < st.2.1 → L' i = L i) ∧ ∀ aim : Nat → Bool, zftn (fun s e => xcm mm (mm 11 s).toNat e) aim (fun s => (zliv (xas mm) N (zstep1 (mm 10 4) N) s).toNat) (f + 1) t s first st = if 0 ≤ zfst (fun i => aim (F.1 i / 6)) (F.2.1 - first) first then ((L' (zfst (fun i => aim (F.1 i / 6)) (F.2.1 - first) first).toNat : Nat) : Int) else -4 := by
  have h6 := hI.ce.2.1
  intro f
  induction f with
  | zero =>
    intro t s first st L m h hs ha hr hf ho hm hL
    obtain ⟨nx, e2, e3, e4⟩ := zliv_al (k := zstep1 (mm 10 4) N) hs ha
    refine ⟨m, st, L, ?_, hm, ho, zFm_r m, zQg_r st, fun _ _ => rfl, fun aim => ?_⟩
    · exact t_flast d N st L m hN hI hr ho hm (st.2.1 - first) first (by omega) (fun i a b => by
        have := hL i a b
        refine ⟨by omega, by rw [this.2]; exact hs, nx, by rw [this.2]; exact e2⟩)
    · unfold zftn
      rcases zfst_r (fun i => aim (st.1 i / 6)) (st.2.1 - first) first with q | ⟨j, q, q1, q2, q3⟩
      · rw [q, if_neg (by decide), if_neg (by decide)]
        rfl
      · rw [q, if_pos (by omega), if_pos (by omega), Int.toNat_natCast, (hL j q1 (by omega)).1]
  | succ f ih =>
    intro t s first st L m h hs ha hr hf ho hm hL
    obtain ⟨nx, e2, e3, e4⟩ := zliv_al (k := zstep1 (mm 10 4) N) hs ha
    obtain ⟨m1, L1, x1, x2, x3, x4⟩ := t_flevel d s nx N st.2.1 t hN hI hs e2 (by omega) (by omega) (st.2.1 - first) first st L m hr (by omega) (Nat.le_refl _) ho hm hL
    have ok := zlev_ok (cm := fun e => xcm mm (mm 11 s).toNat e) (nx := nx) (show nx < 6 by omega) (f := st.2.1 - first) (i := first) (st := st) (by omega) ho
    obtain ⟨m2, F, L2, y1, y2, y3, y4, y5, y6, y7⟩ := ih (t + 1) nx st.2.1 _ L1 m1 (by omega) e3 e4 (mR_Fm hr x4) x3.1.1 ok x2 (fun j a b => x3.2.2 j a b)
    refine ⟨m2, F, L2, x1 _ y1, y2, y3, zFm_t y4 x4, zQg_t x3.1 y5, fun i hi => ?_, fun aim => ?_⟩
    · rw [y6 i (Nat.lt_of_lt_of_le hi x3.1.1), x3.2.1 i hi]
    · have g := zQg_t x3.1 y5
      have hap := zfst_app (fun i => aim (F.1 i / 6)) (st.2.1 - first) (F.2.1 - st.2.1) first
      rw [show st.2.1 - first + (F.2.1 - st.2.1) = F.2.1 - first by have := g.1; omega, show first + (st.2.1 - first) = st.2.1 by omega, zfst_cong (P := fun i => aim (F.1 i / 6)) (Q := fun i => aim (st.1 i / 6)) (f := st.2.1 - first) (i := first) (fun j a b => by show aim (F.1 j / 6) = aim (st.1 j / 6); rw [g.2 j (by omega)])] at hap
      unfold zftn
      rcases zfst_r (fun i => aim (st.1 i / 6)) (st.2.1 - first) first with q | ⟨j, q, q1, q2, q3⟩
      · rw [q, if_neg (by decide)] at hap
        rw [q, if_neg (by decide), hap]
        have := y7 aim
        simp only [e2, Int.toNat_natCast]
        exact this
      · rw [q, if_pos (by omega)] at hap
        rw [hap, q, if_pos (by omega), if_pos (by omega), Int.toNat_natCast, y6 j (by have := x3.1.1; omega), x3.2.1 j (by omega), (hL j q1 (by omega)).1]
/-- the rows of the search, cleared so far -/
def zwc57 (m : zMm) (i : Nat) : zMm := fun k j => if k = 57 ∧ j < i then -1 else m k j
theorem zwc57_s (m : zMm) (i : Nat) : zu (zwc57 m i) 57 i (-1) = zwc57 m (i + 1) := by
  funext k j
  unfold zu zwc57
  by_cases k1 : k = 57
  · subst k1
    by_cases q : j = i
    · subst q; simp
    · by_cases r : j < i
      · simp [q, r, show j < i + 1 by omega]
      · simp [q, r, show ¬ j < i + 1 by omega]
  · simp [k1]
theorem t_findStates (d N st0 t : Nat) (hN : mm 6 3 = N) (hst : mm 10 2 = st0) (hs : st0 < N) (ht : zturn (xas mm) N (zstep1 (mm 10 4) N) st0 = t) (htn : t < N) (hal : xas mm t = true) (hr : mR m mm) (hI : xI mm) :
    ∃ (m' : zMm) (F : zQ) (L' : Nat → Nat), zL (d + 6) 171 [.inr (.inr 45)] SH m = zvd m' ∧ zMS F L' m' ∧ zQok F ∧ zFm m' m ∧ ∀ aim : Nat → Bool, zftn (fun s e => xcm mm (mm 11 s).toNat e) aim (fun s => (zliv (xas mm) N (zstep1 (mm 10 4) N) s).toNat) 31 0 t 0 (zqn zq0 (6 * xe mm + t)) = if 0 ≤ zfst (fun i => aim (F.1 i / 6)) F.2.1 0 then ((L' (zfst (fun i => aim (F.1 i / 6)) F.2.1 0).toNat : Nat) : Int) else -4 := by
  have h6 := hI.ce.2.1
  have h60 := hI.pg.2.1
  have h0 := hI.pg.1
  have he := xe_lt hI.pg
  have hlt : 6 * xe mm + t < 3510 := by omega
  have hf0 : zFm (zu (zwc57 m 3510) 45 23 0) m := by
    refine ⟨fun k a b c => ?_, fun j hj => ?_⟩
    · rw [zu_k _ _ a]
      funext j
      unfold zwc57
      rw [if_neg (fun q => b q.1)]
    · rw [zu_j _ _ hj]
      unfold zwc57
      rw [if_neg (fun q => absurd q.1 (by decide))]
  have hm0 : zMS zq0 (fun _ => 0) (zu (zwc57 m 3510) 45 23 0) := by
    refine ⟨zu_s _ _ _ _, fun i hi => absurd hi (Nat.not_lt_zero i), fun c hc _ => ?_, fun c hc h => by cases h⟩
    rw [zu_k _ _ (by decide)]
    unfold zwc57
    rw [if_pos ⟨rfl, hc⟩]
  have hr0 := mR_Fm hr hf0
  have hend := t_endAt (m := zu (zwc57 m 3510) 45 23 0) (d + 2) (mm 12 2).toNat hr0 hI (by omega)
  have hts := t_turnSeat (m := zu (zwc57 m 3510) 45 23 0) (d + 3) N st0 t hN hst hs ht hr0 hI
  rw [show (((mm 12 2).toNat : Nat) : Int) = mm 12 2 by omega] at hend
  obtain ⟨m1, x1, x2, x3⟩ := t_reachTo (d + 4) (6 * xe mm + t) 0 zq0 (fun _ => 0) _ hlt zq0_ok hm0
  obtain ⟨m2, F, L2, y1, y2, y3, y4, y5, y6, y7⟩ := t_levels d N hN hI 30 0 t 0 _ _ m1 rfl htn hal (mR_Fm hr0 x3) (Nat.zero_le _) (zqn_ok zq0_ok hlt) x2 (fun j a b => (zGr_n 0 t (6 * xe mm + t) zq0 (fun _ => 0) (by omega)).2.2 j a b)
  refine ⟨m2, F, L2, ?_, y2, y3, zFm_t y4 (zFm_t x3 hf0), y7⟩
  have key : ∀ i : Nat, i ≤ 3510 → zR (d + 5) 171 2 [some (.inr (.inr 45)), some (.inl (i : Int)), none, none, none, none, none, none] [] SH (zwc57 m i) = zvd m2 := by
    refine zup ?_ ?_
    · have e11 : zwc57 m 3510 45 11 = mm 12 2 := by
        rw [← hr.sz]
        unfold zwc57
        rw [if_neg (fun q => absurd q.1 (by decide))]
      rw [zb_X9_findStates_2, if_neg (by decide), e11, hend, zcI_ok, zb_X9_findStates_38, hts, zcI_ok, zb_X9_findStates_43]
      change zcV (zL (d + 5) _ [_, .inl (zw (zw (6 * ((xe mm : Nat) : Int)) + (t : Int))), _] _ _) _ = _
      rw [show zw (zw (6 * ((xe mm : Nat) : Int)) + (t : Int)) = ((6 * xe mm + t : Nat) : Int) by rw [zw_id (x := 6 * ((xe mm : Nat) : Int)) (by omega) (by omega), zw_id (by omega) (by omega)]; omega]
      refine (congrArg (fun r => zcV r _) x1).trans ?_
      rw [zcV_vd, zb_X9_findStates_48]
      exact zR_weak (by repeat first | exact zle_nil | apply zle_c | apply zle_n) y1
    · intro i hi ih
      rw [zb_X9_findStates_2, if_pos (by omega), if_pos (by omega), Int.toNat_natCast, zwc57_s, zw_inc i (by omega)]
      exact ih
  have e0 : zwc57 m 0 = m := by
    funext k j
    unfold zwc57
    simp
  have k0 := key 0 (by omega)
  rw [e0] at k0
  rw [ze_X9_findStates, zb_X9_findStates_0]
  exact k0
end
