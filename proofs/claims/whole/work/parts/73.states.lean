/-- what was added to the states: the turn and the seat of each -/
def zGr (t nx : Nat) (a : zQ) (L : Nat → Nat) (b : zQ) (L' : Nat → Nat) : Prop := zQg a b ∧ (∀ i, i < a.2.1 → L' i = L i) ∧ ∀ i, a.2.1 ≤ i → i < b.2.1 → L' i = t ∧ b.1 i % 6 = nx
theorem zGr_r (t nx : Nat) (a : zQ) (L : Nat → Nat) : zGr t nx a L a L := ⟨zQg_r a, fun _ _ => rfl, fun i h h2 => absurd h (by omega)⟩
theorem zGr_t {t nx : Nat} {a b c : zQ} {L L1 L2 : Nat → Nat} (h : zGr t nx a L b L1) (h2 : zGr t nx b L1 c L2) : zGr t nx a L c L2 := by
  refine ⟨zQg_t h.1 h2.1, fun i hi => ?_, fun i hi hc => ?_⟩
  · rw [h2.2.1 i (Nat.lt_of_lt_of_le hi h.1.1), h.2.1 i hi]
  · by_cases q : i < b.2.1
    · rw [h2.2.1 i q, h2.1.2 i q]
      exact h.2.2 i hi q
    · exact h2.2.2 i (by omega) hc
theorem zGr_n (t nx c : Nat) (st : zQ) (L : Nat → Nat) (hc : c % 6 = nx) : zGr t nx st L (zqn st c) (zLn st L c t) := by
  refine ⟨zqn_g st c, ?_, ?_⟩
  · intro i hi
    unfold zLn
    split
    · rfl
    · show (if i = st.2.1 then t else L i) = L i
      rw [if_neg (by omega)]
  · intro i hi hc2
    unfold zqn zLn at *
    cases hp : st.2.2 c with
    | true =>
      rw [hp] at hc2
      exact absurd hi (by have : i < st.2.1 := hc2; omega)
    | false =>
      rw [hp] at hc2
      have : i < st.2.1 + 1 := hc2
      obtain rfl : i = st.2.1 := by omega
      refine ⟨if_pos rfl, ?_⟩
      show (if st.2.1 = st.2.1 then c else _) % 6 = nx
      rw [if_pos rfl]
      exact hc
section
variable {m mm : zMm}
theorem t_fwords (d q e t nx : Nat) (P : Nat → Bool) (hq : q < 3510) (ht : t < 30) (he : e < 585) (hnx : nx < 6) : ∀ (f w : Nat) (st : zQ) (L : Nat → Nat) (m : zMm), w + f = 8 → zQok st → zMS st L m →
    ∃ (m' : zMm) (L' : Nat → Nat), (∀ r, zR (d + 2) 171 50 [some (.inr (.inr 45)), some (.inl ((q + 1 : Nat) : Int)), none, none, none, none, none, none] [] SH m' = some r → zR (d + 2) 171 145 [some (.inr (.inr 45)), some (.inl (q : Int)), some (.inl (e : Int)), none, some (.inl (t : Int)), some (.inl (nx : Int)), some (.inl (mks P 8)), some (.inl (w : Int))] [] SH m = some r) ∧ zMS (zspw P e nx f w st) L' m' ∧ zGr (t + 1) nx st L (zspw P e nx f w st) L' ∧ zFm m' m := by
  intro f
  induction f with
  | zero =>
    intro w st L m h ho hm
    refine ⟨m, L, fun r hr => ?_, hm, zGr_r _ _ _ _, zFm_r m⟩
    rw [zb_X9_findStates_145, if_neg (by omega), zw_inc q (by omega)]
    exact zR_weak (by repeat first | exact zle_nil | apply zle_c | apply zle_n) hr
  | succ f ih =>
    intro w st L m h ho hm
    have hb := mks_bit P 8 (by decide) w
    rw [decide_eq_true (show w < 8 by omega), Bool.true_and] at hb
    rw [zspw_s]
    cases hp : P w with
    | false =>
      rw [if_neg (by decide)]
      obtain ⟨m', L', h1, h2, h3, h4⟩ := ih (w + 1) st L m (by omega) ho hm
      refine ⟨m', L', fun r hr => ?_, h2, h3, h4⟩
      rw [zb_X9_findStates_145, if_pos (by omega), if_pos (by omega), t_has (d + 1) (mks P 8) w (by omega), zcI_ok, zb_X9_findStates_166, hb, hp, if_pos (by simp), zw_inc w (by omega)]
      exact h1 r hr
    | true =>
      rw [if_pos rfl]
      have hw := wpush_lt he (show w < 8 by omega)
      have hlt : 6 * wpush e w + nx < 3510 := by omega
      obtain ⟨m1, x1, x2, x3⟩ := t_reachTo (d + 1) (6 * wpush e w + nx) (t + 1) st L m hlt ho hm
      obtain ⟨m', L', h1, h2, h3, h4⟩ := ih (w + 1) _ _ m1 (by omega) (zqn_ok ho hlt) x2
      refine ⟨m', L', fun r hr => ?_, h2, zGr_t (zGr_n (t + 1) nx _ st L (by omega)) h3, zFm_t h4 x3⟩
      rw [zb_X9_findStates_145, if_pos (by omega), if_pos (by omega), t_has (d + 1) (mks P 8) w (by omega), zcI_ok, zb_X9_findStates_166, hb, hp, if_neg (by simp), t_push d e w he (by omega), zcI_ok, zb_X9_findStates_178, show zw (zw (6 * ((wpush e w : Nat) : Int)) + (nx : Int)) = ((6 * wpush e w + nx : Nat) : Int) by rw [zw_id (x := 6 * ((wpush e w : Nat) : Int)) (by omega) (by omega), zw_id (by omega) (by omega)]; omega, zw_inc t (by omega), x1, zcV_vd, zb_X9_findStates_189, zw_inc w (by omega)]
      exact h1 r hr
theorem t_fstep (d q s nx N : Nat) (st : zQ) (L : Nat → Nat) (m : zMm) (hN : mm 6 3 = N) (hI : xI mm) (hr : mR m mm) (hq : q < st.2.1) (ho : zQok st) (hm : zMS st L m) (hs : st.1 q % 6 = s) (hsN : s < N) (hx : zliv (xas mm) N (zstep1 (mm 10 4) N) s = nx) (hnx : nx < 6) (ht : L q < 30) :
    ∃ (m' : zMm) (L' : Nat → Nat), (∀ r, zR (d + 5) 171 50 [some (.inr (.inr 45)), some (.inl ((q + 1 : Nat) : Int)), none, none, none, none, none, none] [] SH m' = some r → zR (d + 5) 171 50 [some (.inr (.inr 45)), some (.inl (q : Int)), none, none, none, none, none, none] [] SH m = some r) ∧ zMS (zspr (xcm mm (mm 11 s).toNat (st.1 q / 6)) (st.1 q / 6) nx st) L' m' ∧ zGr (L q + 1) nx st L (zspr (xcm mm (mm 11 s).toNat (st.1 q / 6)) (st.1 q / 6) nx st) L' ∧ zFm m' m := by
  have hle : (st.2.1 : Int) ≤ 3510 := by rw [ho.1]; exact (zcnt_r _ _).2
  have hc := ho.2 q hq
  have h2 := hm.2.1 q hq
  have h11 := hI.se.1 s (by omega)
  have h6 := hI.ce.2.1
  have e52 : m 52 s = ((mm 11 s).toNat : Int) := by rw [hr.ce]; omega
  have hset : zL (d + 5) 152 [.inr (.inr 45), .inl (((mm 11 s).toNat : Nat) : Int), .inl ((st.1 q / 6 : Nat) : Int)] SH m = zok (mks (xcm mm (mm 11 s).toNat (st.1 q / 6)) 8) m := t_comesBy (d + 1) (mm 11 s).toNat (st.1 q / 6) (by omega) (by omega) hr hI
  have hnxt : zL (d + 5) 155 [.inr (.inr 45), .inl (s : Int), .inl (m 45 13)] SH m = zok nx m := by
    rw [hr.bk]
    exact t_nextSeat (d + 4) s N nx _ hI.bk hN hsN hx hr hI
  have e0 : ∀ X, zR (d + 5) 171 50 [some (.inr (.inr 45)), some (.inl (q : Int)), none, none, none, none, none, none] [] SH m = X ↔ zR (d + 5) 171 113 [some (.inr (.inr 45)), some (.inl (q : Int)), some (.inl ((st.1 q / 6 : Nat) : Int)), some (.inl (s : Int)), some (.inl (L q : Int)), some (.inl (nx : Int)), none, none] [.inl (mks (xcm mm (mm 11 s).toNat (st.1 q / 6)) 8)] SH m = X := by
    intro X
    rw [zb_X9_findStates_50, hm.1, if_pos (by omega), if_pos (by omega), if_pos (by omega), if_pos (by omega), Int.toNat_natCast, h2.1, if_pos (by omega), Int.toNat_natCast, h2.2.2, zrem_n (by omega) (by omega) (by decide) (by decide), zdiv_n (by omega) (by omega) (by decide) (by decide), show ((st.1 q : Nat) : Int) % 6 = (s : Int) by omega, show ((st.1 q : Nat) : Int) / 6 = ((st.1 q / 6 : Nat) : Int) by omega, hnxt, zcI_ok, zb_X9_findStates_100, if_pos (by omega), Int.toNat_natCast, e52, hset, zcI_ok]
  unfold zspr
  by_cases c : mks (xcm mm (mm 11 s).toNat (st.1 q / 6)) 8 = 0
  · rw [if_pos c]
    have hlt : 6 * (st.1 q / 6) + nx < 3510 := by omega
    obtain ⟨m1, x1, x2, x3⟩ := t_reachTo (d + 4) (6 * (st.1 q / 6) + nx) (L q + 1) st L m hlt ho hm
    obtain ⟨m', L', y1, y2, y3, y4⟩ := t_fwords (d + 3) q (st.1 q / 6) (L q) nx (xcm mm (mm 11 s).toNat (st.1 q / 6)) (by omega) ht (by omega) hnx 8 0 _ _ m1 rfl (zqn_ok ho hlt) x2
    refine ⟨m', L', fun r hr => ?_, y2, zGr_t (zGr_n (L q + 1) nx _ st L (by omega)) y3, zFm_t y4 x3⟩
    rw [e0, zb_X9_findStates_113, if_pos (by omega), if_pos c, show zw (zw (6 * ((st.1 q / 6 : Nat) : Int)) + (nx : Int)) = ((6 * (st.1 q / 6) + nx : Nat) : Int) by rw [zw_id (x := 6 * ((st.1 q / 6 : Nat) : Int)) (by omega) (by omega), zw_id (by omega) (by omega)]; omega, zw_inc (L q) (by omega), x1, zcV_vd, zb_X9_findStates_142]
    exact zR_weak (by repeat first | exact zle_nil | apply zle_c | apply zle_n) (y1 r hr)
  · rw [if_neg c]
    obtain ⟨m', L', y1, y2, y3, y4⟩ := t_fwords (d + 3) q (st.1 q / 6) (L q) nx (xcm mm (mm 11 s).toNat (st.1 q / 6)) (by omega) ht (by omega) hnx 8 0 st L m rfl ho hm
    refine ⟨m', L', fun r hr => ?_, y2, y3, y4⟩
    rw [e0, zb_X9_findStates_113, if_pos (by omega), if_neg c]
    exact zR_weak (by repeat first | exact zle_nil | apply zle_c | apply zle_n) (y1 r hr)
/-- at the last turn nothing is added -/
theorem t_flast (d N : Nat) (st : zQ) (L : Nat → Nat) (m : zMm) (hN : mm 6 3 = N) (hI : xI mm) (hr : mR m mm) (ho : zQok st) (hm : zMS st L m) : ∀ (f q : Nat), q + f = st.2.1 → (∀ i, q ≤ i → i < st.2.1 → L i = 30 ∧ st.1 i % 6 < N ∧ ∃ nx : Nat, zliv (xas mm) N (zstep1 (mm 10 4) N) (st.1 i % 6) = nx) → zR (d + 5) 171 50 [some (.inr (.inr 45)), some (.inl (q : Int)), none, none, none, none, none, none] [] SH m = zvd m := by
  have hle : (st.2.1 : Int) ≤ 3510 := by rw [ho.1]; exact (zcnt_r _ _).2
  intro f
  induction f with
  | zero =>
    intro q h hL
    rw [zb_X9_findStates_50, hm.1, if_neg (by omega)]
  | succ f ih =>
    intro q h hL
    obtain ⟨h30, hsN, nx, hx⟩ := hL q (Nat.le_refl q) (by omega)
    have hc := ho.2 q (by omega)
    have h2 := hm.2.1 q (by omega)
    have h11 := hI.se.1 (st.1 q % 6) (by omega)
    have h6 := hI.ce.2.1
    have e52 : m 52 (st.1 q % 6) = ((mm 11 (st.1 q % 6)).toNat : Int) := by rw [hr.ce]; omega
    have hset : zL (d + 5) 152 [.inr (.inr 45), .inl (((mm 11 (st.1 q % 6)).toNat : Nat) : Int), .inl ((st.1 q / 6 : Nat) : Int)] SH m = zok (mks (xcm mm (mm 11 (st.1 q % 6)).toNat (st.1 q / 6)) 8) m := t_comesBy (d + 1) _ (st.1 q / 6) (by omega) (by omega) hr hI
    have hnxt : zL (d + 5) 155 [.inr (.inr 45), .inl ((st.1 q % 6 : Nat) : Int), .inl (m 45 13)] SH m = zok nx m := by
      rw [hr.bk]
      exact t_nextSeat (d + 4) _ N nx _ hI.bk hN hsN hx hr hI
    rw [zb_X9_findStates_50, hm.1, if_pos (by omega), if_pos (by omega), if_pos (by omega), if_pos (by omega), Int.toNat_natCast, h2.1, if_pos (by omega), Int.toNat_natCast, h2.2.2, h30, zrem_n (by omega) (by omega) (by decide) (by decide), zdiv_n (by omega) (by omega) (by decide) (by decide), show ((st.1 q : Nat) : Int) % 6 = ((st.1 q % 6 : Nat) : Int) by omega, show ((st.1 q : Nat) : Int) / 6 = ((st.1 q / 6 : Nat) : Int) by omega, hnxt, zcI_ok, zb_X9_findStates_100, if_pos (by omega), Int.toNat_natCast, e52, hset, zcI_ok, zb_X9_findStates_113, if_neg (by decide)]
    refine zR_weak (ls := [some (.inr (.inr 45)), some (.inl (q : Int)), some (.inl ((st.1 q / 6 : Nat) : Int)), none, some (.inl ((30 : Nat) : Int)), some (.inl (nx : Int)), some (.inl (mks (xcm mm (mm 11 (st.1 q % 6)).toNat (st.1 q / 6)) 8)), some (.inl 0)]) (by repeat first | exact zle_nil | apply zle_c | apply zle_n) ?_
    rw [zb_X9_findStates_145, if_pos (by decide), if_neg (by decide), zw_inc q (by omega)]
    refine zR_weak (by repeat first | exact zle_nil | apply zle_c | apply zle_n) (ih (q + 1) (by omega) (fun i a b => hL i (by omega) b))
end
