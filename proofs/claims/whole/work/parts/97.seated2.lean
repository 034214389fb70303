/-- a row tells the same as one of numbers -/
def zagr (n : Nat) (S : Nat → Int) (R : Nat → Nat) : Prop := ∀ j, j < n → S j = ((R j : Nat) : Int)
theorem zagr_swp {n : Nat} {S : Nat → Int} {R : Nat → Nat} (h : zagr n S R) {a b : Nat} (ha : a < n) (hb : b < n) : zagr n (zset (zset S a (S b)) b (S a)) (zswp R a b) := by
  intro j hj
  unfold zset zswp
  by_cases q : j = b
  · rw [if_pos q, if_pos q]
    exact h a ha
  · rw [if_neg q, if_neg q]
    by_cases q2 : j = a
    · rw [if_pos q2, if_pos q2]
      exact h b hb
    · rw [if_neg q2, if_neg q2]
      exact h j hj
theorem zu2_zur (m : zMm) (S : Nat → Int) (a b : Nat) (x y : Int) : zu (zu (zur m 61 S) 61 a x) 61 b y = zur m 61 (zset (zset S a x) b y) := by
  rw [zu_zur, zu_zur]
section
variable {m mm : zMm}
theorem t_rev (d n : Nat) (hn : n ≤ 6) : ∀ (f a b : Nat) (S : Nat → Int) (R : Nat → Nat), zagr n S R → b ≤ a + f → b < n → ∃ S', zR d 183 100 [some (.inr (.inr 45)), none, none, none, none, some (.inl (a : Int)), some (.inl (b : Int))] [] SH (zur m 61 S) = zok 1 (zur m 61 S') ∧ zagr n S' (zrev f a b R) := by
  intro f
  induction f with
  | zero =>
    intro a b S R h hb hbn
    refine ⟨S, ?_, h⟩
    rw [zb_X9_nextOrder_100, if_neg (by omega)]
  | succ f ih =>
    intro a b S R h hb hbn
    unfold zrev
    by_cases c : a < b
    · rw [if_pos c]
      obtain ⟨S', h1, h2⟩ := ih (a + 1) (b - 1) _ _ (zagr_swp h (show a < n by omega) hbn) (by omega) (by omega)
      refine ⟨S', ?_, h2⟩
      have eb : zw ((b : Int) + -1) = ((b - 1 : Nat) : Int) := by rw [zw_id (by omega) (by omega)]; omega
      rw [zb_X9_nextOrder_100, if_pos (by omega), if_pos (by omega), if_pos (by omega), if_pos (by omega), if_pos (by omega), Int.toNat_natCast, Int.toNat_natCast, zur_s, zu2_zur, eb, zw_inc a (by clear eb; omega)]
      exact zR_weak (by repeat first | exact zle_nil | apply zle_c | apply zle_n) h1
    · rw [if_neg c]
      refine ⟨S, ?_, h⟩
      rw [zb_X9_nextOrder_100, if_neg (by omega)]
theorem znk_le (R : Nat → Nat) : ∀ j, znk R j ≤ j
  | 0 => Nat.le_refl 0
  | j + 1 => by
    have := znk_le R j
    unfold znk
    split <;> omega
theorem t_nextj (d n k : Nat) (hn : n ≤ 6) (hkn : k + 1 < n) (S : Nat → Int) (R : Nat → Nat) (h : zagr n S R) : ∀ (j : Nat), k ≤ j → j < n → ∃ S', zR d 183 41 [some (.inr (.inr 45)), some (.inl (n : Int)), some (.inl (k : Int)), some (.inl (j : Int)), none, none, none] [] SH (zur m 61 S) = zok 1 (zur m 61 S') ∧ zagr n S' (zrev 6 (k + 1) (n - 1) (zswp R k (znj R k j))) := by
  have fin : ∀ j, k ≤ j → j < n → ∃ S', zR d 183 100 [some (.inr (.inr 45)), none, none, none, none, some (.inl ((k + 1 : Nat) : Int)), some (.inl ((n - 1 : Nat) : Int))] [] SH (zur m 61 (zset (zset S k (S j)) j (S k))) = zok 1 (zur m 61 S') ∧ zagr n S' (zrev 6 (k + 1) (n - 1) (zswp R k j)) := fun j hk hj =>
    t_rev d n hn 6 (k + 1) (n - 1) _ _ (zagr_swp h (by omega) hj) (by omega) (by omega)
  have stop : ∀ j, k ≤ j → j < n → ¬ R j < R k → ∃ S', zR d 183 41 [some (.inr (.inr 45)), some (.inl (n : Int)), some (.inl (k : Int)), some (.inl (j : Int)), none, none, none] [] SH (zur m 61 S) = zok 1 (zur m 61 S') ∧ zagr n S' (zrev 6 (k + 1) (n - 1) (zswp R k j)) := fun j hk hj hlt => by
    obtain ⟨S', h1, h2⟩ := fin j hk hj
    refine ⟨S', ?_, h2⟩
    have ej := h j hj
    have ek := h k (by omega)
    rw [zb_X9_nextOrder_41, if_pos (by omega), if_pos (by omega), zur_s, Int.toNat_natCast, Int.toNat_natCast, if_neg (by omega), if_pos (by omega), if_pos (by omega), if_pos (by omega), if_pos (by omega), zu2_zur, zw_inc k (by omega), show zw ((n : Int) - 1) = ((n - 1 : Nat) : Int) by rw [zw_id (by omega) (by omega)]; omega]
    exact zR_weak (by repeat first | exact zle_nil | apply zle_c | apply zle_n) h1
  intro j
  induction j with
  | zero =>
    intro hk hj
    have e : k = 0 := by omega
    have := stop 0 hk hj (by rw [e]; omega)
    exact this
  | succ j ih =>
    intro hk hj
    have ej := h (j + 1) hj
    have ek := h k (by omega)
    unfold znj
    by_cases c : R (j + 1) < R k
    · rw [if_pos c]
      have hne : k ≠ j + 1 := fun z => by rw [z] at c; omega
      obtain ⟨S', h1, h2⟩ := ih (by omega) (by omega)
      refine ⟨S', ?_, h2⟩
      rw [zb_X9_nextOrder_41, if_pos (by omega), if_pos (by omega), zur_s, Int.toNat_natCast, Int.toNat_natCast, if_pos (by omega), show zw (((j + 1 : Nat) : Int) + -1) = (j : Int) by rw [zw_id (by omega) (by omega)]; omega]
      exact h1
    · rw [if_neg c]
      exact stop (j + 1) hk hj c
theorem t_nextOrder (d n : Nat) (hn : n ≤ 6) (h0 : 1 ≤ n) (S : Nat → Int) (R : Nat → Nat) (h : zagr n S R) : ∃ S', zL (d + 1) 183 [.inr (.inr 45), .inl (n : Int)] SH (zur m 61 S) = zok (if znk R (n - 1) = 0 then 0 else 1) (zur m 61 S') ∧ ∀ R', znext R n = some R' → zagr n S' R' := by
  have key : ∀ j, j ≤ n - 1 → (znk R j = 0 ∧ zR d 183 4 [some (.inr (.inr 45)), some (.inl (n : Int)), some (.inl ((j : Int) - 1)), none, none, none, none] [] SH (zur m 61 S) = zok 0 (zur m 61 S)) ∨ (znk R j ≠ 0 ∧ ∀ r, zR d 183 41 [some (.inr (.inr 45)), some (.inl (n : Int)), some (.inl ((znk R j - 1 : Nat) : Int)), some (.inl ((n - 1 : Nat) : Int)), none, none, none] [] SH (zur m 61 S) = r → zR d 183 4 [some (.inr (.inr 45)), some (.inl (n : Int)), some (.inl ((j : Int) - 1)), none, none, none, none] [] SH (zur m 61 S) = r) := by
    intro j
    induction j with
    | zero =>
      intro hj
      refine .inl ⟨rfl, ?_⟩
      rw [zb_X9_nextOrder_4, if_pos (by omega), if_pos (by omega)]
    | succ j ih =>
      intro hj
      have ej := h (j + 1) (by omega)
      have ek := h j (by omega)
      have e1 : ((j + 1 : Nat) : Int) - 1 = (j : Int) := by omega
      rw [e1]
      unfold znk
      by_cases c : R (j + 1) < R j
      · rw [if_pos c]
        have step : ∀ r, zR d 183 4 [some (.inr (.inr 45)), some (.inl (n : Int)), some (.inl ((j : Int) - 1)), none, none, none, none] [] SH (zur m 61 S) = r → zR d 183 4 [some (.inr (.inr 45)), some (.inl (n : Int)), some (.inl (j : Int)), none, none, none, none] [] SH (zur m 61 S) = r := fun r hr => by
          rw [zb_X9_nextOrder_4, if_neg (by omega), if_pos (by omega), zw_inc j (by omega), if_pos (by omega), zur_s, Int.toNat_natCast, Int.toNat_natCast, if_pos (by omega), show zw ((j : Int) + -1) = (j : Int) - 1 by rw [zw_id (by omega) (by omega)]; omega]
          exact hr
        rcases ih (by omega) with ⟨q1, q2⟩ | ⟨q1, q2⟩
        · exact .inl ⟨q1, step _ q2⟩
        · exact .inr ⟨q1, fun r hr => step _ (q2 r hr)⟩
      · rw [if_neg c]
        refine .inr ⟨by omega, fun r hr => ?_⟩
        rw [show j + 1 - 1 = j by omega] at hr
        rw [zb_X9_nextOrder_4, if_neg (by omega), if_pos (by omega), zw_inc j (by omega), if_pos (by omega), zur_s, Int.toNat_natCast, Int.toNat_natCast, if_neg (by omega), if_neg (by omega), show zw ((n : Int) - 1) = ((n - 1 : Nat) : Int) by rw [zw_id (by omega) (by omega)]; omega]
        exact hr
  have hle := znk_le R (n - 1)
  have e2 : zw ((n : Int) - 2) = ((n - 1 : Nat) : Int) - 1 := by rw [zw_id (by omega) (by omega)]; omega
  rw [ze_X9_nextOrder, zb_X9_nextOrder_0, e2]
  clear e2
  rcases key (n - 1) (Nat.le_refl _) with ⟨q1, q2⟩ | ⟨q1, q2⟩
  · refine ⟨S, by rw [if_pos q1]; exact q2, fun R' hR' => ?_⟩
    unfold znext at hR'
    rw [if_pos q1] at hR'
    cases hR'
  · obtain ⟨S', h1, h2⟩ := t_nextj (m := m) d n (znk R (n - 1) - 1) hn (by omega) S R h (n - 1) (by omega) (by omega)
    refine ⟨S', by rw [if_neg q1]; exact q2 _ h1, fun R' hR' => ?_⟩
    unfold znext at hR'
    rw [if_neg q1] at hR'
    rw [show znk R (n - 1) - 1 + 1 = znk R (n - 1) by omega] at h2
    injection hR' with e
    rw [← e]
    exact h2
/-- an order sings, so far -/
def zsing (cm : Nat → Nat → Nat → Bool) (e words n live : Nat) (O : Nat → Nat) : Nat → Bool
  | 0 => true
  | k + 1 => zsing cm e words n live O k && cm (O (k % live)) (zpe e words n k) (zpw words n k)
theorem zsing_iff (cm : Nat → Nat → Nat → Bool) (e words n live : Nat) (O : Nat → Nat) : ∀ k, zsing cm e words n live O k = true ↔ ∀ i, i < k → cm (O (i % live)) (zpe e words n i) (zpw words n i) = true
  | 0 => ⟨fun _ i hi => absurd hi (Nat.not_lt_zero i), fun _ => rfl⟩
  | k + 1 => by
    unfold zsing
    rw [Bool.and_eq_true, zsing_iff cm e words n live O k]
    constructor
    · rintro ⟨h1, h2⟩ i hi
      by_cases q : i = k
      · rw [q]; exact h2
      · exact h1 i (by omega)
    · exact fun h => ⟨fun i hi => h i (by omega), h k (by omega)⟩
theorem zsing_f {cm : Nat → Nat → Nat → Bool} {e words n live : Nat} {O : Nat → Nat} : ∀ {j k : Nat}, zsing cm e words n live O k = false → zsing cm e words n live O (k + j) = false
  | 0, k, h => h
  | j + 1, k, h => by
    show (zsing cm e words n live O (k + j) && _) = false
    rw [zsing_f h, Bool.false_and]
theorem t_sings (d words n live : Nat) (O : Nat → Nat) (hw : words < 262144) (hn : n ≤ 6) (hl : 0 < live) (hl6 : live ≤ 6) (hO : ∀ i, i < live → ((O i : Nat) : Int) < mm 6 3) (S : Nat → Int) (hS : zagr live S O) (hR : mR m mm) (hI : xI mm) : zL (d + 6) 184 [.inr (.inr 45), .inl (words : Int), .inl (n : Int), .inl (live : Int)] SH (zur m 61 S) = zok (if zsing (xcm mm) (xe mm) words n live O n then 1 else 0) (zur m 61 S) := by
  have hR' : mR (zur m 61 S) mm := mR_fr (fun k a b => zur_k _ _ (by omega)) (fun j hj => by rw [zur_k _ _ (by decide)]) hR
  have he := xe_lt hI.pg
  have key : ∀ (f k : Nat), k + f = n → zR (d + 5) 184 16 [some (.inr (.inr 45)), some (.inl (words : Int)), some (.inl (n : Int)), some (.inl (live : Int)), some (.inl ((zpe (xe mm) words n k : Nat) : Int)), some (.inl (if zsing (xcm mm) (xe mm) words n live O k then 1 else 0)), some (.inl (k : Int)), none] [] SH (zur m 61 S) = zok (if zsing (xcm mm) (xe mm) words n live O n then 1 else 0) (zur m 61 S) := by
    intro f
    induction f with
    | zero =>
      intro k hk
      rw [zb_X9_sings_16, if_neg (by omega), show k = n by omega]
      cases zsing (xcm mm) (xe mm) words n live O n <;> rfl
    | succ f ih =>
      intro k hk
      have hik := ih (k + 1) (by omega)
      rw [zb_X9_sings_16, if_pos (by omega)]
      cases hz : zsing (xcm mm) (xe mm) words n live O k with
      | false =>
        have := zsing_f (j := f + 1) hz
        rw [hk] at this
        rw [this]
        rfl
      | true =>
        have hke := zpe_lt (words := words) (n := n) he k
        have hkl : k % live < live := Nat.mod_lt _ hl
        have hpw : zpw words n k < 8 := Nat.mod_lt _ (by decide)
        have eS : S (k % live) = ((O (k % live) : Nat) : Int) := hS _ hkl
        have hrem : zrem (k : Int) (live : Int) = ((k % live : Nat) : Int) := by rw [zrem_n (by omega) (by omega) (by omega) (by omega)]; omega
        have hOk := hO _ hkl
        have hb := mks_bit (xcm mm (O (k % live)) (zpe (xe mm) words n k)) 8 (by decide) (zpw words n k)
        rw [decide_eq_true hpw, Bool.true_and] at hb
        rw [if_neg (by decide), if_neg (by omega), hrem, if_pos (by omega), Int.toNat_natCast, zur_s, eS, t_comesBy _ _ _ hOk hke hR' hI, zcI_ok, zpw_x hw (by omega) hn, zb_X9_sings_57, t_has _ _ (zpw words n k) (by omega), zcI_ok, zb_X9_sings_62, t_push _ _ _ hke hpw, zcI_ok, zb_X9_sings_71, hb, zw_inc k (by omega)]
        rw [show zsing (xcm mm) (xe mm) words n live O (k + 1) = (zsing (xcm mm) (xe mm) words n live O k && xcm mm (O (k % live)) (zpe (xe mm) words n k) (zpw words n k)) from rfl, hz, Bool.true_and] at hik
        exact zR_weak (by repeat first | exact zle_nil | apply zle_c | apply zle_n) hik
  have e11 : zur m 61 S 45 11 = mm 12 2 := by rw [zur_k _ _ (by decide), hR.sz]
  rw [ze_X9_sings, zb_X9_sings_0, e11, t_end0 _ hR' hI, zcI_ok, zb_X9_sings_8]
  exact key n 0 (by omega)
end
