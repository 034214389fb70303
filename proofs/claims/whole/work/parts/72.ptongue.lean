theorem zsk_end (T : Nat → Int) {n p f : Nat} (h : p + f = n) (c : ¬ zsk T f p < n) : zsk T f p = n := by
  have := zsk_r T f p
  omega
section
variable {m : zMm}
theorem t_follows_loop (d n w : Nat) (g : Int) (hn : m 45 17 = n) (h80 : n ≤ 80) (hT : ∀ i, i < n → 32 ≤ m 55 i ∧ m 55 i ≤ 126) (hw : w ≤ 7) : ∀ (f p : Nat) (a2 b : Int) (R : Nat → Int), n - p ≤ f → p ≤ n → -1 ≤ a2 → a2 ≤ 7 → b = (if a2 < 0 then 0 else 1) → (a2 < 0 → zsk (m 55) (n - p) p < n → m 55 (zsk (m 55) (n - p) p) ≠ 45) →
    ∃ (a2' : Int) (R' : Nat → Int) (p' : Nat), zR (d + 2) 142 37 [some (.inr (.inr 45)), some (.inl (w : Int)), some (.inl a2)] [] SH (zmt2 m R g p) = zok (if a2' < 0 then 0 else 1) (zmt2 m R' g p') ∧ p ≤ p' ∧ p' ≤ n ∧ (p' < n → m 55 p' ≠ 32 ∧ (a2' < 0 → m 55 p' ≠ 45) ∧ ¬ (a2' + 1 ≤ m 55 p' - 97 ∧ m 55 p' - 97 < 8)) ∧ -1 ≤ a2' ∧ a2' ≤ 7 ∧ zpt (m 55) n (n - p) p w (a2 + 1) b R = zpt (m 55) n (n - p') p' w (a2' + 1) (if a2' < 0 then 0 else 1) R' := by
  intro f
  induction f with
  | zero =>
    intro p a2 b R h hp h1 h7 hb h45
    obtain rfl : p = n := by omega
    have hnx := t_next (d + 1) p p m R g hn h80 (Nat.le_refl p)
    rw [Nat.sub_self, show zsk (m 55) 0 p = p from rfl, if_neg (Nat.lt_irrefl p)] at hnx
    refine ⟨a2, R, p, ?_, Nat.le_refl p, hp, fun q => absurd q (by omega), h1, h7, by rw [hb]⟩
    rw [zb_X9_readFollows_37, hnx, zcI_ok, zb_X9_readFollows_41, zw_id (x := a2 + 1) (by omega) (by omega), t_in, zcI_ok, zb_X9_readFollows_55, if_neg (show ¬ (a2 + 1 ≤ zw (-1 - 97) ∧ zw (-1 - 97) ≤ 7) by rw [zw_id (by decide) (by decide)]; omega), if_pos rfl]
    by_cases c : a2 < 0
    · rw [if_pos c, if_pos c]
    · rw [if_neg c, if_neg c]
  | succ f ih =>
    intro p a2 b R h hp h1 h7 hb h45
    have hr := zsk_r (m 55) (n - p) p
    have hnx := t_next (d + 1) n p m R g hn h80 hp
    have hsk := zpt_sk (m 55) n w (a2 + 1) b R (n - p) p
    have hen := zsk_end (m 55) (n := n) (f := n - p) (p := p) (by omega)
    rw [show p + (n - p) = n by omega] at hsk hr
    generalize zsk (m 55) (n - p) p = q at hr hnx hsk h45 hen
    by_cases c : q < n
    · have hx := hT q c
      have h32 := hr.2.2 c
      have hnq := t_next (d + 1) n q m R g hn h80 (by omega)
      rw [zsk_at h32, if_pos c] at hnq
      rw [if_pos c] at hnx
      by_cases c2 : a2 + 1 ≤ m 55 q - 97 ∧ m 55 q - 97 < 8
      · obtain ⟨a2', R', p', hh, hp1, hp2, hx', hl1, hl7, hz⟩ := ih (q + 1) (m 55 q - 97) 1 (zset R w (zor (R w) (zshl 1 (m 55 q - 97)))) (by omega) (by omega) (by omega) (by omega) (by rw [if_neg (by omega)]) (fun q => absurd q (by omega))
        refine ⟨a2', R', p', ?_, by omega, hp2, hx', hl1, hl7, ?_⟩
        · rw [zb_X9_readFollows_37, hnx, zcI_ok, zb_X9_readFollows_41, zw_id (x := a2 + 1) (by omega) (by omega), zw_id (x := m 55 q - 97) (by omega) (by omega), t_in, zcI_ok, zb_X9_readFollows_55, if_pos (show a2 + 1 ≤ m 55 q - 97 ∧ m 55 q - 97 ≤ 7 by omega), if_neg (by decide), hnq, zcI_ok, zb_X9_readFollows_62, if_pos (by omega), if_pos (by omega), zw_id (x := m 55 q - 97) (by omega) (by omega), Int.toNat_natCast, zmt2_56, (zmt2_r _ _ _ _).2.1, zw_inc q (by omega), zmt2_18, (zmt2_r _ _ _ _).2.2]
          exact hh
        · rw [hsk, ← hz, show n - q = (n - (q + 1)) + 1 by omega, zpt_s, if_neg h32, if_neg (by omega), if_neg (by omega), if_pos c2]
      · refine ⟨a2, R, q, ?_, by omega, by omega, fun _ => ⟨h32, fun z => h45 z c, c2⟩, h1, h7, by rw [hsk, hb]⟩
        rw [zb_X9_readFollows_37, hnx, zcI_ok, zb_X9_readFollows_41, zw_id (x := a2 + 1) (by omega) (by omega), zw_id (x := m 55 q - 97) (by omega) (by omega), t_in, zcI_ok, zb_X9_readFollows_55, if_neg (show ¬ (a2 + 1 ≤ m 55 q - 97 ∧ m 55 q - 97 ≤ 7) by omega), if_pos rfl]
        by_cases c : a2 < 0
        · rw [if_pos c, if_pos c]
        · rw [if_neg c, if_neg c]
    · obtain rfl : q = n := hen c
      rw [if_neg c] at hnx
      refine ⟨a2, R, q, ?_, hp, Nat.le_refl q, fun q => absurd q (by omega), h1, h7, by rw [hsk, hb]⟩
      rw [zb_X9_readFollows_37, hnx, zcI_ok, zb_X9_readFollows_41, zw_id (x := a2 + 1) (by omega) (by omega), t_in, zcI_ok, zb_X9_readFollows_55, if_neg (show ¬ (a2 + 1 ≤ zw (-1 - 97) ∧ zw (-1 - 97) ≤ 7) by rw [zw_id (by decide) (by decide)]; omega), if_pos rfl]
      by_cases c : a2 < 0
      · rw [if_pos c, if_pos c]
      · rw [if_neg c, if_neg c]
theorem t_follows (d n w : Nat) (g : Int) (hn : m 45 17 = n) (h80 : n ≤ 80) (hT : ∀ i, i < n → 32 ≤ m 55 i ∧ m 55 i ≤ 126) (hw : w ≤ 7) (p : Nat) (R : Nat → Int) (hp : p ≤ n) :
    ∃ (l : Int) (R' : Nat → Int) (p' : Nat), zL (d + 3) 142 [.inr (.inr 45), .inl (w : Int)] SH (zmt2 m R g p) = zok (if l < 1 then 0 else 1) (zmt2 m R' g p') ∧ p ≤ p' ∧ p' ≤ n ∧ 0 ≤ l ∧ l ≤ 8 ∧ ((l < 1 ∧ (zpt (m 55) n (n - p) p w 0 0 (zset R w 0)).1 = -20 - (p' : Int)) ∨ (1 ≤ l ∧ (zsk (m 55) (n - p') p' < n → ¬ (l ≤ m 55 (zsk (m 55) (n - p') p') - 97 ∧ m 55 (zsk (m 55) (n - p') p') - 97 < 8)) ∧ zpt (m 55) n (n - p) p w 0 0 (zset R w 0) = zpt (m 55) n (n - p') p' w l 1 R')) := by
  have hr := zsk_r (m 55) (n - p) p
  have hnx := t_next (d + 1) n p m R g hn h80 hp
  have hsk := zpt_sk (m 55) n w 0 0 (zset R w 0) (n - p) p
  have hen := zsk_end (m 55) (n := n) (f := n - p) (p := p) (by omega)
  rw [show p + (n - p) = n by omega] at hsk hr
  rw [ze_X9_readFollows, zb_X9_readFollows_0, hnx, zcI_ok, zb_X9_readFollows_4]
  generalize zsk (m 55) (n - p) p = q at hr hnx hsk hen
  by_cases c45 : q < n ∧ m 55 q = 45
  · obtain ⟨c, c45⟩ := c45
    refine ⟨8, zset R w 0, q + 1, ?_, by omega, by omega, by omega, by omega, .inr ⟨by omega, fun _ z => absurd z (by omega), ?_⟩⟩
    · rw [if_pos c, if_pos c45, if_pos (by omega), (zmt2_r _ _ _ _).2.1, zw_inc q (by omega), zmt2_18, Int.toNat_natCast, zmt2_56, if_neg (by decide)]
    · rw [hsk, show n - q = (n - (q + 1)) + 1 by omega, zpt_s, if_neg (hr.2.2 c), if_neg (by omega), if_pos ⟨c45, rfl⟩]
  · have hne : ¬ ((if q < n then m 55 q else -1) = 45) := by
      by_cases c : q < n
      · rw [if_pos c]; exact fun z => c45 ⟨c, z⟩
      · rw [if_neg c]; decide
    have hq : zsk (m 55) (n - q) q = q := by
      by_cases c : q < n
      · exact zsk_at (hr.2.2 c)
      · rw [hen c, Nat.sub_self]; rfl
    obtain ⟨a2', R', p', hh, hp1, hp2, hx', hl1, hl7, hz⟩ := t_follows_loop d n w g hn h80 hT hw (n - q) q (-1) 0 (zset R w 0) (Nat.le_refl _) (by omega) (by omega) (by omega) rfl (fun _ z => by rw [hq] at z ⊢; exact fun y => c45 ⟨z, y⟩)
    refine ⟨a2' + 1, R', p', ?_, by omega, hp2, by omega, by omega, ?_⟩
    · rw [if_neg hne, if_pos (by omega), Int.toNat_natCast, zmt2_56, hh]
      by_cases c : a2' < 0
      · rw [if_pos c, if_pos (by omega)]
      · rw [if_neg c, if_neg (by omega)]
    · have hz' : zpt (m 55) n (n - p) p w 0 0 (zset R w 0) = zpt (m 55) n (n - p') p' w (a2' + 1) (if a2' < 0 then 0 else 1) R' := Eq.trans hsk hz
      by_cases c : a2' < 0
      · refine .inl ⟨by omega, ?_⟩
        rw [hz', if_pos c]
        by_cases e : p' < n
        · obtain ⟨x1, x2, x3⟩ := hx' e
          rw [show n - p' = (n - (p' + 1)) + 1 by omega, zpt_s, if_neg x1, if_neg (fun z => z.2.1 rfl), if_neg (fun z => x2 c z.1), if_neg x3]
        · obtain rfl : p' = n := by omega
          rw [Nat.sub_self]
          rfl
      · refine .inr ⟨by omega, ?_, by rw [hz', if_neg c]⟩
        intro z
        by_cases e : p' < n
        · obtain ⟨x1, x2, x3⟩ := hx' e
          rw [zsk_at x1]
          exact x3
        · exfalso
          have := zsk_r (m 55) (n - p') p'
          omega
theorem t_rtongue_loop (d n : Nat) (hn : m 45 17 = n) (h80 : n ≤ 80) (hT : ∀ i, i < n → 32 ≤ m 55 i ∧ m 55 i ≤ 126) : ∀ (f p w : Nat) (g : Int) (R : Nat → Int), n - p < f → p ≤ n → w ≤ 7 →
    ∃ (ok w' : Int) (R' : Nat → Int) (p' : Nat), zR (d + 3) 143 7 [some (.inr (.inr 45)), some (.inl (w : Int)), none] [] SH (zmt2 m R g p) = zok ok (zmt2 m R' w' p') ∧ p' ≤ n ∧ ((ok = 0 ∧ (zpt (m 55) n (n - p) p w 0 0 (zset R w 0)).1 = -20 - (p' : Int)) ∨ (ok ≠ 0 ∧ 1 ≤ w' ∧ zpt (m 55) n (n - p) p w 0 0 (zset R w 0) = (w', R'))) := by
  intro f
  induction f with
  | zero => intro p w g R h; omega
  | succ f ih =>
    intro p w g R h hp hw
    obtain ⟨l, R1, p1, hf, hp1, hp2, hl0, hl8, hz⟩ := t_follows d n w g hn h80 hT hw p R hp
    rw [zb_X9_readTongue_7, if_pos (by omega), hf, zcI_ok, zb_X9_readTongue_18]
    rcases hz with ⟨hl, hz⟩ | ⟨hl, hx, hz⟩
    · refine ⟨0, g, R1, p1, ?_, hp2, .inl ⟨rfl, hz⟩⟩
      rw [if_pos hl, if_pos rfl]
    · have hr := zsk_r (m 55) (n - p1) p1
      have hnx := t_next (d + 2) n p1 m R1 ((w : Int) + 1) hn h80 hp2
      have hsk := zpt_sk (m 55) n w l 1 R1 (n - p1) p1
      have hen := zsk_end (m 55) (n := n) (f := n - p1) (p := p1) (by omega)
      rw [show p1 + (n - p1) = n by omega] at hsk hr
      rw [if_neg (by omega), zmt2_19, show zw ((w : Int) + 1) = (w : Int) + 1 from zw_id (by omega) (by omega), hnx, zcI_ok, zb_X9_readTongue_34]
      generalize zsk (m 55) (n - p1) p1 = q at hr hnx hsk hen hx
      by_cases c : q < n
      · have hxx := hT q c
        have h32 := hr.2.2 c
        rw [if_pos c, if_neg (by omega)]
        by_cases c59 : m 55 q = 59
        · by_cases c7 : w = 7
          · refine ⟨0, (w : Int) + 1, R1, q, ?_, by omega, .inl ⟨rfl, ?_⟩⟩
            · rw [if_pos c59, if_pos (by omega)]
            · rw [hz, hsk, show n - q = (n - (q + 1)) + 1 by omega, zpt_s, if_neg h32, if_neg (by omega), if_neg (by omega), if_neg (hx c)]
          · obtain ⟨ok, w', R', p', hh, hp', hzz⟩ := ih (q + 1) (w + 1) ((w : Int) + 1) R1 (by omega) (by omega) (by omega)
            refine ⟨ok, w', R', p', ?_, hp', ?_⟩
            · rw [if_pos c59, if_neg (by omega), (zmt2_r _ _ _ _).2.1, zw_inc q (by omega), zmt2_18, zw_inc w (by omega)]
              exact zR_weak (by repeat first | exact zle_nil | apply zle_c | apply zle_n) hh
            · rw [hz, hsk, show n - q = (n - (q + 1)) + 1 by omega, zpt_s, if_neg h32, if_pos ⟨c59, by decide, by omega⟩]
              exact hzz
        · refine ⟨0, (w : Int) + 1, R1, q, ?_, by omega, .inl ⟨rfl, ?_⟩⟩
          · rw [if_neg c59]
          · rw [hz, hsk, show n - q = (n - (q + 1)) + 1 by omega, zpt_s, if_neg h32, if_neg (by omega), if_neg (by omega), if_neg (hx c)]
      · obtain rfl : q = n := hen c
        refine ⟨1, (w : Int) + 1, R1, q, ?_, Nat.le_refl q, .inr ⟨by decide, by omega, ?_⟩⟩
        · rw [if_neg c, if_pos (by decide)]
        · rw [hz, hsk, Nat.sub_self]
          rfl
/-- the tongue that is read, so far, in the model -/
def zmc (M : zMm) (R : Nat → Int) (k : Nat) : zMm := fun a j => if a = 46 ∧ j < k then R j else M a j
theorem zmc_s (M : zMm) (R : Nat → Int) (k : Nat) : zu (zmc M R k) 46 k (R k) = zmc M R (k + 1) := by
  funext a j
  unfold zu zmc
  by_cases h : a = 46
  · subst h
    by_cases q : j = k
    · subst q; simp
    · by_cases r : j < k
      · simp [q, r, show j < k + 1 by omega]
      · simp [q, r, show ¬ j < k + 1 by omega]
  · simp [h]
theorem zmc_k (M : zMm) (R : Nat → Int) (k : Nat) {a : Nat} (h : a ≠ 46) : zmc M R k a = M a := by
  funext j
  unfold zmc
  rw [if_neg (fun q => h q.1)]
theorem zmc_0 (M : zMm) (R : Nat → Int) : zmc M R 0 = M := by
  funext a j
  unfold zmc
  simp
theorem t_tongue (d n : Nat) (hn : m 45 17 = n) (h80 : n ≤ 80) (hT : ∀ i, i < n → 32 ≤ m 55 i ∧ m 55 i ≤ 126) : ∃ (w' p' : Int) (R' : Nat → Int), zL (d + 5) 144 [.inr (.inr 45)] SH m = if 0 ≤ (zpt (m 55) n n 0 0 0 0 (zset (m 56) 0 0)).1 then zok (zpt (m 55) n n 0 0 0 0 (zset (m 56) 0 0)).1 (zmc (zu (zmt2 m (zpt (m 55) n n 0 0 0 0 (zset (m 56) 0 0)).2 (zpt (m 55) n n 0 0 0 0 (zset (m 56) 0 0)).1 p') 45 17 0) (zpt (m 55) n n 0 0 0 0 (zset (m 56) 0 0)).2 (zpt (m 55) n n 0 0 0 0 (zset (m 56) 0 0)).1.toNat) else zok (zpt (m 55) n n 0 0 0 0 (zset (m 56) 0 0)).1 (zu (zmt2 m R' w' p') 45 17 0) := by
  have h8 := zpt_r (m 55) n n 0 0 0 0 (zset (m 56) 0 0) (by omega)
  have e0 : zu m 45 18 0 = zmt2 m (m 56) (m 45 19) ((0 : Nat) : Int) := by
    have := zmt2_19 m (m 56) 0 0 (m 45 19)
    rw [← zmt2_0, zu_zu] at this
    refine Eq.trans ?_ this
    funext a b
    unfold zu
    by_cases h : a = 45
    · subst h
      by_cases q : b = 19
      · subst q; simp
      · simp [q]
    · simp [h]
  obtain ⟨ok, w', R', p', hh, hp', hz⟩ := t_rtongue_loop (m := m) d n hn h80 hT (n + 1) 0 0 (m 45 19) (m 56) (by omega) (by omega) (by omega)
  rw [Nat.sub_zero] at hz
  refine ⟨w', p', R', ?_⟩
  rw [ze_X9_tongue, zb_X9_tongue_0, ze_X9_readTongue, zb_X9_readTongue_0, e0, show (Sum.inl 0 : zV) = .inl ((0 : Nat) : Int) from rfl, hh, zcI_ok, zb_X9_tongue_4]
  generalize zpt (m 55) n n 0 0 0 0 (zset (m 56) 0 0) = o at h8 hz ⊢
  rcases hz with ⟨hz0, hz⟩ | ⟨hz0, hz1, hz⟩
  · rw [if_pos hz0, (zmt2_r _ _ _ _).2.1, if_neg (by omega), zw_id (by omega) (by omega), ← hz]
  · rw [hz] at h8 ⊢
    have h8 : w' ≤ 8 := h8
    rw [if_neg hz0, if_pos (show 0 ≤ w' by omega)]
    have e19 : zu (zmt2 m R' w' p') 45 17 0 45 19 = w' := by rw [zu_j _ _ (by decide), (zmt2_r _ _ _ _).1]
    have e56 : zu (zmt2 m R' w' p') 45 17 0 56 = R' := by rw [zu_k _ _ (by decide), (zmt2_r _ _ _ _).2.2]
    generalize zu (zmt2 m R' w' p') 45 17 0 = M at e19 e56 ⊢
    have key : ∀ k : Nat, k ≤ w'.toNat → zR (d + 4) 144 24 [some (.inr (.inr 45)), none, some (.inl (k : Int))] [] SH (zmc M R' k) = zok w' (zmc M R' w'.toNat) := by
      refine zup ?_ ?_
      · rw [zb_X9_tongue_24, zmc_k _ _ _ (by decide), e19, if_neg (by omega)]
      · intro k hk ih
        rw [zb_X9_tongue_24, zmc_k _ _ _ (by decide), zmc_k _ _ _ (by decide), e19, e56, if_pos (by omega), if_pos (by omega), if_pos (by omega), Int.toNat_natCast, zmc_s, zw_inc k (by omega)]
        exact ih
    have k0 := key 0 (by omega)
    rw [zmc_0] at k0
    exact zR_weak (by repeat first | exact zle_nil | apply zle_c | apply zle_n) k0
end
