def zpc (n : Nat) : Int := ((n % 2 + n / 2 % 2 + n / 4 % 2 + n / 8 % 2 + n / 16 % 2 + n / 32 % 2 : Nat) : Int)
theorem s_bitCountN (d n : Nat) (hn : n < 64) (mm : zMm) : zL (d + 1) 86 [.inl n] SH mm = zok (zpc n) mm := by
  rw [ze_J6_bitCount_0f7a4, zb_J6_bitCount_0f7a4_0]
  refine congrArg (fun x => zok x mm) ?_
  revert n
  decide +kernel
theorem zpc_mks (P : Nat → Bool) : zpc (mks P 6).toNat = zcnt P 6 := by
  unfold mks mks mks mks mks mks mks zcnt zcnt zcnt zcnt zcnt zcnt zcnt
  cases P 0 <;> cases P 1 <;> cases P 2 <;> cases P 3 <;> cases P 4 <;> cases P 5 <;> decide +kernel
theorem s_bitCount (d : Nat) (P : Nat → Bool) (mm : zMm) : zL (d + 1) 86 [.inl (mks P 6)] SH mm = zok (zcnt P 6) mm := by
  have h := mks_64 P
  have := s_bitCountN d (mks P 6).toNat (by omega) mm
  rw [show (((mks P 6).toNat : Nat) : Int) = mks P 6 by omega, zpc_mks] at this
  exact this
theorem zcnt_ge {P : Nat → Bool} {n : Nat} (h : ∀ j, n ≤ j → P j = false) : ∀ k, zcnt P (n + k) = zcnt P n
  | 0 => rfl
  | k + 1 => by
    show zcnt P (n + k + 1) = _
    rw [zcnt_s, h (n + k) (by omega), zcnt_ge h k]
    rfl
theorem xlv_6 {mm : zMm} (h : 0 ≤ mm 6 3 ∧ mm 6 3 ≤ 6) : zcnt (xal mm) 6 = xlv mm := by
  unfold xlv
  have := zcnt_ge (P := xal mm) (n := (mm 6 3).toNat) (fun j hj => by
    unfold xal
    rw [decide_eq_false (by omega), Bool.false_and]) (6 - (mm 6 3).toNat)
  rw [show (mm 6 3).toNat + (6 - (mm 6 3).toNat) = 6 by omega] at this
  exact this
theorem s_isRowOfWords (d : Nat) (words n most : Int) (hm : most ≤ 6) (mm : zMm) : zL (d + 1) 80 [.inl words, .inl n, .inl most] SH mm = zok (if zrow words n most then 1 else 0) mm := by
  unfold zrow
  simp only [decide_eq_true_eq]
  rw [ze_X8_isRowOfWords, zb_X8_isRowOfWords_0]
  by_cases h : 1 ≤ n ∧ n ≤ most
  · rw [if_neg (by omega), if_neg (by omega), z8e h.1 (by omega)]
    (repeat' split) <;> first | rfl | (exfalso; omega)
  · rw [if_neg (show ¬ (1 ≤ n ∧ n ≤ most ∧ 0 ≤ words ∧ words < ((8 ^ n.toNat : Nat) : Int)) from fun q => h ⟨q.1, q.2.1⟩)]
    by_cases c : n < 1
    · rw [if_pos c]
    · rw [if_neg c, if_pos (by omega)]
/-- nothing found -/
def zq0 : zQ := (fun _ => 0, 0, fun _ => false)
theorem zq0_ok : zQok zq0 := by
  have : ∀ n, zcnt (fun _ => false) n = 0 := by
    intro n
    induction n with
    | zero => rfl
    | succ n ih => rw [zcnt_s, ih]; rfl
  exact ⟨by show ((0 : Nat) : Int) = _; exact (this 3510).symm, fun i hi => absurd hi (Nat.not_lt_zero i)⟩
/-- the search, cleared so far -/
def zclr (mm : zMm) (i : Nat) : zMm := fun k j => if k = 35 ∧ j < i then 0 else if k = 33 ∧ j = 2 then 0 else mm k j
theorem zclr_s (mm : zMm) (i : Nat) : zu (zclr mm i) 35 i 0 = zclr mm (i + 1) := by
  funext k j
  unfold zu zclr
  by_cases k1 : k = 35
  · subst k1
    by_cases q : j = i
    · subst q; simp
    · by_cases r : j < i
      · simp [q, r, show j < i + 1 by omega]
      · simp [q, r, show ¬ j < i + 1 by omega]
  · simp [k1]
section
variable {mm : zMm}
theorem s_fewestTurnsN (d : Nat) (words : Int) (k N st : Nat) (hN : mm 6 3 = N) (hst : mm 10 2 = st) (hI : xI mm) (ht : zturn (xas mm) N (zstep1 (mm 10 4) N) st = -4) : zL (d + 6) 34 [.inr (.inr 33), .inr (.inr 1), .inl words, .inl k] SH mm = zok (-4) mm := by
  have hn : xN mm := ⟨hI.ce.1, hI.ce.2.1⟩
  have hs := hI.st
  rw [ze_X3_fewestTurns, zb_X3_fewestTurns_0, s_seatOfTurn d st N hN hn hI.se hst (by omega), zcI_ok, zb_X3_fewestTurns_7, ht, if_pos (by decide)]
theorem s_fewestTurns (d : Nat) (words : Int) (k N st t : Nat) (hk : k ≤ 3) (hN : mm 6 3 = N) (hst : mm 10 2 = st) (hI : xI mm) (ht : zturn (xas mm) N (zstep1 (mm 10 4) N) st = t) (htn : t < N) (hal : xas mm t = true) : ∃ m', zL (d + 6) 34 [.inr (.inr 33), .inr (.inr 1), .inl words, .inl k] SH mm = zok (zftn (fun s e => xcm mm (mm 11 s).toNat e) (zaim (xal mm) (xcm mm) words k) (fun s => (zliv (xas mm) N (zstep1 (mm 10 4) N) s).toNat) 31 0 t 0 (zqn zq0 (6 * xe mm + t))) m' ∧ zFr m' mm := by
  have hn : xN mm := ⟨hI.ce.1, hI.ce.2.1⟩
  have hn6 := hn.2
  have hs := hI.st
  have he := xe_lt hI.pg
  have hf0 : zFr (zclr mm 1024) mm := fun k a b c => by
    funext j
    unfold zclr
    rw [if_neg (fun q => c q.1), if_neg (fun q => a q.1)]
  have hc0 : zCS zq0 (zclr mm 1024) := by
    refine ⟨rfl, fun i hi => absurd hi (Nat.not_lt_zero i), fun e he => ?_⟩
    have := zsl_r he
    show (if 35 = 35 ∧ zsl e < 1024 then (0 : Int) else _) = _
    rw [if_pos ⟨rfl, this.2⟩]
    exact ((mks_0 (P := fun _ => false) (n := 6) (by decide)).mpr (fun _ _ => rfl)).symm
  obtain ⟨m1, x1, x2, x3⟩ := s_note (d + 3) (xe mm) t zq0 (zclr mm 1024) he (by omega) zq0_ok hc0
  obtain ⟨m2, y1, y2⟩ := s_turns (mm := mm) d N words k hk hN hI.se hI.ce hI.tg 31 0 t 0 (zqn zq0 (6 * xe mm + t)) m1 none none rfl htn hal (Nat.zero_le _) (zFr_t x3 hf0) (zqn_ok zq0_ok (by omega)) x2
  refine ⟨m2, ?_, y2⟩
  have e13 : zclr mm 1024 13 = mm 13 := hf0 13 (by decide) (by decide) (by decide)
  have e12 : zclr mm 1024 12 = mm 12 := hf0 12 (by decide) (by decide) (by decide)
  have hsl := s_slip (mm := zclr mm 1024) (d + 1) (by unfold xP; rw [e12, e13]; exact hI.pg)
  rw [e12, e13] at hsl
  have key : ∀ i : Nat, i ≤ 1024 → zR (d + 5) 34 25 [some (.inr (.inr 33)), some (.inr (.inr 1)), some (.inl words), some (.inl (k : Int)), some (.inl (t : Int)), some (.inl (i : Int)), none, none, none, none] [] SH (zclr mm i) = zok (zftn (fun s e => xcm mm (mm 11 s).toNat e) (zaim (xal mm) (xcm mm) words k) (fun s => (zliv (xas mm) N (zstep1 (mm 10 4) N) s).toNat) 31 0 t 0 (zqn zq0 (6 * xe mm + t))) m2 := by
    refine zup ?_ ?_
    · rw [zb_X3_fewestTurns_25, if_neg (by decide), hsl, zcI_ok, zb_X3_fewestTurns_57]
      refine (congrArg (fun r => zcV r _) x1).trans ?_
      rw [zcV_vd, zb_X3_fewestTurns_62]
      exact zR_weak (by repeat first | exact zle_nil | apply zle_c | apply zle_n) y1
    · intro i hi ih
      rw [zb_X3_fewestTurns_25, if_pos (by omega), if_pos (by omega), Int.toNat_natCast, show zi2b 0 = 0 by decide +kernel, zclr_s, zw_inc i (by omega)]
      exact ih
  have e0 : zclr mm 0 = zu mm 33 2 0 := by
    funext k j
    unfold zclr zu
    simp
  have k0 := key 0 (by omega)
  rw [e0] at k0
  rw [ze_X3_fewestTurns, zb_X3_fewestTurns_0, s_seatOfTurn d st N hN hn hI.se hst (by omega), zcI_ok, zb_X3_fewestTurns_7, ht, if_neg (by omega)]
  exact k0
end
