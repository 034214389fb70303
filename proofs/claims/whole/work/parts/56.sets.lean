/-- a word of a psalm -/
theorem zpw_x {words n i : Nat} (hw : words < 262144) (hi : i < n) (hn : n ≤ 6) : zand (zshr (words : Int) (zw (3 * zw (zw ((n : Int) - 1) - i)))) 7 = (zpw words n i : Nat) := by
  rw [zw_id (x := (n : Int) - 1) (by omega) (by omega), zw_id (x := (n : Int) - 1 - i) (by omega) (by omega), zw_id (by omega) (by omega), show 3 * ((n : Int) - 1 - i) = ((3 * (n - 1 - i) : Nat) : Int) by omega, zshr_n (by omega), zo_i ⟨by omega, by omega⟩, Nat.pow_mul, ← Int.natCast_ediv]
  have hle : words / (2 ^ 3) ^ (n - 1 - i) ≤ words := Nat.div_le_self _ _
  have e8 : words / (2 ^ 3) ^ (n - 1 - i) = words / 8 ^ (n - 1 - i) := rfl
  unfold zpw
  rw [e8] at hle ⊢
  generalize words / 8 ^ (n - 1 - i) = q at hle ⊢
  rw [zand7 (by omega) (by omega)]
  omega
section
variable {mm : zMm}
/-- whether a cell can add a word behind an end -/
def xcan (mm : zMm) (c e w : Nat) : Bool := decide ((c : Int) < mm 6 3) && xcm mm c e w
/-- the seats' sets -/
def xSS (mm : zMm) (words n seats i s c : Nat) : Bool := zSS (xal mm) (xcan mm) (xe mm) words n seats i s c
def xsr (mm : zMm) (words n seats i : Nat) : zMm := zur mm 36 (fun s => if s < 6 then mks (xSS mm words n seats i s) 6 else mm 36 s)
theorem xsr_k (words n seats i : Nat) {k : Nat} (h : k ≠ 36) : xsr mm words n seats i k = mm k := zur_k _ _ h
theorem xsr_36 (words n seats i : Nat) {s : Nat} (h : s < 6) : xsr mm words n seats i 36 s = mks (xSS mm words n seats i s) 6 := by
  unfold xsr
  rw [zur_s, if_pos h]
theorem xsr_s (words n seats i : Nat) (hs : 0 < seats) (h6 : seats ≤ 6) : zu (xsr mm words n seats i) 36 (i % seats) (zand (mks (xSS mm words n seats i (i % seats)) 6) (mks (fun c => xcan mm c (zpe (xe mm) words n i) (zpw words n i)) 6)) = xsr mm words n seats (i + 1) := by
  have hlt : i % seats < seats := Nat.mod_lt _ hs
  unfold xsr
  rw [zu_zur, mks_and _ _ (by decide)]
  congr 1
  funext s
  unfold zset
  by_cases q : s = i % seats
  · subst q
    rw [if_pos rfl, if_pos (by omega)]
    refine mks_cong fun c _ => ?_
    show _ = (zSS (xal mm) (xcan mm) (xe mm) words n seats i (i % seats) c && (!decide (i % seats = i % seats) || xcan mm c (zpe (xe mm) words n i) (zpw words n i)))
    simp [xSS]
  · rw [if_neg q]
    show (if s < 6 then _ else _) = _
    by_cases r : s < 6
    · rw [if_pos r, if_pos r]
      refine mks_cong fun c _ => ?_
      show _ = (zSS (xal mm) (xcan mm) (xe mm) words n seats i s c && (!decide (s = i % seats) || xcan mm c (zpe (xe mm) words n i) (zpw words n i)))
      simp [xSS, q]
    · rw [if_neg r, if_neg r]
theorem s_findSeatSets (d words n seats : Nat) (hw : words < 262144) (hn : n ≤ 6) (hs : 0 < seats) (h6 : seats ≤ 6) (hI : xI mm) : zL (d + 5) 120 [.inr (.inr 0), .inl words, .inl n, .inl seats] SH mm = zvd (xsr mm words n seats n) := by
  have hN : xN mm := ⟨hI.ce.1, hI.ce.2.1⟩
  have he := xe_lt hI.pg
  have loop : ∀ i : Nat, i ≤ n → zR (d + 4) 120 55 [some (.inr (.inr 0)), some (.inl (words : Int)), some (.inl (n : Int)), some (.inl (seats : Int)), none, some (.inl (zsl (zpe (xe mm) words n i) : Int)), some (.inl (i : Int)), none, none] [] SH (xsr mm words n seats i) = zvd (xsr mm words n seats n) := by
    refine zup ?_ ?_
    · rw [zb_X8_findSeatSets_55, if_neg (by omega)]
    · intro i hi ih
      have hlt : i % seats < seats := Nat.mod_lt _ hs
      have hpe := zpe_lt (words := words) (n := n) he i
      have hpw : zpw words n i < 8 := Nat.mod_lt _ (by decide)
      have ez : zrem (i : Int) seats = ((i % seats : Nat) : Int) := by
        rw [zrem_n (by omega) (by omega) (by omega) (by omega)]
        exact (Int.natCast_emod _ _).symm
      have hcan := s_cellsThatCanAdd (mm := xsr mm words n seats i) d (zpe (xe mm) words n i) (zpw words n i) hpe hpw hI.ce hI.tg
      have hcan2 : zL (d + 4) 15 [.inr (.inr 1), .inl (zpw words n i : Nat), .inl (zsl (zpe (xe mm) words n i) : Nat)] SH (xsr mm words n seats i) = zok (mks (fun c => xcan mm c (zpe (xe mm) words n i) (zpw words n i)) 6) (xsr mm words n seats i) := hcan
      rw [zb_X8_findSeatSets_55, if_pos (by omega), if_pos (by omega), if_neg (by omega), ez, if_neg (by omega), if_pos (by omega), if_pos (by omega), zpw_x hw hi hn, hcan2, zcI_ok, zb_X8_findSeatSets_124, if_pos (by omega), Int.toNat_natCast, xsr_36 words n seats i (by omega), xsr_s words n seats i hs h6, s_slipWith (d + 3) hpe hpw, zcI_ok, zb_X8_findSeatSets_133, zw_inc i (by omega)]
      exact zR_weak (by repeat first | exact zle_nil | apply zle_c | apply zle_n) ih
  have init : ∀ i : Nat, i ≤ 6 → zR (d + 4) 120 15 [some (.inr (.inr 0)), some (.inl (words : Int)), some (.inl (n : Int)), some (.inl (seats : Int)), some (.inl (mks (xal mm) 6)), some (.inl (i : Int)), none, none, none] [] SH (zur mm 36 (fun s => if s < i then mks (xal mm) 6 else mm 36 s)) = zvd (xsr mm words n seats n) := by
    refine zup ?_ ?_
    · have e0 : zur mm 36 (fun s => if s < 6 then mks (xal mm) 6 else mm 36 s) = xsr mm words n seats 0 := rfl
      have hsl : zL (d + 4) 36 [.inr (.inr 12)] SH (xsr mm words n seats 0) = zok (zsl (xe mm)) (xsr mm words n seats 0) := s_slip (mm := xsr mm words n seats 0) d hI.pg
      rw [e0, zb_X8_findSeatSets_15, if_neg (by decide), hsl, zcI_ok, zb_X8_findSeatSets_50]
      exact zR_weak (by repeat first | exact zle_nil | apply zle_c | apply zle_n) (loop 0 (by omega))
    · intro i hi ih
      have e1 : zset (fun s => if s < i then mks (xal mm) 6 else mm 36 s) i (mks (xal mm) 6) = fun s => if s < i + 1 then mks (xal mm) 6 else mm 36 s := by
        funext s
        unfold zset
        by_cases q : s = i
        · rw [if_pos q, if_pos (by omega)]
        · rw [if_neg q]
          show (if s < i then _ else _) = _
          by_cases r : s < i
          · rw [if_pos r, if_pos (by omega)]
          · rw [if_neg r, if_neg (by omega)]
      rw [zb_X8_findSeatSets_15, if_pos (by omega), if_pos (by omega), Int.toNat_natCast, zu_zur, e1, zw_inc i (by omega)]
      exact ih
  have e2 : zur mm 36 (fun s => if s < 0 then mks (xal mm) 6 else mm 36 s) = mm := by
    have : (fun s => if s < 0 then mks (xal mm) 6 else mm 36 s) = mm 36 := by
      funext s
      rw [if_neg (by omega)]
    rw [this, zur_id]
  have k0 := init 0 (by omega)
  rw [e2] at k0
  rw [ze_X8_findSeatSets, zb_X8_findSeatSets_0, s_living (d + 1) hN, zcI_ok, zb_X8_findSeatSets_10]
  exact k0
end
