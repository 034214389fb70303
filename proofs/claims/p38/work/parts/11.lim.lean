theorem zcI_mono {r r' : zRes} {f f' : Int → List zSh → zMm → zRes} {o : Option zV × List zSh × zMm} (hr : ∀ v, r = some v → r' = some v) (hf : ∀ x sh mm, f x sh mm = some o → f' x sh mm = some o) : zcI r f = some o → zcI r' f' = some o := by
  intro h
  cases hz : r with
  | none => rw [hz] at h; cases h
  | some v =>
    rw [hr v hz]
    rw [hz] at h
    obtain ⟨v, sh, mm⟩ := v
    cases v with
    | none => cases h
    | some v => cases v with
      | inl x => exact hf _ _ _ h
      | inr x => cases h
theorem zcV_mono {r r' : zRes} {f f' : List zSh → zMm → zRes} {o : Option zV × List zSh × zMm} (hr : ∀ v, r = some v → r' = some v) (hf : ∀ sh mm, f sh mm = some o → f' sh mm = some o) : zcV r f = some o → zcV r' f' = some o := by
  intro h
  cases hz : r with
  | none => rw [hz] at h; cases h
  | some v =>
    rw [hr v hz]
    rw [hz] at h
    obtain ⟨v, sh, mm⟩ := v
    cases v with
    | none => exact hf _ _ h
    | some v => cases h
abbrev zC0 : Type := Nat → List zV → List zSh → zMm → zRes
abbrev zK0 : Type := Nat → zLs → List zV → List zSh → zMm → zRes
def zCle (C C' : zC0) : Prop := ∀ j as sh mm r, C j as sh mm = some r → C' j as sh mm = some r
def zKle (k k' : zK0) : Prop := ∀ pc ls ls' st sh mm r, zle ls ls' → k pc ls st sh mm = some r → k' pc ls' st sh mm = some r
theorem zstep_mono {C C' : zC0} {k k' : zK0} (hC : zCle C C') (hk : zKle k k') {e : zEn} {pc : Nat} {ls ls' : zLs} {st : List zV} {sh : List zSh} {mm : zMm} (hl : zle ls ls') {r : Option zV × List zSh × zMm} :
    zstep C e pc ls st sh mm k = some r → zstep C' e pc ls' st sh mm k' = some r := by
  rw [zstep_p, zstep_p]
  refine zm_s1 hl (fun _ _ _ h => h) (fun pc ls ls' st sh mm h q => hk pc ls ls' st sh mm r h q) ?_
  intro j b as pc ls ls' st sh mm h q
  cases b
  · exact zcV_mono (fun v => hC j as sh mm v) (fun sh mm => hk _ _ _ _ _ _ _ h) q
  · exact zcI_mono (fun v => hC j as sh mm v) (fun x sh mm => hk _ _ _ _ _ _ _ h) q
theorem zrun_mono {C C' : zC0} (hC : zCle C C') (i : Nat) : ∀ (n n' : Nat), n ≤ n' → zKle (zrun C i n) (zrun C' i n')
  | 0, _, _ => fun pc ls ls' st sh mm r _ h => by cases h
  | n + 1, 0, h => absurd h (by omega)
  | n + 1, n' + 1, h => fun pc ls ls' st sh mm r hl q => by
    unfold zrun at q ⊢
    cases hc : zC i pc with
    | none => rw [hc] at q; cases q
    | some e =>
      rw [hc] at q
      exact zstep_mono hC (zrun_mono hC i n n' (by omega)) hl q
theorem zcall_mono {N N' : Nat} (hN : N ≤ N') : ∀ (d d' : Nat), d ≤ d' → zCle (zcall N d) (zcall N' d')
  | 0, _, _ => fun j as sh mm r h => by cases h
  | d + 1, 0, h => absurd h (by omega)
  | d + 1, d' + 1, h => fun j as sh mm r q => by
    unfold zcall at q ⊢
    cases hb : Nat.ble (zin0 as).length (zml j) with
    | false => rw [hb] at q; cases q
    | true =>
      rw [hb] at q
      exact zrun_mono (zcall_mono hN d d' (by omega)) j N N' hN 0 _ _ _ _ _ _ (zle.rf _) q
theorem zlim_iff {f : Nat → zRes} (hm : ∀ a b, a ≤ b → ∀ r, f a = some r → f b = some r) {r : Option zV × List zSh × zMm} : zlim f = some r ↔ ∃ N, f N = some r := by
  unfold zlim
  constructor
  · intro h
    split at h
    · rename_i hh
      obtain ⟨N, hN⟩ := Classical.choose_spec hh
      cases h
      exact ⟨N, hN⟩
    · cases h
  · rintro ⟨N, hN⟩
    have hh : ∃ r, ∃ N, f N = some r := ⟨r, N, hN⟩
    rw [dif_pos hh]
    obtain ⟨M, hM⟩ := Classical.choose_spec hh
    have h1 := hm N (max N M) (Nat.le_max_left _ _) _ hN
    have h2 := hm M (max N M) (Nat.le_max_right _ _) _ hM
    rw [h1] at h2
    exact h2.symm
theorem zR_iff {d i pc : Nat} {ls : zLs} {st : List zV} {sh : List zSh} {mm : zMm} {r : Option zV × List zSh × zMm} : zR d i pc ls st sh mm = some r ↔ ∃ N, zrun (zcall N d) i N pc ls st sh mm = some r :=
  zlim_iff fun a b h r q => zrun_mono (zcall_mono h d d (Nat.le_refl d)) i a b h _ _ _ _ _ _ _ (zle.rf _) q
theorem zL_iff {d j : Nat} {as : List zV} {sh : List zSh} {mm : zMm} {r : Option zV × List zSh × zMm} : zL d j as sh mm = some r ↔ ∃ N, zcall N d j as sh mm = some r :=
  zlim_iff fun _ _ h r q => zcall_mono h d d (Nat.le_refl d) _ _ _ _ r q
theorem zL_le (N d : Nat) : zCle (zcall N d) (zL d) := fun _ _ _ _ _ h => zL_iff.mpr ⟨N, h⟩
theorem zR_le (N d i : Nat) : zKle (zrun (zcall N d) i N) (zR d i) := fun _ _ _ _ _ _ _ hl h => zR_iff.mpr ⟨N, zrun_mono (zcall_mono (Nat.le_refl N) d d (Nat.le_refl d)) i N N (Nat.le_refl N) _ _ _ _ _ _ _ hl h⟩
theorem zR_weak {d i pc : Nat} {ls ls' : zLs} {st : List zV} {sh : List zSh} {mm : zMm} {r : Option zV × List zSh × zMm} (hl : zle ls ls') (h : zR d i pc ls st sh mm = some r) : zR d i pc ls' st sh mm = some r := by
  obtain ⟨N, hN⟩ := zR_iff.mp h
  exact zR_le N d i _ _ _ _ _ _ _ hl hN
theorem zL_mono {d d' : Nat} (h : d ≤ d') : zCle (zL d) (zL d') := fun j as sh mm r q => by
  obtain ⟨N, hN⟩ := zL_iff.mp q
  exact zL_iff.mpr ⟨N, zcall_mono (Nat.le_refl N) d d' h j as sh mm r hN⟩
/-- method j, so many calls deep -/
theorem zL_eq (d j : Nat) (as : List zV) (sh : List zSh) (mm : zMm) (h : Nat.ble (zin0 as).length (zml j) = true) : zL (d + 1) j as sh mm = zR d j 0 (zin (zml j) as) [] sh mm := by
  unfold zL zR
  congr 1
  funext N
  show (bif Nat.ble (zin0 as).length (zml j) then zrun (zcall N d) j N 0 (zin (zml j) as) [] sh mm else none) = _
  rw [h]
  rfl
theorem zopt {α : Type} {a b : Option α} (h : ∀ r, a = some r ↔ b = some r) : a = b := by
  cases a with
  | none => cases b with
    | none => rfl
    | some y => exact absurd ((h y).mpr rfl) (by simp)
  | some x => exact ((h x).mp rfl).symm
/-- the limit is a fixed point -/
theorem zR_step {d i pc : Nat} {e : zEn} (he : zC i pc = some e) (ls : zLs) (st : List zV) (sh : List zSh) (mm : zMm) : zR d i pc ls st sh mm = zstep (zL d) e pc ls st sh mm (zR d i) := by
  apply zopt
  intro r
  constructor
  · intro h
    obtain ⟨N, hN⟩ := zR_iff.mp h
    cases N with
    | zero => cases hN
    | succ N =>
      unfold zrun at hN
      rw [he] at hN
      refine zstep_mono (zL_le (N + 1) d) (fun pc ls ls' st sh mm r hl q => ?_) (zle.rf _) hN
      exact zR_le (N + 1) d i _ _ _ _ _ _ _ hl (zrun_mono (zcall_mono (Nat.le_refl (N + 1)) d d (Nat.le_refl d)) i N (N + 1) (by omega) _ _ _ _ _ _ _ (zle.rf _) q)
  · intro h
    rw [zstep_p, zs1_nf] at h
    have key : ∀ N, zstep (zcall N d) e pc ls st sh mm (zrun (zcall N d) i N) = some r → zR d i pc ls st sh mm = some r := fun N q => by
      refine zR_iff.mpr ⟨N + 1, ?_⟩
      unfold zrun
      rw [he]
      exact zstep_mono (zcall_mono (by omega) d d (Nat.le_refl d)) (zrun_mono (zcall_mono (by omega) d d (Nat.le_refl d)) i N N (Nat.le_refl N)) (zle.rf _) q
    have key2 : ∀ N, zint False (fun v sh mm => (v, sh, mm) = r) (fun pc ls st sh mm => zrun (zcall N d) i N pc ls st sh mm = some r)
      (fun j b as pc ls rest sh mm => (bif b then zcI (zcall N d j as sh mm) (fun x sh' mm' => zrun (zcall N d) i N pc ls (.inl x :: rest) sh' mm') else zcV (zcall N d j as sh mm) (fun sh' mm' => zrun (zcall N d) i N pc ls rest sh' mm')) = some r) (znf e pc ls st sh mm) → zR d i pc ls st sh mm = some r := fun N q => key N (by rw [zstep_p, zs1_nf]; exact q)
    cases hz : znf e pc ls st sh mm with
    | none => rw [hz] at h; exact h.elim
    | some z =>
      rw [hz] at h key2
      rcases z with ⟨v, sh', mm'⟩ | ⟨pc', ls', st', sh', mm'⟩ | ⟨j, b, as, pc', ls', st', sh', mm'⟩
      · exact key2 0 h
      · obtain ⟨N, hN⟩ := zR_iff.mp h
        exact key2 N hN
      · cases b
        · have h : zcV (zL d j as sh' mm') (fun sh' mm' => zR d i pc' ls' st' sh' mm') = some r := h
          cases hc : zL d j as sh' mm' with
          | none => rw [hc] at h; cases h
          | some v =>
            rw [hc] at h
            obtain ⟨v, sh2, mm2⟩ := v
            cases v with
            | some v => cases h
            | none =>
              obtain ⟨N1, h1⟩ := zL_iff.mp hc
              obtain ⟨N2, h2⟩ := zR_iff.mp h
              refine key2 (max N1 N2) ?_
              show zcV (zcall (max N1 N2) d j as sh' mm') _ = some r
              rw [zcall_mono (Nat.le_max_left N1 N2) d d (Nat.le_refl d) _ _ _ _ _ h1]
              exact zrun_mono (zcall_mono (Nat.le_max_right N1 N2) d d (Nat.le_refl d)) i _ _ (Nat.le_max_right N1 N2) _ _ _ _ _ _ _ (zle.rf _) h2
        · have h : zcI (zL d j as sh' mm') (fun x sh' mm' => zR d i pc' ls' (.inl x :: st') sh' mm') = some r := h
          cases hc : zL d j as sh' mm' with
          | none => rw [hc] at h; cases h
          | some v =>
            rw [hc] at h
            obtain ⟨v, sh2, mm2⟩ := v
            cases v with
            | none => cases h
            | some v => cases v with
              | inr v => cases h
              | inl x =>
                obtain ⟨N1, h1⟩ := zL_iff.mp hc
                obtain ⟨N2, h2⟩ := zR_iff.mp h
                refine key2 (max N1 N2) ?_
                show zcI (zcall (max N1 N2) d j as sh' mm') _ = some r
                rw [zcall_mono (Nat.le_max_left N1 N2) d d (Nat.le_refl d) _ _ _ _ _ h1]
                exact zrun_mono (zcall_mono (Nat.le_max_right N1 N2) d d (Nat.le_refl d)) i _ _ (Nat.le_max_right N1 N2) _ _ _ _ _ _ _ (zle.rf _) h2
theorem zR_no {d i pc : Nat} (he : zC i pc = none) (ls : zLs) (st : List zV) (sh : List zSh) (mm : zMm) : zR d i pc ls st sh mm = none := by
  cases h : zR d i pc ls st sh mm with
  | none => rfl
  | some r =>
    obtain ⟨N, hN⟩ := zR_iff.mp h
    cases N with
    | zero => cases hN
    | succ N =>
      unfold zrun at hN
      rw [he] at hN
      cases hN
/-- many steps at once, up to the cuts -/
theorem zR_unf (d i : Nat) (cuts : List Nat) : ∀ (m pc : Nat) (ls : zLs) (st : List zV) (sh : List zSh) (mm : zMm), zR d i pc ls st sh mm = zunf (zL d) i (zR d i) cuts m pc ls st sh mm
  | 0, pc, ls, st, sh, mm => rfl
  | m + 1, pc, ls, st, sh, mm => by
    unfold zunf
    cases he : zC i pc with
    | none => exact zR_no he ls st sh mm
    | some e =>
      rw [zR_step he]
      unfold zstep
      dsimp only
      congr 1
      funext pc' ls' st' sh' mm'
      cases cuts.contains pc'
      · exact zR_unf d i cuts m pc' ls' st' sh' mm'
      · rfl
