def zr32 (x : Int) : Prop := -2147483648 ≤ x ∧ x < 2147483648
def zr64 (x : Int) : Prop := -9223372036854775808 ≤ x ∧ x < 9223372036854775808
theorem zr_i (x : Int32) : zr32 x.toInt := ⟨Int32.le_toInt x, Int32.toInt_lt x⟩
theorem zr_l (x : Int64) : zr64 x.toInt := ⟨Int64.le_toInt x, Int64.toInt_lt x⟩
theorem zw_eq (x : Int) : zw x = (Int32.ofInt x).toInt := by rw [Int32.toInt_ofInt]; rfl
theorem zwl_eq (x : Int) : zwl x = (Int64.ofInt x).toInt := by rw [Int64.toInt_ofInt]; rfl
theorem zw_r (x : Int) : zr32 (zw x) := by rw [zw_eq]; exact zr_i _
theorem zwl_r (x : Int) : zr64 (zwl x) := by rw [zwl_eq]; exact zr_l _
theorem zw_o (x : Int) : Int32.ofInt (zw x) = Int32.ofInt x := by rw [zw_eq, Int32.ofInt_toInt]
theorem zwl_o (x : Int) : Int64.ofInt (zwl x) = Int64.ofInt x := by rw [zwl_eq, Int64.ofInt_toInt]
theorem zo_i {x : Int} (h : zr32 x) : (Int32.ofInt x).toInt = x := Int32.toInt_ofInt_of_le h.1 h.2
theorem zo_l {x : Int} (h : zr64 x) : (Int64.ofInt x).toInt = x := Int64.toInt_ofInt_of_le h.1 h.2
theorem zo_le {x y : Int} (hx : zr32 x) (hy : zr32 y) : Int32.ofInt x ≤ Int32.ofInt y ↔ x ≤ y := by rw [Int32.le_iff_toInt_le, zo_i hx, zo_i hy]
theorem zo_lt {x y : Int} (hx : zr32 x) (hy : zr32 y) : Int32.ofInt x < Int32.ofInt y ↔ x < y := by rw [Int32.lt_iff_toInt_lt, zo_i hx, zo_i hy]
theorem zo_eq {x y : Int} (hx : zr32 x) (hy : zr32 y) : Int32.ofInt x = Int32.ofInt y ↔ x = y := by rw [← Int32.toInt_inj, zo_i hx, zo_i hy]
theorem zo_llt {x y : Int} (hx : zr64 x) (hy : zr64 y) : Int64.ofInt x < Int64.ofInt y ↔ x < y := by rw [Int64.lt_iff_toInt_lt, zo_l hx, zo_l hy]
theorem zo_leq {x y : Int} (hx : zr64 x) (hy : zr64 y) : Int64.ofInt x = Int64.ofInt y ↔ x = y := by rw [← Int64.toInt_inj, zo_l hx, zo_l hy]
theorem zo_0 : (0 : Int32) = Int32.ofInt 0 := rfl
theorem zr_0 : zr32 0 := ⟨by decide, by decide⟩
theorem zo_il {x : Int} (h : zr32 x) : (Int32.ofInt x).toInt64 = Int64.ofInt x := by
  rw [← Int64.toInt_inj, Int32.toInt_toInt64, zo_i h, zo_l ⟨by have := h.1; omega, by have := h.2; omega⟩]
theorem zr_il {x : Int} (h : zr32 x) : zr64 x := ⟨by have := h.1; omega, by have := h.2; omega⟩
theorem zo_nat {x : Int} (h : zr32 x) (h0 : 0 ≤ x) : (Int32.ofInt x).toNatClampNeg = x.toNat := by
  show (Int32.ofInt x).toInt.toNat = x.toNat
  rw [zo_i h]
theorem zo_in {x : Int} {n : Nat} (h : zr32 x) (h0 : 0 ≤ x) (h1 : x < n) : vp_in (Int32.ofInt x) n := vp_in_iff.mpr (by rw [zo_i h]; exact ⟨h0, h1⟩)
/-- values, as the machine has them -/
def zcv (ad : Nat → Nat × ClassId) (v : zV) : Value := match v with
  | .inl x => .int (Int32.ofInt x)
  | .inr (.inl x) => .long (Int64.ofInt x)
  | .inr (.inr k) => .ref (ad k).1
def zrg (n : Nat) (v : zV) : Prop := match v with
  | .inl x => zr32 x
  | .inr (.inl x) => zr64 x
  | .inr (.inr k) => k < n ∨ k = 999
def zro (ad : Nat → Nat × ClassId) (rs : List Nat) (j : Nat) : Option Nat := match rs.getD j 0 with
  | 0 => none
  | b + 1 => some (ad b).1
def zfv (ad : Nat → Nat × ClassId) (kd : Nat) (rs : List Nat) (f : Nat → Int) (j : Nat) : Value := if zft kd j = 2 then va_rf (zro ad rs j) else .int (Int32.ofInt (f j))
def zce (ad : Nat → Nat × ClassId) (k : Nat) (s : zSh) (f : Nat → Int) : va_E :=
  if s.1 < 100 then .inr (s.1, (List.range s.2.1).map (zfv ad s.1 s.2.2 f))
  else if s.1 = 103 then .inl ((ad k).2, s.2.1, .inr (.inr (.inr (.inr (zro ad s.2.2)))))
  else .inl ((ad k).2, s.2.1, .inl (fun j => Int32.ofInt (f j)))
def zws (ad : Nat → Nat × ClassId) (sh : List zSh) (mm : zMm) : va_W := sh.mapIdx (fun k s => ((ad k).1, zce ad k s (mm k)))
def ztot (sh : List zSh) : Nat := (sh.map (fun s => s.2.1)).sum
def zWf (sh : List zSh) (mm : zMm) : Prop :=
  (∀ (k : Nat) (s : zSh), sh[k]? = some s → (∀ b ∈ s.2.2, b ≤ sh.length) ∧ (s.1 < 100 → (zCl[s.1]?).map (fun z => z.2.2) = some s.2.1 ∧ s.2.2.length = s.2.1) ∧ (s.1 = 103 → s.2.2.length = s.2.1) ∧ s.1 ≤ 103 ∧ (100 ≤ s.1 → s.2.1 ≤ 4000)) ∧ (∀ k j, zr32 (mm k j)) ∧ sh.length ≤ 900
def zty (k : Nat) : FieldType := if k = 100 then .int else if k = 101 then .boolean else if k = 102 then .byte else .object "SlipWheel$Sheet"
def zTy (tys : List (ClassId × FieldType)) (ad : Nat → Nat × ClassId) (sh : List zSh) : Prop := ∀ (k : Nat) (s : zSh), sh[k]? = some s → 100 ≤ s.1 → ∃ t0 : Nat, tys[t0]? = some ((ad k).2, zty s.1)
def zInv (s : State) (D : va_G) (A : Nat → Prop) (tys : List (ClassId × FieldType)) (ad : Nat → Nat × ClassId) (sh : List zSh) (mm : zMm) (H : Heap) (locs : List Loc) : Prop :=
  va_P D zCl (zws ad sh mm) H ∧ va_D A (zws ad sh mm) ∧ va_K D zCl tys s ∧ va_S A s.heap H locs ∧ zWf sh mm ∧ zTy tys ad sh
def zPs (ad0 : Nat → Nat × ClassId) (sh0 : List zSh) (mm0 : zMm) (ad : Nat → Nat × ClassId) (sh : List zSh) (mm : zMm) : Prop :=
  sh0.length ≤ sh.length ∧ ztot sh0 ≤ ztot sh ∧ (∀ k, k < sh0.length ∨ 900 ≤ k → ad k = ad0 k) ∧ ∀ k, 900 ≤ k → mm k = mm0 k
def zLc (ad : Nat → Nat × ClassId) (n : Nat) (ls : zLs) (lsR : Array Slot) : Prop :=
  lsR.size = n ∧ ls.length = n ∧ lv_wf lsR ∧ ∀ (j : Nat) (v : zV), ls[j]? = some (some v) → lsR[j]? = some (.val (zcv ad v))
theorem zws_at {ad : Nat → Nat × ClassId} {sh : List zSh} {mm : zMm} {k : Nat} {s : zSh} (h : sh[k]? = some s) : (zws ad sh mm)[k]? = some ((ad k).1, zce ad k s (mm k)) := by
  unfold zws
  rw [List.getElem?_mapIdx, h]
  rfl
theorem zws_set {ad : Nat → Nat × ClassId} {sh sh' : List zSh} {mm mm' : zMm} {a : Nat} {s : zSh} (hs : sh' = sh.set a s) (ha : a < sh.length) (hm : ∀ k, k ≠ a → mm' k = mm k) :
    zws ad sh' mm' = (zws ad sh mm).set a ((ad a).1, zce ad a s (mm' a)) := by
  subst hs
  apply List.ext_getElem?
  intro k
  unfold zws
  rw [List.getElem?_mapIdx, List.getElem?_set, List.getElem?_set, List.getElem?_mapIdx, List.length_mapIdx]
  by_cases h : a = k
  · subst h
    simp [ha]
  · simp [h, hm k (fun e => h e.symm)]
theorem zro_cong {ad ad' : Nat → Nat × ClassId} {rs : List Nat} {n : Nat} (hr : ∀ b ∈ rs, b ≤ n) (hd : ∀ k, k < n → ad' k = ad k) : zro ad' rs = zro ad rs := by
  funext j
  unfold zro
  cases h : rs.getD j 0 with
  | zero => rfl
  | succ b =>
    have hb : b + 1 ∈ rs := by
      rw [List.getD_eq_getElem?_getD] at h
      cases h2 : rs[j]? with
      | none => rw [h2] at h; simp at h
      | some w =>
        rw [h2] at h
        simp at h
        subst h
        exact List.mem_of_getElem? h2
    simp only
    rw [hd b (by have := hr _ hb; omega)]
theorem zce_cong {ad ad' : Nat → Nat × ClassId} {k n : Nat} {s : zSh} {f : Nat → Int} (hr : ∀ b ∈ s.2.2, b ≤ n) (hk : k < n) (hd : ∀ k, k < n → ad' k = ad k) : zce ad' k s f = zce ad k s f := by
  unfold zce zfv
  rw [zro_cong hr hd, hd k hk]
theorem zws_app {ad ad' : Nat → Nat × ClassId} {sh : List zSh} {mm : zMm} {s : zSh} (hw : zWf sh mm) (hd : ∀ k, k < sh.length → ad' k = ad k) :
    zws ad' (sh ++ [s]) (zn mm sh.length) = zws ad sh mm ++ [((ad' sh.length).1, zce ad' sh.length s (fun _ => 0))] := by
  unfold zws
  rw [List.mapIdx_concat]
  congr 1
  · apply List.ext_getElem?
    intro k
    rw [List.getElem?_mapIdx, List.getElem?_mapIdx]
    cases h : sh[k]? with
    | none => rfl
    | some t =>
      have hk : k < sh.length := (List.getElem?_eq_some_iff.mp h).1
      have hz : zn mm sh.length k = mm k := by
        funext j
        exact if_neg (by omega)
      simp only [Option.map_some]
      rw [hd k hk, hz, zce_cong (hw.1 k t h).1 hk hd]
  · have hz : zn mm sh.length sh.length = fun _ => 0 := by
      funext j
      exact if_pos rfl
    rw [hz]
theorem zcv_cong {ad ad' : Nat → Nat × ClassId} {n : Nat} {v : zV} (h : zrg n v) (hd : ∀ k, k < n ∨ 900 ≤ k → ad' k = ad k) : zcv ad' v = zcv ad v := by
  rcases v with x | x | k
  · rfl
  · rfl
  · have h1 : k < n ∨ k = 999 := h
    show Value.ref (ad' k).1 = Value.ref (ad k).1
    rw [hd k (by omega)]
theorem zrg_mono {n n' : Nat} (h : n ≤ n') {v : zV} (hv : zrg n v) : zrg n' v := by
  rcases v with x | x | k
  · exact hv
  · exact hv
  · rcases hv with h1 | h1
    · exact Or.inl (by omega)
    · exact Or.inr h1
theorem zcat_cv (ad : Nat → Nat × ClassId) (v : zV) : (zcv ad v).category = zcat v := by rcases v with x | x | k <;> rfl
theorem zcs_cv (ad : Nat → Nat × ClassId) : ∀ st : List zV, ((st.map (zcv ad)).map fun v => v.category).sum = zcs st
  | [] => rfl
  | v :: t => by
    simp only [List.map_cons, List.sum_cons, zcs, zcat_cv]
    rw [← zcs_cv ad t]
/-- the listed locals, for the kit's rows -/
def zlp (ad : Nat → Nat × ClassId) (ls : zLs) : List (Nat × Value) := (List.range ls.length).filterMap (fun j => match ls[j]? with
  | some (some v) => some (j, zcv ad v)
  | _ => none)
theorem zlp_mem {ad : Nat → Nat × ClassId} {ls : zLs} {q : Nat × Value} : q ∈ zlp ad ls ↔ ∃ v, ls[q.1]? = some (some v) ∧ q.2 = zcv ad v := by
  unfold zlp
  rw [List.mem_filterMap]
  constructor
  · rintro ⟨j, hj, h⟩
    split at h
    · rename_i v hv
      cases h
      exact ⟨v, hv, rfl⟩
    · cases h
  · rintro ⟨v, hv, hq⟩
    have hlt : q.1 < ls.length := (List.getElem?_eq_some_iff.mp hv).1
    refine ⟨q.1, List.mem_range.mpr hlt, ?_⟩
    rw [hv]
    show some (q.1, zcv ad v) = some q
    rw [← hq]
theorem zLc.has {ad : Nat → Nat × ClassId} {n : Nat} {ls : zLs} {lsR : Array Slot} (h : zLc ad n ls lsR) : lv_has lsR n (zlp ad ls) :=
  ⟨h.1, h.2.2.1, fun q hq => by obtain ⟨v, hv, e⟩ := zlp_mem.mp hq; rw [e]; exact h.2.2.2 _ _ hv⟩
theorem zst_len (ls : zLs) (i : Nat) (v : zV) : (zst ls i v).length = ls.length := by
  cases i with
  | zero => simp [zst]
  | succ j =>
    simp only [zst]
    split <;> simp
theorem zst_at {ls : zLs} {i : Nat} {v : zV} {j : Nat} {w : zV} (hi : i < ls.length) (h : (zst ls i v)[j]? = some (some w)) : (j = i ∧ w = v) ∨ (j ≠ i ∧ ls[j]? = some (some w) ∧ ¬ (j + 1 = i ∧ zcat w = 2)) := by
  by_cases e : j = i
  · subst e
    refine Or.inl ⟨rfl, ?_⟩
    cases j with
    | zero =>
      simp only [zst, List.getElem?_set] at h
      simpa [hi, eq_comm] using h
    | succ j =>
      simp only [zst] at h
      split at h <;> simpa [List.getElem?_set, hi, eq_comm] using h
  · refine Or.inr ⟨e, ?_⟩
    cases i with
    | zero =>
      simp only [zst, List.getElem?_set] at h
      rw [if_neg (fun q => e q.symm)] at h
      exact ⟨h, fun q => by omega⟩
    | succ i =>
      simp only [zst] at h
      split at h
      · rename_i x hx
        rw [List.getElem?_set, if_neg (fun q => e q.symm), List.getElem?_set] at h
        split at h
        · split at h <;> cases h
        · rename_i hn
          exact ⟨h, fun q => hn (by omega)⟩
      · rename_i hn
        rw [List.getElem?_set, if_neg (fun q => e q.symm)] at h
        refine ⟨h, fun q => ?_⟩
        obtain ⟨q1, q2⟩ := q
        have : j = i := by omega
        subst this
        rcases w with x | x | x
        · cases q2
        · exact hn x h
        · cases q2
theorem zLc.st {ad : Nat → Nat × ClassId} {n : Nat} {ls : zLs} {i : Nat} {v : zV} {lsR : Array Slot} (hn : ls.length = n) (hi : i < n) (h : lv_has lsR n ((i, zcv ad v) :: (zlp ad ls).filter (fun q => !(q.1 == i) && !(q.1 + 1 == i && q.2.category == 2)))) : zLc ad n (zst ls i v) lsR := by
  refine ⟨h.1, (zst_len ls i v).trans hn, h.2.1, fun j w hj => ?_⟩
  rcases zst_at (by omega) hj with ⟨rfl, rfl⟩ | ⟨h1, h2, h3⟩
  · exact h.2.2 _ List.mem_cons_self
  · refine h.2.2 (j, zcv ad w) (List.mem_cons_of_mem _ (List.mem_filter.mpr ⟨zlp_mem.mpr ⟨w, h2, rfl⟩, ?_⟩))
    simp only [Bool.and_eq_true, Bool.not_eq_true', beq_eq_false_iff_ne, ne_eq, Bool.and_eq_false_iff]
    refine ⟨h1, ?_⟩
    by_cases q : j + 1 = i
    · right
      intro h4
      rw [zcat_cv] at h4
      exact h3 ⟨q, h4⟩
    · exact Or.inl q
theorem zLc.cong {ad ad' : Nat → Nat × ClassId} {n m : Nat} {ls : zLs} {lsR : Array Slot} (h : zLc ad n ls lsR) (hr : ∀ v, some v ∈ ls → zrg m v) (hd : ∀ k, k < m ∨ 900 ≤ k → ad' k = ad k) : zLc ad' n ls lsR :=
  ⟨h.1, h.2.1, h.2.2.1, fun j v hj => by rw [zcv_cong (hr v (List.mem_of_getElem? hj)) hd]; exact h.2.2.2 j v hj⟩
theorem zst_mem {ls : zLs} {i : Nat} {v w : zV} (hi : i < ls.length) (h : some w ∈ zst ls i v) : w = v ∨ some w ∈ ls := by
  obtain ⟨j, hj⟩ := List.mem_iff_getElem?.mp h
  rcases zst_at hi hj with ⟨-, e⟩ | ⟨-, e, -⟩
  · exact Or.inl e
  · exact Or.inr (List.mem_of_getElem? e)
