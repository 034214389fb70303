theorem zpl_cong {h h' : Nat → List (List Nat)} : ∀ {n : Nat}, (∀ c, c < n → h c = h' c) → zpl h n = zpl h' n
  | 0, _ => rfl
  | n + 1, e => by
    unfold zpl
    rw [zpl_cong (fun c hc => e c (by omega)), e n (by omega)]
theorem zpm_cong {A A' : Nat → Bool} (e : ∀ c, c < 6 → A c = A' c) : ∀ (f : Nat) (U : Nat → Bool), zpm A f U = zpm A' f U
  | 0, _ => rfl
  | f + 1, U => by
    unfold zpm
    refine zpl_cong (fun c hc => ?_)
    rw [e c hc, zpm_cong e f]
theorem zlvl_cong {A A' : Nat → Bool} : ∀ {n : Nat}, (∀ c, c < n → A c = A' c) → zlvl A n = zlvl A' n
  | 0, _ => rfl
  | n + 1, e => by
    unfold zlvl
    rw [e n (by omega), zlvl_cong (fun c hc => e c (by omega))]
theorem zlvl_len (A : Nat → Bool) : ∀ n, (((zlvl A n).length : Nat) : Int) = zcnt A n
  | 0 => rfl
  | n + 1 => by
    have := zlvl_len A n
    rw [zcnt_s]
    unfold zlvl
    cases A n with
    | true =>
      simp only [if_true, List.length_append, List.length_singleton]
      omega
    | false =>
      simp only [Bool.false_eq_true, if_false]
      exact this
theorem zsix_c (A : Nat → Bool) : ∀ c, c < 6 → zsix (A 0) (A 1) (A 2) (A 3) (A 4) (A 5) c = A c := by
  intro c hc
  have : c = 0 ∨ c = 1 ∨ c = 2 ∨ c = 3 ∨ c = 4 ∨ c = 5 := by omega
  rcases this with h | h | h | h | h | h <;> subst h <;> rfl
/-- the list of the orders: its head, and each the next of the one ahead -/
theorem zorders (A : Nat → Bool) (n : Nat) (hn : (zlvl A 6).length = n) (h0 : 0 < n) : ∃ r, zpm A n (fun _ => false) = zlvl A 6 :: r ∧ zchb n (zlvl A 6 :: r) = true := by
  have h := zchsix_all (A 0) (A 1) (A 2) (A 3) (A 4) (A 5)
  have e := zsix_c A
  unfold zchsix at h
  rw [zlvl_cong e, zpm_cong e, hn] at h
  rw [Bool.and_eq_true] at h
  obtain ⟨h1, h2⟩ := h
  rw [decide_eq_false (by omega), Bool.false_or] at h2
  cases hz : zpm A n (fun _ => false) with
  | nil =>
    rw [hz] at h1
    cases h1
  | cons l r =>
    rw [hz] at h1 h2
    have h1 : (l == zlvl A 6) = true := h1
    have h1 := eq_of_beq h1
    subst h1
    exact ⟨r, rfl, h2⟩
/-- an order goes with the seats' sets -/
def zgoes (SS : Nat → Nat → Bool) : Nat → List Nat → Bool
  | _, [] => true
  | s, c :: l => SS s c && zgoes SS (s + 1) l
theorem zpl_len {p : List Nat → Bool} {h : Nat → List (List Nat)} : ∀ n, ((((zpl h n).filter p).length : Nat) : Int) = zsum (fun c => ((((h c).filter p).length : Nat) : Int)) n
  | 0 => rfl
  | n + 1 => by
    have := zpl_len (p := p) (h := h) n
    unfold zpl
    rw [List.filter_append, List.length_append, zsum_s]
    omega
theorem zgoes_map (SS : Nat → Nat → Bool) (s c : Nat) (L : List (List Nat)) : (L.map (c :: ·)).filter (zgoes SS s) = if SS s c then (L.filter (zgoes SS (s + 1))).map (c :: ·) else [] := by
  rw [List.filter_map]
  have e : (zgoes SS s ∘ fun x => c :: x) = fun l => SS s c && zgoes SS (s + 1) l := rfl
  rw [e]
  cases SS s c with
  | true =>
    simp only [Bool.true_and, if_true]
  | false =>
    simp
theorem zord_len {SS : Nat → Nat → Bool} {A : Nat → Bool} (hA : ∀ s c, SS s c = true → A c = true) : ∀ (f s : Nat) (U : Nat → Bool), zord SS f s U = ((((zpm A f U).filter (zgoes SS s)).length : Nat) : Int)
  | 0, s, U => rfl
  | f + 1, s, U => by
    rw [zord_s]
    unfold zpm
    rw [zpl_len]
    refine zsum_cong (fun c _ => ?_)
    cases hS : SS s c with
    | false =>
      rw [Bool.false_and, if_neg (by decide)]
      have : List.filter (zgoes SS s) (if (A c && !U c) = true then List.map (fun x => c :: x) (zpm A f fun x => U x || decide (x = c)) else []) = [] := by
        split
        · rw [zgoes_map, hS, if_neg (by decide)]
        · rfl
      rw [this]
      rfl
    | true =>
      rw [hA s c hS, Bool.true_and]
      cases hU : U c with
      | true => simp
      | false =>
        simp only [Bool.not_false, if_true]
        rw [zgoes_map, hS, if_pos rfl, List.length_map]
        exact zord_len hA f (s + 1) _
theorem zpl_none {p : List Nat → Bool} {h : Nat → List (List Nat)} : ∀ {n : Nat}, (zpl h n).filter p = [] → ∀ c, c < n → (h c).filter p = []
  | 0, _, c, hc => absurd hc (Nat.not_lt_zero c)
  | n + 1, e, c, hc => by
    unfold zpl at e
    rw [List.filter_append, List.append_eq_nil_iff] at e
    by_cases q : c = n
    · rw [q]; exact e.2
    · exact zpl_none e.1 c (by omega)
theorem zpl_first {p : List Nat → Bool} {h : Nat → List (List Nat)} {l0 : List Nat} : ∀ {n : Nat} {r : List (List Nat)}, (zpl h n).filter p = l0 :: r → ∃ c r', c < n ∧ (h c).filter p = l0 :: r' ∧ ∀ c', c' < c → (h c').filter p = []
  | 0, r, e => by cases e
  | n + 1, r, e => by
    unfold zpl at e
    rw [List.filter_append] at e
    cases hz : (zpl h n).filter p with
    | nil =>
      rw [hz, List.nil_append] at e
      exact ⟨n, r, by omega, e, zpl_none hz⟩
    | cons l r2 =>
      rw [hz, List.cons_append] at e
      injection e with e1 e2
      subst e1
      obtain ⟨c, r', h1, h2, h3⟩ := zpl_first hz
      exact ⟨c, r', by omega, h2, h3⟩
theorem zfst_at {P : Nat → Bool} {c : Nat} (hc : P c = true) : ∀ {f i : Nat}, i ≤ c → c < i + f → (∀ j, i ≤ j → j < c → P j = false) → zfst P f i = c
  | 0, i, h1, h2, _ => absurd h2 (by omega)
  | f + 1, i, h1, h2, h3 => by
    rw [zfst_s]
    by_cases q : i = c
    · rw [q, hc, if_pos rfl]
    · rw [h3 i (Nat.le_refl i) (by omega), if_neg (by decide)]
      exact zfst_at hc (by omega) (by omega) (fun j a b => h3 j (by omega) b)
theorem zhead {SS : Nat → Nat → Bool} {A : Nat → Bool} (hA : ∀ s c, SS s c = true → A c = true) {f s : Nat} {U : Nat → Bool} {l0 : List Nat} {r : List (List Nat)} (h : (zpm A (f + 1) U).filter (zgoes SS s) = l0 :: r) : ∃ c l1 r', l0 = c :: l1 ∧ c < 6 ∧ zfc SS f s U = (c : Int) ∧ (zpm A f (fun x => U x || decide (x = c))).filter (zgoes SS (s + 1)) = l1 :: r' := by
  unfold zpm at h
  obtain ⟨c, r', h1, h2, h3⟩ := zpl_first h
  have key : ∀ c', List.filter (zgoes SS s) (if (A c' && !U c') = true then List.map (fun x => c' :: x) (zpm A f fun x => U x || decide (x = c')) else []) = if SS s c' && !U c' then ((zpm A f (fun x => U x || decide (x = c'))).filter (zgoes SS (s + 1))).map (c' :: ·) else [] := fun c' => by
    cases hS : SS s c' with
    | false =>
      simp only [Bool.false_and, Bool.false_eq_true, if_false]
      split
      · rw [zgoes_map, hS, if_neg (by decide)]
      · rfl
    | true =>
      rw [hA s c' hS]
      simp only [Bool.true_and]
      split
      · rw [zgoes_map, hS, if_pos rfl]
      · rfl
  rw [key] at h2
  cases hb : (SS s c && !U c) with
  | false =>
    rw [hb, if_neg (by decide)] at h2
    cases h2
  | true =>
    rw [hb, if_pos rfl] at h2
    cases hz : (zpm A f (fun x => U x || decide (x = c))).filter (zgoes SS (s + 1)) with
    | nil =>
      rw [hz] at h2
      cases h2
    | cons l1 r1 =>
      rw [hz, List.map_cons] at h2
      injection h2 with e1 e2
      refine ⟨c, l1, r1, e1.symm, h1, ?_, hz⟩
      unfold zfc
      refine zfst_at ?_ (Nat.zero_le c) (by omega) (fun j _ hj => ?_)
      · rw [hb, Bool.true_and, zord_len hA, hz, List.length_cons]
        exact decide_eq_true (by omega)
      · have := h3 j hj
        rw [key] at this
        cases hb2 : (SS s j && !U j) with
        | false => rfl
        | true =>
          rw [hb2, if_pos rfl, List.map_eq_nil_iff] at this
          rw [Bool.true_and, zord_len hA, this]
          rfl
/-- the first order, seat by seat -/
theorem zheads {SS : Nat → Nat → Bool} {A : Nat → Bool} (hA : ∀ s c, SS s c = true → A c = true) {n : Nat} {l0 : List Nat} {r : List (List Nat)} (h : (zpm A n (fun _ => false)).filter (zgoes SS 0) = l0 :: r) : ∀ k, k ≤ n → ∃ l1 r', (zpm A (n - k) (zfu SS n k)).filter (zgoes SS k) = l1 :: r' ∧ (∀ i, zrowl l0 (k + i) = zrowl l1 i) ∧ ∀ j, j < k → zfc SS (n - 1 - j) j (zfu SS n j) = ((zrowl l0 j : Nat) : Int)
  | 0, _ => ⟨l0, r, h, fun i => by rw [Nat.zero_add], fun j hj => absurd hj (Nat.not_lt_zero j)⟩
  | k + 1, hk => by
    obtain ⟨l1, r', h1, h2, h3⟩ := zheads hA h k (by omega)
    rw [show n - k = (n - 1 - k) + 1 by omega] at h1
    obtain ⟨c, l2, r2, e1, e2, e3, e4⟩ := zhead hA h1
    have eU : (fun x => zfu SS n k x || decide (x = c)) = zfu SS n (k + 1) := by
      funext x
      show _ = (zfu SS n k x || decide ((x : Int) = zfc SS (n - 1 - k) k (zfu SS n k)))
      rw [e3]
      congr 1
      exact decide_eq_decide.mpr (by omega)
    rw [eU] at e4
    refine ⟨l2, r2, by rw [show n - (k + 1) = n - 1 - k by omega]; exact e4, fun i => ?_, fun j hj => ?_⟩
    · rw [show k + 1 + i = k + (i + 1) by omega, h2, e1]
      rfl
    · by_cases q : j = k
      · rw [q, e3, show k = k + 0 by omega, h2, e1]
        rfl
      · exact h3 j (by omega)
theorem zgoes_all (SS : Nat → Nat → Bool) : ∀ (l : List Nat) (s : Nat), zgoes SS s l = true ↔ ∀ i, i < l.length → SS (s + i) (zrowl l i) = true
  | [], s => ⟨fun _ i hi => absurd hi (Nat.not_lt_zero i), fun _ => rfl⟩
  | c :: l, s => by
    unfold zgoes
    rw [Bool.and_eq_true, zgoes_all SS l (s + 1)]
    constructor
    · intro h i hi
      cases i with
      | zero => exact h.1
      | succ i =>
        have := h.2 i (by rw [List.length_cons] at hi; omega)
        rw [show s + (i + 1) = s + 1 + i by omega]
        exact this
    · intro h
      refine ⟨h 0 (by rw [List.length_cons]; omega), fun i hi => ?_⟩
      have := h (i + 1) (by rw [List.length_cons]; omega)
      rw [show s + (i + 1) = s + 1 + i by omega] at this
      exact this
theorem zpl_mem {h : Nat → List (List Nat)} {l : List Nat} : ∀ {n : Nat}, l ∈ zpl h n → ∃ c, c < n ∧ l ∈ h c
  | 0, e => by cases e
  | n + 1, e => by
    unfold zpl at e
    rcases List.mem_append.mp e with q | q
    · obtain ⟨c, h1, h2⟩ := zpl_mem q
      exact ⟨c, by omega, h2⟩
    · exact ⟨n, by omega, q⟩
theorem zpm_mem {A : Nat → Bool} : ∀ (f : Nat) (U : Nat → Bool) (l : List Nat), l ∈ zpm A f U → l.length = f ∧ ∀ i, i < f → A (zrowl l i) = true ∧ zrowl l i < 6
  | 0, U, l, h => by
    have h : l ∈ [[]] := h
    rw [List.mem_singleton] at h
    subst h
    exact ⟨rfl, fun i hi => absurd hi (Nat.not_lt_zero i)⟩
  | f + 1, U, l, h => by
    unfold zpm at h
    obtain ⟨c, hc, h2⟩ := zpl_mem h
    cases hb : (A c && !U c) with
    | false =>
      rw [hb, if_neg (by decide)] at h2
      cases h2
    | true =>
      rw [hb, if_pos rfl] at h2
      obtain ⟨l', h3, rfl⟩ := List.mem_map.mp h2
      obtain ⟨q1, q2⟩ := zpm_mem f _ l' h3
      refine ⟨by rw [List.length_cons, q1], fun i hi => ?_⟩
      cases i with
      | zero =>
        rw [Bool.and_eq_true] at hb
        exact ⟨hb.1, hc⟩
      | succ i => exact q2 i (by omega)
theorem zSS_iff (al : Nat → Bool) (can : Nat → Nat → Nat → Bool) (e words n seats s c : Nat) : ∀ k, zSS al can e words n seats k s c = true ↔ al c = true ∧ ∀ i, i < k → s = i % seats → can c (zpe e words n i) (zpw words n i) = true
  | 0 => ⟨fun h => ⟨h, fun i hi => absurd hi (Nat.not_lt_zero i)⟩, fun h => h.1⟩
  | k + 1 => by
    show (zSS al can e words n seats k s c && (!decide (s = k % seats) || can c (zpe e words n k) (zpw words n k))) = true ↔ _
    rw [Bool.and_eq_true, zSS_iff al can e words n seats s c k]
    constructor
    · rintro ⟨⟨h1, h2⟩, h3⟩
      refine ⟨h1, fun i hi hs => ?_⟩
      by_cases q : i = k
      · subst q
        rw [decide_eq_true hs] at h3
        simpa using h3
      · exact h2 i (by omega) hs
    · rintro ⟨h1, h2⟩
      refine ⟨⟨h1, fun i hi hs => h2 i (by omega) hs⟩, ?_⟩
      by_cases q : s = k % seats
      · rw [h2 k (by omega) q, Bool.or_true]
      · rw [decide_eq_false q]
        rfl
