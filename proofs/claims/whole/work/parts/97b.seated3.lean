set_option maxRecDepth 100000 in
theorem zb_X9_seated_151n (d : Nat) (a1 a2 a3 a4 a6 s0 : Int) (mm : zMm) : zR d 185 151 [some (.inr (.inr 45)), some (.inl a1), some (.inl a2), some (.inl a3), some (.inl a4), none, some (.inl a6), none, none] [.inl s0] SH mm = (zR d 185 91 [some (.inr (.inr 45)), some (.inl a1), some (.inl a2), some (.inl a3), some (.inl a4), none, some (.inl a6), some (.inl s0), none] [] SH mm) := (zR_unf d 185 [48, 91, 110] 3 151 _ _ _ _).trans rfl
section
variable {m mm : zMm}
/-- the answer, when so many were found and a list is left -/
def zsans (kk : Int) (found : Nat) (F : Nat → Int) (L : List (List Nat)) : Int := if found + L.length = 0 then -4 else if kk < 0 then ((found + L.length : Nat) : Int) else if found = 0 then ((zrowl (L.headD []) kk.toNat : Nat) : Int) else F kk.toNat
theorem zsm_R (S F : Nat → Int) (hR : mR m mm) : mR (zur (zur m 62 F) 61 S) mm := mR_fr (fun k a b => by rw [zur_k _ _ (by omega), zur_k _ _ (by omega)]) (fun j hj => by rw [zur_k _ _ (by decide), zur_k _ _ (by decide)]) hR
theorem zs62_R (F : Nat → Int) (hR : mR m mm) : mR (zur m 62 F) mm := mR_fr (fun k a b => by rw [zur_k _ _ (by omega)]) (fun j hj => by rw [zur_k _ _ (by decide)]) hR
theorem zs62_u (S F : Nat → Int) (j : Nat) (v : Int) : zu (zur (zur m 62 F) 61 S) 62 j v = zur (zur m 62 (zset F j v)) 61 S := by
  funext a b
  unfold zu zur zset
  by_cases h : a = 61
  · subst h
    simp
  · by_cases h2 : a = 62
    · subst h2
      by_cases q : b = j <;> simp [q]
    · simp [h, h2]
theorem zsans_nil (kk : Int) (found : Nat) (F : Nat → Int) : zsans kk found F [] = if found = 0 then -4 else if kk < 0 then (found : Int) else F kk.toNat := by
  unfold zsans
  simp only [List.length_nil, Nat.add_zero]
  by_cases c : found = 0
  · rw [if_pos c, if_pos c]
  · rw [if_neg c, if_neg c, if_neg c]
theorem t_seated_step (d words n live : Nat) (kk : Int) (hk : -1 ≤ kk ∧ kk < live) (hw : words < 262144) (hn : n ≤ 6) (hl : 0 < live) (hl6 : live ≤ 6) (hR : mR m mm) (hI : xI mm) (rest : List (List Nat)) (l : List Nat) (found : Nat) (S F : Nat → Int) (hS : zagr live S (zrowl l)) (hm : ∀ i, i < live → ((zrowl l i : Nat) : Int) < mm 6 3) (hf : found + 1 + rest.length ≤ 100000)
    (tail : ∀ (found' : Nat) (F : Nat → Int), found' + rest.length ≤ 100000 → ∃ (v : Int) (S1 S' F' : Nat → Int), zL (d + 6) 183 [.inr (.inr 45), .inl (live : Int)] SH (zur (zur m 62 F) 61 S) = zok v (zur (zur m 62 F) 61 S1) ∧ zR (d + 6) 185 91 [some (.inr (.inr 45)), some (.inl (words : Int)), some (.inl (n : Int)), some (.inl kk), some (.inl (live : Int)), none, some (.inl (found' : Int)), some (.inl v), none] [] SH (zur (zur m 62 F) 61 S1) = zok (zsans kk found' F (rest.filter (fun x => zsing (xcm mm) (xe mm) words n live (zrowl x) n))) (zur (zur m 62 F') 61 S')) :
    ∃ S' F' : Nat → Int, zR (d + 6) 185 91 [some (.inr (.inr 45)), some (.inl (words : Int)), some (.inl (n : Int)), some (.inl kk), some (.inl (live : Int)), none, some (.inl (found : Int)), some (.inl 1), none] [] SH (zur (zur m 62 F) 61 S) = zok (zsans kk found F ((l :: rest).filter (fun x => zsing (xcm mm) (xe mm) words n live (zrowl x) n))) (zur (zur m 62 F') 61 S') := by
  have hsg := t_sings (m := zur m 62 F) (mm := mm) d words n live (zrowl l) hw hn hl hl6 hm S hS (zs62_R F hR) hI
  rw [zb_X9_seated_91, if_neg (by decide), hsg, zcI_ok, zb_X9_seated_104]
  cases hg : zsing (xcm mm) (xe mm) words n live (zrowl l) n with
  | false =>
    obtain ⟨v, S1, S', F', n1, n2⟩ := tail found F (by omega)
    refine ⟨S', F', ?_⟩
    have e : List.filter (fun x => zsing (xcm mm) (xe mm) words n live (zrowl x) n) (l :: rest) = List.filter (fun x => zsing (xcm mm) (xe mm) words n live (zrowl x) n) rest := by
      rw [List.filter_cons, hg, if_neg (by decide)]
    rw [if_pos (by decide), n1, zcI_ok, zb_X9_seated_151, e]
    exact n2
  | true =>
    have e : List.filter (fun x => zsing (xcm mm) (xe mm) words n live (zrowl x) n) (l :: rest) = l :: List.filter (fun x => zsing (xcm mm) (xe mm) words n live (zrowl x) n) rest := by
      rw [List.filter_cons, hg, if_pos rfl]
    rw [e, if_neg (by decide)]
    by_cases c0 : found = 0
    · subst c0
      obtain ⟨v, S1, S', F', n1, n2⟩ := tail 1 (fun j => if j < live then S j else F j) (by omega)
      refine ⟨S', F', ?_⟩
      have ea : zsans kk 1 (fun j => if j < live then S j else F j) (List.filter (fun x => zsing (xcm mm) (xe mm) words n live (zrowl x) n) rest) = zsans kk 0 F (l :: List.filter (fun x => zsing (xcm mm) (xe mm) words n live (zrowl x) n) rest) := by
        generalize List.filter (fun x => zsing (xcm mm) (xe mm) words n live (zrowl x) n) rest = Lf
        unfold zsans
        rw [List.length_cons]
        by_cases c : kk < 0
        · rw [if_neg (show ¬ 1 + Lf.length = 0 by omega), if_pos c, if_neg (show ¬ 0 + (Lf.length + 1) = 0 by omega), if_pos c]
          omega
        · rw [if_neg (show ¬ 1 + Lf.length = 0 by omega), if_neg c, if_neg (show ¬ (1 = 0) by decide), if_neg (show ¬ 0 + (Lf.length + 1) = 0 by omega), if_neg c, if_pos rfl]
          dsimp only
          rw [if_pos (by omega)]
          exact hS _ (by omega)
      have key : ∀ i : Nat, i ≤ live → zR (d + 6) 185 110 [some (.inr (.inr 45)), some (.inl (words : Int)), some (.inl (n : Int)), some (.inl kk), some (.inl (live : Int)), none, some (.inl ((0 : Nat) : Int)), none, some (.inl (i : Int))] [] SH (zur (zur m 62 (fun j => if j < i then S j else F j)) 61 S) = zok (zsans kk 0 F (l :: List.filter (fun x => zsing (xcm mm) (xe mm) words n live (zrowl x) n) rest)) (zur (zur m 62 F') 61 S') := by
        refine zup ?_ ?_
        · rw [zb_X9_seated_110, if_neg (by omega), n1, zcI_ok]
          refine zR_weak (ls := [some (.inr (.inr 45)), some (.inl (words : Int)), some (.inl (n : Int)), some (.inl kk), some (.inl (live : Int)), none, some (.inl (zw (((0 : Nat) : Int) + 1))), none, none]) (by repeat first | exact zle_nil | apply zle_c | apply zle_n) ?_
          rw [zb_X9_seated_151n, ← ea]
          exact n2
        · intro i hi ih
          have e1 : zset (fun j => if j < i then S j else F j) i (S i) = fun j => if j < i + 1 then S j else F j := by
            funext j
            unfold zset
            by_cases q : j = i
            · subst q; simp
            · by_cases c : j < i
              · simp [q, c, show j < i + 1 by omega]
              · simp [q, c, show ¬ j < i + 1 by omega]
          rw [zb_X9_seated_110, if_pos (by omega), if_pos (by omega), if_pos (by omega), if_pos (by omega), zur_s, Int.toNat_natCast, zs62_u, e1, zw_inc i (by omega)]
          exact ih
      have k0 := key 0 (by omega)
      have e0 : (fun j => if j < 0 then S j else F j) = F := by
        funext j
        rw [if_neg (Nat.not_lt_zero j)]
      rw [e0] at k0
      exact zR_weak (by repeat first | exact zle_nil | apply zle_c | apply zle_n) k0
    · obtain ⟨v, S1, S', F', n1, n2⟩ := tail (found + 1) F (by omega)
      refine ⟨S', F', ?_⟩
      have ea : zsans kk (found + 1) F (List.filter (fun x => zsing (xcm mm) (xe mm) words n live (zrowl x) n) rest) = zsans kk found F (l :: List.filter (fun x => zsing (xcm mm) (xe mm) words n live (zrowl x) n) rest) := by
        generalize List.filter (fun x => zsing (xcm mm) (xe mm) words n live (zrowl x) n) rest = Lf
        unfold zsans
        rw [List.length_cons]
        by_cases c : kk < 0
        · rw [if_neg (show ¬ found + 1 + Lf.length = 0 by omega), if_pos c, if_neg (show ¬ found + (Lf.length + 1) = 0 by omega), if_pos c]
          omega
        · rw [if_neg (show ¬ found + 1 + Lf.length = 0 by omega), if_neg c, if_neg (show ¬ (found + 1 = 0) by omega), if_neg (show ¬ found + (Lf.length + 1) = 0 by omega), if_neg c, if_neg c0]
      refine zR_weak (ls := [some (.inr (.inr 45)), some (.inl (words : Int)), some (.inl (n : Int)), some (.inl kk), some (.inl (live : Int)), none, some (.inl (found : Int)), none, some (.inl 0)]) (by repeat first | exact zle_nil | apply zle_c | apply zle_n) ?_
      rw [zb_X9_seated_110, if_pos (by omega), if_neg (by omega), n1, zcI_ok]
      refine zR_weak (ls := [some (.inr (.inr 45)), some (.inl (words : Int)), some (.inl (n : Int)), some (.inl kk), some (.inl (live : Int)), none, some (.inl (zw ((found : Int) + 1))), none, none]) (by repeat first | exact zle_nil | apply zle_c | apply zle_n) ?_
      rw [zb_X9_seated_151n, zw_inc found (by omega), ← ea]
      exact n2
theorem t_seated_loop (d words n live : Nat) (kk : Int) (hk : -1 ≤ kk ∧ kk < live) (hw : words < 262144) (hn : n ≤ 6) (hl : 0 < live) (hl6 : live ≤ 6) (hR : mR m mm) (hI : xI mm) : ∀ (rest : List (List Nat)) (l : List Nat) (found : Nat) (S F : Nat → Int), zagr live S (zrowl l) → zchb live (l :: rest) = true → (∀ x, x ∈ l :: rest → ∀ i, i < live → ((zrowl x i : Nat) : Int) < mm 6 3) → found + 1 + rest.length ≤ 100000 → ∃ S' F' : Nat → Int, zR (d + 6) 185 91 [some (.inr (.inr 45)), some (.inl (words : Int)), some (.inl (n : Int)), some (.inl kk), some (.inl (live : Int)), none, some (.inl (found : Int)), some (.inl 1), none] [] SH (zur (zur m 62 F) 61 S) = zok (zsans kk found F ((l :: rest).filter (fun x => zsing (xcm mm) (xe mm) words n live (zrowl x) n))) (zur (zur m 62 F') 61 S') := by
  -- the end
  have fin : ∀ (found : Nat) (S F : Nat → Int), found ≤ 100000 → zR (d + 6) 185 91 [some (.inr (.inr 45)), some (.inl (words : Int)), some (.inl (n : Int)), some (.inl kk), some (.inl (live : Int)), none, some (.inl (found : Int)), some (.inl 0), none] [] SH (zur (zur m 62 F) 61 S) = zok (zsans kk found F []) (zur (zur m 62 F) 61 S) := fun found S F hf => by
    rw [zb_X9_seated_91, if_pos rfl, zsans_nil]
    by_cases c : found = 0
    · rw [if_pos (by omega), if_pos c]
    · rw [if_neg (by omega), if_neg c]
      by_cases c2 : kk < 0
      · rw [if_pos c2, if_pos c2]
      · rw [if_neg c2, if_neg c2, if_pos (by omega), zur_k _ _ (by decide), zur_s]
  intro rest
  induction rest with
  | nil =>
    intro l found S F hS hc hm hf
    have hc : (znext (zrowl l) live).isNone = true := hc
    have hnk : znk (zrowl l) (live - 1) = 0 := by
      unfold znext at hc
      by_cases q : znk (zrowl l) (live - 1) = 0
      · exact q
      · rw [if_neg q] at hc
        cases hc
    refine t_seated_step d words n live kk hk hw hn hl hl6 hR hI [] l found S F hS (hm l (by simp)) hf (fun found' F hf' => ?_)
    obtain ⟨S', n1, _⟩ := t_nextOrder (m := zur m 62 F) (d + 5) live hl6 hl S (zrowl l) hS
    rw [hnk, if_pos rfl] at n1
    exact ⟨0, S', S', F, n1, fin found' S' F (by simpa using hf')⟩
  | cons l' r ih =>
    intro l found S F hS hc hm hf
    have hc : ((match znext (zrowl l) live with | none => false | some R' => (List.range live).all fun j => R' j == zrowl l' j) && zchb live (l' :: r)) = true := hc
    rw [Bool.and_eq_true] at hc
    obtain ⟨hc1, hc2⟩ := hc
    cases hz : znext (zrowl l) live with
    | none =>
      rw [hz] at hc1
      cases hc1
    | some R' =>
      rw [hz] at hc1
      have hc1 : ((List.range live).all fun j => R' j == zrowl l' j) = true := hc1
      rw [List.all_eq_true] at hc1
      have hnk : ¬ znk (zrowl l) (live - 1) = 0 := by
        intro q
        unfold znext at hz
        rw [if_pos q] at hz
        cases hz
      rw [List.length_cons] at hf
      refine t_seated_step d words n live kk hk hw hn hl hl6 hR hI (l' :: r) l found S F hS (hm l (by simp)) (by rw [List.length_cons]; omega) (fun found' F hf' => ?_)
      rw [List.length_cons] at hf'
      obtain ⟨S1, n1, n2⟩ := t_nextOrder (m := zur m 62 F) (d + 5) live hl6 hl S (zrowl l) hS
      rw [if_neg hnk] at n1
      have hS1 : zagr live S1 (zrowl l') := fun j hj => by
        rw [n2 R' hz j hj]
        have := hc1 j (List.mem_range.mpr hj)
        rw [eq_of_beq this]
      obtain ⟨S', F', h1⟩ := ih l' found' S1 F hS1 hc2 (fun x hx i hi => hm x (List.mem_cons_of_mem _ hx) i hi) (by omega)
      exact ⟨1, S1, S', F', n1, h1⟩
end
