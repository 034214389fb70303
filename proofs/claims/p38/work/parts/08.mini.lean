abbrev zV : Type := Int ⊕ (Int ⊕ Nat)
abbrev zSh : Type := Nat × Nat × List Nat
abbrev zMm : Type := Nat → Nat → Int
abbrev zLs : Type := List (Option zV)
abbrev zRes : Type := Option (Option zV × List zSh × zMm)
def zw (x : Int) : Int := Int.bmod x 4294967296
def zwl (x : Int) : Int := Int.bmod x 18446744073709551616
def zu (m : zMm) (k j : Nat) (v : Int) : zMm := fun a b => if a = k ∧ b = j then v else m a b
/-- a new cell's row is all 0 -/
def zn (m : zMm) (k : Nat) : zMm := fun a b => if a = k then 0 else m a b
def zcp (m : zMm) (a sp b dp n : Nat) : zMm := fun k j => if k = b ∧ dp ≤ j ∧ j < dp + n then m a (sp + (j - dp)) else m k j
def zdiv (a b : Int) : Int := (Int32.ofInt a / Int32.ofInt b).toInt
def zrem (a b : Int) : Int := (Int32.ofInt a - Int32.ofInt a / Int32.ofInt b * Int32.ofInt b).toInt
def zshl (a b : Int) : Int := (Int32.ofInt a <<< (Int32.ofInt b &&& 31)).toInt
def zshr (a b : Int) : Int := (Int32.ofInt a >>> (Int32.ofInt b &&& 31)).toInt
def zush (a b : Int) : Int := (((Int32.ofInt a).toUInt32 >>> ((Int32.ofInt b).toUInt32 &&& Int32.toUInt32 31)).toInt32).toInt
def zand (a b : Int) : Int := (Int32.ofInt a &&& Int32.ofInt b).toInt
def zor (a b : Int) : Int := (Int32.ofInt a ||| Int32.ofInt b).toInt
def zxor (a b : Int) : Int := (Int32.ofInt a ^^^ Int32.ofInt b).toInt
def zi2b (a : Int) : Int := ((Int32.ofInt a).toInt8.toInt32).toInt
def zi2s (a : Int) : Int := ((Int32.ofInt a).toInt16.toInt32).toInt
def zlshl (a b : Int) : Int := (Int64.ofInt a <<< ((Int32.ofInt b).toInt64 &&& 63)).toInt
def zlshr (a b : Int) : Int := (Int64.ofInt a >>> ((Int32.ofInt b).toInt64 &&& 63)).toInt
def zland (a b : Int) : Int := (Int64.ofInt a &&& Int64.ofInt b).toInt
def zlor (a b : Int) : Int := (Int64.ofInt a ||| Int64.ofInt b).toInt
section ZS
variable {β : Type}
def zb1 (F : β) (st : List zV) (f : Int → List zV → β) : β := match st with
  | .inl x :: s => f x s
  | _ => F
def zb2 (F : β) (st : List zV) (f : Int → Int → List zV → β) : β := match st with
  | .inl y :: .inl x :: s => f x y s
  | _ => F
def zbl1 (F : β) (st : List zV) (f : Int → List zV → β) : β := match st with
  | .inr (.inl x) :: s => f x s
  | _ => F
def zbl2 (F : β) (st : List zV) (f : Int → Int → List zV → β) : β := match st with
  | .inr (.inl y) :: .inr (.inl x) :: s => f x y s
  | _ => F
def zbli (F : β) (st : List zV) (f : Int → Int → List zV → β) : β := match st with
  | .inl y :: .inr (.inl x) :: s => f x y s
  | _ => F
def zbr (F : β) (st : List zV) (f : Nat → List zV → β) : β := match st with
  | .inr (.inr a) :: s => f a s
  | _ => F
def zbir (F : β) (st : List zV) (f : Nat → Int → List zV → β) : β := match st with
  | .inl j :: .inr (.inr a) :: s => f a j s
  | _ => F
def zbiir (F : β) (st : List zV) (f : Nat → Int → Int → List zV → β) : β := match st with
  | .inl x :: .inl j :: .inr (.inr a) :: s => f a j x s
  | _ => F
def zcn (c : ClassFile.Cond) (x y : Int) (a b : β) : β := match c with
  | .eq => if x = y then a else b
  | .ne => if x = y then b else a
  | .lt => if x < y then a else b
  | .ge => if x < y then b else a
  | .gt => if y < x then a else b
  | .le => if y < x then b else a
def zsw (x : Int) (f : Nat → β) (d : Nat) : Int → List Nat → β
  | _, [] => f d
  | lo, t :: ts => if x = lo then f t else zsw x f d (lo + 1) ts
/-- the shape of a cell -/
def zsh (F : β) (sh : List zSh) (a : Nat) (f : Nat → Nat → List Nat → β) : β := match sh[a]? with
  | some (k, n, rs) => f k n rs
  | none => F
def zld (F : β) (ls : zLs) (i : Nat) (f : zV → β) : β := match ls[i]? with
  | some (some v) => f v
  | _ => F
end ZS
def zcat (v : zV) : Nat := match v with
  | .inr (.inl _) => 2
  | _ => 1
def zcs : List zV → Nat
  | [] => 0
  | v :: t => zcat v + zcs t
/-- a value of one slot comes to a local -/
def zst (ls : zLs) (i : Nat) (v : zV) : zLs := match i with
  | 0 => ls.set 0 (some v)
  | j + 1 => (match ls[j]? with
    | some (some (.inr (.inl _))) => (ls.set j none).set (j + 1) (some v)
    | _ => ls.set (j + 1) (some v))
def zin0 : List zV → zLs
  | [] => []
  | v :: t => match v with
    | .inr (.inl x) => some (.inr (.inl x)) :: none :: zin0 t
    | .inl x => some (.inl x) :: zin0 t
    | .inr (.inr a) => some (.inr (.inr a)) :: zin0 t
def zin (n : Nat) (vs : List zV) : zLs := zin0 vs ++ List.replicate (n - (zin0 vs).length) none
section ZS1
variable {β : Type} (F : β) (R : Option zV → List zSh → zMm → β) (G : Nat → zLs → List zV → List zSh → zMm → β) (K : Nat → Bool → List zV → Nat → zLs → List zV → List zSh → zMm → β)
def zinv (len p r : Nat) (q : Int) (pc : Nat) (ls : zLs) (st : List zV) (sh : List zSh) (mm : zMm) : β :=
  if q = 6 then zbr F st fun _ s => bif Nat.ble (zcs s) 8 then G (pc + len) ls s sh mm else F
  else if q = 7 then (match st with
    | .inl n :: .inl dp :: .inr (.inr b) :: .inl sp :: .inr (.inr a) :: s =>
      zsh F sh a fun ka na _ => zsh F sh b fun kb nb _ => if ka = 100 ∧ kb = 100 ∧ 0 ≤ sp ∧ 0 ≤ dp ∧ 0 ≤ n ∧ sp + n ≤ na ∧ dp + n ≤ nb ∧ zcs s ≤ 8 then G (pc + len) ls s sh (zcp mm a sp.toNat b dp.toNat n.toNat) else F
    | _ => F)
  else bif Nat.ble r st.length && Nat.ble (zcs (st.drop r)) 8 then
    (if q = 2 ∨ q = 3 ∨ q = 12 ∨ q = 13 then K p (decide (10 ≤ q)) (st.take r).reverse (pc + len) ls (st.drop r) sh mm
     else match (st.take r).reverse with
      | .inr (.inr a) :: _ => zsh F sh a fun k _ _ => bif Nat.beq k (zci p) then K p (decide (10 ≤ q)) (st.take r).reverse (pc + len) ls (st.drop r) sh mm else F
      | _ => F)
  else F
/-- one instruction: fail, come to the method's end, go on, or call -/
def zs1 (e : zEn) (pc : Nat) (ls : zLs) (st : List zV) (sh : List zSh) (mm : zMm) : β :=
  match e with
  | (ins, len, p, r, q) => match ins with
    | .iload i => zld F ls i fun v => match v with
      | .inl x => G (pc + len) ls (.inl x :: st) sh mm
      | _ => F
    | .iload_n i => zld F ls i.val fun v => match v with
      | .inl x => G (pc + len) ls (.inl x :: st) sh mm
      | _ => F
    | .lload i => zld F ls i fun v => match v with
      | .inr (.inl x) => G (pc + len) ls (.inr (.inl x) :: st) sh mm
      | _ => F
    | .lload_n i => zld F ls i.val fun v => match v with
      | .inr (.inl x) => G (pc + len) ls (.inr (.inl x) :: st) sh mm
      | _ => F
    | .aload i => zld F ls i fun v => match v with
      | .inr (.inr x) => G (pc + len) ls (.inr (.inr x) :: st) sh mm
      | _ => F
    | .aload_n i => zld F ls i.val fun v => match v with
      | .inr (.inr x) => G (pc + len) ls (.inr (.inr x) :: st) sh mm
      | _ => F
    | .istore i => bif Nat.blt i ls.length then zb1 F st fun x s => G (pc + len) (zst ls i (.inl x)) s sh mm else F
    | .istore_n i => bif Nat.blt i.val ls.length then zb1 F st fun x s => G (pc + len) (zst ls i.val (.inl x)) s sh mm else F
    | .astore i => bif Nat.blt i ls.length then zbr F st fun x s => G (pc + len) (zst ls i (.inr (.inr x))) s sh mm else F
    | .astore_n i => bif Nat.blt i.val ls.length then zbr F st fun x s => G (pc + len) (zst ls i.val (.inr (.inr x))) s sh mm else F
    | .iinc i c => zld F ls i fun v => match v with
      | .inl x => G (pc + len) (zst ls i (.inl (zw (x + c)))) st sh mm
      | _ => F
    | .bipush _ => G (pc + len) ls (.inl q :: st) sh mm
    | .sipush _ => G (pc + len) ls (.inl q :: st) sh mm
    | .iconst _ => G (pc + len) ls (.inl q :: st) sh mm
    | .ldc _ => G (pc + len) ls (.inl q :: st) sh mm
    | .ldc_w _ => G (pc + len) ls (.inl q :: st) sh mm
    | .lconst _ => G (pc + len) ls (.inr (.inl q) :: st) sh mm
    | .ldc2_w _ => G (pc + len) ls (.inr (.inl q) :: st) sh mm
    | .iadd => zb2 F st fun x y s => G (pc + len) ls (.inl (zw (x + y)) :: s) sh mm
    | .isub => zb2 F st fun x y s => G (pc + len) ls (.inl (zw (x - y)) :: s) sh mm
    | .imul => zb2 F st fun x y s => G (pc + len) ls (.inl (zw (x * y)) :: s) sh mm
    | .idiv => zb2 F st fun x y s => if y = 0 then F else G (pc + len) ls (.inl (zdiv x y) :: s) sh mm
    | .irem => zb2 F st fun x y s => if y = 0 then F else G (pc + len) ls (.inl (zrem x y) :: s) sh mm
    | .ishl => zb2 F st fun x y s => G (pc + len) ls (.inl (zshl x y) :: s) sh mm
    | .ishr => zb2 F st fun x y s => G (pc + len) ls (.inl (zshr x y) :: s) sh mm
    | .iushr => zb2 F st fun x y s => G (pc + len) ls (.inl (zush x y) :: s) sh mm
    | .iand => zb2 F st fun x y s => G (pc + len) ls (.inl (zand x y) :: s) sh mm
    | .ior => zb2 F st fun x y s => G (pc + len) ls (.inl (zor x y) :: s) sh mm
    | .ixor => zb2 F st fun x y s => G (pc + len) ls (.inl (zxor x y) :: s) sh mm
    | .i2b => zb1 F st fun x s => G (pc + len) ls (.inl (zi2b x) :: s) sh mm
    | .i2s => zb1 F st fun x s => G (pc + len) ls (.inl (zi2s x) :: s) sh mm
    | .i2l => zb1 F st fun x s => G (pc + len) ls (.inr (.inl x) :: s) sh mm
    | .l2i => zbl1 F st fun x s => G (pc + len) ls (.inl (zw x) :: s) sh mm
    | .ladd => zbl2 F st fun x y s => G (pc + len) ls (.inr (.inl (zwl (x + y))) :: s) sh mm
    | .lmul => zbl2 F st fun x y s => G (pc + len) ls (.inr (.inl (zwl (x * y))) :: s) sh mm
    | .land => zbl2 F st fun x y s => G (pc + len) ls (.inr (.inl (zland x y)) :: s) sh mm
    | .lor => zbl2 F st fun x y s => G (pc + len) ls (.inr (.inl (zlor x y)) :: s) sh mm
    | .lshl => zbli F st fun x y s => G (pc + len) ls (.inr (.inl (zlshl x y)) :: s) sh mm
    | .lshr => zbli F st fun x y s => G (pc + len) ls (.inr (.inl (zlshr x y)) :: s) sh mm
    | .lcmp => zbl2 F st fun x y s => if x < y then G (pc + len) ls (.inl (-1) :: s) sh mm else if x = y then G (pc + len) ls (.inl 0 :: s) sh mm else G (pc + len) ls (.inl 1 :: s) sh mm
    | .dup => (match st with
      | .inl x :: s => G (pc + len) ls (.inl x :: .inl x :: s) sh mm
      | .inr (.inr x) :: s => G (pc + len) ls (.inr (.inr x) :: .inr (.inr x) :: s) sh mm
      | _ => F)
    | .dup2 => zbir F st fun a j s => G (pc + len) ls (.inl j :: .inr (.inr a) :: .inl j :: .inr (.inr a) :: s) sh mm
    | .pop => zb1 F st fun _ s => G (pc + len) ls s sh mm
    | .goto _ => G p ls st sh mm
    | .if_icmp c _ => zb2 F st fun x y s => zcn c x y (G p ls s sh mm) (G (pc + len) ls s sh mm)
    | .ifCond c _ => zb1 F st fun x s => zcn c x 0 (G p ls s sh mm) (G (pc + len) ls s sh mm)
    | .tableswitch d lo _ offs => zb1 F st fun x s => zsw x (fun t => G t ls s sh mm) ((pc : Int) + d).toNat lo (offs.toList.map fun o => ((pc : Int) + o).toNat)
    | .getfield _ => zbr F st fun a s => zsh F sh a fun k n rs => bif Nat.beq k r && Nat.blt p n then
        (bif Nat.beq (zft k p) 2 then (match rs[p]? with
          | some (b + 1) => G (pc + len) ls (.inr (.inr b) :: s) sh mm
          | _ => F)
        else G (pc + len) ls (.inl (mm a p) :: s) sh mm) else F
    | .putfield _ => (match st with
      | .inl x :: .inr (.inr a) :: s => zsh F sh a fun k n _ => bif Nat.beq k r && Nat.blt p n then
          (bif Nat.beq (zft k p) 0 then G (pc + len) ls s sh (zu mm a p x)
           else bif Nat.beq (zft k p) 1 then (if x = 0 ∨ x = 1 then G (pc + len) ls s sh (zu mm a p x) else F) else F) else F
      | .inr (.inr b) :: .inr (.inr a) :: s => zsh F sh a fun k n rs => bif Nat.beq k r && Nat.blt p n && Nat.beq (zft k p) 2 && Nat.blt b sh.length then G (pc + len) ls s (sh.set a (k, n, rs.set p (b + 1))) mm else F
      | _ => F)
    | .iaload => bif Nat.beq p 1 then zbir F st fun a j s => bif Nat.beq a 999 then (if 0 ≤ j ∧ j < mm 998 0 then G (pc + len) ls (.inl (mm 999 j.toNat) :: s) sh mm else F) else F
        else zbir F st fun a j s => zsh F sh a fun k n _ => bif Nat.beq k 100 then (if 0 ≤ j ∧ j < n then G (pc + len) ls (.inl (mm a j.toNat) :: s) sh mm else F) else F
    | .baload => zbir F st fun a j s => zsh F sh a fun k n _ => bif Nat.beq k 101 || Nat.beq k 102 then (if 0 ≤ j ∧ j < n then G (pc + len) ls (.inl (mm a j.toNat) :: s) sh mm else F) else F
    | .aaload => zbir F st fun a j s => zsh F sh a fun k n rs => bif Nat.beq k 103 then (if 0 ≤ j ∧ j < n then (match rs[j.toNat]? with
          | some (b + 1) => G (pc + len) ls (.inr (.inr b) :: s) sh mm
          | _ => F) else F) else F
    | .iastore => zbiir F st fun a j x s => zsh F sh a fun k n _ => bif Nat.beq k 100 then (if 0 ≤ j ∧ j < n then G (pc + len) ls s sh (zu mm a j.toNat x) else F) else F
    | .bastore => zbiir F st fun a j x s => zsh F sh a fun k n _ => bif Nat.beq k 101 then (if (0 ≤ j ∧ j < n) ∧ (x = 0 ∨ x = 1) then G (pc + len) ls s sh (zu mm a j.toNat x) else F)
        else bif Nat.beq k 102 then (if 0 ≤ j ∧ j < n then G (pc + len) ls s sh (zu mm a j.toNat (zi2b x)) else F) else F
    | .aastore => (match st with
      | .inr (.inr b) :: .inl j :: .inr (.inr a) :: s => zsh F sh a fun k n rs => zsh F sh b fun kb _ _ => bif Nat.beq k 103 && Nat.beq kb 4 then (if 0 ≤ j ∧ j < n then G (pc + len) ls s (sh.set a (k, n, rs.set j.toNat (b + 1))) mm else F) else F
      | _ => F)
    | .arraylength => bif Nat.beq p 1 then zbr F st fun a s => bif Nat.beq a 999 then G (pc + len) ls (.inl (mm 998 0) :: s) sh mm else F
        else zbr F st fun a s => zsh F sh a fun k n _ => bif Nat.ble 100 k && Nat.ble k 103 then G (pc + len) ls (.inl n :: s) sh mm else F
    | .new _ => bif Nat.blt sh.length 900 then G (pc + len) ls (.inr (.inr sh.length) :: st) (sh ++ [(r, p, List.replicate p 0)]) (zn mm sh.length) else F
    | .newarray t => zb1 F st fun x s => bif Nat.blt sh.length 900 then (if 0 ≤ x ∧ x ≤ 4000 then
        (match t with
          | .int => G (pc + len) ls (.inr (.inr sh.length) :: s) (sh ++ [(100, x.toNat, [])]) (zn mm sh.length)
          | .boolean => G (pc + len) ls (.inr (.inr sh.length) :: s) (sh ++ [(101, x.toNat, [])]) (zn mm sh.length)
          | .byte => G (pc + len) ls (.inr (.inr sh.length) :: s) (sh ++ [(102, x.toNat, [])]) (zn mm sh.length)
          | _ => F) else F) else F
    | .anewarray _ => zb1 F st fun x s => bif Nat.blt sh.length 900 then (if 0 ≤ x ∧ x ≤ 4000 then G (pc + len) ls (.inr (.inr sh.length) :: s) (sh ++ [(103, x.toNat, List.replicate x.toNat 0)]) (zn mm sh.length) else F) else F
    | .invokevirtual _ => zinv F G K len p r q pc ls st sh mm
    | .invokestatic _ => zinv F G K len p r q pc ls st sh mm
    | .invokespecial _ => zinv F G K len p r q pc ls st sh mm
    | .ireturn => (match st with
      | [.inl x] => if q = 1 then (if x = 0 ∨ x = 1 then R (some (.inl x)) sh mm else F) else R (some (.inl x)) sh mm
      | _ => F)
    | .return_ => (match st with
      | [] => R none sh mm
      | _ => F)
    | _ => F
end ZS1
def zcI (r : zRes) (f : Int → List zSh → zMm → zRes) : zRes := match r with
  | some (some (.inl x), sh, mm) => f x sh mm
  | _ => none
def zcV (r : zRes) (f : List zSh → zMm → zRes) : zRes := match r with
  | some (none, sh, mm) => f sh mm
  | _ => none
def zstep (C : Nat → List zV → List zSh → zMm → zRes) (e : zEn) (pc : Nat) (ls : zLs) (st : List zV) (sh : List zSh) (mm : zMm) (k : Nat → zLs → List zV → List zSh → zMm → zRes) : zRes :=
  zs1 (β := zRes) none (fun v sh mm => some (v, sh, mm)) k (fun j b as pc ls rest sh mm => bif b then zcI (C j as sh mm) (fun x sh' mm' => k pc ls (.inl x :: rest) sh' mm') else zcV (C j as sh mm) (fun sh' mm' => k pc ls rest sh' mm')) e pc ls st sh mm
/-- so many steps of method i; a call, and a place of 'cuts', is left to k -/
def zunf (C : Nat → List zV → List zSh → zMm → zRes) (i : Nat) (k : Nat → zLs → List zV → List zSh → zMm → zRes) (cuts : List Nat) : Nat → Nat → zLs → List zV → List zSh → zMm → zRes
  | 0, pc, ls, st, sh, mm => k pc ls st sh mm
  | n + 1, pc, ls, st, sh, mm => match zC i pc with
    | none => none
    | some e => zs1 (β := zRes) none (fun v sh mm => some (v, sh, mm)) (fun pc' ls' st' sh' mm' => bif cuts.contains pc' then k pc' ls' st' sh' mm' else zunf C i k cuts n pc' ls' st' sh' mm')
      (fun j b as pc ls rest sh mm => bif b then zcI (C j as sh mm) (fun x sh' mm' => k pc ls (.inl x :: rest) sh' mm') else zcV (C j as sh mm) (fun sh' mm' => k pc ls rest sh' mm')) e pc ls st sh mm
def zrun (C : Nat → List zV → List zSh → zMm → zRes) (i : Nat) : Nat → Nat → zLs → List zV → List zSh → zMm → zRes
  | 0, _, _, _, _, _ => none
  | n + 1, pc, ls, st, sh, mm => match zC i pc with
    | none => none
    | some e => zstep C e pc ls st sh mm (zrun C i n)
def zcall (N : Nat) : Nat → Nat → List zV → List zSh → zMm → zRes
  | 0, _, _, _, _ => none
  | d + 1, j, as, sh, mm => bif Nat.ble (zin0 as).length (zml j) then zrun (zcall N d) j N 0 (zin (zml j) as) [] sh mm else none
noncomputable def zlim (f : Nat → zRes) : zRes := @dite _ (∃ r, ∃ N, f N = some r) (Classical.propDecidable _) (fun h => some (Classical.choose h)) (fun _ => none)
noncomputable def zR (d i pc : Nat) (ls : zLs) (st : List zV) (sh : List zSh) (mm : zMm) : zRes := zlim (fun N => zrun (zcall N d) i N pc ls st sh mm)
noncomputable def zL (d j : Nat) (as : List zV) (sh : List zSh) (mm : zMm) : zRes := zlim (fun N => zcall N d j as sh mm)
