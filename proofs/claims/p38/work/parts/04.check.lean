/-- the words that a callee may take over -/
def zWS : List Cond := lw_tbl.filter goodWord
def zisN (w : Cond) : Bool := match w with
  | .fieldLinkNest _ _ _ _ _ _ => true
  | .methodLinkNest _ _ _ _ => true
  | _ => false
def zNst : List Cond := lw_tbl.filter zisN
/-- a word at a place of the tables -/
def zAt (k : Nat) (w : Cond) : Bool := decide (lw_tbl[k]? = some w)
theorem zAt_ok {k : Nat} {w : Cond} (h : zAt k w = true) : w ∈ lw_tbl := List.mem_of_getElem? (of_decide_eq_true h)
theorem zWS_in {w : Cond} (h : w ∈ lw_tbl) (hg : goodWord w = true) : w ∈ zWS := List.mem_filter.mpr ⟨h, hg⟩
theorem zNst_in {w : Cond} (h : w ∈ lw_tbl) (hg : zisN w = true) : w ∈ zNst := List.mem_filter.mpr ⟨h, hg⟩
def zon (c : Nat) : String := match c with
  | 0 => RX0 | 1 => RX1 | 2 => RX2 | 3 => RX3 | 4 => RX4 | 5 => RX5 | 6 => RX6 | 7 => RX7 | 8 => RX8 | 10 => RJ6 | 11 => RJ9 | _ => RL
/-- the pools' words -/
def zlkb (q : Nat × Nat × Nat) : Bool := zAt q.2.2 (zlw q.1 q.2.1) && (goodWord (zlw q.1 q.2.1) || zisN (zlw q.1 q.2.1))
theorem zlk_all : zlks.all zlkb = true := by decide +kernel
/-- a pool's entry that is listed -/
def zlk (c k : Nat) : Bool := zlks.any (fun q => Nat.beq q.1 c && Nat.beq q.2.1 k)
theorem zlk_ok {c k : Nat} (h : zlk c k = true) : zlw c k ∈ lw_tbl ∧ (goodWord (zlw c k) || zisN (zlw c k)) = true := by
  obtain ⟨q, hq, h2⟩ := List.any_eq_true.mp h
  have h1 := List.all_eq_true.mp zlk_all q hq
  simp only [zlkb, Bool.and_eq_true] at h1 h2
  have e1 := Nat.eq_of_beq_eq_true h2.1
  have e2 := Nat.eq_of_beq_eq_true h2.2
  rw [e1, e2] at h1
  exact ⟨zAt_ok h1.1, h1.2⟩
def zcodes : List Cond := (List.range 92).map (fun j => Cond.code (zNm j) (zBy j) (zml j) (zRt j))
set_option maxRecDepth 100000 in
theorem zcodes_at : zcodes.map some = (List.range 92).map (fun j => lw_tbl[(zmx j).1]?) := rfl
theorem zcode_in {j : Nat} (h : j < 92) : Cond.code (zNm j) (zBy j) (zml j) (zRt j) ∈ lw_tbl := by
  have h1 := congrArg (fun z : List (Option Cond) => z[j]?) zcodes_at
  simp only [zcodes, List.map_map, List.getElem?_map, List.getElem?_range h, Option.map_some, Function.comp] at h1
  exact List.mem_of_getElem? (Option.some.inj h1).symm
/-- a method's own words -/
def zmb (j : Nat) : Bool := let y := zNm j
  zAt (zini (zoc j)) (.initialized y.cls) && decide (y.cls = zon (zoc j)) && decide (y.cls ≠ "java/lang/invoke/MethodHandle" ∧ y.cls ≠ "java/lang/invoke/VarHandle") && plainFor y &&
  decide ((parseMethodDescriptor y.desc).map (fun d => d.parameters.length) = some (zna j)) && (decide (zRt j = none) || decide (zRt j = some .int) || decide (zRt j = some .boolean)) && Nat.ble (zml j) 21 &&
  (match zmk j with
    | 0 => zAt (zmx j).2.1 (.instanceMethod y) && zAt (zmx j).2.2 (.selects y.cls y y) && Nat.blt (zoc j) 9 && Nat.beq (zci j) (zoc j)
    | 1 => zAt (zmx j).2.1 (.static y)
    | _ => zAt (zmx j).2.1 (.instanceMethod y) && decide (y.name = "<init>") && decide (zRt j = none))
theorem zmb_all : (List.range 92).all zmb = true := by decide +kernel
theorem zmb_ok {j : Nat} (h : j < 92) : zmb j = true := List.all_eq_true.mp zmb_all j (List.mem_range.mpr h)
/-- an instruction's link: its pool's entry is this word -/
def zLk (i idx : Nat) (w : Cond) : Bool := zlk (zoc i) idx && decide (zlw (zoc i) idx = w)
def zchk (i pc : Nat) (e : zEn) : Bool := match e with
  | (ins, len, p, r, q) => match ins with
    | .iload _ | .lload _ | .aload _ | .istore _ | .astore _ => Nat.beq len 2
    | .iload_n _ | .lload_n _ | .aload_n _ | .istore_n _ | .astore_n _ => Nat.beq len 1
    | .iinc _ _ => Nat.beq len 3
    | .bipush n => Nat.beq len 2 && decide ((Int8.ofInt n).toInt32 = Int32.ofInt q ∧ -2147483648 ≤ q ∧ q < 2147483648)
    | .sipush n => Nat.beq len 3 && decide ((Int16.ofInt n).toInt32 = Int32.ofInt q ∧ -2147483648 ≤ q ∧ q < 2147483648)
    | .iconst n => Nat.beq len 1 && decide (Int32.ofInt n = Int32.ofInt q ∧ -2147483648 ≤ q ∧ q < 2147483648)
    | .ldc idx => Nat.beq len 2 && zLk i idx (.constant (zon (zoc i)) idx (Int32.ofInt q)) && decide (-2147483648 ≤ q ∧ q < 2147483648)
    | .ldc_w idx => Nat.beq len 3 && zLk i idx (.constant (zon (zoc i)) idx (Int32.ofInt q)) && decide (-2147483648 ≤ q ∧ q < 2147483648)
    | .lconst n => Nat.beq len 1 && decide (Int64.ofNat n.val = Int64.ofInt q ∧ -9223372036854775808 ≤ q ∧ q < 9223372036854775808)
    | .ldc2_w idx => Nat.beq len 3 && zLk i idx (.constantLong (zon (zoc i)) idx (Int64.ofInt q)) && decide (-9223372036854775808 ≤ q ∧ q < 9223372036854775808)
    | .iadd | .isub | .imul | .idiv | .irem | .ishl | .ishr | .iushr | .iand | .ior | .ixor | .i2b | .i2s | .i2l | .l2i | .ladd | .lmul | .land | .lor | .lshl | .lshr | .lcmp | .dup | .dup2 | .pop => Nat.beq len 1
    | .goto off | .if_icmp _ off | .ifCond _ off => Nat.beq len 3 && decide ((pc : Int) + off = (p : Int))
    | .tableswitch d lo hi offs => decide (0 ≤ (pc : Int) + d) && offs.toList.all (fun o => decide (0 ≤ (pc : Int) + o)) && decide ((offs.size : Int) = hi - lo + 1)
    | .getfield idx => Nat.beq len 3 && (match zCl[r]? with
      | some (_, T, N) => Nat.blt p N && (if q = 1 then zLk i idx (.fieldLinkNest (zon (zoc i)) idx (T p).1 (T p).2.1 (T p).2.2.1 "SlipWheel") else zLk i idx (.fieldLink (zon (zoc i)) idx (T p).1 (T p).2.1 (T p).2.2.1))
      | none => false)
    | .putfield idx => Nat.beq len 3 && (match zCl[r]? with
      | some (_, T, N) => Nat.blt p N && (if q = 1 then zLk i idx (.fieldLinkNest (zon (zoc i)) idx (T p).1 (T p).2.1 (T p).2.2.1 "SlipWheel") && !(T p).2.2.2 else zLk i idx (.fieldLink (zon (zoc i)) idx (T p).1 (T p).2.1 (T p).2.2.1) && (!(T p).2.2.2 || (Nat.beq (zmk i) 2 && decide ((T p).1 = zon (zoc i)))))
      | none => false)
    | .iaload | .arraylength => Nat.beq len 1 && (Nat.beq p 0 || Nat.beq p 1)
    | .baload | .aaload | .iastore | .bastore | .aastore => Nat.beq len 1
    | .new idx => Nat.beq len 3 && (match zCl[r]? with
      | some (C, _, N) => Nat.beq p N && zLk i idx (.classLink (zon (zoc i)) idx C)
      | none => false)
    | .newarray t => Nat.beq len 2 && zAt (zac t) (.arrayClass (newarray.typeOf t))
    | .anewarray idx => Nat.beq len 3 && zLk i idx (.classLink (zon (zoc i)) idx "SlipWheel$Sheet")
    | .invokevirtual idx => Nat.beq len 3 && Nat.blt p 92 && Nat.beq r (zna p + 1) && decide (10 ≤ q ↔ zRt p ≠ none) && Nat.beq (zmk p) 0 &&
        (if q = 0 ∨ q = 10 then zLk i idx (.methodLink (zon (zoc i)) idx (zNm p)) else zLk i idx (.methodLinkNest (zon (zoc i)) idx (zNm p) "SlipWheel") && decide (q = 1 ∨ q = 11))
    | .invokestatic idx => Nat.beq len 3 && (if q = 7 then zLk i idx (.methodLink (zon (zoc i)) idx arraycopyName)
        else Nat.blt p 92 && Nat.beq r (zna p) && decide (10 ≤ q ↔ zRt p ≠ none) && Nat.beq (zmk p) 1 &&
        (if q = 2 ∨ q = 12 then zLk i idx (.methodLink (zon (zoc i)) idx (zNm p)) else zLk i idx (.methodLinkNest (zon (zoc i)) idx (zNm p) "SlipWheel") && decide (q = 3 ∨ q = 13)))
    | .invokespecial idx => Nat.beq len 3 && (if q = 6 then zLk i idx (.methodLink (zon (zoc i)) idx objectInit)
        else Nat.blt p 92 && Nat.beq r (zna p + 1) && Nat.beq (zmk p) 2 &&
        (if q = 4 then zLk i idx (.methodLink (zon (zoc i)) idx (zNm p)) else zLk i idx (.methodLinkNest (zon (zoc i)) idx (zNm p) "SlipWheel") && decide (q = 5)))
    | .ireturn => Nat.beq len 1 && (if q = 1 then decide (zRt i = some .boolean) else decide (zRt i = some .int))
    | .return_ => Nat.beq len 1 && decide (zRt i = none)
    | _ => false
def zcki (i : Nat) : Bool := (List.range (zsz i)).all (fun pc => match zC i pc with
  | none => true
  | some e => zchk i pc e)
def zckr (a n : Nat) : Bool := (List.range n).all (fun k => zcki (a + k))
