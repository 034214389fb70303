/-! the next order -/
def znk (R : Nat → Nat) : Nat → Nat
  | 0 => 0
  | j + 1 => if R (j + 1) < R j then znk R j else j + 1
def znj (R : Nat → Nat) (k : Nat) : Nat → Nat
  | 0 => 0
  | j + 1 => if R (j + 1) < R k then znj R k j else j + 1
def zswp (R : Nat → Nat) (a b : Nat) : Nat → Nat := fun i => if i = b then R a else if i = a then R b else R i
def zrev : Nat → Nat → Nat → (Nat → Nat) → Nat → Nat
  | 0, _, _, R => R
  | f + 1, a, b, R => if a < b then zrev f (a + 1) (b - 1) (zswp R a b) else R
def znext (R : Nat → Nat) (n : Nat) : Option (Nat → Nat) := if znk R (n - 1) = 0 then none else some (zrev 6 (znk R (n - 1)) (n - 1) (zswp R (znk R (n - 1) - 1) (znj R (znk R (n - 1) - 1) (n - 1))))
/-- a list as a row -/
def zrowl (l : List Nat) : Nat → Nat := fun i => l.getD i 0
/-- each list is the next of the one ahead -/
def zchb (n : Nat) : List (List Nat) → Bool
  | [] => true
  | [l] => (znext (zrowl l) n).isNone
  | l :: l' :: r => (match znext (zrowl l) n with | none => false | some R' => (List.range n).all fun j => R' j == zrowl l' j) && zchb n (l' :: r)
def zpl (h : Nat → List (List Nat)) : Nat → List (List Nat)
  | 0 => []
  | n + 1 => zpl h n ++ h n
/-- the orders of those that are left, in the order of a dictionary -/
def zpm (A : Nat → Bool) : Nat → (Nat → Bool) → List (List Nat)
  | 0, _ => [[]]
  | f + 1, U => zpl (fun c => if A c && !U c then (zpm A f (fun x => U x || decide (x = c))).map (c :: ·) else []) 6
/-- those that live -/
def zlvl (A : Nat → Bool) : Nat → List Nat
  | 0 => []
  | i + 1 => if A i then zlvl A i ++ [i] else zlvl A i
def zsix (b0 b1 b2 b3 b4 b5 : Bool) : Nat → Bool := fun c => if c = 0 then b0 else if c = 1 then b1 else if c = 2 then b2 else if c = 3 then b3 else if c = 4 then b4 else if c = 5 then b5 else false
def zchsix (A : Nat → Bool) : Bool := (match zpm A (zlvl A 6).length (fun _ => false) with | [] => false | l :: _ => l == zlvl A 6) && (decide ((zlvl A 6).length = 0) || zchb (zlvl A 6).length (zpm A (zlvl A 6).length (fun _ => false)))
theorem zchsix_all : ∀ b0 b1 b2 b3 b4 b5 : Bool, zchsix (zsix b0 b1 b2 b3 b4 b5) = true := by decide +kernel
