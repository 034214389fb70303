set_option maxRecDepth 100000 in
theorem zb_X8_ways_0 (d : Nat) (a1 a2 a3 a4 : Int) (mm : zMm) : zR d 105 0 [some (.inr (.inr 0)), some (.inl a1), some (.inl a2), some (.inl a3), some (.inl a4), none, none, none] [] SH mm = (zcI (zL d 113 [.inl a1, .inl a2] SH mm) fun x sh' mm' => zR d 105 5 [some (.inr (.inr 0)), some (.inl a1), some (.inl a2), some (.inl a3), some (.inl a4), none, none, none] [.inl x] sh' mm') := (zR_unf d 105 [23, 53] 4 0 _ _ _ _).trans rfl
set_option maxRecDepth 100000 in
theorem zb_X8_ways_5 (d : Nat) (a1 a2 a3 a4 s0 : Int) (mm : zMm) : zR d 105 5 [some (.inr (.inr 0)), some (.inl a1), some (.inl a2), some (.inl a3), some (.inl a4), none, none, none] [.inl s0] SH mm = (if s0 = 0 then zok (-1) mm else if a4 < 1 then zok (-1) mm else if 12 < a4 then zok (-1) mm else zR d 105 23 [some (.inr (.inr 0)), some (.inl a1), some (.inl a2), some (.inl a3), some (.inl a4), none, none, none] [] SH mm) := (zR_unf d 105 [23, 53] 10 5 _ _ _ _).trans rfl
set_option maxRecDepth 100000 in
theorem zb_X8_waysS_23 (d : Nat) (a2 a3 a4 : Int) (s : Nat) (hs : s < 4) (mm : zMm) : zR d 105 23 [some (.inr (.inr 0)), some (.inl ((s : Int))), some (.inl a2), some (.inl a3), some (.inl a4), none, none, none] [] SH mm = (zcI (zL d 47 [.inr (.inr (37 + 2 * s)), .inl a2, .inl a3, .inl a4] SH mm) fun x sh' mm' => zR d 105 40 [some (.inr (.inr 0)), some (.inl ((s : Int))), some (.inl a2), some (.inl a3), some (.inl a4), some (.inr (.inr (37 + 2 * s))), none, none] [.inl x] sh' mm') := by
  match s, hs with
  | 0, _ => exact (zR_unf d 105 [23, 53] 11 23 _ _ _ _).trans rfl
  | 1, _ => exact (zR_unf d 105 [23, 53] 11 23 _ _ _ _).trans rfl
  | 2, _ => exact (zR_unf d 105 [23, 53] 11 23 _ _ _ _).trans rfl
  | 3, _ => exact (zR_unf d 105 [23, 53] 11 23 _ _ _ _).trans rfl
set_option maxRecDepth 100000 in
theorem zb_X8_waysS_40 (d : Nat) (a2 a3 a4 s0 : Int) (s : Nat) (hs : s < 4) (mm : zMm) : zR d 105 40 [some (.inr (.inr 0)), some (.inl ((s : Int))), some (.inl a2), some (.inl a3), some (.inl a4), some (.inr (.inr (37 + 2 * s))), none, none] [.inl s0] SH mm = (if s0 < 0 then zok s0 mm else zR d 105 53 [some (.inr (.inr 0)), some (.inl ((s : Int))), some (.inl a2), some (.inl a3), some (.inl a4), some (.inr (.inr (37 + 2 * s))), some (.inl s0), some (.inl a3)] [] SH mm) := by
  match s, hs with
  | 0, _ => exact (zR_unf d 105 [23, 53] 6 40 _ _ _ _).trans rfl
  | 1, _ => exact (zR_unf d 105 [23, 53] 6 40 _ _ _ _).trans rfl
  | 2, _ => exact (zR_unf d 105 [23, 53] 6 40 _ _ _ _).trans rfl
  | 3, _ => exact (zR_unf d 105 [23, 53] 6 40 _ _ _ _).trans rfl
set_option maxRecDepth 100000 in
theorem zb_X8_waysS_53 (d : Nat) (a3 a4 a7 : Int) (s : Nat) (hs : s < 4) (mm : zMm) : zR d 105 53 [some (.inr (.inr 0)), none, none, some (.inl a3), some (.inl a4), some (.inr (.inr (37 + 2 * s))), none, some (.inl a7)] [] SH mm = (if a7 < (zw (a3 + a4)) then zcI (zL d 48 [.inr (.inr (37 + 2 * s)), .inl a7] SH mm) fun x sh' mm' => zR d 105 76 [some (.inr (.inr 0)), none, none, some (.inl a3), some (.inl a4), some (.inr (.inr (37 + 2 * s))), none, some (.inl a7)] [.inl x, .inr (.inr 6)] sh' mm' else zcI (zL d 124 [.inr (.inr 0), .inr (.inr (37 + 2 * s)), .inl a3, .inl a4] SH mm) fun x sh' mm' => zR d 105 100 [some (.inr (.inr 0)), none, none, some (.inl a3), some (.inl a4), some (.inr (.inr (37 + 2 * s))), none, some (.inl a7)] [.inl x] sh' mm') := by
  match s, hs with
  | 0, _ => exact (zR_unf d 105 [23, 53] 12 53 _ _ _ _).trans rfl
  | 1, _ => exact (zR_unf d 105 [23, 53] 12 53 _ _ _ _).trans rfl
  | 2, _ => exact (zR_unf d 105 [23, 53] 12 53 _ _ _ _).trans rfl
  | 3, _ => exact (zR_unf d 105 [23, 53] 12 53 _ _ _ _).trans rfl
set_option maxRecDepth 100000 in
theorem zb_X8_waysS_76 (d : Nat) (a3 a4 a7 s1 : Int) (s : Nat) (hs : s < 4) (mm : zMm) : zR d 105 76 [some (.inr (.inr 0)), none, none, some (.inl a3), some (.inl a4), some (.inr (.inr (37 + 2 * s))), none, some (.inl a7)] [.inl s1, .inr (.inr 6)] SH mm = (zcI (zL d 5 [.inr (.inr 6), .inl s1] SH mm) fun x sh' mm' => zR d 105 79 [some (.inr (.inr 0)), none, none, some (.inl a3), some (.inl a4), some (.inr (.inr (37 + 2 * s))), none, some (.inl a7)] [.inl x] sh' mm') := by
  match s, hs with
  | 0, _ => exact (zR_unf d 105 [23, 53] 2 76 _ _ _ _).trans rfl
  | 1, _ => exact (zR_unf d 105 [23, 53] 2 76 _ _ _ _).trans rfl
  | 2, _ => exact (zR_unf d 105 [23, 53] 2 76 _ _ _ _).trans rfl
  | 3, _ => exact (zR_unf d 105 [23, 53] 2 76 _ _ _ _).trans rfl
set_option maxRecDepth 100000 in
theorem zb_X8_waysS_100 (d : Nat) (a3 a4 a7 s0 : Int) (s : Nat) (hs : s < 4) (mm : zMm) : zR d 105 100 [some (.inr (.inr 0)), none, none, some (.inl a3), some (.inl a4), some (.inr (.inr (37 + 2 * s))), none, some (.inl a7)] [.inl s0] SH mm = (zok s0 mm) := by
  match s, hs with
  | 0, _ => exact (zR_unf d 105 [23, 53] 2 100 _ _ _ _).trans rfl
  | 1, _ => exact (zR_unf d 105 [23, 53] 2 100 _ _ _ _).trans rfl
  | 2, _ => exact (zR_unf d 105 [23, 53] 2 100 _ _ _ _).trans rfl
  | 3, _ => exact (zR_unf d 105 [23, 53] 2 100 _ _ _ _).trans rfl
set_option maxRecDepth 100000 in
theorem zb_X8_waysS_79 (d : Nat) (a3 a4 a7 s0 : Int) (s : Nat) (hs : s < 4) (mm : zMm) : zR d 105 79 [some (.inr (.inr 0)), none, none, some (.inl a3), some (.inl a4), some (.inr (.inr (37 + 2 * s))), none, some (.inl a7)] [.inl s0] SH mm = (if s0 = 0 then zok (-2) mm else zR d 105 53 [some (.inr (.inr 0)), none, none, some (.inl a3), some (.inl a4), some (.inr (.inr (37 + 2 * s))), none, some (.inl (zw (a7 + 1)))] [] SH mm) := by
  match s, hs with
  | 0, _ => exact (zR_unf d 105 [23, 53] 4 79 _ _ _ _).trans rfl
  | 1, _ => exact (zR_unf d 105 [23, 53] 4 79 _ _ _ _).trans rfl
  | 2, _ => exact (zR_unf d 105 [23, 53] 4 79 _ _ _ _).trans rfl
  | 3, _ => exact (zR_unf d 105 [23, 53] 4 79 _ _ _ _).trans rfl
set_option maxRecDepth 100000 in
theorem zb_X8_differ_0 (d : Nat) (a1 a2 a3 a4 a5 : Int) (mm : zMm) : zR d 106 0 [some (.inr (.inr 0)), some (.inl a1), some (.inl a2), some (.inl a3), some (.inl a4), some (.inl a5), none, none, none, none] [] SH mm = (if a1 < 0 then zok (-1) mm else if 60 < a1 then zok (-1) mm else zcI (zL d 113 [.inl a2, .inl a3] SH mm) fun x sh' mm' => zR d 106 15 [some (.inr (.inr 0)), some (.inl a1), some (.inl a2), some (.inl a3), some (.inl a4), some (.inl a5), none, none, none, none] [.inl x] sh' mm') := (zR_unf d 106 [33, 67] 9 0 _ _ _ _).trans rfl
set_option maxRecDepth 100000 in
theorem zb_X8_differ_15 (d : Nat) (a1 a2 a3 a4 a5 s0 : Int) (mm : zMm) : zR d 106 15 [some (.inr (.inr 0)), some (.inl a1), some (.inl a2), some (.inl a3), some (.inl a4), some (.inl a5), none, none, none, none] [.inl s0] SH mm = (if s0 = 0 then zok (-1) mm else if a5 < 1 then zok (-1) mm else if 24 < a5 then zok (-1) mm else zR d 106 33 [some (.inr (.inr 0)), some (.inl a1), some (.inl a2), some (.inl a3), some (.inl a4), some (.inl a5), none, none, none, none] [] SH mm) := (zR_unf d 106 [33, 67] 10 15 _ _ _ _).trans rfl
set_option maxRecDepth 100000 in
theorem zb_X8_differS_33 (d : Nat) (a1 a3 a4 a5 : Int) (s : Nat) (hs : s < 4) (mm : zMm) : zR d 106 33 [some (.inr (.inr 0)), some (.inl a1), some (.inl ((s : Int))), some (.inl a3), some (.inl a4), some (.inl a5), none, none, none, none] [] SH mm = (zcI (zL d 47 [.inr (.inr (37 + 2 * s)), .inl a3, .inl a4, .inl a5] SH mm) fun x sh' mm' => zR d 106 51 [some (.inr (.inr 0)), some (.inl a1), some (.inl ((s : Int))), some (.inl a3), some (.inl a4), some (.inl a5), some (.inr (.inr (37 + 2 * s))), none, none, none] [.inl x] sh' mm') := by
  match s, hs with
  | 0, _ => exact (zR_unf d 106 [33, 67] 11 33 _ _ _ _).trans rfl
  | 1, _ => exact (zR_unf d 106 [33, 67] 11 33 _ _ _ _).trans rfl
  | 2, _ => exact (zR_unf d 106 [33, 67] 11 33 _ _ _ _).trans rfl
  | 3, _ => exact (zR_unf d 106 [33, 67] 11 33 _ _ _ _).trans rfl
set_option maxRecDepth 100000 in
theorem zb_X8_differS_51 (d : Nat) (a1 a3 a4 a5 s0 : Int) (s : Nat) (hs : s < 4) (mm : zMm) : zR d 106 51 [some (.inr (.inr 0)), some (.inl a1), some (.inl ((s : Int))), some (.inl a3), some (.inl a4), some (.inl a5), some (.inr (.inr (37 + 2 * s))), none, none, none] [.inl s0] SH mm = (if s0 < 0 then zok s0 mm else zR d 106 67 [some (.inr (.inr 0)), some (.inl a1), some (.inl ((s : Int))), some (.inl a3), some (.inl a4), some (.inl a5), some (.inr (.inr (37 + 2 * s))), some (.inl s0), some (.inl 0), some (.inl 0)] [] SH mm) := by
  match s, hs with
  | 0, _ => exact (zR_unf d 106 [33, 67] 8 51 _ _ _ _).trans rfl
  | 1, _ => exact (zR_unf d 106 [33, 67] 8 51 _ _ _ _).trans rfl
  | 2, _ => exact (zR_unf d 106 [33, 67] 8 51 _ _ _ _).trans rfl
  | 3, _ => exact (zR_unf d 106 [33, 67] 8 51 _ _ _ _).trans rfl
set_option maxRecDepth 100000 in
theorem zb_X8_differS_67 (d : Nat) (a1 a4 a5 a8 a9 : Int) (s : Nat) (hs : s < 4) (mm : zMm) : zR d 106 67 [some (.inr (.inr 0)), some (.inl a1), none, none, some (.inl a4), some (.inl a5), some (.inr (.inr (37 + 2 * s))), none, some (.inl a8), some (.inl a9)] [] SH mm = (if a9 < a5 then zcI (zL d 28 [.inr (.inr 12), .inl (zw (a1 + a9))] SH mm) fun x sh' mm' => zR d 106 88 [some (.inr (.inr 0)), some (.inl a1), none, none, some (.inl a4), some (.inl a5), some (.inr (.inr (37 + 2 * s))), none, some (.inl a8), some (.inl a9)] [.inl x] sh' mm' else zok a8 mm) := by
  match s, hs with
  | 0, _ => exact (zR_unf d 106 [33, 67] 11 67 _ _ _ _).trans rfl
  | 1, _ => exact (zR_unf d 106 [33, 67] 11 67 _ _ _ _).trans rfl
  | 2, _ => exact (zR_unf d 106 [33, 67] 11 67 _ _ _ _).trans rfl
  | 3, _ => exact (zR_unf d 106 [33, 67] 11 67 _ _ _ _).trans rfl
set_option maxRecDepth 100000 in
theorem zb_X8_differS_88 (d : Nat) (a1 a4 a5 a8 a9 s0 : Int) (s : Nat) (hs : s < 4) (mm : zMm) : zR d 106 88 [some (.inr (.inr 0)), some (.inl a1), none, none, some (.inl a4), some (.inl a5), some (.inr (.inr (37 + 2 * s))), none, some (.inl a8), some (.inl a9)] [.inl s0] SH mm = (if s0 = 0 then zR d 106 67 [some (.inr (.inr 0)), some (.inl a1), none, none, some (.inl a4), some (.inl a5), some (.inr (.inr (37 + 2 * s))), none, some (.inl (zw (a8 + 1))), some (.inl (zw (a9 + 1)))] [] SH mm else zcI (zL d 48 [.inr (.inr (37 + 2 * s)), .inl (zw (a4 + a9))] SH mm) fun x sh' mm' => zR d 106 101 [some (.inr (.inr 0)), some (.inl a1), none, none, some (.inl a4), some (.inl a5), some (.inr (.inr (37 + 2 * s))), none, some (.inl a8), some (.inl a9)] [.inl x] sh' mm') := by
  match s, hs with
  | 0, _ => exact (zR_unf d 106 [33, 67] 7 88 _ _ _ _).trans rfl
  | 1, _ => exact (zR_unf d 106 [33, 67] 7 88 _ _ _ _).trans rfl
  | 2, _ => exact (zR_unf d 106 [33, 67] 7 88 _ _ _ _).trans rfl
  | 3, _ => exact (zR_unf d 106 [33, 67] 7 88 _ _ _ _).trans rfl
set_option maxRecDepth 100000 in
theorem zb_X8_differS_101 (d : Nat) (a1 a4 a5 a8 a9 s0 : Int) (s : Nat) (hs : s < 4) (mm : zMm) : zR d 106 101 [some (.inr (.inr 0)), some (.inl a1), none, none, some (.inl a4), some (.inl a5), some (.inr (.inr (37 + 2 * s))), none, some (.inl a8), some (.inl a9)] [.inl s0] SH mm = (zcI (zL d 31 [.inr (.inr 12), .inl (zw (a1 + a9))] SH mm) fun x sh' mm' => zR d 106 115 [some (.inr (.inr 0)), some (.inl a1), none, none, some (.inl a4), some (.inl a5), some (.inr (.inr (37 + 2 * s))), none, some (.inl a8), some (.inl a9)] [.inl x, .inl s0] sh' mm') := by
  match s, hs with
  | 0, _ => exact (zR_unf d 106 [33, 67] 8 101 _ _ _ _).trans rfl
  | 1, _ => exact (zR_unf d 106 [33, 67] 8 101 _ _ _ _).trans rfl
  | 2, _ => exact (zR_unf d 106 [33, 67] 8 101 _ _ _ _).trans rfl
  | 3, _ => exact (zR_unf d 106 [33, 67] 8 101 _ _ _ _).trans rfl
set_option maxRecDepth 100000 in
theorem zb_X8_differS_115 (d : Nat) (a1 a4 a5 a8 a9 s0 s1 : Int) (s : Nat) (hs : s < 4) (mm : zMm) : zR d 106 115 [some (.inr (.inr 0)), some (.inl a1), none, none, some (.inl a4), some (.inl a5), some (.inr (.inr (37 + 2 * s))), none, some (.inl a8), some (.inl a9)] [.inl s1, .inl s0] SH mm = (if s0 = s1 then zR d 106 67 [some (.inr (.inr 0)), some (.inl a1), none, none, some (.inl a4), some (.inl a5), some (.inr (.inr (37 + 2 * s))), none, some (.inl a8), some (.inl (zw (a9 + 1)))] [] SH mm else zR d 106 67 [some (.inr (.inr 0)), some (.inl a1), none, none, some (.inl a4), some (.inl a5), some (.inr (.inr (37 + 2 * s))), none, some (.inl (zw (a8 + 1))), some (.inl (zw (a9 + 1)))] [] SH mm) := by
  match s, hs with
  | 0, _ => exact (zR_unf d 106 [33, 67] 5 115 _ _ _ _).trans rfl
  | 1, _ => exact (zR_unf d 106 [33, 67] 5 115 _ _ _ _).trans rfl
  | 2, _ => exact (zR_unf d 106 [33, 67] 5 115 _ _ _ _).trans rfl
  | 3, _ => exact (zR_unf d 106 [33, 67] 5 115 _ _ _ _).trans rfl
set_option maxRecDepth 100000 in
theorem zb_X8_sheet_0 (d : Nat) (a1 a2 a3 : Int) (mm : zMm) : zR d 107 0 [some (.inr (.inr 0)), some (.inl a1), some (.inl a2), some (.inl a3)] [] SH mm = (zcI (zL d 113 [.inl a1, .inl a2] SH mm) fun x sh' mm' => zR d 107 5 [some (.inr (.inr 0)), some (.inl a1), some (.inl a2), some (.inl a3)] [.inl x] sh' mm') := (zR_unf d 107 [23] 4 0 _ _ _ _).trans rfl
set_option maxRecDepth 100000 in
theorem zb_X8_sheet_5 (d : Nat) (a1 a2 a3 s0 : Int) (mm : zMm) : zR d 107 5 [some (.inr (.inr 0)), some (.inl a1), some (.inl a2), some (.inl a3)] [.inl s0] SH mm = (if s0 = 0 then zok (-1) mm else if 24 < a3 then zok (-1) mm else if a3 < 0 then zok (-14) mm else zR d 107 23 [some (.inr (.inr 0)), some (.inl a1), some (.inl a2), some (.inl a3)] [] SH mm) := (zR_unf d 107 [23] 9 5 _ _ _ _).trans rfl
set_option maxRecDepth 100000 in
theorem zb_X8_sheetS_23 (d : Nat) (a2 a3 : Int) (s : Nat) (hs : s < 4) (mm : zMm) : zR d 107 23 [some (.inr (.inr 0)), some (.inl ((s : Int))), some (.inl a2), some (.inl a3)] [] SH mm = (zcV (zL d 45 [.inr (.inr (37 + 2 * s)), .inl a2, .inl a3] SH mm) fun sh' mm' => zR d 107 34 [some (.inr (.inr 0)), some (.inl ((s : Int))), some (.inl a2), some (.inl a3)] [] sh' mm') := by
  match s, hs with
  | 0, _ => exact (zR_unf d 107 [23] 8 23 _ _ _ _).trans rfl
  | 1, _ => exact (zR_unf d 107 [23] 8 23 _ _ _ _).trans rfl
  | 2, _ => exact (zR_unf d 107 [23] 8 23 _ _ _ _).trans rfl
  | 3, _ => exact (zR_unf d 107 [23] 8 23 _ _ _ _).trans rfl
set_option maxRecDepth 100000 in
theorem zb_X8_sheetS_34 (d : Nat) (a2 a3 : Int) (s : Nat) (hs : s < 4) (mm : zMm) : zR d 107 34 [some (.inr (.inr 0)), some (.inl ((s : Int))), some (.inl a2), some (.inl a3)] [] SH mm = (zok a3 mm) := by
  match s, hs with
  | 0, _ => exact (zR_unf d 107 [23] 3 34 _ _ _ _).trans rfl
  | 1, _ => exact (zR_unf d 107 [23] 3 34 _ _ _ _).trans rfl
  | 2, _ => exact (zR_unf d 107 [23] 3 34 _ _ _ _).trans rfl
  | 3, _ => exact (zR_unf d 107 [23] 3 34 _ _ _ _).trans rfl
set_option maxRecDepth 100000 in
theorem zb_X8_drop_0 (d : Nat) (a1 : Int) (mm : zMm) : zR d 108 0 [some (.inr (.inr 0)), some (.inl a1)] [] SH mm = (zcI (zL d 113 [.inl a1, .inl 0] SH mm) fun x sh' mm' => zR d 108 5 [some (.inr (.inr 0)), some (.inl a1)] [.inl x] sh' mm') := (zR_unf d 108 [10] 4 0 _ _ _ _).trans rfl
set_option maxRecDepth 100000 in
theorem zb_X8_drop_5 (d : Nat) (a1 s0 : Int) (mm : zMm) : zR d 108 5 [some (.inr (.inr 0)), some (.inl a1)] [.inl s0] SH mm = (if s0 = 0 then zok (-1) mm else zR d 108 10 [some (.inr (.inr 0)), some (.inl a1)] [] SH mm) := (zR_unf d 108 [10] 4 5 _ _ _ _).trans rfl
set_option maxRecDepth 100000 in
theorem zb_X8_dropS_10 (d : Nat) (s : Nat) (hs : s < 4) (mm : zMm) : zR d 108 10 [some (.inr (.inr 0)), some (.inl ((s : Int)))] [] SH mm = (zcI (zL d 46 [.inr (.inr (37 + 2 * s))] SH mm) fun x sh' mm' => zR d 108 19 [some (.inr (.inr 0)), some (.inl ((s : Int)))] [.inl x] sh' mm') := by
  match s, hs with
  | 0, _ => exact (zR_unf d 108 [10] 6 10 _ _ _ _).trans rfl
  | 1, _ => exact (zR_unf d 108 [10] 6 10 _ _ _ _).trans rfl
  | 2, _ => exact (zR_unf d 108 [10] 6 10 _ _ _ _).trans rfl
  | 3, _ => exact (zR_unf d 108 [10] 6 10 _ _ _ _).trans rfl
set_option maxRecDepth 100000 in
theorem zb_X8_dropS_19 (d : Nat) (s0 : Int) (s : Nat) (hs : s < 4) (mm : zMm) : zR d 108 19 [some (.inr (.inr 0)), some (.inl ((s : Int)))] [.inl s0] SH mm = (zok s0 mm) := by
  match s, hs with
  | 0, _ => exact (zR_unf d 108 [10] 2 19 _ _ _ _).trans rfl
  | 1, _ => exact (zR_unf d 108 [10] 2 19 _ _ _ _).trans rfl
  | 2, _ => exact (zR_unf d 108 [10] 2 19 _ _ _ _).trans rfl
  | 3, _ => exact (zR_unf d 108 [10] 2 19 _ _ _ _).trans rfl
set_option maxRecDepth 100000 in
theorem zb_X8_item_0 (d : Nat) (a1 a2 a3 a4 : Int) (mm : zMm) : zR d 109 0 [some (.inr (.inr 0)), some (.inl a1), some (.inl a2), some (.inl a3), some (.inl a4), none] [] SH mm = (zcI (zL d 113 [.inl a1, .inl a2] SH mm) fun x sh' mm' => zR d 109 5 [some (.inr (.inr 0)), some (.inl a1), some (.inl a2), some (.inl a3), some (.inl a4), none] [.inl x] sh' mm') := (zR_unf d 109 [10] 4 0 _ _ _ _).trans rfl
set_option maxRecDepth 100000 in
theorem zb_X8_item_5 (d : Nat) (a1 a2 a3 a4 s0 : Int) (mm : zMm) : zR d 109 5 [some (.inr (.inr 0)), some (.inl a1), some (.inl a2), some (.inl a3), some (.inl a4), none] [.inl s0] SH mm = (if s0 = 0 then zok (-1) mm else zR d 109 10 [some (.inr (.inr 0)), some (.inl a1), some (.inl a2), some (.inl a3), some (.inl a4), none] [] SH mm) := (zR_unf d 109 [10] 4 5 _ _ _ _).trans rfl
set_option maxRecDepth 100000 in
theorem zb_X8_itemS_10 (d : Nat) (a2 a3 a4 : Int) (s : Nat) (hs : s < 4) (mm : zMm) : zR d 109 10 [some (.inr (.inr 0)), some (.inl ((s : Int))), some (.inl a2), some (.inl a3), some (.inl a4), none] [] SH mm = (zcI (zL d 47 [.inr (.inr (37 + 2 * s)), .inl a2, .inl a3, .inl 1] SH mm) fun x sh' mm' => zR d 109 22 [some (.inr (.inr 0)), some (.inl ((s : Int))), some (.inl a2), some (.inl a3), some (.inl a4), none] [.inl x] sh' mm') := by
  match s, hs with
  | 0, _ => exact (zR_unf d 109 [10] 9 10 _ _ _ _).trans rfl
  | 1, _ => exact (zR_unf d 109 [10] 9 10 _ _ _ _).trans rfl
  | 2, _ => exact (zR_unf d 109 [10] 9 10 _ _ _ _).trans rfl
  | 3, _ => exact (zR_unf d 109 [10] 9 10 _ _ _ _).trans rfl
set_option maxRecDepth 100000 in
theorem zb_X8_itemS_22 (d : Nat) (a2 a3 a4 s0 : Int) (s : Nat) (hs : s < 4) (mm : zMm) : zR d 109 22 [some (.inr (.inr 0)), some (.inl ((s : Int))), some (.inl a2), some (.inl a3), some (.inl a4), none] [.inl s0] SH mm = (if s0 < 0 then zok s0 mm else zcV (zL d 49 [.inr (.inr (37 + 2 * s)), .inl a3, .inl a4] SH mm) fun sh' mm' => zR d 109 44 [some (.inr (.inr 0)), some (.inl ((s : Int))), some (.inl a2), some (.inl a3), some (.inl a4), some (.inl s0)] [] sh' mm') := by
  match s, hs with
  | 0, _ => exact (zR_unf d 109 [10] 11 22 _ _ _ _).trans rfl
  | 1, _ => exact (zR_unf d 109 [10] 11 22 _ _ _ _).trans rfl
  | 2, _ => exact (zR_unf d 109 [10] 11 22 _ _ _ _).trans rfl
  | 3, _ => exact (zR_unf d 109 [10] 11 22 _ _ _ _).trans rfl
set_option maxRecDepth 100000 in
theorem zb_X8_itemS_44 (d : Nat) (a2 a3 a4 a5 : Int) (s : Nat) (hs : s < 4) (mm : zMm) : zR d 109 44 [some (.inr (.inr 0)), some (.inl ((s : Int))), some (.inl a2), some (.inl a3), some (.inl a4), some (.inl a5)] [] SH mm = (zok 1 mm) := by
  match s, hs with
  | 0, _ => exact (zR_unf d 109 [10] 3 44 _ _ _ _).trans rfl
  | 1, _ => exact (zR_unf d 109 [10] 3 44 _ _ _ _).trans rfl
  | 2, _ => exact (zR_unf d 109 [10] 3 44 _ _ _ _).trans rfl
  | 3, _ => exact (zR_unf d 109 [10] 3 44 _ _ _ _).trans rfl
set_option maxRecDepth 100000 in
theorem zb_X8_film_0 (d : Nat) (a1 a2 a3 a4 a5 : Int) (mm : zMm) : zR d 110 0 [some (.inr (.inr 0)), some (.inl a1), some (.inl a2), some (.inl a3), some (.inl a4), some (.inl a5), none, none] [] SH mm = (zcI (zL d 113 [.inl a3, .inl a4] SH mm) fun x sh' mm' => zR d 110 6 [some (.inr (.inr 0)), some (.inl a1), some (.inl a2), some (.inl a3), some (.inl a4), some (.inl a5), none, none] [.inl x] sh' mm') := (zR_unf d 110 [37, 64] 4 0 _ _ _ _).trans rfl
set_option maxRecDepth 100000 in
theorem zb_X8_film_6 (d : Nat) (a1 a2 a3 a4 a5 s0 : Int) (mm : zMm) : zR d 110 6 [some (.inr (.inr 0)), some (.inl a1), some (.inl a2), some (.inl a3), some (.inl a4), some (.inl a5), none, none] [.inl s0] SH mm = (if s0 = 0 then zok (-1) mm else if a2 < 1 then zok (-1) mm else if 24 < a2 then zok (-1) mm else zcI (zL d 29 [.inr (.inr 12), .inl a1, .inl a2] SH mm) fun x sh' mm' => zR d 110 32 [some (.inr (.inr 0)), some (.inl a1), some (.inl a2), some (.inl a3), some (.inl a4), some (.inl a5), none, none] [.inl x] sh' mm') := (zR_unf d 110 [37, 64] 14 6 _ _ _ _).trans rfl
set_option maxRecDepth 100000 in
theorem zb_X8_film_32 (d : Nat) (a1 a2 a3 a4 a5 s0 : Int) (mm : zMm) : zR d 110 32 [some (.inr (.inr 0)), some (.inl a1), some (.inl a2), some (.inl a3), some (.inl a4), some (.inl a5), none, none] [.inl s0] SH mm = (if s0 = 0 then zok (-1) mm else zR d 110 37 [some (.inr (.inr 0)), some (.inl a1), some (.inl a2), some (.inl a3), some (.inl a4), some (.inl a5), none, none] [] SH mm) := (zR_unf d 110 [37, 64] 4 32 _ _ _ _).trans rfl
set_option maxRecDepth 100000 in
theorem zb_X8_filmS_37 (d : Nat) (a1 a2 a4 a5 : Int) (s : Nat) (hs : s < 4) (mm : zMm) : zR d 110 37 [some (.inr (.inr 0)), some (.inl a1), some (.inl a2), some (.inl ((s : Int))), some (.inl a4), some (.inl a5), none, none] [] SH mm = (zcI (zL d 47 [.inr (.inr (37 + 2 * s)), .inl a4, .inl a5, .inl a2] SH mm) fun x sh' mm' => zR d 110 51 [some (.inr (.inr 0)), some (.inl a1), some (.inl a2), some (.inl ((s : Int))), some (.inl a4), some (.inl a5), none, none] [.inl x] sh' mm') := by
  match s, hs with
  | 0, _ => exact (zR_unf d 110 [37, 64] 9 37 _ _ _ _).trans rfl
  | 1, _ => exact (zR_unf d 110 [37, 64] 9 37 _ _ _ _).trans rfl
  | 2, _ => exact (zR_unf d 110 [37, 64] 9 37 _ _ _ _).trans rfl
  | 3, _ => exact (zR_unf d 110 [37, 64] 9 37 _ _ _ _).trans rfl
set_option maxRecDepth 100000 in
theorem zb_X8_filmS_51 (d : Nat) (a1 a2 a4 a5 s0 : Int) (s : Nat) (hs : s < 4) (mm : zMm) : zR d 110 51 [some (.inr (.inr 0)), some (.inl a1), some (.inl a2), some (.inl ((s : Int))), some (.inl a4), some (.inl a5), none, none] [.inl s0] SH mm = (if s0 < 0 then zok s0 mm else zR d 110 64 [some (.inr (.inr 0)), some (.inl a1), some (.inl a2), some (.inl ((s : Int))), some (.inl a4), some (.inl a5), some (.inl s0), some (.inl 0)] [] SH mm) := by
  match s, hs with
  | 0, _ => exact (zR_unf d 110 [37, 64] 6 51 _ _ _ _).trans rfl
  | 1, _ => exact (zR_unf d 110 [37, 64] 6 51 _ _ _ _).trans rfl
  | 2, _ => exact (zR_unf d 110 [37, 64] 6 51 _ _ _ _).trans rfl
  | 3, _ => exact (zR_unf d 110 [37, 64] 6 51 _ _ _ _).trans rfl
set_option maxRecDepth 100000 in
theorem zb_X8_filmS_64 (d : Nat) (a1 a2 a5 a7 : Int) (s : Nat) (hs : s < 4) (mm : zMm) : zR d 110 64 [some (.inr (.inr 0)), some (.inl a1), some (.inl a2), some (.inl ((s : Int))), none, some (.inl a5), none, some (.inl a7)] [] SH mm = (if a7 < a2 then zcI (zL d 31 [.inr (.inr 12), .inl (zw (a1 + a7))] SH mm) fun x sh' mm' => zR d 110 95 [some (.inr (.inr 0)), some (.inl a1), some (.inl a2), some (.inl ((s : Int))), none, some (.inl a5), none, some (.inl a7)] [.inl x, .inl (zw (a5 + a7)), .inr (.inr (37 + 2 * s))] sh' mm' else zok a2 mm) := by
  match s, hs with
  | 0, _ => exact (zR_unf d 110 [37, 64] 18 64 _ _ _ _).trans rfl
  | 1, _ => exact (zR_unf d 110 [37, 64] 18 64 _ _ _ _).trans rfl
  | 2, _ => exact (zR_unf d 110 [37, 64] 18 64 _ _ _ _).trans rfl
  | 3, _ => exact (zR_unf d 110 [37, 64] 18 64 _ _ _ _).trans rfl
set_option maxRecDepth 100000 in
theorem zb_X8_filmS_95 (d : Nat) (a1 a2 a5 a7 s1 s2 : Int) (s : Nat) (hs : s < 4) (mm : zMm) : zR d 110 95 [some (.inr (.inr 0)), some (.inl a1), some (.inl a2), some (.inl ((s : Int))), none, some (.inl a5), none, some (.inl a7)] [.inl s2, .inl s1, .inr (.inr (37 + 2 * s))] SH mm = (zcV (zL d 49 [.inr (.inr (37 + 2 * s)), .inl s1, .inl s2] SH mm) fun sh' mm' => zR d 110 98 [some (.inr (.inr 0)), some (.inl a1), some (.inl a2), some (.inl ((s : Int))), none, some (.inl a5), none, some (.inl a7)] [] sh' mm') := by
  match s, hs with
  | 0, _ => exact (zR_unf d 110 [37, 64] 2 95 _ _ _ _).trans rfl
  | 1, _ => exact (zR_unf d 110 [37, 64] 2 95 _ _ _ _).trans rfl
  | 2, _ => exact (zR_unf d 110 [37, 64] 2 95 _ _ _ _).trans rfl
  | 3, _ => exact (zR_unf d 110 [37, 64] 2 95 _ _ _ _).trans rfl
set_option maxRecDepth 100000 in
theorem zb_X8_filmS_98 (d : Nat) (a1 a2 a5 a7 : Int) (s : Nat) (hs : s < 4) (mm : zMm) : zR d 110 98 [some (.inr (.inr 0)), some (.inl a1), some (.inl a2), some (.inl ((s : Int))), none, some (.inl a5), none, some (.inl a7)] [] SH mm = (zR d 110 64 [some (.inr (.inr 0)), some (.inl a1), some (.inl a2), some (.inl ((s : Int))), none, some (.inl a5), none, some (.inl (zw (a7 + 1)))] [] SH mm) := by
  match s, hs with
  | 0, _ => exact (zR_unf d 110 [37, 64] 3 98 _ _ _ _).trans rfl
  | 1, _ => exact (zR_unf d 110 [37, 64] 3 98 _ _ _ _).trans rfl
  | 2, _ => exact (zR_unf d 110 [37, 64] 3 98 _ _ _ _).trans rfl
  | 3, _ => exact (zR_unf d 110 [37, 64] 3 98 _ _ _ _).trans rfl
set_option maxRecDepth 100000 in
theorem zb_X8_fewestChanges_0 (d : Nat) (a2 a3 : Int) (s : Nat) (hs : s < 4) (mm : zMm) : zR d 124 0 [some (.inr (.inr 0)), some (.inr (.inr (37 + 2 * s))), some (.inl a2), some (.inl a3), none, none, none, none, none, none, none, none, none] [] SH mm = (zR d 124 15 [some (.inr (.inr 0)), some (.inr (.inr (37 + 2 * s))), some (.inl a2), some (.inl a3), some (.inl 13), some (.inl 0), some (.inl 0), some (.inl (zw (a2 + 1))), none, none, none, none, none] [] SH mm) := by
  match s, hs with
  | 0, _ => exact (zR_unf d 124 [15] 11 0 _ _ _ _).trans rfl
  | 1, _ => exact (zR_unf d 124 [15] 11 0 _ _ _ _).trans rfl
  | 2, _ => exact (zR_unf d 124 [15] 11 0 _ _ _ _).trans rfl
  | 3, _ => exact (zR_unf d 124 [15] 11 0 _ _ _ _).trans rfl
set_option maxRecDepth 100000 in
theorem zb_X8_fewestChanges_15 (d : Nat) (a2 a3 a4 a5 a6 a7 : Int) (s : Nat) (hs : s < 4) (mm : zMm) : zR d 124 15 [some (.inr (.inr 0)), some (.inr (.inr (37 + 2 * s))), some (.inl a2), some (.inl a3), some (.inl a4), some (.inl a5), some (.inl a6), some (.inl a7), none, none, none, none, none] [] SH mm = (if a7 < (zw (a2 + a3)) then zcI (zL d 48 [.inr (.inr (37 + 2 * s)), .inl (zw (a7 - 1))] SH mm) fun x sh' mm' => zR d 124 38 [some (.inr (.inr 0)), some (.inr (.inr (37 + 2 * s))), some (.inl a2), some (.inl a3), some (.inl a4), some (.inl a5), some (.inl a6), some (.inl a7), none, none, none, none, none] [.inl x, .inr (.inr 10)] sh' mm' else zcI (zL d 201 [.inl a5, .inl a6] SH mm) fun x sh' mm' => zR d 124 170 [some (.inr (.inr 0)), some (.inr (.inr (37 + 2 * s))), some (.inl a2), some (.inl a3), some (.inl a4), some (.inl a5), some (.inl a6), some (.inl a7), none, none, none, none, none] [.inl x] sh' mm') := by
  match s, hs with
  | 0, _ => exact (zR_unf d 124 [15] 14 15 _ _ _ _).trans rfl
  | 1, _ => exact (zR_unf d 124 [15] 14 15 _ _ _ _).trans rfl
  | 2, _ => exact (zR_unf d 124 [15] 14 15 _ _ _ _).trans rfl
  | 3, _ => exact (zR_unf d 124 [15] 14 15 _ _ _ _).trans rfl
set_option maxRecDepth 100000 in
theorem zb_X8_fewestChanges_38 (d : Nat) (a2 a3 a4 a5 a6 a7 s1 : Int) (s : Nat) (hs : s < 4) (mm : zMm) : zR d 124 38 [some (.inr (.inr 0)), some (.inr (.inr (37 + 2 * s))), some (.inl a2), some (.inl a3), some (.inl a4), some (.inl a5), some (.inl a6), some (.inl a7), none, none, none, none, none] [.inl s1, .inr (.inr 10)] SH mm = (zcI (zL d 69 [.inr (.inr 10), .inl s1] SH mm) fun x sh' mm' => zR d 124 41 [some (.inr (.inr 0)), some (.inr (.inr (37 + 2 * s))), some (.inl a2), some (.inl a3), some (.inl a4), some (.inl a5), some (.inl a6), some (.inl a7), none, none, none, none, none] [.inl x] sh' mm') := by
  match s, hs with
  | 0, _ => exact (zR_unf d 124 [15] 2 38 _ _ _ _).trans rfl
  | 1, _ => exact (zR_unf d 124 [15] 2 38 _ _ _ _).trans rfl
  | 2, _ => exact (zR_unf d 124 [15] 2 38 _ _ _ _).trans rfl
  | 3, _ => exact (zR_unf d 124 [15] 2 38 _ _ _ _).trans rfl
set_option maxRecDepth 100000 in
theorem zb_X8_fewestChanges_170 (d : Nat) (a2 a3 a4 a5 a6 a7 s0 : Int) (s : Nat) (hs : s < 4) (mm : zMm) : zR d 124 170 [some (.inr (.inr 0)), some (.inr (.inr (37 + 2 * s))), some (.inl a2), some (.inl a3), some (.inl a4), some (.inl a5), some (.inl a6), some (.inl a7), none, none, none, none, none] [.inl s0] SH mm = (if s0 < a4 then zok s0 mm else zok (-4) mm) := by
  match s, hs with
  | 0, _ => exact (zR_unf d 124 [15] 8 170 _ _ _ _).trans rfl
  | 1, _ => exact (zR_unf d 124 [15] 8 170 _ _ _ _).trans rfl
  | 2, _ => exact (zR_unf d 124 [15] 8 170 _ _ _ _).trans rfl
  | 3, _ => exact (zR_unf d 124 [15] 8 170 _ _ _ _).trans rfl
set_option maxRecDepth 100000 in
theorem zb_X8_fewestChanges_41 (d : Nat) (a2 a3 a4 a5 a6 a7 s0 : Int) (s : Nat) (hs : s < 4) (mm : zMm) : zR d 124 41 [some (.inr (.inr 0)), some (.inr (.inr (37 + 2 * s))), some (.inl a2), some (.inl a3), some (.inl a4), some (.inl a5), some (.inl a6), some (.inl a7), none, none, none, none, none] [.inl s0] SH mm = (zcI (zL d 48 [.inr (.inr (37 + 2 * s)), .inl a7] SH mm) fun x sh' mm' => zR d 124 56 [some (.inr (.inr 0)), some (.inr (.inr (37 + 2 * s))), some (.inl a2), some (.inl a3), some (.inl a4), some (.inl a5), some (.inl a6), some (.inl a7), some (.inl s0), none, none, none, none] [.inl x, .inr (.inr 10)] sh' mm') := by
  match s, hs with
  | 0, _ => exact (zR_unf d 124 [15] 8 41 _ _ _ _).trans rfl
  | 1, _ => exact (zR_unf d 124 [15] 8 41 _ _ _ _).trans rfl
  | 2, _ => exact (zR_unf d 124 [15] 8 41 _ _ _ _).trans rfl
  | 3, _ => exact (zR_unf d 124 [15] 8 41 _ _ _ _).trans rfl
set_option maxRecDepth 100000 in
theorem zb_X8_fewestChanges_56 (d : Nat) (a2 a3 a4 a5 a6 a7 a8 s1 : Int) (s : Nat) (hs : s < 4) (mm : zMm) : zR d 124 56 [some (.inr (.inr 0)), some (.inr (.inr (37 + 2 * s))), some (.inl a2), some (.inl a3), some (.inl a4), some (.inl a5), some (.inl a6), some (.inl a7), some (.inl a8), none, none, none, none] [.inl s1, .inr (.inr 10)] SH mm = (zcI (zL d 69 [.inr (.inr 10), .inl s1] SH mm) fun x sh' mm' => zR d 124 59 [some (.inr (.inr 0)), some (.inr (.inr (37 + 2 * s))), some (.inl a2), some (.inl a3), some (.inl a4), some (.inl a5), some (.inl a6), some (.inl a7), some (.inl a8), none, none, none, none] [.inl x] sh' mm') := by
  match s, hs with
  | 0, _ => exact (zR_unf d 124 [15] 2 56 _ _ _ _).trans rfl
  | 1, _ => exact (zR_unf d 124 [15] 2 56 _ _ _ _).trans rfl
  | 2, _ => exact (zR_unf d 124 [15] 2 56 _ _ _ _).trans rfl
  | 3, _ => exact (zR_unf d 124 [15] 2 56 _ _ _ _).trans rfl
set_option maxRecDepth 100000 in
theorem zb_X8_fewestChanges_59 (d : Nat) (a2 a3 a4 a5 a6 a7 a8 s0 : Int) (s : Nat) (hs : s < 4) (mm : zMm) : zR d 124 59 [some (.inr (.inr 0)), some (.inr (.inr (37 + 2 * s))), some (.inl a2), some (.inl a3), some (.inl a4), some (.inl a5), some (.inl a6), some (.inl a7), some (.inl a8), none, none, none, none] [.inl s0] SH mm = (zcI (zL d 73 [.inr (.inr 10), .inl a8, .inl 1] SH mm) fun x sh' mm' => zR d 124 74 [some (.inr (.inr 0)), some (.inr (.inr (37 + 2 * s))), some (.inl a2), some (.inl a3), some (.inl a4), some (.inl a5), some (.inl a6), some (.inl a7), some (.inl a8), some (.inl s0), none, none, none] [.inl x] sh' mm') := by
  match s, hs with
  | 0, _ => exact (zR_unf d 124 [15] 8 59 _ _ _ _).trans rfl
  | 1, _ => exact (zR_unf d 124 [15] 8 59 _ _ _ _).trans rfl
  | 2, _ => exact (zR_unf d 124 [15] 8 59 _ _ _ _).trans rfl
  | 3, _ => exact (zR_unf d 124 [15] 8 59 _ _ _ _).trans rfl
set_option maxRecDepth 100000 in
theorem zb_X8_fewestChanges_74 (d : Nat) (a2 a3 a4 a5 a6 a7 a8 a9 s0 : Int) (s : Nat) (hs : s < 4) (mm : zMm) : zR d 124 74 [some (.inr (.inr 0)), some (.inr (.inr (37 + 2 * s))), some (.inl a2), some (.inl a3), some (.inl a4), some (.inl a5), some (.inl a6), some (.inl a7), some (.inl a8), some (.inl a9), none, none, none] [.inl s0] SH mm = (if s0 = a9 then zcI (zL d 73 [.inr (.inr 10), .inl a8, .inl (-1)] SH mm) fun x sh' mm' => zR d 124 99 [some (.inr (.inr 0)), some (.inr (.inr (37 + 2 * s))), some (.inl a2), some (.inl a3), some (.inl a4), some (.inl a5), some (.inl a6), some (.inl a7), some (.inl a8), some (.inl a9), some (.inl 1), none, none] [.inl x] sh' mm' else zcI (zL d 73 [.inr (.inr 10), .inl a8, .inl (-1)] SH mm) fun x sh' mm' => zR d 124 99 [some (.inr (.inr 0)), some (.inr (.inr (37 + 2 * s))), some (.inl a2), some (.inl a3), some (.inl a4), some (.inl a5), some (.inl a6), some (.inl a7), some (.inl a8), some (.inl a9), some (.inl 0), none, none] [.inl x] sh' mm') := by
  match s, hs with
  | 0, _ => exact (zR_unf d 124 [15] 12 74 _ _ _ _).trans rfl
  | 1, _ => exact (zR_unf d 124 [15] 12 74 _ _ _ _).trans rfl
  | 2, _ => exact (zR_unf d 124 [15] 12 74 _ _ _ _).trans rfl
  | 3, _ => exact (zR_unf d 124 [15] 12 74 _ _ _ _).trans rfl
set_option maxRecDepth 100000 in
theorem zb_X8_fewestChanges_99 (d : Nat) (a2 a3 a4 a5 a6 a7 a8 a9 a10 s0 : Int) (s : Nat) (hs : s < 4) (mm : zMm) : zR d 124 99 [some (.inr (.inr 0)), some (.inr (.inr (37 + 2 * s))), some (.inl a2), some (.inl a3), some (.inl a4), some (.inl a5), some (.inl a6), some (.inl a7), some (.inl a8), some (.inl a9), some (.inl a10), none, none] [.inl s0] SH mm = (if s0 = a9 then if a10 = 0 then zcI (zL d 201 [.inl a6, .inl (zw (a5 + 1))] SH mm) fun x sh' mm' => zR d 124 146 [some (.inr (.inr 0)), some (.inr (.inr (37 + 2 * s))), some (.inl a2), some (.inl a3), some (.inl a4), some (.inl a5), some (.inl a6), some (.inl a7), some (.inl a8), some (.inl a9), some (.inl a10), some (.inl 1), some (.inl a4)] [.inl x] sh' mm' else zcI (zL d 201 [.inl a5, .inl (zw (a6 + 1))] SH mm) fun x sh' mm' => zR d 124 125 [some (.inr (.inr 0)), some (.inr (.inr (37 + 2 * s))), some (.inl a2), some (.inl a3), some (.inl a4), some (.inl a5), some (.inl a6), some (.inl a7), some (.inl a8), some (.inl a9), some (.inl a10), some (.inl 1), none] [.inl x] sh' mm' else if a10 = 0 then zR d 124 15 [some (.inr (.inr 0)), some (.inr (.inr (37 + 2 * s))), some (.inl a2), some (.inl a3), some (.inl a4), some (.inl a4), some (.inl a4), some (.inl (zw (a7 + 1))), some (.inl a8), some (.inl a9), some (.inl a10), some (.inl 0), some (.inl a4)] [] SH mm else zcI (zL d 201 [.inl a5, .inl (zw (a6 + 1))] SH mm) fun x sh' mm' => zR d 124 125 [some (.inr (.inr 0)), some (.inr (.inr (37 + 2 * s))), some (.inl a2), some (.inl a3), some (.inl a4), some (.inl a5), some (.inl a6), some (.inl a7), some (.inl a8), some (.inl a9), some (.inl a10), some (.inl 0), none] [.inl x] sh' mm') := by
  match s, hs with
  | 0, _ => exact (zR_unf d 124 [15] 17 99 _ _ _ _).trans rfl
  | 1, _ => exact (zR_unf d 124 [15] 17 99 _ _ _ _).trans rfl
  | 2, _ => exact (zR_unf d 124 [15] 17 99 _ _ _ _).trans rfl
  | 3, _ => exact (zR_unf d 124 [15] 17 99 _ _ _ _).trans rfl
set_option maxRecDepth 100000 in
theorem zb_X8_fewestChanges_146 (d : Nat) (a2 a3 a4 a5 a6 a7 a8 a9 a10 a11 a12 s0 : Int) (s : Nat) (hs : s < 4) (mm : zMm) : zR d 124 146 [some (.inr (.inr 0)), some (.inr (.inr (37 + 2 * s))), some (.inl a2), some (.inl a3), some (.inl a4), some (.inl a5), some (.inl a6), some (.inl a7), some (.inl a8), some (.inl a9), some (.inl a10), some (.inl a11), some (.inl a12)] [.inl s0] SH mm = (zR d 124 15 [some (.inr (.inr 0)), some (.inr (.inr (37 + 2 * s))), some (.inl a2), some (.inl a3), some (.inl a4), some (.inl a12), some (.inl s0), some (.inl (zw (a7 + 1))), some (.inl a8), some (.inl a9), some (.inl a10), some (.inl a11), some (.inl a12)] [] SH mm) := by
  match s, hs with
  | 0, _ => exact (zR_unf d 124 [15] 7 146 _ _ _ _).trans rfl
  | 1, _ => exact (zR_unf d 124 [15] 7 146 _ _ _ _).trans rfl
  | 2, _ => exact (zR_unf d 124 [15] 7 146 _ _ _ _).trans rfl
  | 3, _ => exact (zR_unf d 124 [15] 7 146 _ _ _ _).trans rfl
set_option maxRecDepth 100000 in
theorem zb_X8_fewestChanges_125 (d : Nat) (a2 a3 a4 a5 a6 a7 a8 a9 a10 a11 s0 : Int) (s : Nat) (hs : s < 4) (mm : zMm) : zR d 124 125 [some (.inr (.inr 0)), some (.inr (.inr (37 + 2 * s))), some (.inl a2), some (.inl a3), some (.inl a4), some (.inl a5), some (.inl a6), some (.inl a7), some (.inl a8), some (.inl a9), some (.inl a10), some (.inl a11), none] [.inl s0] SH mm = (if a11 = 0 then zR d 124 15 [some (.inr (.inr 0)), some (.inr (.inr (37 + 2 * s))), some (.inl a2), some (.inl a3), some (.inl a4), some (.inl s0), some (.inl a4), some (.inl (zw (a7 + 1))), some (.inl a8), some (.inl a9), some (.inl a10), some (.inl a11), some (.inl s0)] [] SH mm else zcI (zL d 201 [.inl a6, .inl (zw (a5 + 1))] SH mm) fun x sh' mm' => zR d 124 146 [some (.inr (.inr 0)), some (.inr (.inr (37 + 2 * s))), some (.inl a2), some (.inl a3), some (.inl a4), some (.inl a5), some (.inl a6), some (.inl a7), some (.inl a8), some (.inl a9), some (.inl a10), some (.inl a11), some (.inl s0)] [.inl x] sh' mm') := by
  match s, hs with
  | 0, _ => exact (zR_unf d 124 [15] 11 125 _ _ _ _).trans rfl
  | 1, _ => exact (zR_unf d 124 [15] 11 125 _ _ _ _).trans rfl
  | 2, _ => exact (zR_unf d 124 [15] 11 125 _ _ _ _).trans rfl
  | 3, _ => exact (zR_unf d 124 [15] 11 125 _ _ _ _).trans rfl
