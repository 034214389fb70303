set_option maxRecDepth 100000 in
theorem zb_X8_follow_0 (d : Nat) (a1 a2 : Int) (mm : zMm) : zR d 59 0 [some (.inr (.inr 0)), some (.inl a1), some (.inl a2)] [] SH mm = (zcI (zL d 79 [.inl a1] SH mm) fun x sh' mm' => zR d 59 4 [some (.inr (.inr 0)), some (.inl a1), some (.inl a2)] [.inl x] sh' mm') := (zR_unf d 59 [] 3 0 _ _ _ _).trans rfl
set_option maxRecDepth 100000 in
theorem zb_X8_follow_4 (d : Nat) (a1 a2 s0 : Int) (mm : zMm) : zR d 59 4 [some (.inr (.inr 0)), some (.inl a1), some (.inl a2)] [.inl s0] SH mm = (if s0 = 0 then zok (-1) mm else if a2 < 0 then zok (-1) mm else if 255 < a2 then zok (-1) mm else zcI (zL d 43 [.inr (.inr 2), .inl a1, .inl a2] SH mm) fun x sh' mm' => zR d 59 32 [some (.inr (.inr 0)), some (.inl a1), some (.inl a2)] [.inl x] sh' mm') := (zR_unf d 59 [] 13 4 _ _ _ _).trans rfl
set_option maxRecDepth 100000 in
theorem zb_X8_follow_32 (d : Nat) (a1 a2 s0 : Int) (mm : zMm) : zR d 59 32 [some (.inr (.inr 0)), some (.inl a1), some (.inl a2)] [.inl s0] SH mm = (zok s0 mm) := (zR_unf d 59 [] 2 32 _ _ _ _).trans rfl
set_option maxRecDepth 100000 in
theorem zb_X8_line_0 (d : Nat) (a1 a2 : Int) (mm : zMm) : zR d 60 0 [some (.inr (.inr 0)), some (.inl a1), some (.inl a2)] [] SH mm = (zcI (zL d 80 [.inl a1, .inl a2, .inl 4] SH mm) fun x sh' mm' => zR d 60 6 [some (.inr (.inr 0)), some (.inl a1), some (.inl a2)] [.inl x] sh' mm') := (zR_unf d 60 [] 5 0 _ _ _ _).trans rfl
set_option maxRecDepth 100000 in
theorem zb_X8_line_6 (d : Nat) (a1 a2 s0 : Int) (mm : zMm) : zR d 60 6 [some (.inr (.inr 0)), some (.inl a1), some (.inl a2)] [.inl s0] SH mm = (if s0 = 0 then zok (-1) mm else zcI (zL d 44 [.inr (.inr 2), .inl a1, .inl a2] SH mm) fun x sh' mm' => zR d 60 23 [some (.inr (.inr 0)), some (.inl a1), some (.inl a2)] [.inl x] sh' mm') := (zR_unf d 60 [] 8 6 _ _ _ _).trans rfl
set_option maxRecDepth 100000 in
theorem zb_X8_line_23 (d : Nat) (a1 a2 s0 : Int) (mm : zMm) : zR d 60 23 [some (.inr (.inr 0)), some (.inl a1), some (.inl a2)] [.inl s0] SH mm = (zok s0 mm) := (zR_unf d 60 [] 2 23 _ _ _ _).trans rfl
set_option maxRecDepth 100000 in
theorem zb_X8_cell_0 (d : Nat) (a1 : Int) (mm : zMm) : zR d 61 0 [some (.inr (.inr 0)), some (.inl a1), none] [] SH mm = (if a1 < 0 then zok (-1) mm else if 3 < a1 then zok (-1) mm else zcI (zL d 3 [.inr (.inr 6), .inl a1] SH mm) fun x sh' mm' => zR d 61 22 [some (.inr (.inr 0)), some (.inl a1), none] [.inl x] sh' mm') := (zR_unf d 61 [] 11 0 _ _ _ _).trans rfl
set_option maxRecDepth 100000 in
theorem zb_X8_cell_22 (d : Nat) (a1 s0 : Int) (mm : zMm) : zR d 61 22 [some (.inr (.inr 0)), some (.inl a1), none] [.inl s0] SH mm = (if s0 < 0 then zok s0 mm else zcV (zL d 50 [.inr (.inr 10), .inl s0] SH mm) fun sh' mm' => zR d 61 38 [some (.inr (.inr 0)), some (.inl a1), some (.inl s0)] [] sh' mm') := (zR_unf d 61 [] 9 22 _ _ _ _).trans rfl
set_option maxRecDepth 100000 in
theorem zb_X8_cell_38 (d : Nat) (a1 a2 : Int) (mm : zMm) : zR d 61 38 [some (.inr (.inr 0)), some (.inl a1), some (.inl a2)] [] SH mm = (zok a2 mm) := (zR_unf d 61 [] 3 38 _ _ _ _).trans rfl
set_option maxRecDepth 100000 in
theorem zb_X8_weight_0 (d : Nat) (a1 a2 a3 : Int) (mm : zMm) : zR d 62 0 [some (.inr (.inr 0)), some (.inl a1), some (.inl a2), some (.inl a3)] [] SH mm = (zcI (zL d 2 [.inr (.inr 6), .inl a1] SH mm) fun x sh' mm' => zR d 62 11 [some (.inr (.inr 0)), some (.inl a1), some (.inl a2), some (.inl a3)] [.inl x] sh' mm') := (zR_unf d 62 [] 6 0 _ _ _ _).trans rfl
set_option maxRecDepth 100000 in
theorem zb_X8_weight_11 (d : Nat) (a1 a2 a3 s0 : Int) (mm : zMm) : zR d 62 11 [some (.inr (.inr 0)), some (.inl a1), some (.inl a2), some (.inl a3)] [.inl s0] SH mm = (if s0 = 0 then zok (-1) mm else zcI (zL d 79 [.inl a2] SH mm) fun x sh' mm' => zR d 62 18 [some (.inr (.inr 0)), some (.inl a1), some (.inl a2), some (.inl a3)] [.inl x] sh' mm') := (zR_unf d 62 [] 4 11 _ _ _ _).trans rfl
set_option maxRecDepth 100000 in
theorem zb_X8_weight_18 (d : Nat) (a1 a2 a3 s0 : Int) (mm : zMm) : zR d 62 18 [some (.inr (.inr 0)), some (.inl a1), some (.inl a2), some (.inl a3)] [.inl s0] SH mm = (if s0 = 0 then zok (-1) mm else if a3 < 0 then zok (-1) mm else if 9 < a3 then zok (-1) mm else zcI (zL d 9 [.inr (.inr 6), .inl a1, .inl a2, .inl a3] SH mm) fun x sh' mm' => zR d 62 46 [some (.inr (.inr 0)), some (.inl a1), some (.inl a2), some (.inl a3)] [.inl x] sh' mm') := (zR_unf d 62 [] 14 18 _ _ _ _).trans rfl
set_option maxRecDepth 100000 in
theorem zb_X8_weight_46 (d : Nat) (a1 a2 a3 s0 : Int) (mm : zMm) : zR d 62 46 [some (.inr (.inr 0)), some (.inl a1), some (.inl a2), some (.inl a3)] [.inl s0] SH mm = (zok s0 mm) := (zR_unf d 62 [] 2 46 _ _ _ _).trans rfl
set_option maxRecDepth 100000 in
theorem zb_X8_dead_0 (d : Nat) (a1 a2 : Int) (mm : zMm) : zR d 63 0 [some (.inr (.inr 0)), some (.inl a1), some (.inl a2)] [] SH mm = (zcI (zL d 2 [.inr (.inr 6), .inl a1] SH mm) fun x sh' mm' => zR d 63 11 [some (.inr (.inr 0)), some (.inl a1), some (.inl a2)] [.inl x] sh' mm') := (zR_unf d 63 [] 6 0 _ _ _ _).trans rfl
set_option maxRecDepth 100000 in
theorem zb_X8_dead_11 (d : Nat) (a1 a2 s0 : Int) (mm : zMm) : zR d 63 11 [some (.inr (.inr 0)), some (.inl a1), some (.inl a2)] [.inl s0] SH mm = (if s0 = 0 then zok (-1) mm else zcI (zL d 6 [.inr (.inr 6), .inl a1, .inl a2] SH mm) fun x sh' mm' => zR d 63 28 [some (.inr (.inr 0)), some (.inl a1), some (.inl a2)] [.inl x] sh' mm') := (zR_unf d 63 [] 8 11 _ _ _ _).trans rfl
set_option maxRecDepth 100000 in
theorem zb_X8_dead_28 (d : Nat) (a1 a2 s0 : Int) (mm : zMm) : zR d 63 28 [some (.inr (.inr 0)), some (.inl a1), some (.inl a2)] [.inl s0] SH mm = (zcI (zL d 82 [.inl s0] SH mm) fun x sh' mm' => zR d 63 31 [some (.inr (.inr 0)), some (.inl a1), some (.inl a2)] [.inl x] sh' mm') := (zR_unf d 63 [] 2 28 _ _ _ _).trans rfl
set_option maxRecDepth 100000 in
theorem zb_X8_dead_31 (d : Nat) (a1 a2 s0 : Int) (mm : zMm) : zR d 63 31 [some (.inr (.inr 0)), some (.inl a1), some (.inl a2)] [.inl s0] SH mm = (zok s0 mm) := (zR_unf d 63 [] 2 31 _ _ _ _).trans rfl
set_option maxRecDepth 100000 in
theorem zb_X8_swap_0 (d : Nat) (a1 a2 : Int) (mm : zMm) : zR d 64 0 [some (.inr (.inr 0)), some (.inl a1), some (.inl a2)] [] SH mm = (zcI (zL d 2 [.inr (.inr 6), .inl a1] SH mm) fun x sh' mm' => zR d 64 11 [some (.inr (.inr 0)), some (.inl a1), some (.inl a2)] [.inl x] sh' mm') := (zR_unf d 64 [] 6 0 _ _ _ _).trans rfl
set_option maxRecDepth 100000 in
theorem zb_X8_swap_11 (d : Nat) (a1 a2 s0 : Int) (mm : zMm) : zR d 64 11 [some (.inr (.inr 0)), some (.inl a1), some (.inl a2)] [.inl s0] SH mm = (if s0 = 0 then zok (-1) mm else zcI (zL d 2 [.inr (.inr 6), .inl a2] SH mm) fun x sh' mm' => zR d 64 25 [some (.inr (.inr 0)), some (.inl a1), some (.inl a2)] [.inl x] sh' mm') := (zR_unf d 64 [] 7 11 _ _ _ _).trans rfl
set_option maxRecDepth 100000 in
theorem zb_X8_swap_25 (d : Nat) (a1 a2 s0 : Int) (mm : zMm) : zR d 64 25 [some (.inr (.inr 0)), some (.inl a1), some (.inl a2)] [.inl s0] SH mm = (if s0 = 0 then zok (-1) mm else if a1 = a2 then zok (-1) mm else zcV (zL d 53 [.inr (.inr 10), .inl a1, .inl a2] SH mm) fun sh' mm' => zR d 64 47 [some (.inr (.inr 0)), some (.inl a1), some (.inl a2)] [] sh' mm') := (zR_unf d 64 [] 11 25 _ _ _ _).trans rfl
set_option maxRecDepth 100000 in
theorem zb_X8_swap_47 (d : Nat) (a1 a2 : Int) (mm : zMm) : zR d 64 47 [some (.inr (.inr 0)), some (.inl a1), some (.inl a2)] [] SH mm = (zcI (zL d 52 [.inr (.inr 10), .inl a1] SH mm) fun x sh' mm' => zR d 64 58 [some (.inr (.inr 0)), some (.inl a1), some (.inl a2)] [.inl x] sh' mm') := (zR_unf d 64 [] 6 47 _ _ _ _).trans rfl
set_option maxRecDepth 100000 in
theorem zb_X8_swap_58 (d : Nat) (a1 a2 s0 : Int) (mm : zMm) : zR d 64 58 [some (.inr (.inr 0)), some (.inl a1), some (.inl a2)] [.inl s0] SH mm = (zok s0 mm) := (zR_unf d 64 [] 2 58 _ _ _ _).trans rfl
set_option maxRecDepth 100000 in
theorem zb_X8_turn_0 (d : Nat) (a1 : Int) (mm : zMm) : zR d 65 0 [some (.inr (.inr 0)), some (.inl a1), none] [] SH mm = (if a1 = 0 ∨ a1 = 1 then zcI (zL d 82 [.inl (mm 10 4)] SH (zu mm 10 4 a1)) fun x sh' mm' => zR d 65 26 [some (.inr (.inr 0)), some (.inl a1), some (.inl (mm 10 4))] [.inl x] sh' mm' else none) := (zR_unf d 65 [] 13 0 _ _ _ _).trans rfl
set_option maxRecDepth 100000 in
theorem zb_X8_turn_26 (d : Nat) (a1 a2 s0 : Int) (mm : zMm) : zR d 65 26 [some (.inr (.inr 0)), some (.inl a1), some (.inl a2)] [.inl s0] SH mm = (zok s0 mm) := (zR_unf d 65 [] 2 26 _ _ _ _).trans rfl
set_option maxRecDepth 100000 in
theorem zb_X8_told_0 (d : Nat) (a1 a2 : Int) (mm : zMm) : zR d 66 0 [some (.inr (.inr 0)), some (.inl a1), some (.inl a2)] [] SH mm = (zcI (zL d 2 [.inr (.inr 6), .inl a1] SH mm) fun x sh' mm' => zR d 66 11 [some (.inr (.inr 0)), some (.inl a1), some (.inl a2)] [.inl x] sh' mm') := (zR_unf d 66 [] 6 0 _ _ _ _).trans rfl
set_option maxRecDepth 100000 in
theorem zb_X8_told_11 (d : Nat) (a1 a2 s0 : Int) (mm : zMm) : zR d 66 11 [some (.inr (.inr 0)), some (.inl a1), some (.inl a2)] [.inl s0] SH mm = (if s0 = 0 then zok (-1) mm else if a2 < 0 then zok (-1) mm else if 10 < a2 then zok (-1) mm else if a2 = 0 then zcI (zL d 4 [.inr (.inr 6), .inl a1] SH mm) fun x sh' mm' => zR d 66 63 [some (.inr (.inr 0)), some (.inl a1), some (.inl a2)] [.inl x] sh' mm' else if a2 = 1 then zcI (zL d 52 [.inr (.inr 10), .inl a1] SH mm) fun x sh' mm' => zR d 66 75 [some (.inr (.inr 0)), some (.inl a1), some (.inl a2)] [.inl x] sh' mm' else if a2 = 2 then zcI (zL d 5 [.inr (.inr 6), .inl a1] SH mm) fun x sh' mm' => zR d 66 87 [some (.inr (.inr 0)), some (.inl a1), some (.inl a2)] [.inl x] sh' mm' else zcI (zL d 8 [.inr (.inr 6), .inl a1, .inl (zw (a2 - 3))] SH mm) fun x sh' mm' => zR d 66 113 [some (.inr (.inr 0)), some (.inl a1), some (.inl a2)] [.inl x] sh' mm') := (zR_unf d 66 [] 17 11 _ _ _ _).trans rfl
set_option maxRecDepth 100000 in
theorem zb_X8_told_113 (d : Nat) (a1 a2 s0 : Int) (mm : zMm) : zR d 66 113 [some (.inr (.inr 0)), some (.inl a1), some (.inl a2)] [.inl s0] SH mm = (zok s0 mm) := (zR_unf d 66 [] 2 113 _ _ _ _).trans rfl
set_option maxRecDepth 100000 in
theorem zb_X8_told_87 (d : Nat) (a1 a2 s0 : Int) (mm : zMm) : zR d 66 87 [some (.inr (.inr 0)), some (.inl a1), some (.inl a2)] [.inl s0] SH mm = (if s0 = 0 then zcI (zL d 82 [.inl 1] SH mm) fun x sh' mm' => zR d 66 98 [some (.inr (.inr 0)), some (.inl a1), some (.inl a2)] [.inl x] sh' mm' else zcI (zL d 82 [.inl 0] SH mm) fun x sh' mm' => zR d 66 98 [some (.inr (.inr 0)), some (.inl a1), some (.inl a2)] [.inl x] sh' mm') := (zR_unf d 66 [] 5 87 _ _ _ _).trans rfl
set_option maxRecDepth 100000 in
theorem zb_X8_told_75 (d : Nat) (a1 a2 s0 : Int) (mm : zMm) : zR d 66 75 [some (.inr (.inr 0)), some (.inl a1), some (.inl a2)] [.inl s0] SH mm = (zok s0 mm) := (zR_unf d 66 [] 2 75 _ _ _ _).trans rfl
set_option maxRecDepth 100000 in
theorem zb_X8_told_63 (d : Nat) (a1 a2 s0 : Int) (mm : zMm) : zR d 66 63 [some (.inr (.inr 0)), some (.inl a1), some (.inl a2)] [.inl s0] SH mm = (zok s0 mm) := (zR_unf d 66 [] 2 63 _ _ _ _).trans rfl
set_option maxRecDepth 100000 in
theorem zb_X8_told_98 (d : Nat) (a1 a2 s0 : Int) (mm : zMm) : zR d 66 98 [some (.inr (.inr 0)), some (.inl a1), some (.inl a2)] [.inl s0] SH mm = (zok s0 mm) := (zR_unf d 66 [] 2 98 _ _ _ _).trans rfl
set_option maxRecDepth 100000 in
theorem zb_X8_count_0 (d : Nat) (a1 : Int) (mm : zMm) : zR d 67 0 [some (.inr (.inr 0)), some (.inl a1)] [] SH mm = (if a1 = 0 then zok (mm 6 3) mm else if a1 = 1 then zcI (zL d 7 [.inr (.inr 6)] SH mm) fun x sh' mm' => zR d 67 69 [some (.inr (.inr 0)), some (.inl a1)] [.inl x] sh' mm' else if a1 = 2 then zok (mm 12 2) mm else if a1 = 3 then zok (mm 2 3) mm else if a1 = 4 then zcI (zL d 29 [.inr (.inr 12)] SH mm) fun x sh' mm' => zR d 67 105 [some (.inr (.inr 0)), some (.inl a1)] [.inl x] sh' mm' else if a1 = 5 then zcI (zL d 31 [.inr (.inr 12)] SH mm) fun x sh' mm' => zR d 67 123 [some (.inr (.inr 0)), some (.inl a1)] [.inl x, .inr (.inr 2)] sh' mm' else if a1 = 6 then zcI (zL d 54 [.inr (.inr 10)] SH mm) fun x sh' mm' => zR d 67 156 [some (.inr (.inr 0)), some (.inl a1)] [.inl x, .inr (.inr 10)] sh' mm' else if a1 = 7 then zok (mm 10 3) mm else zok (-1) mm) := (zR_unf d 67 [] 10 0 _ _ _ _).trans rfl
set_option maxRecDepth 100000 in
theorem zb_X8_count_156 (d : Nat) (a1 s1 : Int) (mm : zMm) : zR d 67 156 [some (.inr (.inr 0)), some (.inl a1)] [.inl s1, .inr (.inr 10)] SH mm = (zcI (zL d 51 [.inr (.inr 10), .inl s1] SH mm) fun x sh' mm' => zR d 67 159 [some (.inr (.inr 0)), some (.inl a1)] [.inl x] sh' mm') := (zR_unf d 67 [] 2 156 _ _ _ _).trans rfl
set_option maxRecDepth 100000 in
theorem zb_X8_count_123 (d : Nat) (a1 s1 : Int) (mm : zMm) : zR d 67 123 [some (.inr (.inr 0)), some (.inl a1)] [.inl s1, .inr (.inr 2)] SH mm = (zcI (zL d 45 [.inr (.inr 2), .inl s1, .inl 4] SH mm) fun x sh' mm' => zR d 67 127 [some (.inr (.inr 0)), some (.inl a1)] [.inl x] sh' mm') := (zR_unf d 67 [] 3 123 _ _ _ _).trans rfl
set_option maxRecDepth 100000 in
theorem zb_X8_count_105 (d : Nat) (a1 s0 : Int) (mm : zMm) : zR d 67 105 [some (.inr (.inr 0)), some (.inl a1)] [.inl s0] SH mm = (zok s0 mm) := (zR_unf d 67 [] 2 105 _ _ _ _).trans rfl
set_option maxRecDepth 100000 in
theorem zb_X8_count_69 (d : Nat) (a1 s0 : Int) (mm : zMm) : zR d 67 69 [some (.inr (.inr 0)), some (.inl a1)] [.inl s0] SH mm = (zcI (zL d 86 [.inl s0] SH mm) fun x sh' mm' => zR d 67 72 [some (.inr (.inr 0)), some (.inl a1)] [.inl x] sh' mm') := (zR_unf d 67 [] 2 69 _ _ _ _).trans rfl
set_option maxRecDepth 100000 in
theorem zb_X8_count_159 (d : Nat) (a1 s0 : Int) (mm : zMm) : zR d 67 159 [some (.inr (.inr 0)), some (.inl a1)] [.inl s0] SH mm = (zok s0 mm) := (zR_unf d 67 [] 2 159 _ _ _ _).trans rfl
set_option maxRecDepth 100000 in
theorem zb_X8_count_127 (d : Nat) (a1 s0 : Int) (mm : zMm) : zR d 67 127 [some (.inr (.inr 0)), some (.inl a1)] [.inl s0] SH mm = (if s0 = 0 then zcI (zL d 82 [.inl 1] SH mm) fun x sh' mm' => zR d 67 138 [some (.inr (.inr 0)), some (.inl a1)] [.inl x] sh' mm' else zcI (zL d 82 [.inl 0] SH mm) fun x sh' mm' => zR d 67 138 [some (.inr (.inr 0)), some (.inl a1)] [.inl x] sh' mm') := (zR_unf d 67 [] 5 127 _ _ _ _).trans rfl
set_option maxRecDepth 100000 in
theorem zb_X8_count_72 (d : Nat) (a1 s0 : Int) (mm : zMm) : zR d 67 72 [some (.inr (.inr 0)), some (.inl a1)] [.inl s0] SH mm = (zok s0 mm) := (zR_unf d 67 [] 2 72 _ _ _ _).trans rfl
set_option maxRecDepth 100000 in
theorem zb_X8_count_138 (d : Nat) (a1 s0 : Int) (mm : zMm) : zR d 67 138 [some (.inr (.inr 0)), some (.inl a1)] [.inl s0] SH mm = (zok s0 mm) := (zR_unf d 67 [] 2 138 _ _ _ _).trans rfl
set_option maxRecDepth 100000 in
theorem zb_X8_read_0 (d : Nat) (a1 a2 : Int) (mm : zMm) : zR d 68 0 [some (.inr (.inr 0)), some (.inl a1), some (.inl a2)] [] SH mm = (zcI (zL d 25 [.inr (.inr 12), .inl a1] SH mm) fun x sh' mm' => zR d 68 11 [some (.inr (.inr 0)), some (.inl a1), some (.inl a2)] [.inl x] sh' mm') := (zR_unf d 68 [] 6 0 _ _ _ _).trans rfl
set_option maxRecDepth 100000 in
theorem zb_X8_read_11 (d : Nat) (a1 a2 s0 : Int) (mm : zMm) : zR d 68 11 [some (.inr (.inr 0)), some (.inl a1), some (.inl a2)] [.inl s0] SH mm = (if s0 = 0 then zok (-1) mm else if a2 < 0 then zok (-1) mm else if 1 < a2 then zok (-1) mm else if a2 = 0 then zcI (zL d 27 [.inr (.inr 12), .inl a1] SH mm) fun x sh' mm' => zR d 68 40 [some (.inr (.inr 0)), some (.inl a1), some (.inl a2)] [.inl x] sh' mm' else zcI (zL d 28 [.inr (.inr 12), .inl a1] SH mm) fun x sh' mm' => zR d 68 54 [some (.inr (.inr 0)), some (.inl a1), some (.inl a2)] [.inl x] sh' mm') := (zR_unf d 68 [] 14 11 _ _ _ _).trans rfl
set_option maxRecDepth 100000 in
theorem zb_X8_read_40 (d : Nat) (a1 a2 s0 : Int) (mm : zMm) : zR d 68 40 [some (.inr (.inr 0)), some (.inl a1), some (.inl a2)] [.inl s0] SH mm = (zok s0 mm) := (zR_unf d 68 [] 3 40 _ _ _ _).trans rfl
set_option maxRecDepth 100000 in
theorem zb_X8_read_54 (d : Nat) (a1 a2 s0 : Int) (mm : zMm) : zR d 68 54 [some (.inr (.inr 0)), some (.inl a1), some (.inl a2)] [.inl s0] SH mm = (zok s0 mm) := (zR_unf d 68 [] 2 54 _ _ _ _).trans rfl
set_option maxRecDepth 100000 in
theorem zb_X8_come_0 (d : Nat) (a1 : Int) (mm : zMm) : zR d 69 0 [some (.inr (.inr 0)), some (.inl a1)] [] SH mm = (zcI (zL d 2 [.inr (.inr 6), .inl a1] SH mm) fun x sh' mm' => zR d 69 11 [some (.inr (.inr 0)), some (.inl a1)] [.inl x] sh' mm') := (zR_unf d 69 [] 6 0 _ _ _ _).trans rfl
set_option maxRecDepth 100000 in
theorem zb_X8_come_11 (d : Nat) (a1 s0 : Int) (mm : zMm) : zR d 69 11 [some (.inr (.inr 0)), some (.inl a1)] [.inl s0] SH mm = (if s0 = 0 then zok (-1) mm else zcI (zL d 31 [.inr (.inr 12)] SH mm) fun x sh' mm' => zR d 69 31 [some (.inr (.inr 0)), some (.inl a1)] [.inl x, .inl a1, .inr (.inr 1)] sh' mm') := (zR_unf d 69 [] 9 11 _ _ _ _).trans rfl
set_option maxRecDepth 100000 in
theorem zb_X8_come_31 (d : Nat) (a1 s1 s2 : Int) (mm : zMm) : zR d 69 31 [some (.inr (.inr 0)), some (.inl a1)] [.inl s2, .inl s1, .inr (.inr 1)] SH mm = (zcI (zL d 14 [.inr (.inr 1), .inl s1, .inl s2] SH mm) fun x sh' mm' => zR d 69 34 [some (.inr (.inr 0)), some (.inl a1)] [.inl x] sh' mm') := (zR_unf d 69 [] 2 31 _ _ _ _).trans rfl
set_option maxRecDepth 100000 in
theorem zb_X8_come_34 (d : Nat) (a1 s0 : Int) (mm : zMm) : zR d 69 34 [some (.inr (.inr 0)), some (.inl a1)] [.inl s0] SH mm = (zok s0 mm) := (zR_unf d 69 [] 2 34 _ _ _ _).trans rfl
set_option maxRecDepth 100000 in
theorem zb_X8_draw_0 (d : Nat) (a1 : Int) (mm : zMm) : zR d 70 0 [some (.inr (.inr 0)), some (.inl a1), none, none] [] SH mm = (if a1 < 1 then zok (-1) mm else if 60 < a1 then zok (-1) mm else zcI (zL d 54 [.inr (.inr 10)] SH mm) fun x sh' mm' => zR d 70 23 [some (.inr (.inr 0)), some (.inl a1), none, none] [.inl x] sh' mm') := (zR_unf d 70 [42] 11 0 _ _ _ _).trans rfl
set_option maxRecDepth 100000 in
theorem zb_X8_draw_23 (d : Nat) (a1 s0 : Int) (mm : zMm) : zR d 70 23 [some (.inr (.inr 0)), some (.inl a1), none, none] [.inl s0] SH mm = (if s0 < 0 then zok (-4) mm else zR d 70 42 [some (.inr (.inr 0)), some (.inl a1), some (.inl (mm 12 2)), some (.inl 0)] [] SH mm) := (zR_unf d 70 [42] 9 23 _ _ _ _).trans rfl
set_option maxRecDepth 100000 in
theorem zb_X8_draw_42 (d : Nat) (a1 a2 a3 : Int) (mm : zMm) : zR d 70 42 [some (.inr (.inr 0)), some (.inl a1), some (.inl a2), some (.inl a3)] [] SH mm = (if a3 < a1 then zcV (zL d 16 [.inr (.inr 1)] SH mm) fun sh' mm' => zR d 70 54 [some (.inr (.inr 0)), some (.inl a1), some (.inl a2), some (.inl a3)] [] sh' mm' else zok (zw ((mm 12 2) - a2)) mm) := (zR_unf d 70 [42] 11 42 _ _ _ _).trans rfl
set_option maxRecDepth 100000 in
theorem zb_X8_draw_54 (d : Nat) (a1 a2 a3 : Int) (mm : zMm) : zR d 70 54 [some (.inr (.inr 0)), some (.inl a1), some (.inl a2), some (.inl a3)] [] SH mm = (zcV (zL d 57 [.inr (.inr 10)] SH mm) fun sh' mm' => zR d 70 64 [some (.inr (.inr 0)), some (.inl a1), some (.inl a2), some (.inl a3)] [] sh' mm') := (zR_unf d 70 [42] 5 54 _ _ _ _).trans rfl
set_option maxRecDepth 100000 in
theorem zb_X8_draw_64 (d : Nat) (a1 a2 a3 : Int) (mm : zMm) : zR d 70 64 [some (.inr (.inr 0)), some (.inl a1), some (.inl a2), some (.inl a3)] [] SH mm = (zR d 70 42 [some (.inr (.inr 0)), some (.inl a1), some (.inl a2), some (.inl (zw (a3 + 1)))] [] SH mm) := (zR_unf d 70 [42] 3 64 _ _ _ _).trans rfl
set_option maxRecDepth 100000 in
theorem zb_X8_seed_0 (d : Nat) (a1 : Int) (mm : zMm) : zR d 71 0 [some (.inr (.inr 0)), some (.inl a1), none] [] SH mm = (if a1 < 0 then zok (-1) mm else zok (mm 1 4) (zu mm 1 4 a1)) := (zR_unf d 71 [] 13 0 _ _ _ _).trans rfl
set_option maxRecDepth 100000 in
theorem zb_X8_undo_0 (d : Nat) (a1 : Int) (mm : zMm) : zR d 72 0 [some (.inr (.inr 0)), some (.inl a1)] [] SH mm = (if a1 < 1 then zok (-1) mm else if 60 < a1 then zok (-1) mm else if (mm 12 2) < a1 then zok (-2) mm else zok (zw ((mm 12 2) - a1)) (zu mm 12 2 (zw ((mm 12 2) - a1)))) := (zR_unf d 72 [] 26 0 _ _ _ _).trans rfl
set_option maxRecDepth 100000 in
theorem zb_X8_reach_0 (d : Nat) (a1 a2 : Int) (mm : zMm) : zR d 73 0 [some (.inr (.inr 0)), some (.inl a1), some (.inl a2)] [] SH mm = (zcI (zL d 80 [.inl a1, .inl a2, .inl 3] SH mm) fun x sh' mm' => zR d 73 6 [some (.inr (.inr 0)), some (.inl a1), some (.inl a2)] [.inl x] sh' mm') := (zR_unf d 73 [] 5 0 _ _ _ _).trans rfl
set_option maxRecDepth 100000 in
theorem zb_X8_reach_6 (d : Nat) (a1 a2 s0 : Int) (mm : zMm) : zR d 73 6 [some (.inr (.inr 0)), some (.inl a1), some (.inl a2)] [.inl s0] SH mm = (if s0 = 0 then zok (-1) mm else zcI (zL d 34 [.inr (.inr 33), .inr (.inr 1), .inl a1, .inl a2] SH mm) fun x sh' mm' => zR d 73 24 [some (.inr (.inr 0)), some (.inl a1), some (.inl a2)] [.inl x] sh' mm') := (zR_unf d 73 [] 9 6 _ _ _ _).trans rfl
set_option maxRecDepth 100000 in
theorem zb_X8_reach_24 (d : Nat) (a1 a2 s0 : Int) (mm : zMm) : zR d 73 24 [some (.inr (.inr 0)), some (.inl a1), some (.inl a2)] [.inl s0] SH mm = (zok s0 mm) := (zR_unf d 73 [] 2 24 _ _ _ _).trans rfl
set_option maxRecDepth 100000 in
theorem zb_X8_soon_0 (d : Nat) (a1 a2 : Int) (mm : zMm) : zR d 74 0 [some (.inr (.inr 0)), some (.inl a1), some (.inl a2), none] [] SH mm = (zcI (zL d 79 [.inl a1] SH mm) fun x sh' mm' => zR d 74 4 [some (.inr (.inr 0)), some (.inl a1), some (.inl a2), none] [.inl x] sh' mm') := (zR_unf d 74 [] 3 0 _ _ _ _).trans rfl
set_option maxRecDepth 100000 in
theorem zb_X8_soon_4 (d : Nat) (a1 a2 s0 : Int) (mm : zMm) : zR d 74 4 [some (.inr (.inr 0)), some (.inl a1), some (.inl a2), none] [.inl s0] SH mm = (if s0 = 0 then zok (-1) mm else if a2 < 1 then zok (-1) mm else if 5 < a2 then zok (-1) mm else zcI (zL d 54 [.inr (.inr 10)] SH mm) fun x sh' mm' => zR d 74 29 [some (.inr (.inr 0)), some (.inl a1), some (.inl a2), none] [.inl x] sh' mm') := (zR_unf d 74 [] 12 4 _ _ _ _).trans rfl
set_option maxRecDepth 100000 in
theorem zb_X8_soon_29 (d : Nat) (a1 a2 s0 : Int) (mm : zMm) : zR d 74 29 [some (.inr (.inr 0)), some (.inl a1), some (.inl a2), none] [.inl s0] SH mm = (if s0 < 0 then zok (-4) mm else zcI (zL d 31 [.inr (.inr 12)] SH mm) fun x sh' mm' => zR d 74 54 [some (.inr (.inr 0)), some (.inl a1), some (.inl a2), some (.inl s0)] [.inl x, .inl s0, .inr (.inr 1)] sh' mm') := (zR_unf d 74 [] 11 29 _ _ _ _).trans rfl
set_option maxRecDepth 100000 in
theorem zb_X8_soon_54 (d : Nat) (a1 a2 a3 s1 s2 : Int) (mm : zMm) : zR d 74 54 [some (.inr (.inr 0)), some (.inl a1), some (.inl a2), some (.inl a3)] [.inl s2, .inl s1, .inr (.inr 1)] SH mm = (zcI (zL d 85 [.inr (.inr 1), .inl s1, .inl s2, .inl a1, .inl a2] SH mm) fun x sh' mm' => zR d 74 59 [some (.inr (.inr 0)), some (.inl a1), some (.inl a2), some (.inl a3)] [.inl x] sh' mm') := (zR_unf d 74 [] 4 54 _ _ _ _).trans rfl
set_option maxRecDepth 100000 in
theorem zb_X8_soon_59 (d : Nat) (a1 a2 a3 s0 : Int) (mm : zMm) : zR d 74 59 [some (.inr (.inr 0)), some (.inl a1), some (.inl a2), some (.inl a3)] [.inl s0] SH mm = (zok s0 mm) := (zR_unf d 74 [] 2 59 _ _ _ _).trans rfl
set_option maxRecDepth 100000 in
theorem zb_X8_habit_0 (d : Nat) (a1 a2 : Int) (mm : zMm) : zR d 75 0 [some (.inr (.inr 0)), some (.inl a1), some (.inl a2)] [] SH mm = (zcI (zL d 2 [.inr (.inr 6), .inl a1] SH mm) fun x sh' mm' => zR d 75 11 [some (.inr (.inr 0)), some (.inl a1), some (.inl a2)] [.inl x] sh' mm') := (zR_unf d 75 [] 6 0 _ _ _ _).trans rfl
set_option maxRecDepth 100000 in
theorem zb_X8_habit_11 (d : Nat) (a1 a2 s0 : Int) (mm : zMm) : zR d 75 11 [some (.inr (.inr 0)), some (.inl a1), some (.inl a2)] [.inl s0] SH mm = (if s0 = 0 then zok (-1) mm else zcI (zL d 79 [.inl a2] SH mm) fun x sh' mm' => zR d 75 18 [some (.inr (.inr 0)), some (.inl a1), some (.inl a2)] [.inl x] sh' mm') := (zR_unf d 75 [] 4 11 _ _ _ _).trans rfl
set_option maxRecDepth 100000 in
theorem zb_X8_habit_18 (d : Nat) (a1 a2 s0 : Int) (mm : zMm) : zR d 75 18 [some (.inr (.inr 0)), some (.inl a1), some (.inl a2)] [.inl s0] SH mm = (if s0 = 0 then zok (-1) mm else zcI (zL d 30 [.inr (.inr 12), .inl a1, .inl a2] SH mm) fun x sh' mm' => zR d 75 35 [some (.inr (.inr 0)), some (.inl a1), some (.inl a2)] [.inl x] sh' mm') := (zR_unf d 75 [] 8 18 _ _ _ _).trans rfl
set_option maxRecDepth 100000 in
theorem zb_X8_habit_35 (d : Nat) (a1 a2 s0 : Int) (mm : zMm) : zR d 75 35 [some (.inr (.inr 0)), some (.inl a1), some (.inl a2)] [.inl s0] SH mm = (zok s0 mm) := (zR_unf d 75 [] 2 35 _ _ _ _).trans rfl
set_option maxRecDepth 100000 in
theorem zb_X8_prevented_0 (d : Nat) (a1 : Int) (mm : zMm) : zR d 76 0 [some (.inr (.inr 0)), some (.inl a1), none] [] SH mm = (if a1 < 0 then zok (-1) mm else if 1 < a1 then zok (-1) mm else zcI (zL d 19 [.inr (.inr 1)] SH mm) fun x sh' mm' => zR d 76 18 [some (.inr (.inr 0)), some (.inl a1), none] [.inl x] sh' mm') := (zR_unf d 76 [] 9 0 _ _ _ _).trans rfl
set_option maxRecDepth 100000 in
theorem zb_X8_prevented_18 (d : Nat) (a1 s0 : Int) (mm : zMm) : zR d 76 18 [some (.inr (.inr 0)), some (.inl a1), none] [.inl s0] SH mm = (if s0 < 0 then zok (-4) mm else if a1 = 0 then zok s0 mm else zcI (zL d 20 [.inr (.inr 1), .inl s0] SH mm) fun x sh' mm' => zR d 76 42 [some (.inr (.inr 0)), some (.inl a1), some (.inl s0)] [.inl x] sh' mm') := (zR_unf d 76 [] 10 18 _ _ _ _).trans rfl
set_option maxRecDepth 100000 in
theorem zb_X8_prevented_42 (d : Nat) (a1 a2 s0 : Int) (mm : zMm) : zR d 76 42 [some (.inr (.inr 0)), some (.inl a1), some (.inl a2)] [.inl s0] SH mm = (zok s0 mm) := (zR_unf d 76 [] 2 42 _ _ _ _).trans rfl
set_option maxRecDepth 100000 in
theorem zb_X8_image_0 (d : Nat) (mm : zMm) : zR d 77 0 [some (.inr (.inr 0))] [] SH mm = (zcV (zL d 13 [.inr (.inr 15), .inr (.inr 1)] SH mm) fun sh' mm' => zR d 77 11 [some (.inr (.inr 0))] [] sh' mm') := (zR_unf d 77 [] 6 0 _ _ _ _).trans rfl
set_option maxRecDepth 100000 in
theorem zb_X8_image_11 (d : Nat) (mm : zMm) : zR d 77 11 [some (.inr (.inr 0))] [] SH mm = (zok 1 (zu mm 0 6 1)) := (zR_unf d 77 [] 6 11 _ _ _ _).trans rfl
set_option maxRecDepth 100000 in
theorem zb_X8_restore_0 (d : Nat) (mm : zMm) : zR d 78 0 [some (.inr (.inr 0))] [] SH mm = (if (mm 0 6) = 0 then zok (-4) mm else zcV (zL d 13 [.inr (.inr 1), .inr (.inr 15)] SH mm) fun sh' mm' => zR d 78 21 [some (.inr (.inr 0))] [] sh' mm') := (zR_unf d 78 [] 9 0 _ _ _ _).trans rfl
set_option maxRecDepth 100000 in
theorem zb_X8_restore_21 (d : Nat) (mm : zMm) : zR d 78 21 [some (.inr (.inr 0))] [] SH mm = (zok 1 mm) := (zR_unf d 78 [] 3 21 _ _ _ _).trans rfl
set_option maxRecDepth 100000 in
theorem zb_X8_isWord_0 (d : Nat) (a0 : Int) (mm : zMm) : zR d 79 0 [some (.inl a0)] [] SH mm = (if a0 < 0 then zok 0 mm else if a0 < 8 then zok 1 mm else zok 0 mm) := (zR_unf d 79 [] 9 0 _ _ _ _).trans rfl
set_option maxRecDepth 100000 in
theorem zb_X8_isRowOfWords_0 (d : Nat) (a0 a1 a2 : Int) (mm : zMm) : zR d 80 0 [some (.inl a0), some (.inl a1), some (.inl a2)] [] SH mm = (if a1 < 1 then zok 0 mm else if a2 < a1 then zok 0 mm else if a0 < 0 then zok 0 mm else if a0 < (zshl 1 (zw (3 * a1))) then zok 1 mm else zok 0 mm) := (zR_unf d 80 [] 19 0 _ _ _ _).trans rfl
set_option maxRecDepth 100000 in
theorem zb_X8_holds_0 (d : Nat) (a0 a1 : Int) (mm : zMm) : zR d 81 0 [some (.inl a0), some (.inl a1)] [] SH mm = (if (zand (zshr a0 a1) 1) = 0 then zok 0 mm else zok 1 mm) := (zR_unf d 81 [] 10 0 _ _ _ _).trans rfl
set_option maxRecDepth 100000 in
theorem zb_X8_bit_0 (d : Nat) (a0 : Int) (mm : zMm) : zR d 82 0 [some (.inl a0)] [] SH mm = (if a0 = 0 then zok 0 mm else zok 1 mm) := (zR_unf d 82 [] 6 0 _ _ _ _).trans rfl
set_option maxRecDepth 100000 in
theorem zb_X8_slipWith_0 (d : Nat) (a0 a1 : Int) (mm : zMm) : zR d 83 0 [some (.inl a0), some (.inl a1), none] [] SH mm = (if (zw ((zw (a0 * 8)) + a1)) < 1024 then zok (zw ((zw (a0 * 8)) + a1)) mm else zok (zw (512 + (zand (zw ((zw (a0 * 8)) + a1)) 511))) mm) := (zR_unf d 83 [] 16 0 _ _ _ _).trans rfl
set_option maxRecDepth 100000 in
theorem zb_X8_slipEndsWith_0 (d : Nat) (a0 a1 a2 : Int) (mm : zMm) : zR d 84 0 [some (.inl a0), some (.inl a1), some (.inl a2), none] [] SH mm = (if a0 < (zshl 1 (zw (3 * a2))) then zok 0 mm else if (zand a0 (zw ((zshl 1 (zw (3 * a2))) - 1))) = a1 then zok 1 mm else zok 0 mm) := (zR_unf d 84 [] 20 0 _ _ _ _).trans rfl
set_option maxRecDepth 100000 in
theorem zb_X8_soonWithin_0 (d : Nat) (a1 a2 a3 a4 : Int) (mm : zMm) : zR d 85 0 [some (.inr (.inr 1)), some (.inl a1), some (.inl a2), some (.inl a3), some (.inl a4), none, none, none, none, none, none, none, none] [] SH mm = (if a4 < 1 then zok 0 mm else if 5 < a4 then zok 0 mm else zcI (zL d 51 [.inr (.inr 10), .inl a1] SH mm) fun x sh' mm' => zR d 85 22 [some (.inr (.inr 1)), some (.inl a1), some (.inl a2), some (.inl a3), some (.inl a4), none, none, none, none, none, none, none, none] [.inl x] sh' mm') := (zR_unf d 85 [70] 11 0 _ _ _ _).trans rfl
set_option maxRecDepth 100000 in
theorem zb_X8_soonWithin_22 (d : Nat) (a1 a2 a3 a4 s0 : Int) (mm : zMm) : zR d 85 22 [some (.inr (.inr 1)), some (.inl a1), some (.inl a2), some (.inl a3), some (.inl a4), none, none, none, none, none, none, none, none] [.inl s0] SH mm = (zcI (zL d 55 [.inr (.inr 10), .inl a1] SH mm) fun x sh' mm' => zR d 85 32 [some (.inr (.inr 1)), some (.inl a1), some (.inl a2), some (.inl a3), some (.inl a4), some (.inl s0), none, none, none, none, none, none, none] [.inl x] sh' mm') := (zR_unf d 85 [70] 6 22 _ _ _ _).trans rfl
set_option maxRecDepth 100000 in
theorem zb_X8_soonWithin_32 (d : Nat) (a1 a2 a3 a4 a5 s0 : Int) (mm : zMm) : zR d 85 32 [some (.inr (.inr 1)), some (.inl a1), some (.inl a2), some (.inl a3), some (.inl a4), some (.inl a5), none, none, none, none, none, none, none] [.inl s0] SH mm = (zcI (zL d 14 [.inr (.inr 1), .inl a5, .inl a2] SH mm) fun x sh' mm' => zR d 85 41 [some (.inr (.inr 1)), some (.inl a1), some (.inl a2), some (.inl a3), some (.inl a4), some (.inl a5), some (.inl s0), none, none, none, none, none, none] [.inl x] sh' mm') := (zR_unf d 85 [70] 6 32 _ _ _ _).trans rfl
set_option maxRecDepth 100000 in
theorem zb_X8_soonWithin_41 (d : Nat) (a1 a2 a3 a4 a5 a6 s0 : Int) (mm : zMm) : zR d 85 41 [some (.inr (.inr 1)), some (.inl a1), some (.inl a2), some (.inl a3), some (.inl a4), some (.inl a5), some (.inl a6), none, none, none, none, none, none] [.inl s0] SH mm = (if s0 = 0 then zcI (zL d 85 [.inr (.inr 1), .inl a6, .inl a2, .inl a3, .inl (zw (a4 - 1))] SH mm) fun x sh' mm' => zR d 85 60 [some (.inr (.inr 1)), some (.inl a1), some (.inl a2), some (.inl a3), some (.inl a4), some (.inl a5), some (.inl a6), some (.inl s0), none, none, none, none, none] [.inl x] sh' mm' else zR d 85 70 [some (.inr (.inr 1)), some (.inl a1), some (.inl a2), some (.inl a3), some (.inl a4), some (.inl a5), some (.inl a6), some (.inl s0), some (.inl 0), some (.inl 0), some (.inl 0), none, none] [] SH mm) := (zR_unf d 85 [70] 12 41 _ _ _ _).trans rfl
set_option maxRecDepth 100000 in
theorem zb_X8_soonWithin_60 (d : Nat) (a1 a2 a3 a4 a5 a6 a7 s0 : Int) (mm : zMm) : zR d 85 60 [some (.inr (.inr 1)), some (.inl a1), some (.inl a2), some (.inl a3), some (.inl a4), some (.inl a5), some (.inl a6), some (.inl a7), none, none, none, none, none] [.inl s0] SH mm = (zok s0 mm) := (zR_unf d 85 [70] 2 60 _ _ _ _).trans rfl
set_option maxRecDepth 100000 in
theorem zb_X8_soonWithin_70 (d : Nat) (a2 a3 a4 a5 a6 a7 a8 a9 a10 : Int) (mm : zMm) : zR d 85 70 [some (.inr (.inr 1)), none, some (.inl a2), some (.inl a3), some (.inl a4), some (.inl a5), some (.inl a6), some (.inl a7), some (.inl a8), some (.inl a9), some (.inl a10), none, none] [] SH mm = (if a10 < 8 then zcI (zL d 81 [.inl a7, .inl a10] SH mm) fun x sh' mm' => zR d 85 84 [some (.inr (.inr 1)), none, some (.inl a2), some (.inl a3), some (.inl a4), some (.inl a5), some (.inl a6), some (.inl a7), some (.inl a8), some (.inl a9), some (.inl a10), none, none] [.inl x] sh' mm' else if 0 < a9 then if a9 = 0 then none else zok (zdiv a8 a9) mm else zok 0 mm) := (zR_unf d 85 [70] 11 70 _ _ _ _).trans rfl
set_option maxRecDepth 100000 in
theorem zb_X8_soonWithin_84 (d : Nat) (a2 a3 a4 a5 a6 a7 a8 a9 a10 s0 : Int) (mm : zMm) : zR d 85 84 [some (.inr (.inr 1)), none, some (.inl a2), some (.inl a3), some (.inl a4), some (.inl a5), some (.inl a6), some (.inl a7), some (.inl a8), some (.inl a9), some (.inl a10), none, none] [.inl s0] SH mm = (if s0 = 0 then zR d 85 70 [some (.inr (.inr 1)), none, some (.inl a2), some (.inl a3), some (.inl a4), some (.inl a5), some (.inl a6), some (.inl a7), some (.inl a8), some (.inl a9), some (.inl (zw (a10 + 1))), none, none] [] SH mm else if a10 = a3 then zcI (zL d 8 [.inr (.inr 6), .inl a5, .inl a10] SH mm) fun x sh' mm' => zR d 85 129 [some (.inr (.inr 1)), none, some (.inl a2), some (.inl a3), some (.inl a4), some (.inl a5), some (.inl a6), some (.inl a7), some (.inl a8), some (.inl a9), some (.inl a10), some (.inl 1000), none] [.inl x] sh' mm' else zcI (zL d 83 [.inl a2, .inl a10] SH mm) fun x sh' mm' => zR d 85 108 [some (.inr (.inr 1)), none, some (.inl a2), some (.inl a3), some (.inl a4), some (.inl a5), some (.inl a6), some (.inl a7), some (.inl a8), some (.inl a9), some (.inl a10), none, none] [.inl x, .inl a6, .inr (.inr 1)] sh' mm') := (zR_unf d 85 [70] 13 84 _ _ _ _).trans rfl
set_option maxRecDepth 100000 in
theorem zb_X8_soonWithin_129 (d : Nat) (a2 a3 a4 a5 a6 a7 a8 a9 a10 a11 s0 : Int) (mm : zMm) : zR d 85 129 [some (.inr (.inr 1)), none, some (.inl a2), some (.inl a3), some (.inl a4), some (.inl a5), some (.inl a6), some (.inl a7), some (.inl a8), some (.inl a9), some (.inl a10), some (.inl a11), none] [.inl s0] SH mm = (zR d 85 70 [some (.inr (.inr 1)), none, some (.inl a2), some (.inl a3), some (.inl a4), some (.inl a5), some (.inl a6), some (.inl a7), some (.inl (zw (a8 + (zw (s0 * a11))))), some (.inl (zw (a9 + s0))), some (.inl (zw (a10 + 1))), some (.inl a11), some (.inl s0)] [] SH mm) := (zR_unf d 85 [70] 14 129 _ _ _ _).trans rfl
set_option maxRecDepth 100000 in
theorem zb_X8_soonWithin_108 (d : Nat) (a2 a3 a4 a5 a6 a7 a8 a9 a10 s1 s2 : Int) (mm : zMm) : zR d 85 108 [some (.inr (.inr 1)), none, some (.inl a2), some (.inl a3), some (.inl a4), some (.inl a5), some (.inl a6), some (.inl a7), some (.inl a8), some (.inl a9), some (.inl a10), none, none] [.inl s2, .inl s1, .inr (.inr 1)] SH mm = (zcI (zL d 85 [.inr (.inr 1), .inl s1, .inl s2, .inl a3, .inl (zw (a4 - 1))] SH mm) fun x sh' mm' => zR d 85 116 [some (.inr (.inr 1)), none, some (.inl a2), some (.inl a3), some (.inl a4), some (.inl a5), some (.inl a6), some (.inl a7), some (.inl a8), some (.inl a9), some (.inl a10), none, none] [.inl x] sh' mm') := (zR_unf d 85 [70] 6 108 _ _ _ _).trans rfl
set_option maxRecDepth 100000 in
theorem zb_X8_soonWithin_116 (d : Nat) (a2 a3 a4 a5 a6 a7 a8 a9 a10 s0 : Int) (mm : zMm) : zR d 85 116 [some (.inr (.inr 1)), none, some (.inl a2), some (.inl a3), some (.inl a4), some (.inl a5), some (.inl a6), some (.inl a7), some (.inl a8), some (.inl a9), some (.inl a10), none, none] [.inl s0] SH mm = (zcI (zL d 8 [.inr (.inr 6), .inl a5, .inl a10] SH mm) fun x sh' mm' => zR d 85 129 [some (.inr (.inr 1)), none, some (.inl a2), some (.inl a3), some (.inl a4), some (.inl a5), some (.inl a6), some (.inl a7), some (.inl a8), some (.inl a9), some (.inl a10), some (.inl s0), none] [.inl x] sh' mm') := (zR_unf d 85 [70] 7 116 _ _ _ _).trans rfl
