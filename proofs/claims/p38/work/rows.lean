section
-- ===== PART A: goes FIRST, ahead of the names: the tables' words, and 'selects' of the private methods out of them =====
/-- a private method of a class that the tables say can be made, by its rows of tables_1 -/
def lw_okq (q : MethodName × Nat) : Prop := (q.1.cls ≠ "java/lang/invoke/MethodHandle" ∧ q.1.cls ≠ "java/lang/invoke/VarHandle") ∧ Cond.instantiable q.1.cls q.2 ∈ tables_1 ∧ Cond.privateMethod q.1 ∈ tables_1 ∧ Cond.instanceMethod q.1 ∈ tables_1
theorem lw_p0 : lw_okq (⟨"SlipWheel$Cells", "has", "(I)Z"⟩, 4) := ⟨⟨by decide +kernel, by decide +kernel⟩, List.mem_of_getElem? (i := 49) (by decide +kernel), List.mem_of_getElem? (i := 210) (by decide +kernel), List.mem_of_getElem? (i := 211) (by decide +kernel)⟩
theorem lw_p1 : lw_okq (⟨"SlipWheel$Cells", "kindOf", "(I)I"⟩, 4) := ⟨⟨by decide +kernel, by decide +kernel⟩, List.mem_of_getElem? (i := 49) (by decide +kernel), List.mem_of_getElem? (i := 214) (by decide +kernel), List.mem_of_getElem? (i := 215) (by decide +kernel)⟩
theorem lw_p2 : lw_okq (⟨"SlipWheel$Wheel", "seatOf", "(I)I"⟩, 5) := ⟨⟨by decide +kernel, by decide +kernel⟩, List.mem_of_getElem? (i := 71) (by decide +kernel), List.mem_of_getElem? (i := 219) (by decide +kernel), List.mem_of_getElem? (i := 220) (by decide +kernel)⟩
theorem lw_p3 : lw_okq (⟨"SlipWheel$Wheel", "cellOn", "(I)I"⟩, 5) := ⟨⟨by decide +kernel, by decide +kernel⟩, List.mem_of_getElem? (i := 71) (by decide +kernel), List.mem_of_getElem? (i := 223) (by decide +kernel), List.mem_of_getElem? (i := 224) (by decide +kernel)⟩
theorem lw_p4 : lw_okq (⟨"SlipWheel$Cells", "isAlive", "(I)Z"⟩, 4) := ⟨⟨by decide +kernel, by decide +kernel⟩, List.mem_of_getElem? (i := 49) (by decide +kernel), List.mem_of_getElem? (i := 228) (by decide +kernel), List.mem_of_getElem? (i := 229) (by decide +kernel)⟩
theorem lw_p5 : lw_okq (⟨"SlipWheel$Cells", "weightOf", "(II)I"⟩, 4) := ⟨⟨by decide +kernel, by decide +kernel⟩, List.mem_of_getElem? (i := 49) (by decide +kernel), List.mem_of_getElem? (i := 235) (by decide +kernel), List.mem_of_getElem? (i := 236) (by decide +kernel)⟩
theorem lw_p6 : lw_okq (⟨"SlipWheel$Cells", "living", "()I"⟩, 4) := ⟨⟨by decide +kernel, by decide +kernel⟩, List.mem_of_getElem? (i := 49) (by decide +kernel), List.mem_of_getElem? (i := 246) (by decide +kernel), List.mem_of_getElem? (i := 247) (by decide +kernel)⟩
theorem lw_p7 : lw_okq (⟨"SlipWheel$Pages", "known", "()I"⟩, 3) := ⟨⟨by decide +kernel, by decide +kernel⟩, List.mem_of_getElem? (i := 95) (by decide +kernel), List.mem_of_getElem? (i := 257) (by decide +kernel), List.mem_of_getElem? (i := 258) (by decide +kernel)⟩
theorem lw_p8 : lw_okq (⟨"SlipWheel$Pages", "writerAt", "(I)I"⟩, 3) := ⟨⟨by decide +kernel, by decide +kernel⟩, List.mem_of_getElem? (i := 95) (by decide +kernel), List.mem_of_getElem? (i := 261) (by decide +kernel), List.mem_of_getElem? (i := 262) (by decide +kernel)⟩
theorem lw_p9 : lw_okq (⟨"SlipWheel$Pages", "has", "(I)Z"⟩, 3) := ⟨⟨by decide +kernel, by decide +kernel⟩, List.mem_of_getElem? (i := 95) (by decide +kernel), List.mem_of_getElem? (i := 265) (by decide +kernel), List.mem_of_getElem? (i := 266) (by decide +kernel)⟩
theorem lw_p10 : lw_okq (⟨"SlipWheel$Pages", "slip", "()I"⟩, 3) := ⟨⟨by decide +kernel, by decide +kernel⟩, List.mem_of_getElem? (i := 95) (by decide +kernel), List.mem_of_getElem? (i := 269) (by decide +kernel), List.mem_of_getElem? (i := 270) (by decide +kernel)⟩
theorem lw_p11 : lw_okq (⟨"SlipWheel$Pages", "slipAheadOf", "(I)I"⟩, 3) := ⟨⟨by decide +kernel, by decide +kernel⟩, List.mem_of_getElem? (i := 95) (by decide +kernel), List.mem_of_getElem? (i := 273) (by decide +kernel), List.mem_of_getElem? (i := 274) (by decide +kernel)⟩
theorem lw_p12 : lw_okq (⟨"SlipWheel$Pages", "wordAt", "(I)I"⟩, 3) := ⟨⟨by decide +kernel, by decide +kernel⟩, List.mem_of_getElem? (i := 95) (by decide +kernel), List.mem_of_getElem? (i := 280) (by decide +kernel), List.mem_of_getElem? (i := 281) (by decide +kernel)⟩
theorem lw_p13 : lw_okq (⟨"SlipWheel$Tongue", "mayCome", "(II)I"⟩, 4) := ⟨⟨by decide +kernel, by decide +kernel⟩, List.mem_of_getElem? (i := 28) (by decide +kernel), List.mem_of_getElem? (i := 287) (by decide +kernel), List.mem_of_getElem? (i := 288) (by decide +kernel)⟩
theorem lw_p14 : lw_okq (⟨"SlipWheel$Wheel", "seatOfTurn", "()I"⟩, 5) := ⟨⟨by decide +kernel, by decide +kernel⟩, List.mem_of_getElem? (i := 71) (by decide +kernel), List.mem_of_getElem? (i := 294) (by decide +kernel), List.mem_of_getElem? (i := 295) (by decide +kernel)⟩
theorem lw_p15 : lw_okq (⟨"SlipWheel$Wheel", "seatBehind", "(I)I"⟩, 5) := ⟨⟨by decide +kernel, by decide +kernel⟩, List.mem_of_getElem? (i := 71) (by decide +kernel), List.mem_of_getElem? (i := 299) (by decide +kernel), List.mem_of_getElem? (i := 300) (by decide +kernel)⟩
def lw_privs_1 : List (MethodName × Nat) := [(⟨"SlipWheel$Cells", "has", "(I)Z"⟩, 4), (⟨"SlipWheel$Cells", "kindOf", "(I)I"⟩, 4), (⟨"SlipWheel$Wheel", "seatOf", "(I)I"⟩, 5), (⟨"SlipWheel$Wheel", "cellOn", "(I)I"⟩, 5), (⟨"SlipWheel$Cells", "isAlive", "(I)Z"⟩, 4), (⟨"SlipWheel$Cells", "weightOf", "(II)I"⟩, 4), (⟨"SlipWheel$Cells", "living", "()I"⟩, 4), (⟨"SlipWheel$Pages", "known", "()I"⟩, 3), (⟨"SlipWheel$Pages", "writerAt", "(I)I"⟩, 3), (⟨"SlipWheel$Pages", "has", "(I)Z"⟩, 3), (⟨"SlipWheel$Pages", "slip", "()I"⟩, 3), (⟨"SlipWheel$Pages", "slipAheadOf", "(I)I"⟩, 3), (⟨"SlipWheel$Pages", "wordAt", "(I)I"⟩, 3), (⟨"SlipWheel$Tongue", "mayCome", "(II)I"⟩, 4), (⟨"SlipWheel$Wheel", "seatOfTurn", "()I"⟩, 5), (⟨"SlipWheel$Wheel", "seatBehind", "(I)I"⟩, 5)]
theorem lw_r1 : ∀ q ∈ lw_privs_1, lw_okq q := List.forall_mem_cons.mpr ⟨lw_p0, List.forall_mem_cons.mpr ⟨lw_p1, List.forall_mem_cons.mpr ⟨lw_p2, List.forall_mem_cons.mpr ⟨lw_p3, List.forall_mem_cons.mpr ⟨lw_p4, List.forall_mem_cons.mpr ⟨lw_p5, List.forall_mem_cons.mpr ⟨lw_p6, List.forall_mem_cons.mpr ⟨lw_p7, List.forall_mem_cons.mpr ⟨lw_p8, List.forall_mem_cons.mpr ⟨lw_p9, List.forall_mem_cons.mpr ⟨lw_p10, List.forall_mem_cons.mpr ⟨lw_p11, List.forall_mem_cons.mpr ⟨lw_p12, List.forall_mem_cons.mpr ⟨lw_p13, List.forall_mem_cons.mpr ⟨lw_p14, List.forall_mem_cons.mpr ⟨lw_p15, fun _ h => absurd h List.not_mem_nil⟩⟩⟩⟩⟩⟩⟩⟩⟩⟩⟩⟩⟩⟩⟩⟩
theorem lw_p16 : lw_okq (⟨"SlipWheel$Wheel", "livingSeatPast", "(II)I"⟩, 5) := ⟨⟨by decide +kernel, by decide +kernel⟩, List.mem_of_getElem? (i := 71) (by decide +kernel), List.mem_of_getElem? (i := 303) (by decide +kernel), List.mem_of_getElem? (i := 304) (by decide +kernel)⟩
theorem lw_p17 : lw_okq (⟨"SlipWheel$Everything", "canCome", "(II)I"⟩, 5) := ⟨⟨by decide +kernel, by decide +kernel⟩, List.mem_of_getElem? (i := 22) (by decide +kernel), List.mem_of_getElem? (i := 322) (by decide +kernel), List.mem_of_getElem? (i := 323) (by decide +kernel)⟩
theorem lw_p18 : lw_okq (⟨"SlipWheel$Cells", "weightedWords", "(I)I"⟩, 4) := ⟨⟨by decide +kernel, by decide +kernel⟩, List.mem_of_getElem? (i := 49) (by decide +kernel), List.mem_of_getElem? (i := 327) (by decide +kernel), List.mem_of_getElem? (i := 328) (by decide +kernel)⟩
theorem lw_p19 : lw_okq (⟨"SlipWheel$Everything", "addDrawnWord", "()V"⟩, 5) := ⟨⟨by decide +kernel, by decide +kernel⟩, List.mem_of_getElem? (i := 22) (by decide +kernel), List.mem_of_getElem? (i := 336) (by decide +kernel), List.mem_of_getElem? (i := 337) (by decide +kernel)⟩
theorem lw_p20 : lw_okq (⟨"SlipWheel$Pages", "isFull", "()Z"⟩, 3) := ⟨⟨by decide +kernel, by decide +kernel⟩, List.mem_of_getElem? (i := 95) (by decide +kernel), List.mem_of_getElem? (i := 344) (by decide +kernel), List.mem_of_getElem? (i := 345) (by decide +kernel)⟩
theorem lw_p21 : lw_okq (⟨"SlipWheel$Everything", "drawnWord", "(II)I"⟩, 5) := ⟨⟨by decide +kernel, by decide +kernel⟩, List.mem_of_getElem? (i := 22) (by decide +kernel), List.mem_of_getElem? (i := 348) (by decide +kernel), List.mem_of_getElem? (i := 349) (by decide +kernel)⟩
theorem lw_p22 : lw_okq (⟨"SlipWheel$Cells", "weightOfSet", "(II)I"⟩, 4) := ⟨⟨by decide +kernel, by decide +kernel⟩, List.mem_of_getElem? (i := 49) (by decide +kernel), List.mem_of_getElem? (i := 354) (by decide +kernel), List.mem_of_getElem? (i := 355) (by decide +kernel)⟩
theorem lw_p23 : lw_okq (⟨"SlipWheel$Pages", "append", "(II)V"⟩, 3) := ⟨⟨by decide +kernel, by decide +kernel⟩, List.mem_of_getElem? (i := 95) (by decide +kernel), List.mem_of_getElem? (i := 364) (by decide +kernel), List.mem_of_getElem? (i := 365) (by decide +kernel)⟩
theorem lw_p24 : lw_okq (⟨"SlipWheel$Wheel", "goOn", "()V"⟩, 5) := ⟨⟨by decide +kernel, by decide +kernel⟩, List.mem_of_getElem? (i := 71) (by decide +kernel), List.mem_of_getElem? (i := 368) (by decide +kernel), List.mem_of_getElem? (i := 369) (by decide +kernel)⟩
theorem lw_p25 : lw_okq (⟨"SlipWheel$Search", "fewestTurns", "(LSlipWheel$Everything;II)I"⟩, 3) := ⟨⟨by decide +kernel, by decide +kernel⟩, List.mem_of_getElem? (i := 153) (by decide +kernel), List.mem_of_getElem? (i := 388) (by decide +kernel), List.mem_of_getElem? (i := 389) (by decide +kernel)⟩
theorem lw_p26 : lw_okq (⟨"SlipWheel$Search", "note", "(II)V"⟩, 3) := ⟨⟨by decide +kernel, by decide +kernel⟩, List.mem_of_getElem? (i := 153) (by decide +kernel), List.mem_of_getElem? (i := 394) (by decide +kernel), List.mem_of_getElem? (i := 395) (by decide +kernel)⟩
theorem lw_p27 : lw_okq (⟨"SlipWheel$Search", "hasAim", "(LSlipWheel$Everything;IIII)Z"⟩, 3) := ⟨⟨by decide +kernel, by decide +kernel⟩, List.mem_of_getElem? (i := 153) (by decide +kernel), List.mem_of_getElem? (i := 399) (by decide +kernel), List.mem_of_getElem? (i := 400) (by decide +kernel)⟩
theorem lw_p28 : lw_okq (⟨"SlipWheel$Search", "slipAt", "(I)I"⟩, 3) := ⟨⟨by decide +kernel, by decide +kernel⟩, List.mem_of_getElem? (i := 153) (by decide +kernel), List.mem_of_getElem? (i := 403) (by decide +kernel), List.mem_of_getElem? (i := 404) (by decide +kernel)⟩
theorem lw_p29 : lw_okq (⟨"SlipWheel$Everything", "hasEnded", "(I)Z"⟩, 5) := ⟨⟨by decide +kernel, by decide +kernel⟩, List.mem_of_getElem? (i := 22) (by decide +kernel), List.mem_of_getElem? (i := 407) (by decide +kernel), List.mem_of_getElem? (i := 408) (by decide +kernel)⟩
theorem lw_p30 : lw_okq (⟨"SlipWheel$Search", "spread", "(LSlipWheel$Everything;III)V"⟩, 3) := ⟨⟨by decide +kernel, by decide +kernel⟩, List.mem_of_getElem? (i := 153) (by decide +kernel), List.mem_of_getElem? (i := 414) (by decide +kernel), List.mem_of_getElem? (i := 415) (by decide +kernel)⟩
theorem lw_p31 : lw_okq (⟨"SlipWheel$Pages", "habitOf", "(II)I"⟩, 3) := ⟨⟨by decide +kernel, by decide +kernel⟩, List.mem_of_getElem? (i := 95) (by decide +kernel), List.mem_of_getElem? (i := 436) (by decide +kernel), List.mem_of_getElem? (i := 437) (by decide +kernel)⟩
def lw_privs_2 : List (MethodName × Nat) := [(⟨"SlipWheel$Wheel", "livingSeatPast", "(II)I"⟩, 5), (⟨"SlipWheel$Everything", "canCome", "(II)I"⟩, 5), (⟨"SlipWheel$Cells", "weightedWords", "(I)I"⟩, 4), (⟨"SlipWheel$Everything", "addDrawnWord", "()V"⟩, 5), (⟨"SlipWheel$Pages", "isFull", "()Z"⟩, 3), (⟨"SlipWheel$Everything", "drawnWord", "(II)I"⟩, 5), (⟨"SlipWheel$Cells", "weightOfSet", "(II)I"⟩, 4), (⟨"SlipWheel$Pages", "append", "(II)V"⟩, 3), (⟨"SlipWheel$Wheel", "goOn", "()V"⟩, 5), (⟨"SlipWheel$Search", "fewestTurns", "(LSlipWheel$Everything;II)I"⟩, 3), (⟨"SlipWheel$Search", "note", "(II)V"⟩, 3), (⟨"SlipWheel$Search", "hasAim", "(LSlipWheel$Everything;IIII)Z"⟩, 3), (⟨"SlipWheel$Search", "slipAt", "(I)I"⟩, 3), (⟨"SlipWheel$Everything", "hasEnded", "(I)Z"⟩, 5), (⟨"SlipWheel$Search", "spread", "(LSlipWheel$Everything;III)V"⟩, 3), (⟨"SlipWheel$Pages", "habitOf", "(II)I"⟩, 3)]
theorem lw_r2 : ∀ q ∈ lw_privs_2, lw_okq q := List.forall_mem_cons.mpr ⟨lw_p16, List.forall_mem_cons.mpr ⟨lw_p17, List.forall_mem_cons.mpr ⟨lw_p18, List.forall_mem_cons.mpr ⟨lw_p19, List.forall_mem_cons.mpr ⟨lw_p20, List.forall_mem_cons.mpr ⟨lw_p21, List.forall_mem_cons.mpr ⟨lw_p22, List.forall_mem_cons.mpr ⟨lw_p23, List.forall_mem_cons.mpr ⟨lw_p24, List.forall_mem_cons.mpr ⟨lw_p25, List.forall_mem_cons.mpr ⟨lw_p26, List.forall_mem_cons.mpr ⟨lw_p27, List.forall_mem_cons.mpr ⟨lw_p28, List.forall_mem_cons.mpr ⟨lw_p29, List.forall_mem_cons.mpr ⟨lw_p30, List.forall_mem_cons.mpr ⟨lw_p31, fun _ h => absurd h List.not_mem_nil⟩⟩⟩⟩⟩⟩⟩⟩⟩⟩⟩⟩⟩⟩⟩⟩
theorem lw_p32 : lw_okq (⟨"SlipWheel$Everything", "firstLineEnd", "()I"⟩, 5) := ⟨⟨by decide +kernel, by decide +kernel⟩, List.mem_of_getElem? (i := 22) (by decide +kernel), List.mem_of_getElem? (i := 444) (by decide +kernel), List.mem_of_getElem? (i := 445) (by decide +kernel)⟩
theorem lw_p33 : lw_okq (⟨"SlipWheel$Everything", "lineEndingAt", "(I)I"⟩, 5) := ⟨⟨by decide +kernel, by decide +kernel⟩, List.mem_of_getElem? (i := 22) (by decide +kernel), List.mem_of_getElem? (i := 448) (by decide +kernel), List.mem_of_getElem? (i := 449) (by decide +kernel)⟩
theorem lw_p34 : lw_okq (⟨"SlipWheel$Tongue", "lineAtEndOf", "(II)I"⟩, 4) := ⟨⟨by decide +kernel, by decide +kernel⟩, List.mem_of_getElem? (i := 28) (by decide +kernel), List.mem_of_getElem? (i := 454) (by decide +kernel), List.mem_of_getElem? (i := 455) (by decide +kernel)⟩
theorem lw_p35 : lw_okq (⟨"SlipWheel$Everything", "preventers", "(I)I"⟩, 5) := ⟨⟨by decide +kernel, by decide +kernel⟩, List.mem_of_getElem? (i := 22) (by decide +kernel), List.mem_of_getElem? (i := 458) (by decide +kernel), List.mem_of_getElem? (i := 459) (by decide +kernel)⟩
theorem lw_p36 : lw_okq (⟨"SlipWheel$Tongue", "lengthOfLine", "(I)I"⟩, 4) := ⟨⟨by decide +kernel, by decide +kernel⟩, List.mem_of_getElem? (i := 28) (by decide +kernel), List.mem_of_getElem? (i := 462) (by decide +kernel), List.mem_of_getElem? (i := 463) (by decide +kernel)⟩
theorem lw_p37 : lw_okq (⟨"SlipWheel$Everything", "couldHaveWrittenElse", "(II)Z"⟩, 5) := ⟨⟨by decide +kernel, by decide +kernel⟩, List.mem_of_getElem? (i := 22) (by decide +kernel), List.mem_of_getElem? (i := 467) (by decide +kernel), List.mem_of_getElem? (i := 468) (by decide +kernel)⟩
theorem lw_p38 : lw_okq (⟨"SlipWheel$Everything", "copyFrom", "(LSlipWheel$Everything;)V"⟩, 5) := ⟨⟨by decide +kernel, by decide +kernel⟩, List.mem_of_getElem? (i := 22) (by decide +kernel), List.mem_of_getElem? (i := 476) (by decide +kernel), List.mem_of_getElem? (i := 477) (by decide +kernel)⟩
theorem lw_p39 : lw_okq (⟨"SlipWheel$Tongue", "copyFrom", "(LSlipWheel$Tongue;)V"⟩, 4) := ⟨⟨by decide +kernel, by decide +kernel⟩, List.mem_of_getElem? (i := 28) (by decide +kernel), List.mem_of_getElem? (i := 480) (by decide +kernel), List.mem_of_getElem? (i := 481) (by decide +kernel)⟩
theorem lw_p40 : lw_okq (⟨"SlipWheel$Cells", "copyFrom", "(LSlipWheel$Cells;)V"⟩, 4) := ⟨⟨by decide +kernel, by decide +kernel⟩, List.mem_of_getElem? (i := 49) (by decide +kernel), List.mem_of_getElem? (i := 487) (by decide +kernel), List.mem_of_getElem? (i := 488) (by decide +kernel)⟩
theorem lw_p41 : lw_okq (⟨"SlipWheel$Wheel", "copyFrom", "(LSlipWheel$Wheel;)V"⟩, 5) := ⟨⟨by decide +kernel, by decide +kernel⟩, List.mem_of_getElem? (i := 71) (by decide +kernel), List.mem_of_getElem? (i := 492) (by decide +kernel), List.mem_of_getElem? (i := 493) (by decide +kernel)⟩
theorem lw_p42 : lw_okq (⟨"SlipWheel$Pages", "copyFrom", "(LSlipWheel$Pages;)V"⟩, 3) := ⟨⟨by decide +kernel, by decide +kernel⟩, List.mem_of_getElem? (i := 95) (by decide +kernel), List.mem_of_getElem? (i := 497) (by decide +kernel), List.mem_of_getElem? (i := 498) (by decide +kernel)⟩
theorem lw_p43 : lw_okq (⟨"SlipWheel$Tongue", "changeFollowing", "(II)I"⟩, 4) := ⟨⟨by decide +kernel, by decide +kernel⟩, List.mem_of_getElem? (i := 28) (by decide +kernel), List.mem_of_getElem? (i := 521) (by decide +kernel), List.mem_of_getElem? (i := 522) (by decide +kernel)⟩
theorem lw_p44 : lw_okq (⟨"SlipWheel$Tongue", "appendLine", "(II)I"⟩, 4) := ⟨⟨by decide +kernel, by decide +kernel⟩, List.mem_of_getElem? (i := 28) (by decide +kernel), List.mem_of_getElem? (i := 529) (by decide +kernel), List.mem_of_getElem? (i := 530) (by decide +kernel)⟩
theorem lw_p45 : lw_okq (⟨"SlipWheel$Cells", "append", "(I)I"⟩, 4) := ⟨⟨by decide +kernel, by decide +kernel⟩, List.mem_of_getElem? (i := 49) (by decide +kernel), List.mem_of_getElem? (i := 537) (by decide +kernel), List.mem_of_getElem? (i := 538) (by decide +kernel)⟩
theorem lw_p46 : lw_okq (⟨"SlipWheel$Wheel", "takeSeat", "(I)V"⟩, 5) := ⟨⟨by decide +kernel, by decide +kernel⟩, List.mem_of_getElem? (i := 71) (by decide +kernel), List.mem_of_getElem? (i := 541) (by decide +kernel), List.mem_of_getElem? (i := 542) (by decide +kernel)⟩
theorem lw_p47 : lw_okq (⟨"SlipWheel$Cells", "changeWeight", "(III)I"⟩, 4) := ⟨⟨by decide +kernel, by decide +kernel⟩, List.mem_of_getElem? (i := 49) (by decide +kernel), List.mem_of_getElem? (i := 549) (by decide +kernel), List.mem_of_getElem? (i := 550) (by decide +kernel)⟩
def lw_privs_3 : List (MethodName × Nat) := [(⟨"SlipWheel$Everything", "firstLineEnd", "()I"⟩, 5), (⟨"SlipWheel$Everything", "lineEndingAt", "(I)I"⟩, 5), (⟨"SlipWheel$Tongue", "lineAtEndOf", "(II)I"⟩, 4), (⟨"SlipWheel$Everything", "preventers", "(I)I"⟩, 5), (⟨"SlipWheel$Tongue", "lengthOfLine", "(I)I"⟩, 4), (⟨"SlipWheel$Everything", "couldHaveWrittenElse", "(II)Z"⟩, 5), (⟨"SlipWheel$Everything", "copyFrom", "(LSlipWheel$Everything;)V"⟩, 5), (⟨"SlipWheel$Tongue", "copyFrom", "(LSlipWheel$Tongue;)V"⟩, 4), (⟨"SlipWheel$Cells", "copyFrom", "(LSlipWheel$Cells;)V"⟩, 4), (⟨"SlipWheel$Wheel", "copyFrom", "(LSlipWheel$Wheel;)V"⟩, 5), (⟨"SlipWheel$Pages", "copyFrom", "(LSlipWheel$Pages;)V"⟩, 3), (⟨"SlipWheel$Tongue", "changeFollowing", "(II)I"⟩, 4), (⟨"SlipWheel$Tongue", "appendLine", "(II)I"⟩, 4), (⟨"SlipWheel$Cells", "append", "(I)I"⟩, 4), (⟨"SlipWheel$Wheel", "takeSeat", "(I)V"⟩, 5), (⟨"SlipWheel$Cells", "changeWeight", "(III)I"⟩, 4)]
theorem lw_r3 : ∀ q ∈ lw_privs_3, lw_okq q := List.forall_mem_cons.mpr ⟨lw_p32, List.forall_mem_cons.mpr ⟨lw_p33, List.forall_mem_cons.mpr ⟨lw_p34, List.forall_mem_cons.mpr ⟨lw_p35, List.forall_mem_cons.mpr ⟨lw_p36, List.forall_mem_cons.mpr ⟨lw_p37, List.forall_mem_cons.mpr ⟨lw_p38, List.forall_mem_cons.mpr ⟨lw_p39, List.forall_mem_cons.mpr ⟨lw_p40, List.forall_mem_cons.mpr ⟨lw_p41, List.forall_mem_cons.mpr ⟨lw_p42, List.forall_mem_cons.mpr ⟨lw_p43, List.forall_mem_cons.mpr ⟨lw_p44, List.forall_mem_cons.mpr ⟨lw_p45, List.forall_mem_cons.mpr ⟨lw_p46, List.forall_mem_cons.mpr ⟨lw_p47, fun _ h => absurd h List.not_mem_nil⟩⟩⟩⟩⟩⟩⟩⟩⟩⟩⟩⟩⟩⟩⟩⟩
theorem lw_p48 : lw_okq (⟨"SlipWheel$Wheel", "changeSeats", "(II)V"⟩, 5) := ⟨⟨by decide +kernel, by decide +kernel⟩, List.mem_of_getElem? (i := 71) (by decide +kernel), List.mem_of_getElem? (i := 557) (by decide +kernel), List.mem_of_getElem? (i := 558) (by decide +kernel)⟩
theorem lw_p49 : lw_okq (⟨"SlipWheel$Cells", "changeDead", "(IZ)Z"⟩, 4) := ⟨⟨by decide +kernel, by decide +kernel⟩, List.mem_of_getElem? (i := 49) (by decide +kernel), List.mem_of_getElem? (i := 566) (by decide +kernel), List.mem_of_getElem? (i := 567) (by decide +kernel)⟩
def lw_privs_4 : List (MethodName × Nat) := [(⟨"SlipWheel$Wheel", "changeSeats", "(II)V"⟩, 5), (⟨"SlipWheel$Cells", "changeDead", "(IZ)Z"⟩, 4)]
theorem lw_r4 : ∀ q ∈ lw_privs_4, lw_okq q := List.forall_mem_cons.mpr ⟨lw_p48, List.forall_mem_cons.mpr ⟨lw_p49, fun _ h => absurd h List.not_mem_nil⟩⟩
def lw_privs : List (MethodName × Nat) := lw_privs_1 ++ (lw_privs_2 ++ (lw_privs_3 ++ (lw_privs_4)))
def lw_tbl : List Cond := k2_sels lw_privs ++ tables_1
theorem lw_privs_ok : ∀ q ∈ lw_privs, lw_okq q := by
  show ∀ q ∈ lw_privs_1 ++ (lw_privs_2 ++ (lw_privs_3 ++ (lw_privs_4))), lw_okq q
  exact List.forall_mem_append.mpr ⟨lw_r1, List.forall_mem_append.mpr ⟨lw_r2, List.forall_mem_append.mpr ⟨lw_r3, lw_r4⟩⟩⟩
end
section
def RX0 : String := "SlipWheel$Cells"
def TX0 : u_T := fun k => match k with
  | 0 => ("SlipWheel$Cells", "kinds", "[I", true)
  | 1 => ("SlipWheel$Cells", "isDead", "[Z", true)
  | 2 => ("SlipWheel$Cells", "weights", "[I", true)
  | _ => ("SlipWheel$Cells", "number", "I", false)
def tyX0 : Nat → FieldType := fun k => match k with
  | 0 => .array .int
  | 1 => .array .boolean
  | 2 => .array .int
  | _ => .int
abbrev wsX00 : List Cond := u_ws RX0 TX0 4
theorem nmX0 : ∀ a, a < 4 → ∀ b, b < 4 → a ≠ b → (TX0 a).2.1 ≠ (TX0 b).2.1 := by decide +kernel
theorem tyX0_ok : ∀ k, k < 4 → parseFieldDescriptor (TX0 k).2.2.1 = some (tyX0 k) := by decide +kernel
abbrev cX0_init : ByteArray := prog_2_method_1_code
def yX0_init : MethodName := ⟨RX0, "<init>", "()V"⟩
abbrev cX0_copyFrom : ByteArray := prog_2_method_2_code
def yX0_copyFrom : MethodName := ⟨RX0, "copyFrom", "(LSlipWheel$Cells;)V"⟩
abbrev cX0_has : ByteArray := prog_2_method_3_code
def yX0_has : MethodName := ⟨RX0, "has", "(I)Z"⟩
abbrev cX0_append : ByteArray := prog_2_method_4_code
def yX0_append : MethodName := ⟨RX0, "append", "(I)I"⟩
abbrev cX0_kindOf : ByteArray := prog_2_method_5_code
def yX0_kindOf : MethodName := ⟨RX0, "kindOf", "(I)I"⟩
abbrev cX0_isAlive : ByteArray := prog_2_method_6_code
def yX0_isAlive : MethodName := ⟨RX0, "isAlive", "(I)Z"⟩
abbrev cX0_changeDead : ByteArray := prog_2_method_7_code
def yX0_changeDead : MethodName := ⟨RX0, "changeDead", "(IZ)Z"⟩
abbrev cX0_living : ByteArray := prog_2_method_8_code
def yX0_living : MethodName := ⟨RX0, "living", "()I"⟩
abbrev cX0_weightOf : ByteArray := prog_2_method_9_code
def yX0_weightOf : MethodName := ⟨RX0, "weightOf", "(II)I"⟩
abbrev cX0_changeWeight : ByteArray := prog_2_method_10_code
def yX0_changeWeight : MethodName := ⟨RX0, "changeWeight", "(III)I"⟩
abbrev cX0_weightOfSet : ByteArray := prog_2_method_11_code
def yX0_weightOfSet : MethodName := ⟨RX0, "weightOfSet", "(II)I"⟩
abbrev cX0_weightedWords : ByteArray := prog_2_method_12_code
def yX0_weightedWords : MethodName := ⟨RX0, "weightedWords", "(I)I"⟩
def RX1 : String := "SlipWheel$Everything"
def TX1 : u_T := fun k => match k with
  | 0 => ("SlipWheel$Everything", "tongue", "LSlipWheel$Tongue;", true)
  | 1 => ("SlipWheel$Everything", "cells", "LSlipWheel$Cells;", true)
  | 2 => ("SlipWheel$Everything", "wheel", "LSlipWheel$Wheel;", true)
  | 3 => ("SlipWheel$Everything", "pages", "LSlipWheel$Pages;", true)
  | _ => ("SlipWheel$Everything", "lot", "I", false)
def tyX1 : Nat → FieldType := fun k => match k with
  | 0 => .object "SlipWheel$Tongue"
  | 1 => .object "SlipWheel$Cells"
  | 2 => .object "SlipWheel$Wheel"
  | 3 => .object "SlipWheel$Pages"
  | _ => .int
abbrev wsX10 : List Cond := u_ws RX1 TX1 5
theorem nmX1 : ∀ a, a < 5 → ∀ b, b < 5 → a ≠ b → (TX1 a).2.1 ≠ (TX1 b).2.1 := by decide +kernel
theorem tyX1_ok : ∀ k, k < 5 → parseFieldDescriptor (TX1 k).2.2.1 = some (tyX1 k) := by decide +kernel
abbrev cX1_init : ByteArray := prog_3_method_1_code
def yX1_init : MethodName := ⟨RX1, "<init>", "()V"⟩
abbrev cX1_copyFrom : ByteArray := prog_3_method_2_code
def yX1_copyFrom : MethodName := ⟨RX1, "copyFrom", "(LSlipWheel$Everything;)V"⟩
abbrev cX1_canCome : ByteArray := prog_3_method_3_code
def yX1_canCome : MethodName := ⟨RX1, "canCome", "(II)I"⟩
abbrev cX1_hasEnded : ByteArray := prog_3_method_5_code
def yX1_hasEnded : MethodName := ⟨RX1, "hasEnded", "(I)Z"⟩
abbrev cX1_addDrawnWord : ByteArray := prog_3_method_6_code
def yX1_addDrawnWord : MethodName := ⟨RX1, "addDrawnWord", "()V"⟩
abbrev cX1_drawnWord : ByteArray := prog_3_method_7_code
def yX1_drawnWord : MethodName := ⟨RX1, "drawnWord", "(II)I"⟩
abbrev cX1_lineEndingAt : ByteArray := prog_3_method_10_code
def yX1_lineEndingAt : MethodName := ⟨RX1, "lineEndingAt", "(I)I"⟩
abbrev cX1_firstLineEnd : ByteArray := prog_3_method_11_code
def yX1_firstLineEnd : MethodName := ⟨RX1, "firstLineEnd", "()I"⟩
abbrev cX1_preventers : ByteArray := prog_3_method_12_code
def yX1_preventers : MethodName := ⟨RX1, "preventers", "(I)I"⟩
abbrev cX1_couldHaveWrittenElse : ByteArray := prog_3_method_13_code
def yX1_couldHaveWrittenElse : MethodName := ⟨RX1, "couldHaveWrittenElse", "(II)Z"⟩
def RX2 : String := "SlipWheel$Pages"
def TX2 : u_T := fun k => match k with
  | 0 => ("SlipWheel$Pages", "words", "[I", true)
  | 1 => ("SlipWheel$Pages", "writers", "[I", true)
  | _ => ("SlipWheel$Pages", "length", "I", false)
def tyX2 : Nat → FieldType := fun k => match k with
  | 0 => .array .int
  | 1 => .array .int
  | _ => .int
abbrev wsX20 : List Cond := u_ws RX2 TX2 3
theorem nmX2 : ∀ a, a < 3 → ∀ b, b < 3 → a ≠ b → (TX2 a).2.1 ≠ (TX2 b).2.1 := by decide +kernel
theorem tyX2_ok : ∀ k, k < 3 → parseFieldDescriptor (TX2 k).2.2.1 = some (tyX2 k) := by decide +kernel
abbrev cX2_init : ByteArray := prog_4_method_1_code
def yX2_init : MethodName := ⟨RX2, "<init>", "()V"⟩
abbrev cX2_copyFrom : ByteArray := prog_4_method_2_code
def yX2_copyFrom : MethodName := ⟨RX2, "copyFrom", "(LSlipWheel$Pages;)V"⟩
abbrev cX2_isFull : ByteArray := prog_4_method_3_code
def yX2_isFull : MethodName := ⟨RX2, "isFull", "()Z"⟩
abbrev cX2_has : ByteArray := prog_4_method_4_code
def yX2_has : MethodName := ⟨RX2, "has", "(I)Z"⟩
abbrev cX2_append : ByteArray := prog_4_method_6_code
def yX2_append : MethodName := ⟨RX2, "append", "(II)V"⟩
abbrev cX2_wordAt : ByteArray := prog_4_method_7_code
def yX2_wordAt : MethodName := ⟨RX2, "wordAt", "(I)I"⟩
abbrev cX2_writerAt : ByteArray := prog_4_method_8_code
def yX2_writerAt : MethodName := ⟨RX2, "writerAt", "(I)I"⟩
abbrev cX2_known : ByteArray := prog_4_method_10_code
def yX2_known : MethodName := ⟨RX2, "known", "()I"⟩
abbrev cX2_habitOf : ByteArray := prog_4_method_11_code
def yX2_habitOf : MethodName := ⟨RX2, "habitOf", "(II)I"⟩
abbrev cX2_slip : ByteArray := prog_4_method_12_code
def yX2_slip : MethodName := ⟨RX2, "slip", "()I"⟩
abbrev cX2_slipAheadOf : ByteArray := prog_4_method_13_code
def yX2_slipAheadOf : MethodName := ⟨RX2, "slipAheadOf", "(I)I"⟩
def RX3 : String := "SlipWheel$Search"
def TX3 : u_T := fun k => match k with
  | 0 => ("SlipWheel$Search", "slips", "[I", true)
  | 1 => ("SlipWheel$Search", "seenOnSeats", "[B", true)
  | _ => ("SlipWheel$Search", "found", "I", false)
def tyX3 : Nat → FieldType := fun k => match k with
  | 0 => .array .int
  | 1 => .array .byte
  | _ => .int
abbrev wsX30 : List Cond := u_ws RX3 TX3 3
theorem nmX3 : ∀ a, a < 3 → ∀ b, b < 3 → a ≠ b → (TX3 a).2.1 ≠ (TX3 b).2.1 := by decide +kernel
theorem tyX3_ok : ∀ k, k < 3 → parseFieldDescriptor (TX3 k).2.2.1 = some (tyX3 k) := by decide +kernel
abbrev cX3_init : ByteArray := prog_5_method_1_code
def yX3_init : MethodName := ⟨RX3, "<init>", "()V"⟩
abbrev cX3_fewestTurns : ByteArray := prog_5_method_2_code
def yX3_fewestTurns : MethodName := ⟨RX3, "fewestTurns", "(LSlipWheel$Everything;II)I"⟩
abbrev cX3_hasAim : ByteArray := prog_5_method_3_code
def yX3_hasAim : MethodName := ⟨RX3, "hasAim", "(LSlipWheel$Everything;IIII)Z"⟩
abbrev cX3_slipAt : ByteArray := prog_5_method_4_code
def yX3_slipAt : MethodName := ⟨RX3, "slipAt", "(I)I"⟩
abbrev cX3_spread : ByteArray := prog_5_method_5_code
def yX3_spread : MethodName := ⟨RX3, "spread", "(LSlipWheel$Everything;III)V"⟩
abbrev cX3_note : ByteArray := prog_5_method_6_code
def yX3_note : MethodName := ⟨RX3, "note", "(II)V"⟩
def RX4 : String := "SlipWheel$Sheet"
def TX4 : u_T := fun k => match k with
  | 0 => ("SlipWheel$Sheet", "items", "[I", true)
  | 1 => ("SlipWheel$Sheet", "rowLane", "I", false)
  | _ => ("SlipWheel$Sheet", "length", "I", false)
def tyX4 : Nat → FieldType := fun k => match k with
  | 0 => .array .int
  | 1 => .int
  | _ => .int
abbrev wsX40 : List Cond := u_ws RX4 TX4 3
theorem nmX4 : ∀ a, a < 3 → ∀ b, b < 3 → a ≠ b → (TX4 a).2.1 ≠ (TX4 b).2.1 := by decide +kernel
theorem tyX4_ok : ∀ k, k < 3 → parseFieldDescriptor (TX4 k).2.2.1 = some (tyX4 k) := by decide +kernel
abbrev cX4_init : ByteArray := prog_6_method_1_code
def yX4_init : MethodName := ⟨RX4, "<init>", "()V"⟩
def RX5 : String := "SlipWheel$Tape"
def TX5 : u_T := fun k => match k with
  | 0 => ("SlipWheel$Tape", "bytes", "[I", true)
  | 1 => ("SlipWheel$Tape", "parsed", "[I", true)
  | _ => ("SlipWheel$Tape", "length", "I", false)
def tyX5 : Nat → FieldType := fun k => match k with
  | 0 => .array .int
  | 1 => .array .int
  | _ => .int
abbrev wsX50 : List Cond := u_ws RX5 TX5 3
theorem nmX5 : ∀ a, a < 3 → ∀ b, b < 3 → a ≠ b → (TX5 a).2.1 ≠ (TX5 b).2.1 := by decide +kernel
theorem tyX5_ok : ∀ k, k < 3 → parseFieldDescriptor (TX5 k).2.2.1 = some (tyX5 k) := by decide +kernel
abbrev cX5_init : ByteArray := prog_7_method_1_code
def yX5_init : MethodName := ⟨RX5, "<init>", "()V"⟩
def RX6 : String := "SlipWheel$Tongue"
def TX6 : u_T := fun k => match k with
  | 0 => ("SlipWheel$Tongue", "following", "[I", true)
  | 1 => ("SlipWheel$Tongue", "lineWords", "[I", true)
  | 2 => ("SlipWheel$Tongue", "lineLengths", "[I", true)
  | _ => ("SlipWheel$Tongue", "lines", "I", false)
def tyX6 : Nat → FieldType := fun k => match k with
  | 0 => .array .int
  | 1 => .array .int
  | 2 => .array .int
  | _ => .int
abbrev wsX60 : List Cond := u_ws RX6 TX6 4
theorem nmX6 : ∀ a, a < 4 → ∀ b, b < 4 → a ≠ b → (TX6 a).2.1 ≠ (TX6 b).2.1 := by decide +kernel
theorem tyX6_ok : ∀ k, k < 4 → parseFieldDescriptor (TX6 k).2.2.1 = some (tyX6 k) := by decide +kernel
abbrev cX6_init : ByteArray := prog_8_method_1_code
def yX6_init : MethodName := ⟨RX6, "<init>", "()V"⟩
abbrev cX6_copyFrom : ByteArray := prog_8_method_2_code
def yX6_copyFrom : MethodName := ⟨RX6, "copyFrom", "(LSlipWheel$Tongue;)V"⟩
abbrev cX6_changeFollowing : ByteArray := prog_8_method_3_code
def yX6_changeFollowing : MethodName := ⟨RX6, "changeFollowing", "(II)I"⟩
abbrev cX6_appendLine : ByteArray := prog_8_method_4_code
def yX6_appendLine : MethodName := ⟨RX6, "appendLine", "(II)I"⟩
abbrev cX6_mayCome : ByteArray := prog_8_method_5_code
def yX6_mayCome : MethodName := ⟨RX6, "mayCome", "(II)I"⟩
abbrev cX6_lineAtEndOf : ByteArray := prog_8_method_6_code
def yX6_lineAtEndOf : MethodName := ⟨RX6, "lineAtEndOf", "(II)I"⟩
abbrev cX6_lengthOfLine : ByteArray := prog_8_method_7_code
def yX6_lengthOfLine : MethodName := ⟨RX6, "lengthOfLine", "(I)I"⟩
def RX7 : String := "SlipWheel$Wheel"
def TX7 : u_T := fun k => match k with
  | 0 => ("SlipWheel$Wheel", "cells", "LSlipWheel$Cells;", true)
  | 1 => ("SlipWheel$Wheel", "onSeat", "[I", true)
  | 2 => ("SlipWheel$Wheel", "standing", "I", false)
  | 3 => ("SlipWheel$Wheel", "turns", "I", false)
  | _ => ("SlipWheel$Wheel", "backwards", "Z", false)
def tyX7 : Nat → FieldType := fun k => match k with
  | 0 => .object "SlipWheel$Cells"
  | 1 => .array .int
  | 2 => .int
  | 3 => .int
  | _ => .boolean
abbrev wsX70 : List Cond := u_ws RX7 TX7 5
theorem nmX7 : ∀ a, a < 5 → ∀ b, b < 5 → a ≠ b → (TX7 a).2.1 ≠ (TX7 b).2.1 := by decide +kernel
theorem tyX7_ok : ∀ k, k < 5 → parseFieldDescriptor (TX7 k).2.2.1 = some (tyX7 k) := by decide +kernel
abbrev cX7_init : ByteArray := prog_9_method_1_code
def yX7_init : MethodName := ⟨RX7, "<init>", "(LSlipWheel$Cells;)V"⟩
abbrev cX7_copyFrom : ByteArray := prog_9_method_2_code
def yX7_copyFrom : MethodName := ⟨RX7, "copyFrom", "(LSlipWheel$Wheel;)V"⟩
abbrev cX7_takeSeat : ByteArray := prog_9_method_3_code
def yX7_takeSeat : MethodName := ⟨RX7, "takeSeat", "(I)V"⟩
abbrev cX7_cellOn : ByteArray := prog_9_method_4_code
def yX7_cellOn : MethodName := ⟨RX7, "cellOn", "(I)I"⟩
abbrev cX7_seatOf : ByteArray := prog_9_method_5_code
def yX7_seatOf : MethodName := ⟨RX7, "seatOf", "(I)I"⟩
abbrev cX7_changeSeats : ByteArray := prog_9_method_6_code
def yX7_changeSeats : MethodName := ⟨RX7, "changeSeats", "(II)V"⟩
abbrev cX7_seatOfTurn : ByteArray := prog_9_method_7_code
def yX7_seatOfTurn : MethodName := ⟨RX7, "seatOfTurn", "()I"⟩
abbrev cX7_seatBehind : ByteArray := prog_9_method_8_code
def yX7_seatBehind : MethodName := ⟨RX7, "seatBehind", "(I)I"⟩
abbrev cX7_livingSeatPast : ByteArray := prog_9_method_9_code
def yX7_livingSeatPast : MethodName := ⟨RX7, "livingSeatPast", "(II)I"⟩
abbrev cX7_goOn : ByteArray := prog_9_method_10_code
def yX7_goOn : MethodName := ⟨RX7, "goOn", "()V"⟩
def RX8 : String := "SlipWheel"
def TX8 : u_T := fun k => match k with
  | 0 => ("SlipWheel", "now", "LSlipWheel$Everything;", true)
  | 1 => ("SlipWheel", "kept", "LSlipWheel$Everything;", true)
  | 2 => ("SlipWheel", "tape", "LSlipWheel$Tape;", true)
  | 3 => ("SlipWheel", "sheets", "[LSlipWheel$Sheet;", true)
  | 4 => ("SlipWheel", "search", "LSlipWheel$Search;", true)
  | 5 => ("SlipWheel", "seatSets", "[I", true)
  | _ => ("SlipWheel", "hasImage", "Z", false)
def tyX8 : Nat → FieldType := fun k => match k with
  | 0 => .object "SlipWheel$Everything"
  | 1 => .object "SlipWheel$Everything"
  | 2 => .object "SlipWheel$Tape"
  | 3 => .array (.object "SlipWheel$Sheet")
  | 4 => .object "SlipWheel$Search"
  | 5 => .array .int
  | _ => .boolean
abbrev wsX80 : List Cond := u_ws RX8 TX8 7
theorem nmX8 : ∀ a, a < 7 → ∀ b, b < 7 → a ≠ b → (TX8 a).2.1 ≠ (TX8 b).2.1 := by decide +kernel
theorem tyX8_ok : ∀ k, k < 7 → parseFieldDescriptor (TX8 k).2.2.1 = some (tyX8 k) := by decide +kernel
abbrev cX8_init : ByteArray := prog_1_method_1_code
def yX8_init : MethodName := ⟨RX8, "<init>", "()V"⟩
abbrev cX8_follow : ByteArray := prog_1_method_2_code
def yX8_follow : MethodName := ⟨RX8, "follow", "(II)I"⟩
abbrev cX8_line : ByteArray := prog_1_method_3_code
def yX8_line : MethodName := ⟨RX8, "line", "(II)I"⟩
abbrev cX8_cell : ByteArray := prog_1_method_4_code
def yX8_cell : MethodName := ⟨RX8, "cell", "(I)I"⟩
abbrev cX8_weight : ByteArray := prog_1_method_5_code
def yX8_weight : MethodName := ⟨RX8, "weight", "(III)I"⟩
abbrev cX8_dead : ByteArray := prog_1_method_6_code
def yX8_dead : MethodName := ⟨RX8, "dead", "(IZ)I"⟩
abbrev cX8_swap : ByteArray := prog_1_method_7_code
def yX8_swap : MethodName := ⟨RX8, "swap", "(II)I"⟩
abbrev cX8_turn : ByteArray := prog_1_method_8_code
def yX8_turn : MethodName := ⟨RX8, "turn", "(Z)I"⟩
abbrev cX8_told : ByteArray := prog_1_method_9_code
def yX8_told : MethodName := ⟨RX8, "told", "(II)I"⟩
abbrev cX8_count : ByteArray := prog_1_method_13_code
def yX8_count : MethodName := ⟨RX8, "count", "(I)I"⟩
abbrev cX8_read : ByteArray := prog_1_method_14_code
def yX8_read : MethodName := ⟨RX8, "read", "(II)I"⟩
abbrev cX8_come : ByteArray := prog_1_method_15_code
def yX8_come : MethodName := ⟨RX8, "come", "(I)I"⟩
abbrev cX8_draw : ByteArray := prog_1_method_18_code
def yX8_draw : MethodName := ⟨RX8, "draw", "(I)I"⟩
abbrev cX8_seed : ByteArray := prog_1_method_19_code
def yX8_seed : MethodName := ⟨RX8, "seed", "(I)I"⟩
abbrev cX8_undo : ByteArray := prog_1_method_20_code
def yX8_undo : MethodName := ⟨RX8, "undo", "(I)I"⟩
abbrev cX8_reach : ByteArray := prog_1_method_21_code
def yX8_reach : MethodName := ⟨RX8, "reach", "(II)I"⟩
abbrev cX8_soon : ByteArray := prog_1_method_23_code
def yX8_soon : MethodName := ⟨RX8, "soon", "(II)I"⟩
abbrev cX8_habit : ByteArray := prog_1_method_25_code
def yX8_habit : MethodName := ⟨RX8, "habit", "(II)I"⟩
abbrev cX8_prevented : ByteArray := prog_1_method_27_code
def yX8_prevented : MethodName := ⟨RX8, "prevented", "(I)I"⟩
abbrev cX8_image : ByteArray := prog_1_method_29_code
def yX8_image : MethodName := ⟨RX8, "image", "()I"⟩
abbrev cX8_restore : ByteArray := prog_1_method_30_code
def yX8_restore : MethodName := ⟨RX8, "restore", "()I"⟩
abbrev cX8_isWord : ByteArray := prog_1_method_37_code
def yX8_isWord : MethodName := ⟨RX8, "isWord", "(I)Z"⟩
abbrev cX8_isRowOfWords : ByteArray := prog_1_method_38_code
def yX8_isRowOfWords : MethodName := ⟨RX8, "isRowOfWords", "(III)Z"⟩
abbrev cX8_holds : ByteArray := prog_1_method_40_code
def yX8_holds : MethodName := ⟨RX8, "holds", "(II)Z"⟩
abbrev cX8_bit : ByteArray := prog_1_method_41_code
def yX8_bit : MethodName := ⟨RX8, "bit", "(Z)I"⟩
abbrev cX8_slipWith : ByteArray := prog_1_method_43_code
def yX8_slipWith : MethodName := ⟨RX8, "slipWith", "(II)I"⟩
abbrev cX8_slipEndsWith : ByteArray := prog_1_method_44_code
def yX8_slipEndsWith : MethodName := ⟨RX8, "slipEndsWith", "(III)Z"⟩
abbrev cX8_soonWithin : ByteArray := prog_1_method_45_code
def yX8_soonWithin : MethodName := ⟨RX8, "soonWithin", "(LSlipWheel$Everything;IIII)I"⟩
def RX9 : String := "SlipWheelModel"
def TX9 : u_T := fun k => match k with
  | _ => ("", "", "", false)
def tyX9 : Nat → FieldType := fun k => match k with
  | _ => .int
abbrev wsX90 : List Cond := u_ws RX9 TX9 0
theorem nmX9 : ∀ a, a < 0 → ∀ b, b < 0 → a ≠ b → (TX9 a).2.1 ≠ (TX9 b).2.1 := by decide +kernel
theorem tyX9_ok : ∀ k, k < 0 → parseFieldDescriptor (TX9 k).2.2.1 = some (tyX9 k) := by decide +kernel
def RJ6 : String := "java/lang/Integer"
def TJ6 : u_T := fun k => match k with
  | _ => ("", "", "", false)
def tyJ6 : Nat → FieldType := fun k => match k with
  | _ => .int
abbrev wsJ60 : List Cond := u_ws RJ6 TJ6 0
theorem nmJ6 : ∀ a, a < 0 → ∀ b, b < 0 → a ≠ b → (TJ6 a).2.1 ≠ (TJ6 b).2.1 := by decide +kernel
theorem tyJ6_ok : ∀ k, k < 0 → parseFieldDescriptor (TJ6 k).2.2.1 = some (tyJ6 k) := by decide +kernel
abbrev cJ6_bitCount_0f7a4 : ByteArray := prog_12_method_49_code
def yJ6_bitCount_0f7a4 : MethodName := ⟨RJ6, "bitCount", "(I)I"⟩
def RJ9 : String := "java/lang/Math"
def TJ9 : u_T := fun k => match k with
  | _ => ("", "", "", false)
def tyJ9 : Nat → FieldType := fun k => match k with
  | _ => .int
abbrev wsJ90 : List Cond := u_ws RJ9 TJ9 0
theorem nmJ9 : ∀ a, a < 0 → ∀ b, b < 0 → a ≠ b → (TJ9 a).2.1 ≠ (TJ9 b).2.1 := by decide +kernel
theorem tyJ9_ok : ∀ k, k < 0 → parseFieldDescriptor (TJ9 k).2.2.1 = some (tyJ9 k) := by decide +kernel
abbrev cJ9_floorMod_7cf53 : ByteArray := prog_13_method_50_code
def yJ9_floorMod_7cf53 : MethodName := ⟨RJ9, "floorMod", "(II)I"⟩
abbrev cJ9_max_7cf53 : ByteArray := prog_13_method_65_code
def yJ9_max_7cf53 : MethodName := ⟨RJ9, "max", "(II)I"⟩
def RJ10 : String := "java/lang/System"
def TJ10 : u_T := fun k => match k with
  | _ => ("", "", "", false)
def tyJ10 : Nat → FieldType := fun k => match k with
  | _ => .int
abbrev wsJ100 : List Cond := u_ws RJ10 TJ10 0
theorem nmJ10 : ∀ a, a < 0 → ∀ b, b < 0 → a ≠ b → (TJ10 a).2.1 ≠ (TJ10 b).2.1 := by decide +kernel
theorem tyJ10_ok : ∀ k, k < 0 → parseFieldDescriptor (TJ10 k).2.2.1 = some (tyJ10 k) := by decide +kernel
def RL : String := "SlipWheelLaw"
abbrev cL_cell : ByteArray := method_2_code
def yL_cell : MethodName := ⟨RL, "cell", "([II)I"⟩
abbrev cL_some : ByteArray := method_3_code
def yL_some : MethodName := ⟨RL, "some", "(II)I"⟩
abbrev cL_build : ByteArray := method_14_code
def yL_build : MethodName := ⟨RL, "build", "(LSlipWheel;[II[I[I[I[I[II)Z"⟩
abbrev cL_law : ByteArray := code
def yL_law : MethodName := ⟨RL, "law", "([I)Z"⟩
abbrev zCl : List vw_C := [(RX0, TX0, 4), (RX1, TX1, 5), (RX2, TX2, 3), (RX3, TX3, 3), (RX4, TX4, 3), (RX5, TX5, 3), (RX6, TX6, 4), (RX7, TX7, 5), (RX8, TX8, 7)]
end
section
abbrev zEn : Type := Instr × Nat × Nat × Nat × Int
/-- SlipWheel$Cells.<init>()V -/
def zc0 (pc : Nat) : Option zEn := bif Nat.blt pc 28 then (bif Nat.blt pc 13 then (bif Nat.blt pc 5 then (bif Nat.blt pc 1 then (bif Nat.beq pc 0 then some (.aload_n 0, 1, 0, 0, 0) else none) else (bif Nat.blt pc 4 then (bif Nat.beq pc 1 then some (.invokespecial 3, 3, 0, 1, 6) else none) else (bif Nat.beq pc 4 then some (.aload_n 0, 1, 0, 0, 0) else none))) else (bif Nat.blt pc 9 then (bif Nat.blt pc 7 then (bif Nat.beq pc 5 then some (.bipush 6, 2, 0, 0, 6) else none) else (bif Nat.beq pc 7 then some (.newarray .int, 2, 0, 0, 0) else none)) else (bif Nat.blt pc 12 then (bif Nat.beq pc 9 then some (.putfield 9, 3, 0, 0, 0) else none) else (bif Nat.beq pc 12 then some (.aload_n 0, 1, 0, 0, 0) else none)))) else (bif Nat.blt pc 20 then (bif Nat.blt pc 15 then (bif Nat.beq pc 13 then some (.bipush 6, 2, 0, 0, 6) else none) else (bif Nat.blt pc 17 then (bif Nat.beq pc 15 then some (.newarray .boolean, 2, 0, 0, 0) else none) else (bif Nat.beq pc 17 then some (.putfield 15, 3, 1, 0, 0) else none))) else (bif Nat.blt pc 23 then (bif Nat.blt pc 21 then (bif Nat.beq pc 20 then some (.aload_n 0, 1, 0, 0, 0) else none) else (bif Nat.beq pc 21 then some (.bipush 48, 2, 0, 0, 48) else none)) else (bif Nat.blt pc 25 then (bif Nat.beq pc 23 then some (.newarray .int, 2, 0, 0, 0) else none) else (bif Nat.beq pc 25 then some (.putfield 19, 3, 2, 0, 0) else none))))) else (bif Nat.blt pc 39 then (bif Nat.blt pc 31 then (bif Nat.blt pc 29 then (bif Nat.beq pc 28 then some (.iconst 0, 1, 0, 0, 0) else none) else (bif Nat.blt pc 30 then (bif Nat.beq pc 29 then some (.istore_n 1, 1, 0, 0, 0) else none) else (bif Nat.beq pc 30 then some (.iload_n 1, 1, 0, 0, 0) else none))) else (bif Nat.blt pc 35 then (bif Nat.blt pc 32 then (bif Nat.beq pc 31 then some (.aload_n 0, 1, 0, 0, 0) else none) else (bif Nat.beq pc 32 then some (.getfield 19, 3, 2, 0, 0) else none)) else (bif Nat.blt pc 36 then (bif Nat.beq pc 35 then some (.arraylength, 1, 0, 0, 0) else none) else (bif Nat.beq pc 36 then some (.if_icmp .ge 16, 3, 52, 0, 0) else none)))) else (bif Nat.blt pc 45 then (bif Nat.blt pc 43 then (bif Nat.blt pc 40 then (bif Nat.beq pc 39 then some (.aload_n 0, 1, 0, 0, 0) else none) else (bif Nat.beq pc 40 then some (.getfield 19, 3, 2, 0, 0) else none)) else (bif Nat.blt pc 44 then (bif Nat.beq pc 43 then some (.iload_n 1, 1, 0, 0, 0) else none) else (bif Nat.beq pc 44 then some (.iconst 1, 1, 0, 0, 1) else none))) else (bif Nat.blt pc 49 then (bif Nat.blt pc 46 then (bif Nat.beq pc 45 then some (.iastore, 1, 0, 0, 0) else none) else (bif Nat.beq pc 46 then some (.iinc 1 1, 3, 0, 0, 0) else none)) else (bif Nat.blt pc 52 then (bif Nat.beq pc 49 then some (.goto (-19), 3, 30, 0, 0) else none) else (bif Nat.beq pc 52 then some (.return_, 1, 0, 0, 0) else none)))))
/-- SlipWheel$Cells.copyFrom(LSlipWheel$Cells;)V -/
def zc1 (pc : Nat) : Option zEn := bif Nat.blt pc 29 then (bif Nat.blt pc 14 then (bif Nat.blt pc 5 then (bif Nat.blt pc 2 then (bif Nat.blt pc 1 then (bif Nat.beq pc 0 then some (.iconst 0, 1, 0, 0, 0) else none) else (bif Nat.beq pc 1 then some (.istore_n 2, 1, 0, 0, 0) else none)) else (bif Nat.blt pc 3 then (bif Nat.beq pc 2 then some (.iload_n 2, 1, 0, 0, 0) else none) else (bif Nat.beq pc 3 then some (.bipush 6, 2, 0, 0, 6) else none))) else (bif Nat.blt pc 9 then (bif Nat.blt pc 8 then (bif Nat.beq pc 5 then some (.if_icmp .ge 33, 3, 38, 0, 0) else none) else (bif Nat.beq pc 8 then some (.aload_n 0, 1, 0, 0, 0) else none)) else (bif Nat.blt pc 12 then (bif Nat.beq pc 9 then some (.getfield 9, 3, 0, 0, 0) else none) else (bif Nat.blt pc 13 then (bif Nat.beq pc 12 then some (.iload_n 2, 1, 0, 0, 0) else none) else (bif Nat.beq pc 13 then some (.aload_n 1, 1, 0, 0, 0) else none))))) else (bif Nat.blt pc 20 then (bif Nat.blt pc 18 then (bif Nat.blt pc 17 then (bif Nat.beq pc 14 then some (.getfield 9, 3, 0, 0, 0) else none) else (bif Nat.beq pc 17 then some (.iload_n 2, 1, 0, 0, 0) else none)) else (bif Nat.blt pc 19 then (bif Nat.beq pc 18 then some (.iaload, 1, 0, 0, 0) else none) else (bif Nat.beq pc 19 then some (.iastore, 1, 0, 0, 0) else none))) else (bif Nat.blt pc 24 then (bif Nat.blt pc 21 then (bif Nat.beq pc 20 then some (.aload_n 0, 1, 0, 0, 0) else none) else (bif Nat.beq pc 21 then some (.getfield 15, 3, 1, 0, 0) else none)) else (bif Nat.blt pc 25 then (bif Nat.beq pc 24 then some (.iload_n 2, 1, 0, 0, 0) else none) else (bif Nat.blt pc 26 then (bif Nat.beq pc 25 then some (.aload_n 1, 1, 0, 0, 0) else none) else (bif Nat.beq pc 26 then some (.getfield 15, 3, 1, 0, 0) else none)))))) else (bif Nat.blt pc 44 then (bif Nat.blt pc 35 then (bif Nat.blt pc 31 then (bif Nat.blt pc 30 then (bif Nat.beq pc 29 then some (.iload_n 2, 1, 0, 0, 0) else none) else (bif Nat.beq pc 30 then some (.baload, 1, 0, 0, 0) else none)) else (bif Nat.blt pc 32 then (bif Nat.beq pc 31 then some (.bastore, 1, 0, 0, 0) else none) else (bif Nat.beq pc 32 then some (.iinc 2 1, 3, 0, 0, 0) else none))) else (bif Nat.blt pc 39 then (bif Nat.blt pc 38 then (bif Nat.beq pc 35 then some (.goto (-33), 3, 2, 0, 0) else none) else (bif Nat.beq pc 38 then some (.aload_n 1, 1, 0, 0, 0) else none)) else (bif Nat.blt pc 42 then (bif Nat.beq pc 39 then some (.getfield 19, 3, 2, 0, 0) else none) else (bif Nat.blt pc 43 then (bif Nat.beq pc 42 then some (.iconst 0, 1, 0, 0, 0) else none) else (bif Nat.beq pc 43 then some (.aload_n 0, 1, 0, 0, 0) else none))))) else (bif Nat.blt pc 53 then (bif Nat.blt pc 48 then (bif Nat.blt pc 47 then (bif Nat.beq pc 44 then some (.getfield 19, 3, 2, 0, 0) else none) else (bif Nat.beq pc 47 then some (.iconst 0, 1, 0, 0, 0) else none)) else (bif Nat.blt pc 50 then (bif Nat.beq pc 48 then some (.bipush 48, 2, 0, 0, 48) else none) else (bif Nat.beq pc 50 then some (.invokestatic 22, 3, 0, 5, 7) else none))) else (bif Nat.blt pc 55 then (bif Nat.blt pc 54 then (bif Nat.beq pc 53 then some (.aload_n 0, 1, 0, 0, 0) else none) else (bif Nat.beq pc 54 then some (.aload_n 1, 1, 0, 0, 0) else none)) else (bif Nat.blt pc 58 then (bif Nat.beq pc 55 then some (.getfield 28, 3, 3, 0, 0) else none) else (bif Nat.blt pc 61 then (bif Nat.beq pc 58 then some (.putfield 28, 3, 3, 0, 0) else none) else (bif Nat.beq pc 61 then some (.return_, 1, 0, 0, 0) else none))))))
/-- SlipWheel$Cells.has(I)Z -/
def zc2 (pc : Nat) : Option zEn := bif Nat.blt pc 12 then (bif Nat.blt pc 5 then (bif Nat.blt pc 1 then (bif Nat.beq pc 0 then some (.iload_n 1, 1, 0, 0, 0) else none) else (bif Nat.blt pc 4 then (bif Nat.beq pc 1 then some (.ifCond .lt 21, 3, 22, 0, 0) else none) else (bif Nat.beq pc 4 then some (.iload_n 1, 1, 0, 0, 0) else none))) else (bif Nat.blt pc 6 then (bif Nat.beq pc 5 then some (.aload_n 0, 1, 0, 0, 0) else none) else (bif Nat.blt pc 9 then (bif Nat.beq pc 6 then some (.getfield 28, 3, 3, 0, 0) else none) else (bif Nat.beq pc 9 then some (.if_icmp .ge 13, 3, 22, 0, 0) else none)))) else (bif Nat.blt pc 18 then (bif Nat.blt pc 13 then (bif Nat.beq pc 12 then some (.iload_n 1, 1, 0, 0, 0) else none) else (bif Nat.blt pc 15 then (bif Nat.beq pc 13 then some (.bipush 6, 2, 0, 0, 6) else none) else (bif Nat.beq pc 15 then some (.if_icmp .ge 7, 3, 22, 0, 0) else none))) else (bif Nat.blt pc 22 then (bif Nat.blt pc 19 then (bif Nat.beq pc 18 then some (.iconst 1, 1, 0, 0, 1) else none) else (bif Nat.beq pc 19 then some (.goto 4, 3, 23, 0, 0) else none)) else (bif Nat.blt pc 23 then (bif Nat.beq pc 22 then some (.iconst 0, 1, 0, 0, 0) else none) else (bif Nat.beq pc 23 then some (.ireturn, 1, 0, 0, 1) else none))))
/-- SlipWheel$Cells.append(I)I -/
def zc3 (pc : Nat) : Option zEn := bif Nat.blt pc 27 then (bif Nat.blt pc 13 then (bif Nat.blt pc 7 then (bif Nat.blt pc 1 then (bif Nat.beq pc 0 then some (.aload_n 0, 1, 0, 0, 0) else none) else (bif Nat.blt pc 4 then (bif Nat.beq pc 1 then some (.getfield 28, 3, 3, 0, 0) else none) else (bif Nat.beq pc 4 then some (.ifCond .lt 12, 3, 16, 0, 0) else none))) else (bif Nat.blt pc 8 then (bif Nat.beq pc 7 then some (.aload_n 0, 1, 0, 0, 0) else none) else (bif Nat.blt pc 11 then (bif Nat.beq pc 8 then some (.getfield 28, 3, 3, 0, 0) else none) else (bif Nat.beq pc 11 then some (.bipush 6, 2, 0, 0, 6) else none)))) else (bif Nat.blt pc 19 then (bif Nat.blt pc 16 then (bif Nat.beq pc 13 then some (.if_icmp .lt 6, 3, 19, 0, 0) else none) else (bif Nat.blt pc 18 then (bif Nat.beq pc 16 then some (.bipush (-3), 2, 0, 0, -3) else none) else (bif Nat.beq pc 18 then some (.ireturn, 1, 0, 0, 0) else none))) else (bif Nat.blt pc 23 then (bif Nat.blt pc 20 then (bif Nat.beq pc 19 then some (.aload_n 0, 1, 0, 0, 0) else none) else (bif Nat.beq pc 20 then some (.getfield 9, 3, 0, 0, 0) else none)) else (bif Nat.blt pc 24 then (bif Nat.beq pc 23 then some (.aload_n 0, 1, 0, 0, 0) else none) else (bif Nat.beq pc 24 then some (.getfield 28, 3, 3, 0, 0) else none))))) else (bif Nat.blt pc 35 then (bif Nat.blt pc 30 then (bif Nat.blt pc 28 then (bif Nat.beq pc 27 then some (.iload_n 1, 1, 0, 0, 0) else none) else (bif Nat.blt pc 29 then (bif Nat.beq pc 28 then some (.iastore, 1, 0, 0, 0) else none) else (bif Nat.beq pc 29 then some (.aload_n 0, 1, 0, 0, 0) else none))) else (bif Nat.blt pc 31 then (bif Nat.beq pc 30 then some (.dup, 1, 0, 0, 0) else none) else (bif Nat.blt pc 34 then (bif Nat.beq pc 31 then some (.getfield 28, 3, 3, 0, 0) else none) else (bif Nat.beq pc 34 then some (.iconst 1, 1, 0, 0, 1) else none)))) else (bif Nat.blt pc 40 then (bif Nat.blt pc 36 then (bif Nat.beq pc 35 then some (.iadd, 1, 0, 0, 0) else none) else (bif Nat.blt pc 39 then (bif Nat.beq pc 36 then some (.putfield 28, 3, 3, 0, 0) else none) else (bif Nat.beq pc 39 then some (.aload_n 0, 1, 0, 0, 0) else none))) else (bif Nat.blt pc 44 then (bif Nat.blt pc 43 then (bif Nat.beq pc 40 then some (.getfield 28, 3, 3, 0, 0) else none) else (bif Nat.beq pc 43 then some (.iconst 1, 1, 0, 0, 1) else none)) else (bif Nat.blt pc 45 then (bif Nat.beq pc 44 then some (.isub, 1, 0, 0, 0) else none) else (bif Nat.beq pc 45 then some (.ireturn, 1, 0, 0, 0) else none)))))
/-- SlipWheel$Cells.kindOf(I)I -/
def zc4 (pc : Nat) : Option zEn := bif Nat.blt pc 9 then (bif Nat.blt pc 2 then (bif Nat.blt pc 1 then (bif Nat.beq pc 0 then some (.aload_n 0, 1, 0, 0, 0) else none) else (bif Nat.beq pc 1 then some (.iload_n 1, 1, 0, 0, 0) else none)) else (bif Nat.blt pc 5 then (bif Nat.beq pc 2 then some (.invokevirtual 32, 3, 2, 2, 10) else none) else (bif Nat.blt pc 8 then (bif Nat.beq pc 5 then some (.ifCond .eq 12, 3, 17, 0, 0) else none) else (bif Nat.beq pc 8 then some (.aload_n 0, 1, 0, 0, 0) else none)))) else (bif Nat.blt pc 14 then (bif Nat.blt pc 12 then (bif Nat.beq pc 9 then some (.getfield 9, 3, 0, 0, 0) else none) else (bif Nat.blt pc 13 then (bif Nat.beq pc 12 then some (.iload_n 1, 1, 0, 0, 0) else none) else (bif Nat.beq pc 13 then some (.iaload, 1, 0, 0, 0) else none))) else (bif Nat.blt pc 17 then (bif Nat.beq pc 14 then some (.goto 4, 3, 18, 0, 0) else none) else (bif Nat.blt pc 18 then (bif Nat.beq pc 17 then some (.iconst 3, 1, 0, 0, 3) else none) else (bif Nat.beq pc 18 then some (.ireturn, 1, 0, 0, 0) else none))))
/-- SlipWheel$Cells.isAlive(I)Z -/
def zc5 (pc : Nat) : Option zEn := bif Nat.blt pc 12 then (bif Nat.blt pc 5 then (bif Nat.blt pc 1 then (bif Nat.beq pc 0 then some (.aload_n 0, 1, 0, 0, 0) else none) else (bif Nat.blt pc 2 then (bif Nat.beq pc 1 then some (.iload_n 1, 1, 0, 0, 0) else none) else (bif Nat.beq pc 2 then some (.invokevirtual 32, 3, 2, 2, 10) else none))) else (bif Nat.blt pc 8 then (bif Nat.beq pc 5 then some (.ifCond .eq 16, 3, 21, 0, 0) else none) else (bif Nat.blt pc 9 then (bif Nat.beq pc 8 then some (.aload_n 0, 1, 0, 0, 0) else none) else (bif Nat.beq pc 9 then some (.getfield 15, 3, 1, 0, 0) else none)))) else (bif Nat.blt pc 17 then (bif Nat.blt pc 13 then (bif Nat.beq pc 12 then some (.iload_n 1, 1, 0, 0, 0) else none) else (bif Nat.blt pc 14 then (bif Nat.beq pc 13 then some (.baload, 1, 0, 0, 0) else none) else (bif Nat.beq pc 14 then some (.ifCond .ne 7, 3, 21, 0, 0) else none))) else (bif Nat.blt pc 21 then (bif Nat.blt pc 18 then (bif Nat.beq pc 17 then some (.iconst 1, 1, 0, 0, 1) else none) else (bif Nat.beq pc 18 then some (.goto 4, 3, 22, 0, 0) else none)) else (bif Nat.blt pc 22 then (bif Nat.beq pc 21 then some (.iconst 0, 1, 0, 0, 0) else none) else (bif Nat.beq pc 22 then some (.ireturn, 1, 0, 0, 1) else none))))
/-- SlipWheel$Cells.changeDead(IZ)Z -/
def zc6 (pc : Nat) : Option zEn := bif Nat.blt pc 15 then (bif Nat.blt pc 8 then (bif Nat.blt pc 2 then (bif Nat.blt pc 1 then (bif Nat.beq pc 0 then some (.aload_n 0, 1, 0, 0, 0) else none) else (bif Nat.beq pc 1 then some (.iload_n 1, 1, 0, 0, 0) else none)) else (bif Nat.blt pc 5 then (bif Nat.beq pc 2 then some (.invokevirtual 32, 3, 2, 2, 10) else none) else (bif Nat.beq pc 5 then some (.ifCond .ne 5, 3, 10, 0, 0) else none))) else (bif Nat.blt pc 10 then (bif Nat.blt pc 9 then (bif Nat.beq pc 8 then some (.iconst 0, 1, 0, 0, 0) else none) else (bif Nat.beq pc 9 then some (.ireturn, 1, 0, 0, 1) else none)) else (bif Nat.blt pc 11 then (bif Nat.beq pc 10 then some (.aload_n 0, 1, 0, 0, 0) else none) else (bif Nat.blt pc 14 then (bif Nat.beq pc 11 then some (.getfield 15, 3, 1, 0, 0) else none) else (bif Nat.beq pc 14 then some (.iload_n 1, 1, 0, 0, 0) else none))))) else (bif Nat.blt pc 21 then (bif Nat.blt pc 17 then (bif Nat.blt pc 16 then (bif Nat.beq pc 15 then some (.baload, 1, 0, 0, 0) else none) else (bif Nat.beq pc 16 then some (.istore_n 3, 1, 0, 0, 0) else none)) else (bif Nat.blt pc 18 then (bif Nat.beq pc 17 then some (.aload_n 0, 1, 0, 0, 0) else none) else (bif Nat.beq pc 18 then some (.getfield 15, 3, 1, 0, 0) else none))) else (bif Nat.blt pc 23 then (bif Nat.blt pc 22 then (bif Nat.beq pc 21 then some (.iload_n 1, 1, 0, 0, 0) else none) else (bif Nat.beq pc 22 then some (.iload_n 2, 1, 0, 0, 0) else none)) else (bif Nat.blt pc 24 then (bif Nat.beq pc 23 then some (.bastore, 1, 0, 0, 0) else none) else (bif Nat.blt pc 25 then (bif Nat.beq pc 24 then some (.iload_n 3, 1, 0, 0, 0) else none) else (bif Nat.beq pc 25 then some (.ireturn, 1, 0, 0, 1) else none)))))
/-- SlipWheel$Cells.living()I -/
def zc7 (pc : Nat) : Option zEn := bif Nat.blt pc 15 then (bif Nat.blt pc 5 then (bif Nat.blt pc 2 then (bif Nat.blt pc 1 then (bif Nat.beq pc 0 then some (.iconst 0, 1, 0, 0, 0) else none) else (bif Nat.beq pc 1 then some (.istore_n 1, 1, 0, 0, 0) else none)) else (bif Nat.blt pc 3 then (bif Nat.beq pc 2 then some (.iconst 0, 1, 0, 0, 0) else none) else (bif Nat.blt pc 4 then (bif Nat.beq pc 3 then some (.istore_n 2, 1, 0, 0, 0) else none) else (bif Nat.beq pc 4 then some (.iload_n 2, 1, 0, 0, 0) else none)))) else (bif Nat.blt pc 10 then (bif Nat.blt pc 7 then (bif Nat.beq pc 5 then some (.bipush 6, 2, 0, 0, 6) else none) else (bif Nat.beq pc 7 then some (.if_icmp .ge 23, 3, 30, 0, 0) else none)) else (bif Nat.blt pc 11 then (bif Nat.beq pc 10 then some (.aload_n 0, 1, 0, 0, 0) else none) else (bif Nat.blt pc 12 then (bif Nat.beq pc 11 then some (.iload_n 2, 1, 0, 0, 0) else none) else (bif Nat.beq pc 12 then some (.invokevirtual 36, 3, 5, 2, 10) else none))))) else (bif Nat.blt pc 22 then (bif Nat.blt pc 19 then (bif Nat.blt pc 18 then (bif Nat.beq pc 15 then some (.ifCond .eq 9, 3, 24, 0, 0) else none) else (bif Nat.beq pc 18 then some (.iload_n 1, 1, 0, 0, 0) else none)) else (bif Nat.blt pc 20 then (bif Nat.beq pc 19 then some (.iconst 1, 1, 0, 0, 1) else none) else (bif Nat.blt pc 21 then (bif Nat.beq pc 20 then some (.iload_n 2, 1, 0, 0, 0) else none) else (bif Nat.beq pc 21 then some (.ishl, 1, 0, 0, 0) else none)))) else (bif Nat.blt pc 27 then (bif Nat.blt pc 23 then (bif Nat.beq pc 22 then some (.ior, 1, 0, 0, 0) else none) else (bif Nat.blt pc 24 then (bif Nat.beq pc 23 then some (.istore_n 1, 1, 0, 0, 0) else none) else (bif Nat.beq pc 24 then some (.iinc 2 1, 3, 0, 0, 0) else none))) else (bif Nat.blt pc 30 then (bif Nat.beq pc 27 then some (.goto (-23), 3, 4, 0, 0) else none) else (bif Nat.blt pc 31 then (bif Nat.beq pc 30 then some (.iload_n 1, 1, 0, 0, 0) else none) else (bif Nat.beq pc 31 then some (.ireturn, 1, 0, 0, 0) else none)))))
/-- SlipWheel$Cells.weightOf(II)I -/
def zc8 (pc : Nat) : Option zEn := bif Nat.blt pc 19 then (bif Nat.blt pc 8 then (bif Nat.blt pc 2 then (bif Nat.blt pc 1 then (bif Nat.beq pc 0 then some (.aload_n 0, 1, 0, 0, 0) else none) else (bif Nat.beq pc 1 then some (.iload_n 1, 1, 0, 0, 0) else none)) else (bif Nat.blt pc 5 then (bif Nat.beq pc 2 then some (.invokevirtual 32, 3, 2, 2, 10) else none) else (bif Nat.beq pc 5 then some (.ifCond .eq 24, 3, 29, 0, 0) else none))) else (bif Nat.blt pc 12 then (bif Nat.blt pc 9 then (bif Nat.beq pc 8 then some (.iload_n 2, 1, 0, 0, 0) else none) else (bif Nat.beq pc 9 then some (.invokestatic 39, 3, 79, 1, 13) else none)) else (bif Nat.blt pc 15 then (bif Nat.beq pc 12 then some (.ifCond .eq 17, 3, 29, 0, 0) else none) else (bif Nat.blt pc 16 then (bif Nat.beq pc 15 then some (.aload_n 0, 1, 0, 0, 0) else none) else (bif Nat.beq pc 16 then some (.getfield 19, 3, 2, 0, 0) else none))))) else (bif Nat.blt pc 24 then (bif Nat.blt pc 22 then (bif Nat.blt pc 20 then (bif Nat.beq pc 19 then some (.iload_n 1, 1, 0, 0, 0) else none) else (bif Nat.beq pc 20 then some (.bipush 8, 2, 0, 0, 8) else none)) else (bif Nat.blt pc 23 then (bif Nat.beq pc 22 then some (.imul, 1, 0, 0, 0) else none) else (bif Nat.beq pc 23 then some (.iload_n 2, 1, 0, 0, 0) else none))) else (bif Nat.blt pc 26 then (bif Nat.blt pc 25 then (bif Nat.beq pc 24 then some (.iadd, 1, 0, 0, 0) else none) else (bif Nat.beq pc 25 then some (.iaload, 1, 0, 0, 0) else none)) else (bif Nat.blt pc 29 then (bif Nat.beq pc 26 then some (.goto 4, 3, 30, 0, 0) else none) else (bif Nat.blt pc 30 then (bif Nat.beq pc 29 then some (.iconst 0, 1, 0, 0, 0) else none) else (bif Nat.beq pc 30 then some (.ireturn, 1, 0, 0, 0) else none)))))
/-- SlipWheel$Cells.changeWeight(III)I -/
def zc9 (pc : Nat) : Option zEn := bif Nat.blt pc 25 then (bif Nat.blt pc 15 then (bif Nat.blt pc 5 then (bif Nat.blt pc 1 then (bif Nat.beq pc 0 then some (.aload_n 0, 1, 0, 0, 0) else none) else (bif Nat.blt pc 2 then (bif Nat.beq pc 1 then some (.iload_n 1, 1, 0, 0, 0) else none) else (bif Nat.beq pc 2 then some (.invokevirtual 32, 3, 2, 2, 10) else none))) else (bif Nat.blt pc 9 then (bif Nat.blt pc 8 then (bif Nat.beq pc 5 then some (.ifCond .eq 10, 3, 15, 0, 0) else none) else (bif Nat.beq pc 8 then some (.iload_n 2, 1, 0, 0, 0) else none)) else (bif Nat.blt pc 12 then (bif Nat.beq pc 9 then some (.invokestatic 39, 3, 79, 1, 13) else none) else (bif Nat.beq pc 12 then some (.ifCond .ne 5, 3, 17, 0, 0) else none)))) else (bif Nat.blt pc 18 then (bif Nat.blt pc 16 then (bif Nat.beq pc 15 then some (.iconst (-1), 1, 0, 0, -1) else none) else (bif Nat.blt pc 17 then (bif Nat.beq pc 16 then some (.ireturn, 1, 0, 0, 0) else none) else (bif Nat.beq pc 17 then some (.aload_n 0, 1, 0, 0, 0) else none))) else (bif Nat.blt pc 22 then (bif Nat.blt pc 21 then (bif Nat.beq pc 18 then some (.getfield 19, 3, 2, 0, 0) else none) else (bif Nat.beq pc 21 then some (.iload_n 1, 1, 0, 0, 0) else none)) else (bif Nat.blt pc 24 then (bif Nat.beq pc 22 then some (.bipush 8, 2, 0, 0, 8) else none) else (bif Nat.beq pc 24 then some (.imul, 1, 0, 0, 0) else none))))) else (bif Nat.blt pc 35 then (bif Nat.blt pc 28 then (bif Nat.blt pc 26 then (bif Nat.beq pc 25 then some (.iload_n 2, 1, 0, 0, 0) else none) else (bif Nat.blt pc 27 then (bif Nat.beq pc 26 then some (.iadd, 1, 0, 0, 0) else none) else (bif Nat.beq pc 27 then some (.iaload, 1, 0, 0, 0) else none))) else (bif Nat.blt pc 31 then (bif Nat.blt pc 30 then (bif Nat.beq pc 28 then some (.istore 4, 2, 0, 0, 0) else none) else (bif Nat.beq pc 30 then some (.aload_n 0, 1, 0, 0, 0) else none)) else (bif Nat.blt pc 34 then (bif Nat.beq pc 31 then some (.getfield 19, 3, 2, 0, 0) else none) else (bif Nat.beq pc 34 then some (.iload_n 1, 1, 0, 0, 0) else none)))) else (bif Nat.blt pc 40 then (bif Nat.blt pc 38 then (bif Nat.blt pc 37 then (bif Nat.beq pc 35 then some (.bipush 8, 2, 0, 0, 8) else none) else (bif Nat.beq pc 37 then some (.imul, 1, 0, 0, 0) else none)) else (bif Nat.blt pc 39 then (bif Nat.beq pc 38 then some (.iload_n 2, 1, 0, 0, 0) else none) else (bif Nat.beq pc 39 then some (.iadd, 1, 0, 0, 0) else none))) else (bif Nat.blt pc 42 then (bif Nat.blt pc 41 then (bif Nat.beq pc 40 then some (.iload_n 3, 1, 0, 0, 0) else none) else (bif Nat.beq pc 41 then some (.iastore, 1, 0, 0, 0) else none)) else (bif Nat.blt pc 44 then (bif Nat.beq pc 42 then some (.iload 4, 2, 0, 0, 0) else none) else (bif Nat.beq pc 44 then some (.ireturn, 1, 0, 0, 0) else none)))))
/-- SlipWheel$Cells.weightOfSet(II)I -/
def zc10 (pc : Nat) : Option zEn := bif Nat.blt pc 21 then (bif Nat.blt pc 7 then (bif Nat.blt pc 2 then (bif Nat.blt pc 1 then (bif Nat.beq pc 0 then some (.iconst 0, 1, 0, 0, 0) else none) else (bif Nat.beq pc 1 then some (.istore_n 3, 1, 0, 0, 0) else none)) else (bif Nat.blt pc 3 then (bif Nat.beq pc 2 then some (.iconst 0, 1, 0, 0, 0) else none) else (bif Nat.blt pc 5 then (bif Nat.beq pc 3 then some (.istore 4, 2, 0, 0, 0) else none) else (bif Nat.beq pc 5 then some (.iload 4, 2, 0, 0, 0) else none)))) else (bif Nat.blt pc 13 then (bif Nat.blt pc 9 then (bif Nat.beq pc 7 then some (.bipush 8, 2, 0, 0, 8) else none) else (bif Nat.blt pc 12 then (bif Nat.beq pc 9 then some (.if_icmp .ge 28, 3, 37, 0, 0) else none) else (bif Nat.beq pc 12 then some (.iload_n 2, 1, 0, 0, 0) else none))) else (bif Nat.blt pc 15 then (bif Nat.beq pc 13 then some (.iload 4, 2, 0, 0, 0) else none) else (bif Nat.blt pc 18 then (bif Nat.beq pc 15 then some (.invokestatic 42, 3, 81, 2, 13) else none) else (bif Nat.beq pc 18 then some (.ifCond .eq 13, 3, 31, 0, 0) else none))))) else (bif Nat.blt pc 29 then (bif Nat.blt pc 23 then (bif Nat.blt pc 22 then (bif Nat.beq pc 21 then some (.iload_n 3, 1, 0, 0, 0) else none) else (bif Nat.beq pc 22 then some (.aload_n 0, 1, 0, 0, 0) else none)) else (bif Nat.blt pc 24 then (bif Nat.beq pc 23 then some (.iload_n 1, 1, 0, 0, 0) else none) else (bif Nat.blt pc 26 then (bif Nat.beq pc 24 then some (.iload 4, 2, 0, 0, 0) else none) else (bif Nat.beq pc 26 then some (.invokevirtual 46, 3, 8, 3, 10) else none)))) else (bif Nat.blt pc 34 then (bif Nat.blt pc 30 then (bif Nat.beq pc 29 then some (.iadd, 1, 0, 0, 0) else none) else (bif Nat.blt pc 31 then (bif Nat.beq pc 30 then some (.istore_n 3, 1, 0, 0, 0) else none) else (bif Nat.beq pc 31 then some (.iinc 4 1, 3, 0, 0, 0) else none))) else (bif Nat.blt pc 37 then (bif Nat.beq pc 34 then some (.goto (-29), 3, 5, 0, 0) else none) else (bif Nat.blt pc 38 then (bif Nat.beq pc 37 then some (.iload_n 3, 1, 0, 0, 0) else none) else (bif Nat.beq pc 38 then some (.ireturn, 1, 0, 0, 0) else none)))))
/-- SlipWheel$Cells.weightedWords(I)I -/
def zc11 (pc : Nat) : Option zEn := bif Nat.blt pc 25 then (bif Nat.blt pc 10 then (bif Nat.blt pc 3 then (bif Nat.blt pc 1 then (bif Nat.beq pc 0 then some (.iconst 0, 1, 0, 0, 0) else none) else (bif Nat.blt pc 2 then (bif Nat.beq pc 1 then some (.istore_n 2, 1, 0, 0, 0) else none) else (bif Nat.beq pc 2 then some (.iconst 0, 1, 0, 0, 0) else none))) else (bif Nat.blt pc 5 then (bif Nat.blt pc 4 then (bif Nat.beq pc 3 then some (.istore_n 3, 1, 0, 0, 0) else none) else (bif Nat.beq pc 4 then some (.iload_n 3, 1, 0, 0, 0) else none)) else (bif Nat.blt pc 7 then (bif Nat.beq pc 5 then some (.bipush 8, 2, 0, 0, 8) else none) else (bif Nat.beq pc 7 then some (.if_icmp .ge 37, 3, 44, 0, 0) else none)))) else (bif Nat.blt pc 18 then (bif Nat.blt pc 12 then (bif Nat.blt pc 11 then (bif Nat.beq pc 10 then some (.aload_n 0, 1, 0, 0, 0) else none) else (bif Nat.beq pc 11 then some (.iload_n 1, 1, 0, 0, 0) else none)) else (bif Nat.blt pc 15 then (bif Nat.beq pc 12 then some (.invokevirtual 32, 3, 2, 2, 10) else none) else (bif Nat.beq pc 15 then some (.ifCond .eq 29, 3, 44, 0, 0) else none))) else (bif Nat.blt pc 22 then (bif Nat.blt pc 19 then (bif Nat.beq pc 18 then some (.aload_n 0, 1, 0, 0, 0) else none) else (bif Nat.beq pc 19 then some (.getfield 19, 3, 2, 0, 0) else none)) else (bif Nat.blt pc 23 then (bif Nat.beq pc 22 then some (.iload_n 1, 1, 0, 0, 0) else none) else (bif Nat.beq pc 23 then some (.bipush 8, 2, 0, 0, 8) else none))))) else (bif Nat.blt pc 34 then (bif Nat.blt pc 28 then (bif Nat.blt pc 26 then (bif Nat.beq pc 25 then some (.imul, 1, 0, 0, 0) else none) else (bif Nat.blt pc 27 then (bif Nat.beq pc 26 then some (.iload_n 3, 1, 0, 0, 0) else none) else (bif Nat.beq pc 27 then some (.iadd, 1, 0, 0, 0) else none))) else (bif Nat.blt pc 32 then (bif Nat.blt pc 29 then (bif Nat.beq pc 28 then some (.iaload, 1, 0, 0, 0) else none) else (bif Nat.beq pc 29 then some (.ifCond .le 9, 3, 38, 0, 0) else none)) else (bif Nat.blt pc 33 then (bif Nat.beq pc 32 then some (.iload_n 2, 1, 0, 0, 0) else none) else (bif Nat.beq pc 33 then some (.iconst 1, 1, 0, 0, 1) else none)))) else (bif Nat.blt pc 38 then (bif Nat.blt pc 36 then (bif Nat.blt pc 35 then (bif Nat.beq pc 34 then some (.iload_n 3, 1, 0, 0, 0) else none) else (bif Nat.beq pc 35 then some (.ishl, 1, 0, 0, 0) else none)) else (bif Nat.blt pc 37 then (bif Nat.beq pc 36 then some (.ior, 1, 0, 0, 0) else none) else (bif Nat.beq pc 37 then some (.istore_n 2, 1, 0, 0, 0) else none))) else (bif Nat.blt pc 44 then (bif Nat.blt pc 41 then (bif Nat.beq pc 38 then some (.iinc 3 1, 3, 0, 0, 0) else none) else (bif Nat.beq pc 41 then some (.goto (-37), 3, 4, 0, 0) else none)) else (bif Nat.blt pc 45 then (bif Nat.beq pc 44 then some (.iload_n 2, 1, 0, 0, 0) else none) else (bif Nat.beq pc 45 then some (.ireturn, 1, 0, 0, 0) else none)))))
/-- SlipWheel$Everything.<init>()V -/
def zc12 (pc : Nat) : Option zEn := bif Nat.blt pc 30 then (bif Nat.blt pc 15 then (bif Nat.blt pc 5 then (bif Nat.blt pc 1 then (bif Nat.beq pc 0 then some (.aload_n 0, 1, 0, 0, 0) else none) else (bif Nat.blt pc 4 then (bif Nat.beq pc 1 then some (.invokespecial 3, 3, 0, 1, 6) else none) else (bif Nat.beq pc 4 then some (.aload_n 0, 1, 0, 0, 0) else none))) else (bif Nat.blt pc 9 then (bif Nat.blt pc 8 then (bif Nat.beq pc 5 then some (.new 9, 3, 4, 6, 0) else none) else (bif Nat.beq pc 8 then some (.dup, 1, 0, 0, 0) else none)) else (bif Nat.blt pc 12 then (bif Nat.beq pc 9 then some (.invokespecial 11, 3, 41, 1, 5) else none) else (bif Nat.beq pc 12 then some (.putfield 12, 3, 0, 1, 0) else none)))) else (bif Nat.blt pc 20 then (bif Nat.blt pc 16 then (bif Nat.beq pc 15 then some (.aload_n 0, 1, 0, 0, 0) else none) else (bif Nat.blt pc 19 then (bif Nat.beq pc 16 then some (.new 18, 3, 4, 0, 0) else none) else (bif Nat.beq pc 19 then some (.dup, 1, 0, 0, 0) else none))) else (bif Nat.blt pc 26 then (bif Nat.blt pc 23 then (bif Nat.beq pc 20 then some (.invokespecial 20, 3, 0, 1, 5) else none) else (bif Nat.beq pc 23 then some (.putfield 21, 3, 1, 1, 0) else none)) else (bif Nat.blt pc 27 then (bif Nat.beq pc 26 then some (.aload_n 0, 1, 0, 0, 0) else none) else (bif Nat.beq pc 27 then some (.new 25, 3, 5, 7, 0) else none))))) else (bif Nat.blt pc 45 then (bif Nat.blt pc 35 then (bif Nat.blt pc 31 then (bif Nat.beq pc 30 then some (.dup, 1, 0, 0, 0) else none) else (bif Nat.blt pc 32 then (bif Nat.beq pc 31 then some (.aload_n 0, 1, 0, 0, 0) else none) else (bif Nat.beq pc 32 then some (.getfield 21, 3, 1, 1, 0) else none))) else (bif Nat.blt pc 41 then (bif Nat.blt pc 38 then (bif Nat.beq pc 35 then some (.invokespecial 27, 3, 48, 2, 5) else none) else (bif Nat.beq pc 38 then some (.putfield 30, 3, 2, 1, 0) else none)) else (bif Nat.blt pc 42 then (bif Nat.beq pc 41 then some (.aload_n 0, 1, 0, 0, 0) else none) else (bif Nat.beq pc 42 then some (.new 34, 3, 3, 2, 0) else none)))) else (bif Nat.blt pc 52 then (bif Nat.blt pc 46 then (bif Nat.beq pc 45 then some (.dup, 1, 0, 0, 0) else none) else (bif Nat.blt pc 49 then (bif Nat.beq pc 46 then some (.invokespecial 36, 3, 22, 1, 5) else none) else (bif Nat.beq pc 49 then some (.putfield 37, 3, 3, 1, 0) else none))) else (bif Nat.blt pc 54 then (bif Nat.blt pc 53 then (bif Nat.beq pc 52 then some (.aload_n 0, 1, 0, 0, 0) else none) else (bif Nat.beq pc 53 then some (.iconst 1, 1, 0, 0, 1) else none)) else (bif Nat.blt pc 57 then (bif Nat.beq pc 54 then some (.putfield 41, 3, 4, 1, 0) else none) else (bif Nat.beq pc 57 then some (.return_, 1, 0, 0, 0) else none)))))
/-- SlipWheel$Everything.copyFrom(LSlipWheel$Everything;)V -/
def zc13 (pc : Nat) : Option zEn := bif Nat.blt pc 26 then (bif Nat.blt pc 12 then (bif Nat.blt pc 5 then (bif Nat.blt pc 1 then (bif Nat.beq pc 0 then some (.aload_n 0, 1, 0, 0, 0) else none) else (bif Nat.blt pc 4 then (bif Nat.beq pc 1 then some (.getfield 12, 3, 0, 1, 0) else none) else (bif Nat.beq pc 4 then some (.aload_n 1, 1, 0, 0, 0) else none))) else (bif Nat.blt pc 8 then (bif Nat.beq pc 5 then some (.getfield 12, 3, 0, 1, 0) else none) else (bif Nat.blt pc 11 then (bif Nat.beq pc 8 then some (.invokevirtual 45, 3, 42, 2, 1) else none) else (bif Nat.beq pc 11 then some (.aload_n 0, 1, 0, 0, 0) else none)))) else (bif Nat.blt pc 19 then (bif Nat.blt pc 15 then (bif Nat.beq pc 12 then some (.getfield 21, 3, 1, 1, 0) else none) else (bif Nat.blt pc 16 then (bif Nat.beq pc 15 then some (.aload_n 1, 1, 0, 0, 0) else none) else (bif Nat.beq pc 16 then some (.getfield 21, 3, 1, 1, 0) else none))) else (bif Nat.blt pc 22 then (bif Nat.beq pc 19 then some (.invokevirtual 49, 3, 1, 2, 1) else none) else (bif Nat.blt pc 23 then (bif Nat.beq pc 22 then some (.aload_n 0, 1, 0, 0, 0) else none) else (bif Nat.beq pc 23 then some (.getfield 30, 3, 2, 1, 0) else none))))) else (bif Nat.blt pc 38 then (bif Nat.blt pc 33 then (bif Nat.blt pc 27 then (bif Nat.beq pc 26 then some (.aload_n 1, 1, 0, 0, 0) else none) else (bif Nat.blt pc 30 then (bif Nat.beq pc 27 then some (.getfield 30, 3, 2, 1, 0) else none) else (bif Nat.beq pc 30 then some (.invokevirtual 51, 3, 49, 2, 1) else none))) else (bif Nat.blt pc 34 then (bif Nat.beq pc 33 then some (.aload_n 0, 1, 0, 0, 0) else none) else (bif Nat.blt pc 37 then (bif Nat.beq pc 34 then some (.getfield 37, 3, 3, 1, 0) else none) else (bif Nat.beq pc 37 then some (.aload_n 1, 1, 0, 0, 0) else none)))) else (bif Nat.blt pc 45 then (bif Nat.blt pc 41 then (bif Nat.beq pc 38 then some (.getfield 37, 3, 3, 1, 0) else none) else (bif Nat.blt pc 44 then (bif Nat.beq pc 41 then some (.invokevirtual 54, 3, 23, 2, 1) else none) else (bif Nat.beq pc 44 then some (.aload_n 0, 1, 0, 0, 0) else none))) else (bif Nat.blt pc 49 then (bif Nat.blt pc 46 then (bif Nat.beq pc 45 then some (.aload_n 1, 1, 0, 0, 0) else none) else (bif Nat.beq pc 46 then some (.getfield 41, 3, 4, 1, 0) else none)) else (bif Nat.blt pc 52 then (bif Nat.beq pc 49 then some (.putfield 41, 3, 4, 1, 0) else none) else (bif Nat.beq pc 52 then some (.return_, 1, 0, 0, 0) else none)))))
/-- SlipWheel$Everything.canCome(II)I -/
def zc14 (pc : Nat) : Option zEn := bif Nat.blt pc 56 then (bif Nat.blt pc 39 then (bif Nat.blt pc 8 then (bif Nat.blt pc 4 then (bif Nat.blt pc 1 then (bif Nat.beq pc 0 then some (.aload_n 0, 1, 0, 0, 0) else none) else (bif Nat.beq pc 1 then some (.getfield 21, 3, 1, 1, 0) else none)) else (bif Nat.blt pc 5 then (bif Nat.beq pc 4 then some (.iload_n 1, 1, 0, 0, 0) else none) else (bif Nat.beq pc 5 then some (.invokevirtual 57, 3, 4, 2, 11) else none))) else (bif Nat.blt pc 37 then (bif Nat.blt pc 36 then (bif Nat.beq pc 8 then some (.tableswitch 58 1 3 #[30, 39, 28], 28, 0, 0, 0) else none) else (bif Nat.beq pc 36 then some (.iconst 0, 1, 0, 0, 0) else none)) else (bif Nat.blt pc 38 then (bif Nat.beq pc 37 then some (.ireturn, 1, 0, 0, 0) else none) else (bif Nat.beq pc 38 then some (.aload_n 0, 1, 0, 0, 0) else none)))) else (bif Nat.blt pc 47 then (bif Nat.blt pc 43 then (bif Nat.blt pc 42 then (bif Nat.beq pc 39 then some (.getfield 21, 3, 1, 1, 0) else none) else (bif Nat.beq pc 42 then some (.iload_n 1, 1, 0, 0, 0) else none)) else (bif Nat.blt pc 46 then (bif Nat.beq pc 43 then some (.invokevirtual 61, 3, 11, 2, 11) else none) else (bif Nat.beq pc 46 then some (.ireturn, 1, 0, 0, 0) else none))) else (bif Nat.blt pc 51 then (bif Nat.blt pc 48 then (bif Nat.beq pc 47 then some (.aload_n 0, 1, 0, 0, 0) else none) else (bif Nat.beq pc 48 then some (.getfield 21, 3, 1, 1, 0) else none)) else (bif Nat.blt pc 52 then (bif Nat.beq pc 51 then some (.iload_n 1, 1, 0, 0, 0) else none) else (bif Nat.blt pc 55 then (bif Nat.beq pc 52 then some (.invokevirtual 61, 3, 11, 2, 11) else none) else (bif Nat.beq pc 55 then some (.aload_n 0, 1, 0, 0, 0) else none)))))) else (bif Nat.blt pc 70 then (bif Nat.blt pc 64 then (bif Nat.blt pc 60 then (bif Nat.blt pc 59 then (bif Nat.beq pc 56 then some (.getfield 12, 3, 0, 1, 0) else none) else (bif Nat.beq pc 59 then some (.iload_n 2, 1, 0, 0, 0) else none)) else (bif Nat.blt pc 61 then (bif Nat.beq pc 60 then some (.iconst 2, 1, 0, 0, 2) else none) else (bif Nat.beq pc 61 then some (.invokevirtual 64, 3, 45, 3, 11) else none))) else (bif Nat.blt pc 66 then (bif Nat.blt pc 65 then (bif Nat.beq pc 64 then some (.iand, 1, 0, 0, 0) else none) else (bif Nat.beq pc 65 then some (.ireturn, 1, 0, 0, 0) else none)) else (bif Nat.blt pc 67 then (bif Nat.beq pc 66 then some (.aload_n 0, 1, 0, 0, 0) else none) else (bif Nat.beq pc 67 then some (.getfield 21, 3, 1, 1, 0) else none)))) else (bif Nat.blt pc 78 then (bif Nat.blt pc 74 then (bif Nat.blt pc 71 then (bif Nat.beq pc 70 then some (.iload_n 1, 1, 0, 0, 0) else none) else (bif Nat.beq pc 71 then some (.invokevirtual 61, 3, 11, 2, 11) else none)) else (bif Nat.blt pc 75 then (bif Nat.beq pc 74 then some (.aload_n 0, 1, 0, 0, 0) else none) else (bif Nat.beq pc 75 then some (.getfield 12, 3, 0, 1, 0) else none))) else (bif Nat.blt pc 80 then (bif Nat.blt pc 79 then (bif Nat.beq pc 78 then some (.iload_n 2, 1, 0, 0, 0) else none) else (bif Nat.beq pc 79 then some (.iconst 4, 1, 0, 0, 4) else none)) else (bif Nat.blt pc 83 then (bif Nat.beq pc 80 then some (.invokevirtual 64, 3, 45, 3, 11) else none) else (bif Nat.blt pc 84 then (bif Nat.beq pc 83 then some (.iand, 1, 0, 0, 0) else none) else (bif Nat.beq pc 84 then some (.ireturn, 1, 0, 0, 0) else none))))))
/-- SlipWheel$Everything.hasEnded(I)Z -/
def zc15 (pc : Nat) : Option zEn := bif Nat.blt pc 19 then (bif Nat.blt pc 8 then (bif Nat.blt pc 2 then (bif Nat.blt pc 1 then (bif Nat.beq pc 0 then some (.iconst 0, 1, 0, 0, 0) else none) else (bif Nat.beq pc 1 then some (.istore_n 2, 1, 0, 0, 0) else none)) else (bif Nat.blt pc 3 then (bif Nat.beq pc 2 then some (.iload_n 2, 1, 0, 0, 0) else none) else (bif Nat.blt pc 5 then (bif Nat.beq pc 3 then some (.bipush 6, 2, 0, 0, 6) else none) else (bif Nat.beq pc 5 then some (.if_icmp .ge 31, 3, 36, 0, 0) else none)))) else (bif Nat.blt pc 12 then (bif Nat.blt pc 9 then (bif Nat.beq pc 8 then some (.aload_n 0, 1, 0, 0, 0) else none) else (bif Nat.beq pc 9 then some (.getfield 21, 3, 1, 1, 0) else none)) else (bif Nat.blt pc 13 then (bif Nat.beq pc 12 then some (.iload_n 2, 1, 0, 0, 0) else none) else (bif Nat.blt pc 16 then (bif Nat.beq pc 13 then some (.invokevirtual 75, 3, 5, 2, 11) else none) else (bif Nat.beq pc 16 then some (.ifCond .eq 14, 3, 30, 0, 0) else none))))) else (bif Nat.blt pc 28 then (bif Nat.blt pc 21 then (bif Nat.blt pc 20 then (bif Nat.beq pc 19 then some (.aload_n 0, 1, 0, 0, 0) else none) else (bif Nat.beq pc 20 then some (.iload_n 2, 1, 0, 0, 0) else none)) else (bif Nat.blt pc 22 then (bif Nat.beq pc 21 then some (.iload_n 1, 1, 0, 0, 0) else none) else (bif Nat.blt pc 25 then (bif Nat.beq pc 22 then some (.invokevirtual 68, 3, 14, 3, 10) else none) else (bif Nat.beq pc 25 then some (.ifCond .eq 5, 3, 30, 0, 0) else none)))) else (bif Nat.blt pc 33 then (bif Nat.blt pc 29 then (bif Nat.beq pc 28 then some (.iconst 0, 1, 0, 0, 0) else none) else (bif Nat.blt pc 30 then (bif Nat.beq pc 29 then some (.ireturn, 1, 0, 0, 1) else none) else (bif Nat.beq pc 30 then some (.iinc 2 1, 3, 0, 0, 0) else none))) else (bif Nat.blt pc 36 then (bif Nat.beq pc 33 then some (.goto (-31), 3, 2, 0, 0) else none) else (bif Nat.blt pc 37 then (bif Nat.beq pc 36 then some (.iconst 1, 1, 0, 0, 1) else none) else (bif Nat.beq pc 37 then some (.ireturn, 1, 0, 0, 1) else none)))))
/-- SlipWheel$Everything.addDrawnWord()V -/
def zc16 (pc : Nat) : Option zEn := bif Nat.blt pc 28 then (bif Nat.blt pc 15 then (bif Nat.blt pc 5 then (bif Nat.blt pc 1 then (bif Nat.beq pc 0 then some (.aload_n 0, 1, 0, 0, 0) else none) else (bif Nat.blt pc 4 then (bif Nat.beq pc 1 then some (.getfield 30, 3, 2, 1, 0) else none) else (bif Nat.beq pc 4 then some (.aload_n 0, 1, 0, 0, 0) else none))) else (bif Nat.blt pc 11 then (bif Nat.blt pc 8 then (bif Nat.beq pc 5 then some (.getfield 30, 3, 2, 1, 0) else none) else (bif Nat.beq pc 8 then some (.invokevirtual 79, 3, 54, 1, 11) else none)) else (bif Nat.blt pc 14 then (bif Nat.beq pc 11 then some (.invokevirtual 83, 3, 51, 2, 11) else none) else (bif Nat.beq pc 14 then some (.istore_n 1, 1, 0, 0, 0) else none)))) else (bif Nat.blt pc 18 then (bif Nat.blt pc 16 then (bif Nat.beq pc 15 then some (.aload_n 0, 1, 0, 0, 0) else none) else (bif Nat.blt pc 17 then (bif Nat.beq pc 16 then some (.iload_n 1, 1, 0, 0, 0) else none) else (bif Nat.beq pc 17 then some (.aload_n 0, 1, 0, 0, 0) else none))) else (bif Nat.blt pc 24 then (bif Nat.blt pc 21 then (bif Nat.beq pc 18 then some (.getfield 37, 3, 3, 1, 0) else none) else (bif Nat.beq pc 21 then some (.invokevirtual 86, 3, 31, 1, 11) else none)) else (bif Nat.blt pc 27 then (bif Nat.beq pc 24 then some (.invokevirtual 68, 3, 14, 3, 10) else none) else (bif Nat.beq pc 27 then some (.istore_n 2, 1, 0, 0, 0) else none))))) else (bif Nat.blt pc 43 then (bif Nat.blt pc 33 then (bif Nat.blt pc 29 then (bif Nat.beq pc 28 then some (.iload_n 2, 1, 0, 0, 0) else none) else (bif Nat.blt pc 32 then (bif Nat.beq pc 29 then some (.ifCond .eq 27, 3, 56, 0, 0) else none) else (bif Nat.beq pc 32 then some (.aload_n 0, 1, 0, 0, 0) else none))) else (bif Nat.blt pc 39 then (bif Nat.blt pc 36 then (bif Nat.beq pc 33 then some (.getfield 37, 3, 3, 1, 0) else none) else (bif Nat.beq pc 36 then some (.invokevirtual 89, 3, 24, 1, 11) else none)) else (bif Nat.blt pc 42 then (bif Nat.beq pc 39 then some (.ifCond .ne 17, 3, 56, 0, 0) else none) else (bif Nat.beq pc 42 then some (.aload_n 0, 1, 0, 0, 0) else none)))) else (bif Nat.blt pc 49 then (bif Nat.blt pc 47 then (bif Nat.blt pc 46 then (bif Nat.beq pc 43 then some (.getfield 37, 3, 3, 1, 0) else none) else (bif Nat.beq pc 46 then some (.aload_n 0, 1, 0, 0, 0) else none)) else (bif Nat.blt pc 48 then (bif Nat.beq pc 47 then some (.iload_n 1, 1, 0, 0, 0) else none) else (bif Nat.beq pc 48 then some (.iload_n 2, 1, 0, 0, 0) else none))) else (bif Nat.blt pc 53 then (bif Nat.blt pc 52 then (bif Nat.beq pc 49 then some (.invokevirtual 93, 3, 17, 3, 10) else none) else (bif Nat.beq pc 52 then some (.iload_n 1, 1, 0, 0, 0) else none)) else (bif Nat.blt pc 56 then (bif Nat.beq pc 53 then some (.invokevirtual 96, 3, 26, 3, 1) else none) else (bif Nat.beq pc 56 then some (.return_, 1, 0, 0, 0) else none)))))
/-- SlipWheel$Everything.drawnWord(II)I -/
def zc17 (pc : Nat) : Option zEn := bif Nat.blt pc 47 then (bif Nat.blt pc 23 then (bif Nat.blt pc 11 then (bif Nat.blt pc 5 then (bif Nat.blt pc 1 then (bif Nat.beq pc 0 then some (.aload_n 0, 1, 0, 0, 0) else none) else (bif Nat.blt pc 2 then (bif Nat.beq pc 1 then some (.aload_n 0, 1, 0, 0, 0) else none) else (bif Nat.beq pc 2 then some (.getfield 41, 3, 4, 1, 0) else none))) else (bif Nat.blt pc 7 then (bif Nat.beq pc 5 then some (.ldc 100, 2, 0, 0, 1103515245) else none) else (bif Nat.blt pc 8 then (bif Nat.beq pc 7 then some (.imul, 1, 0, 0, 0) else none) else (bif Nat.beq pc 8 then some (.sipush 12345, 3, 0, 0, 12345) else none)))) else (bif Nat.blt pc 15 then (bif Nat.blt pc 12 then (bif Nat.beq pc 11 then some (.iadd, 1, 0, 0, 0) else none) else (bif Nat.blt pc 14 then (bif Nat.beq pc 12 then some (.ldc 101, 2, 0, 0, 2147483647) else none) else (bif Nat.beq pc 14 then some (.iand, 1, 0, 0, 0) else none))) else (bif Nat.blt pc 19 then (bif Nat.blt pc 18 then (bif Nat.beq pc 15 then some (.putfield 41, 3, 4, 1, 0) else none) else (bif Nat.beq pc 18 then some (.aload_n 0, 1, 0, 0, 0) else none)) else (bif Nat.blt pc 22 then (bif Nat.beq pc 19 then some (.getfield 21, 3, 1, 1, 0) else none) else (bif Nat.beq pc 22 then some (.iload_n 1, 1, 0, 0, 0) else none))))) else (bif Nat.blt pc 36 then (bif Nat.blt pc 28 then (bif Nat.blt pc 24 then (bif Nat.beq pc 23 then some (.iload_n 2, 1, 0, 0, 0) else none) else (bif Nat.blt pc 27 then (bif Nat.beq pc 24 then some (.invokevirtual 102, 3, 10, 3, 11) else none) else (bif Nat.beq pc 27 then some (.istore_n 3, 1, 0, 0, 0) else none))) else (bif Nat.blt pc 32 then (bif Nat.blt pc 29 then (bif Nat.beq pc 28 then some (.iload_n 3, 1, 0, 0, 0) else none) else (bif Nat.beq pc 29 then some (.ifCond .le 15, 3, 44, 0, 0) else none)) else (bif Nat.blt pc 33 then (bif Nat.beq pc 32 then some (.aload_n 0, 1, 0, 0, 0) else none) else (bif Nat.beq pc 33 then some (.getfield 41, 3, 4, 1, 0) else none)))) else (bif Nat.blt pc 40 then (bif Nat.blt pc 38 then (bif Nat.beq pc 36 then some (.bipush 16, 2, 0, 0, 16) else none) else (bif Nat.blt pc 39 then (bif Nat.beq pc 38 then some (.ishr, 1, 0, 0, 0) else none) else (bif Nat.beq pc 39 then some (.iload_n 3, 1, 0, 0, 0) else none))) else (bif Nat.blt pc 44 then (bif Nat.blt pc 41 then (bif Nat.beq pc 40 then some (.irem, 1, 0, 0, 0) else none) else (bif Nat.beq pc 41 then some (.goto 4, 3, 45, 0, 0) else none)) else (bif Nat.blt pc 45 then (bif Nat.beq pc 44 then some (.iconst 0, 1, 0, 0, 0) else none) else (bif Nat.beq pc 45 then some (.istore 4, 2, 0, 0, 0) else none)))))) else (bif Nat.blt pc 74 then (bif Nat.blt pc 57 then (bif Nat.blt pc 51 then (bif Nat.blt pc 48 then (bif Nat.beq pc 47 then some (.iconst 0, 1, 0, 0, 0) else none) else (bif Nat.blt pc 50 then (bif Nat.beq pc 48 then some (.istore 5, 2, 0, 0, 0) else none) else (bif Nat.beq pc 50 then some (.iconst 0, 1, 0, 0, 0) else none))) else (bif Nat.blt pc 53 then (bif Nat.beq pc 51 then some (.istore 6, 2, 0, 0, 0) else none) else (bif Nat.blt pc 55 then (bif Nat.beq pc 53 then some (.iload 6, 2, 0, 0, 0) else none) else (bif Nat.beq pc 55 then some (.bipush 8, 2, 0, 0, 8) else none)))) else (bif Nat.blt pc 65 then (bif Nat.blt pc 60 then (bif Nat.beq pc 57 then some (.if_icmp .ge 42, 3, 99, 0, 0) else none) else (bif Nat.blt pc 62 then (bif Nat.beq pc 60 then some (.iload 4, 2, 0, 0, 0) else none) else (bif Nat.beq pc 62 then some (.ifCond .lt 37, 3, 99, 0, 0) else none))) else (bif Nat.blt pc 68 then (bif Nat.blt pc 66 then (bif Nat.beq pc 65 then some (.iload_n 2, 1, 0, 0, 0) else none) else (bif Nat.beq pc 66 then some (.iload 6, 2, 0, 0, 0) else none)) else (bif Nat.blt pc 71 then (bif Nat.beq pc 68 then some (.invokestatic 71, 3, 81, 2, 13) else none) else (bif Nat.beq pc 71 then some (.ifCond .eq 22, 3, 93, 0, 0) else none))))) else (bif Nat.blt pc 87 then (bif Nat.blt pc 80 then (bif Nat.blt pc 76 then (bif Nat.beq pc 74 then some (.iload 4, 2, 0, 0, 0) else none) else (bif Nat.blt pc 77 then (bif Nat.beq pc 76 then some (.aload_n 0, 1, 0, 0, 0) else none) else (bif Nat.beq pc 77 then some (.getfield 21, 3, 1, 1, 0) else none))) else (bif Nat.blt pc 83 then (bif Nat.blt pc 81 then (bif Nat.beq pc 80 then some (.iload_n 1, 1, 0, 0, 0) else none) else (bif Nat.beq pc 81 then some (.iload 6, 2, 0, 0, 0) else none)) else (bif Nat.blt pc 86 then (bif Nat.beq pc 83 then some (.invokevirtual 105, 3, 8, 3, 11) else none) else (bif Nat.beq pc 86 then some (.isub, 1, 0, 0, 0) else none)))) else (bif Nat.blt pc 93 then (bif Nat.blt pc 89 then (bif Nat.beq pc 87 then some (.istore 4, 2, 0, 0, 0) else none) else (bif Nat.blt pc 91 then (bif Nat.beq pc 89 then some (.iload 6, 2, 0, 0, 0) else none) else (bif Nat.beq pc 91 then some (.istore 5, 2, 0, 0, 0) else none))) else (bif Nat.blt pc 99 then (bif Nat.blt pc 96 then (bif Nat.beq pc 93 then some (.iinc 6 1, 3, 0, 0, 0) else none) else (bif Nat.beq pc 96 then some (.goto (-43), 3, 53, 0, 0) else none)) else (bif Nat.blt pc 101 then (bif Nat.beq pc 99 then some (.iload 5, 2, 0, 0, 0) else none) else (bif Nat.beq pc 101 then some (.ireturn, 1, 0, 0, 0) else none))))))
/-- SlipWheel$Everything.lineEndingAt(I)I -/
def zc18 (pc : Nat) : Option zEn := bif Nat.blt pc 21 then (bif Nat.blt pc 8 then (bif Nat.blt pc 4 then (bif Nat.blt pc 2 then (bif Nat.blt pc 1 then (bif Nat.beq pc 0 then some (.iconst 0, 1, 0, 0, 0) else none) else (bif Nat.beq pc 1 then some (.istore_n 2, 1, 0, 0, 0) else none)) else (bif Nat.blt pc 3 then (bif Nat.beq pc 2 then some (.iconst 0, 1, 0, 0, 0) else none) else (bif Nat.beq pc 3 then some (.iload_n 1, 1, 0, 0, 0) else none))) else (bif Nat.blt pc 6 then (bif Nat.blt pc 5 then (bif Nat.beq pc 4 then some (.iconst 1, 1, 0, 0, 1) else none) else (bif Nat.beq pc 5 then some (.iadd, 1, 0, 0, 0) else none)) else (bif Nat.blt pc 7 then (bif Nat.beq pc 6 then some (.iconst 4, 1, 0, 0, 4) else none) else (bif Nat.beq pc 7 then some (.isub, 1, 0, 0, 0) else none)))) else (bif Nat.blt pc 14 then (bif Nat.blt pc 12 then (bif Nat.blt pc 11 then (bif Nat.beq pc 8 then some (.invokestatic 117, 3, 88, 2, 12) else none) else (bif Nat.beq pc 11 then some (.istore_n 3, 1, 0, 0, 0) else none)) else (bif Nat.blt pc 13 then (bif Nat.beq pc 12 then some (.iload_n 3, 1, 0, 0, 0) else none) else (bif Nat.beq pc 13 then some (.iload_n 1, 1, 0, 0, 0) else none))) else (bif Nat.blt pc 18 then (bif Nat.blt pc 17 then (bif Nat.beq pc 14 then some (.if_icmp .gt 23, 3, 37, 0, 0) else none) else (bif Nat.beq pc 17 then some (.iload_n 2, 1, 0, 0, 0) else none)) else (bif Nat.blt pc 20 then (bif Nat.beq pc 18 then some (.bipush 8, 2, 0, 0, 8) else none) else (bif Nat.beq pc 20 then some (.imul, 1, 0, 0, 0) else none))))) else (bif Nat.blt pc 37 then (bif Nat.blt pc 29 then (bif Nat.blt pc 25 then (bif Nat.blt pc 22 then (bif Nat.beq pc 21 then some (.aload_n 0, 1, 0, 0, 0) else none) else (bif Nat.beq pc 22 then some (.getfield 37, 3, 3, 1, 0) else none)) else (bif Nat.blt pc 26 then (bif Nat.beq pc 25 then some (.iload_n 3, 1, 0, 0, 0) else none) else (bif Nat.beq pc 26 then some (.invokevirtual 122, 3, 27, 2, 11) else none))) else (bif Nat.blt pc 31 then (bif Nat.blt pc 30 then (bif Nat.beq pc 29 then some (.iadd, 1, 0, 0, 0) else none) else (bif Nat.beq pc 30 then some (.istore_n 2, 1, 0, 0, 0) else none)) else (bif Nat.blt pc 34 then (bif Nat.beq pc 31 then some (.iinc 3 1, 3, 0, 0, 0) else none) else (bif Nat.beq pc 34 then some (.goto (-22), 3, 12, 0, 0) else none)))) else (bif Nat.blt pc 43 then (bif Nat.blt pc 41 then (bif Nat.blt pc 38 then (bif Nat.beq pc 37 then some (.aload_n 0, 1, 0, 0, 0) else none) else (bif Nat.beq pc 38 then some (.getfield 12, 3, 0, 1, 0) else none)) else (bif Nat.blt pc 42 then (bif Nat.beq pc 41 then some (.iload_n 2, 1, 0, 0, 0) else none) else (bif Nat.beq pc 42 then some (.iload_n 1, 1, 0, 0, 0) else none))) else (bif Nat.blt pc 45 then (bif Nat.blt pc 44 then (bif Nat.beq pc 43 then some (.iconst 1, 1, 0, 0, 1) else none) else (bif Nat.beq pc 44 then some (.iadd, 1, 0, 0, 0) else none)) else (bif Nat.blt pc 48 then (bif Nat.beq pc 45 then some (.invokevirtual 125, 3, 46, 3, 11) else none) else (bif Nat.beq pc 48 then some (.ireturn, 1, 0, 0, 0) else none)))))
/-- SlipWheel$Everything.firstLineEnd()I -/
def zc19 (pc : Nat) : Option zEn := bif Nat.blt pc 14 then (bif Nat.blt pc 4 then (bif Nat.blt pc 2 then (bif Nat.blt pc 1 then (bif Nat.beq pc 0 then some (.iconst 0, 1, 0, 0, 0) else none) else (bif Nat.beq pc 1 then some (.istore_n 1, 1, 0, 0, 0) else none)) else (bif Nat.blt pc 3 then (bif Nat.beq pc 2 then some (.iload_n 1, 1, 0, 0, 0) else none) else (bif Nat.beq pc 3 then some (.aload_n 0, 1, 0, 0, 0) else none))) else (bif Nat.blt pc 10 then (bif Nat.blt pc 7 then (bif Nat.beq pc 4 then some (.getfield 37, 3, 3, 1, 0) else none) else (bif Nat.beq pc 7 then some (.getfield 128, 3, 2, 2, 1) else none)) else (bif Nat.blt pc 13 then (bif Nat.beq pc 10 then some (.if_icmp .ge 19, 3, 29, 0, 0) else none) else (bif Nat.beq pc 13 then some (.aload_n 0, 1, 0, 0, 0) else none)))) else (bif Nat.blt pc 22 then (bif Nat.blt pc 18 then (bif Nat.blt pc 15 then (bif Nat.beq pc 14 then some (.iload_n 1, 1, 0, 0, 0) else none) else (bif Nat.beq pc 15 then some (.invokevirtual 131, 3, 18, 2, 10) else none)) else (bif Nat.blt pc 21 then (bif Nat.beq pc 18 then some (.ifCond .lt 5, 3, 23, 0, 0) else none) else (bif Nat.beq pc 21 then some (.iload_n 1, 1, 0, 0, 0) else none))) else (bif Nat.blt pc 26 then (bif Nat.blt pc 23 then (bif Nat.beq pc 22 then some (.ireturn, 1, 0, 0, 0) else none) else (bif Nat.beq pc 23 then some (.iinc 1 1, 3, 0, 0, 0) else none)) else (bif Nat.blt pc 29 then (bif Nat.beq pc 26 then some (.goto (-24), 3, 2, 0, 0) else none) else (bif Nat.blt pc 31 then (bif Nat.beq pc 29 then some (.bipush (-4), 2, 0, 0, -4) else none) else (bif Nat.beq pc 31 then some (.ireturn, 1, 0, 0, 0) else none)))))
/-- SlipWheel$Everything.preventers(I)I -/
def zc20 (pc : Nat) : Option zEn := bif Nat.blt pc 32 then (bif Nat.blt pc 16 then (bif Nat.blt pc 9 then (bif Nat.blt pc 4 then (bif Nat.blt pc 1 then (bif Nat.beq pc 0 then some (.aload_n 0, 1, 0, 0, 0) else none) else (bif Nat.beq pc 1 then some (.getfield 12, 3, 0, 1, 0) else none)) else (bif Nat.blt pc 5 then (bif Nat.beq pc 4 then some (.aload_n 0, 1, 0, 0, 0) else none) else (bif Nat.blt pc 6 then (bif Nat.beq pc 5 then some (.iload_n 1, 1, 0, 0, 0) else none) else (bif Nat.beq pc 6 then some (.invokevirtual 131, 3, 18, 2, 10) else none)))) else (bif Nat.blt pc 13 then (bif Nat.blt pc 12 then (bif Nat.beq pc 9 then some (.invokevirtual 134, 3, 47, 2, 11) else none) else (bif Nat.beq pc 12 then some (.istore_n 2, 1, 0, 0, 0) else none)) else (bif Nat.blt pc 14 then (bif Nat.beq pc 13 then some (.iconst 0, 1, 0, 0, 0) else none) else (bif Nat.blt pc 15 then (bif Nat.beq pc 14 then some (.istore_n 3, 1, 0, 0, 0) else none) else (bif Nat.beq pc 15 then some (.iload_n 1, 1, 0, 0, 0) else none))))) else (bif Nat.blt pc 22 then (bif Nat.blt pc 18 then (bif Nat.blt pc 17 then (bif Nat.beq pc 16 then some (.iconst 1, 1, 0, 0, 1) else none) else (bif Nat.beq pc 17 then some (.iadd, 1, 0, 0, 0) else none)) else (bif Nat.blt pc 19 then (bif Nat.beq pc 18 then some (.iload_n 2, 1, 0, 0, 0) else none) else (bif Nat.blt pc 20 then (bif Nat.beq pc 19 then some (.isub, 1, 0, 0, 0) else none) else (bif Nat.beq pc 20 then some (.istore 4, 2, 0, 0, 0) else none)))) else (bif Nat.blt pc 25 then (bif Nat.blt pc 24 then (bif Nat.beq pc 22 then some (.iload 4, 2, 0, 0, 0) else none) else (bif Nat.beq pc 24 then some (.iload_n 1, 1, 0, 0, 0) else none)) else (bif Nat.blt pc 28 then (bif Nat.beq pc 25 then some (.if_icmp .gt 43, 3, 68, 0, 0) else none) else (bif Nat.blt pc 29 then (bif Nat.beq pc 28 then some (.aload_n 0, 1, 0, 0, 0) else none) else (bif Nat.beq pc 29 then some (.getfield 37, 3, 3, 1, 0) else none)))))) else (bif Nat.blt pc 55 then (bif Nat.blt pc 44 then (bif Nat.blt pc 37 then (bif Nat.blt pc 34 then (bif Nat.beq pc 32 then some (.iload 4, 2, 0, 0, 0) else none) else (bif Nat.beq pc 34 then some (.invokevirtual 137, 3, 28, 2, 11) else none)) else (bif Nat.blt pc 39 then (bif Nat.beq pc 37 then some (.istore 5, 2, 0, 0, 0) else none) else (bif Nat.blt pc 41 then (bif Nat.beq pc 39 then some (.iload 5, 2, 0, 0, 0) else none) else (bif Nat.beq pc 41 then some (.ifCond .lt 21, 3, 62, 0, 0) else none)))) else (bif Nat.blt pc 47 then (bif Nat.blt pc 45 then (bif Nat.beq pc 44 then some (.aload_n 0, 1, 0, 0, 0) else none) else (bif Nat.beq pc 45 then some (.iload 5, 2, 0, 0, 0) else none)) else (bif Nat.blt pc 49 then (bif Nat.beq pc 47 then some (.iload 4, 2, 0, 0, 0) else none) else (bif Nat.blt pc 52 then (bif Nat.beq pc 49 then some (.invokevirtual 140, 3, 21, 3, 10) else none) else (bif Nat.beq pc 52 then some (.ifCond .eq 10, 3, 62, 0, 0) else none))))) else (bif Nat.blt pc 61 then (bif Nat.blt pc 57 then (bif Nat.blt pc 56 then (bif Nat.beq pc 55 then some (.iload_n 3, 1, 0, 0, 0) else none) else (bif Nat.beq pc 56 then some (.iconst 1, 1, 0, 0, 1) else none)) else (bif Nat.blt pc 59 then (bif Nat.beq pc 57 then some (.iload 5, 2, 0, 0, 0) else none) else (bif Nat.blt pc 60 then (bif Nat.beq pc 59 then some (.ishl, 1, 0, 0, 0) else none) else (bif Nat.beq pc 60 then some (.ior, 1, 0, 0, 0) else none)))) else (bif Nat.blt pc 65 then (bif Nat.blt pc 62 then (bif Nat.beq pc 61 then some (.istore_n 3, 1, 0, 0, 0) else none) else (bif Nat.beq pc 62 then some (.iinc 4 1, 3, 0, 0, 0) else none)) else (bif Nat.blt pc 68 then (bif Nat.beq pc 65 then some (.goto (-43), 3, 22, 0, 0) else none) else (bif Nat.blt pc 69 then (bif Nat.beq pc 68 then some (.iload_n 3, 1, 0, 0, 0) else none) else (bif Nat.beq pc 69 then some (.ireturn, 1, 0, 0, 0) else none))))))
/-- SlipWheel$Everything.couldHaveWrittenElse(II)Z -/
def zc21 (pc : Nat) : Option zEn := bif Nat.blt pc 17 then (bif Nat.blt pc 9 then (bif Nat.blt pc 2 then (bif Nat.blt pc 1 then (bif Nat.beq pc 0 then some (.iconst 1, 1, 0, 0, 1) else none) else (bif Nat.beq pc 1 then some (.aload_n 0, 1, 0, 0, 0) else none)) else (bif Nat.blt pc 5 then (bif Nat.beq pc 2 then some (.getfield 37, 3, 3, 1, 0) else none) else (bif Nat.blt pc 6 then (bif Nat.beq pc 5 then some (.iload_n 2, 1, 0, 0, 0) else none) else (bif Nat.beq pc 6 then some (.invokevirtual 122, 3, 27, 2, 11) else none)))) else (bif Nat.blt pc 12 then (bif Nat.blt pc 10 then (bif Nat.beq pc 9 then some (.ishl, 1, 0, 0, 0) else none) else (bif Nat.blt pc 11 then (bif Nat.beq pc 10 then some (.istore_n 3, 1, 0, 0, 0) else none) else (bif Nat.beq pc 11 then some (.aload_n 0, 1, 0, 0, 0) else none))) else (bif Nat.blt pc 13 then (bif Nat.beq pc 12 then some (.iload_n 1, 1, 0, 0, 0) else none) else (bif Nat.blt pc 14 then (bif Nat.beq pc 13 then some (.aload_n 0, 1, 0, 0, 0) else none) else (bif Nat.beq pc 14 then some (.getfield 37, 3, 3, 1, 0) else none))))) else (bif Nat.blt pc 27 then (bif Nat.blt pc 24 then (bif Nat.blt pc 18 then (bif Nat.beq pc 17 then some (.iload_n 2, 1, 0, 0, 0) else none) else (bif Nat.blt pc 21 then (bif Nat.beq pc 18 then some (.invokevirtual 143, 3, 32, 2, 11) else none) else (bif Nat.beq pc 21 then some (.invokevirtual 68, 3, 14, 3, 10) else none))) else (bif Nat.blt pc 25 then (bif Nat.beq pc 24 then some (.iload_n 3, 1, 0, 0, 0) else none) else (bif Nat.blt pc 26 then (bif Nat.beq pc 25 then some (.iconst (-1), 1, 0, 0, -1) else none) else (bif Nat.beq pc 26 then some (.ixor, 1, 0, 0, 0) else none)))) else (bif Nat.blt pc 32 then (bif Nat.blt pc 28 then (bif Nat.beq pc 27 then some (.iand, 1, 0, 0, 0) else none) else (bif Nat.blt pc 31 then (bif Nat.beq pc 28 then some (.ifCond .eq 7, 3, 35, 0, 0) else none) else (bif Nat.beq pc 31 then some (.iconst 1, 1, 0, 0, 1) else none))) else (bif Nat.blt pc 35 then (bif Nat.beq pc 32 then some (.goto 4, 3, 36, 0, 0) else none) else (bif Nat.blt pc 36 then (bif Nat.beq pc 35 then some (.iconst 0, 1, 0, 0, 0) else none) else (bif Nat.beq pc 36 then some (.ireturn, 1, 0, 0, 1) else none)))))
/-- SlipWheel$Pages.<init>()V -/
def zc22 (pc : Nat) : Option zEn := bif Nat.blt pc 9 then (bif Nat.blt pc 4 then (bif Nat.blt pc 1 then (bif Nat.beq pc 0 then some (.aload_n 0, 1, 0, 0, 0) else none) else (bif Nat.beq pc 1 then some (.invokespecial 3, 3, 0, 1, 6) else none)) else (bif Nat.blt pc 5 then (bif Nat.beq pc 4 then some (.aload_n 0, 1, 0, 0, 0) else none) else (bif Nat.blt pc 7 then (bif Nat.beq pc 5 then some (.bipush 60, 2, 0, 0, 60) else none) else (bif Nat.beq pc 7 then some (.newarray .int, 2, 0, 0, 0) else none)))) else (bif Nat.blt pc 15 then (bif Nat.blt pc 12 then (bif Nat.beq pc 9 then some (.putfield 9, 3, 0, 2, 0) else none) else (bif Nat.blt pc 13 then (bif Nat.beq pc 12 then some (.aload_n 0, 1, 0, 0, 0) else none) else (bif Nat.beq pc 13 then some (.bipush 60, 2, 0, 0, 60) else none))) else (bif Nat.blt pc 17 then (bif Nat.beq pc 15 then some (.newarray .int, 2, 0, 0, 0) else none) else (bif Nat.blt pc 20 then (bif Nat.beq pc 17 then some (.putfield 15, 3, 1, 2, 0) else none) else (bif Nat.beq pc 20 then some (.return_, 1, 0, 0, 0) else none))))
/-- SlipWheel$Pages.copyFrom(LSlipWheel$Pages;)V -/
def zc23 (pc : Nat) : Option zEn := bif Nat.blt pc 19 then (bif Nat.blt pc 9 then (bif Nat.blt pc 4 then (bif Nat.blt pc 1 then (bif Nat.beq pc 0 then some (.aload_n 1, 1, 0, 0, 0) else none) else (bif Nat.beq pc 1 then some (.getfield 9, 3, 0, 2, 0) else none)) else (bif Nat.blt pc 5 then (bif Nat.beq pc 4 then some (.iconst 0, 1, 0, 0, 0) else none) else (bif Nat.blt pc 6 then (bif Nat.beq pc 5 then some (.aload_n 0, 1, 0, 0, 0) else none) else (bif Nat.beq pc 6 then some (.getfield 9, 3, 0, 2, 0) else none)))) else (bif Nat.blt pc 12 then (bif Nat.blt pc 10 then (bif Nat.beq pc 9 then some (.iconst 0, 1, 0, 0, 0) else none) else (bif Nat.beq pc 10 then some (.bipush 60, 2, 0, 0, 60) else none)) else (bif Nat.blt pc 15 then (bif Nat.beq pc 12 then some (.invokestatic 18, 3, 0, 5, 7) else none) else (bif Nat.blt pc 16 then (bif Nat.beq pc 15 then some (.aload_n 1, 1, 0, 0, 0) else none) else (bif Nat.beq pc 16 then some (.getfield 15, 3, 1, 2, 0) else none))))) else (bif Nat.blt pc 27 then (bif Nat.blt pc 21 then (bif Nat.blt pc 20 then (bif Nat.beq pc 19 then some (.iconst 0, 1, 0, 0, 0) else none) else (bif Nat.beq pc 20 then some (.aload_n 0, 1, 0, 0, 0) else none)) else (bif Nat.blt pc 24 then (bif Nat.beq pc 21 then some (.getfield 15, 3, 1, 2, 0) else none) else (bif Nat.blt pc 25 then (bif Nat.beq pc 24 then some (.iconst 0, 1, 0, 0, 0) else none) else (bif Nat.beq pc 25 then some (.bipush 60, 2, 0, 0, 60) else none)))) else (bif Nat.blt pc 32 then (bif Nat.blt pc 30 then (bif Nat.beq pc 27 then some (.invokestatic 18, 3, 0, 5, 7) else none) else (bif Nat.blt pc 31 then (bif Nat.beq pc 30 then some (.aload_n 0, 1, 0, 0, 0) else none) else (bif Nat.beq pc 31 then some (.aload_n 1, 1, 0, 0, 0) else none))) else (bif Nat.blt pc 35 then (bif Nat.beq pc 32 then some (.getfield 24, 3, 2, 2, 0) else none) else (bif Nat.blt pc 38 then (bif Nat.beq pc 35 then some (.putfield 24, 3, 2, 2, 0) else none) else (bif Nat.beq pc 38 then some (.return_, 1, 0, 0, 0) else none)))))
/-- SlipWheel$Pages.isFull()Z -/
def zc24 (pc : Nat) : Option zEn := bif Nat.blt pc 9 then (bif Nat.blt pc 4 then (bif Nat.blt pc 1 then (bif Nat.beq pc 0 then some (.aload_n 0, 1, 0, 0, 0) else none) else (bif Nat.beq pc 1 then some (.getfield 24, 3, 2, 2, 0) else none)) else (bif Nat.blt pc 6 then (bif Nat.beq pc 4 then some (.bipush 60, 2, 0, 0, 60) else none) else (bif Nat.beq pc 6 then some (.if_icmp .lt 7, 3, 13, 0, 0) else none))) else (bif Nat.blt pc 13 then (bif Nat.blt pc 10 then (bif Nat.beq pc 9 then some (.iconst 1, 1, 0, 0, 1) else none) else (bif Nat.beq pc 10 then some (.goto 4, 3, 14, 0, 0) else none)) else (bif Nat.blt pc 14 then (bif Nat.beq pc 13 then some (.iconst 0, 1, 0, 0, 0) else none) else (bif Nat.beq pc 14 then some (.ireturn, 1, 0, 0, 1) else none)))
/-- SlipWheel$Pages.has(I)Z -/
def zc25 (pc : Nat) : Option zEn := bif Nat.blt pc 12 then (bif Nat.blt pc 5 then (bif Nat.blt pc 1 then (bif Nat.beq pc 0 then some (.iload_n 1, 1, 0, 0, 0) else none) else (bif Nat.blt pc 4 then (bif Nat.beq pc 1 then some (.ifCond .lt 21, 3, 22, 0, 0) else none) else (bif Nat.beq pc 4 then some (.iload_n 1, 1, 0, 0, 0) else none))) else (bif Nat.blt pc 6 then (bif Nat.beq pc 5 then some (.aload_n 0, 1, 0, 0, 0) else none) else (bif Nat.blt pc 9 then (bif Nat.beq pc 6 then some (.getfield 24, 3, 2, 2, 0) else none) else (bif Nat.beq pc 9 then some (.if_icmp .ge 13, 3, 22, 0, 0) else none)))) else (bif Nat.blt pc 18 then (bif Nat.blt pc 13 then (bif Nat.beq pc 12 then some (.iload_n 1, 1, 0, 0, 0) else none) else (bif Nat.blt pc 15 then (bif Nat.beq pc 13 then some (.bipush 60, 2, 0, 0, 60) else none) else (bif Nat.beq pc 15 then some (.if_icmp .ge 7, 3, 22, 0, 0) else none))) else (bif Nat.blt pc 22 then (bif Nat.blt pc 19 then (bif Nat.beq pc 18 then some (.iconst 1, 1, 0, 0, 1) else none) else (bif Nat.beq pc 19 then some (.goto 4, 3, 23, 0, 0) else none)) else (bif Nat.blt pc 23 then (bif Nat.beq pc 22 then some (.iconst 0, 1, 0, 0, 0) else none) else (bif Nat.beq pc 23 then some (.ireturn, 1, 0, 0, 1) else none))))
/-- SlipWheel$Pages.append(II)V -/
def zc26 (pc : Nat) : Option zEn := bif Nat.blt pc 26 then (bif Nat.blt pc 13 then (bif Nat.blt pc 7 then (bif Nat.blt pc 1 then (bif Nat.beq pc 0 then some (.aload_n 0, 1, 0, 0, 0) else none) else (bif Nat.blt pc 4 then (bif Nat.beq pc 1 then some (.getfield 24, 3, 2, 2, 0) else none) else (bif Nat.beq pc 4 then some (.ifCond .lt 42, 3, 46, 0, 0) else none))) else (bif Nat.blt pc 8 then (bif Nat.beq pc 7 then some (.aload_n 0, 1, 0, 0, 0) else none) else (bif Nat.blt pc 11 then (bif Nat.beq pc 8 then some (.getfield 24, 3, 2, 2, 0) else none) else (bif Nat.beq pc 11 then some (.bipush 60, 2, 0, 0, 60) else none)))) else (bif Nat.blt pc 20 then (bif Nat.blt pc 16 then (bif Nat.beq pc 13 then some (.if_icmp .ge 33, 3, 46, 0, 0) else none) else (bif Nat.blt pc 17 then (bif Nat.beq pc 16 then some (.aload_n 0, 1, 0, 0, 0) else none) else (bif Nat.beq pc 17 then some (.getfield 9, 3, 0, 2, 0) else none))) else (bif Nat.blt pc 24 then (bif Nat.blt pc 21 then (bif Nat.beq pc 20 then some (.aload_n 0, 1, 0, 0, 0) else none) else (bif Nat.beq pc 21 then some (.getfield 24, 3, 2, 2, 0) else none)) else (bif Nat.blt pc 25 then (bif Nat.beq pc 24 then some (.iload_n 1, 1, 0, 0, 0) else none) else (bif Nat.beq pc 25 then some (.iastore, 1, 0, 0, 0) else none))))) else (bif Nat.blt pc 36 then (bif Nat.blt pc 31 then (bif Nat.blt pc 27 then (bif Nat.beq pc 26 then some (.aload_n 0, 1, 0, 0, 0) else none) else (bif Nat.blt pc 30 then (bif Nat.beq pc 27 then some (.getfield 15, 3, 1, 2, 0) else none) else (bif Nat.beq pc 30 then some (.aload_n 0, 1, 0, 0, 0) else none))) else (bif Nat.blt pc 34 then (bif Nat.beq pc 31 then some (.getfield 24, 3, 2, 2, 0) else none) else (bif Nat.blt pc 35 then (bif Nat.beq pc 34 then some (.iload_n 2, 1, 0, 0, 0) else none) else (bif Nat.beq pc 35 then some (.iastore, 1, 0, 0, 0) else none)))) else (bif Nat.blt pc 41 then (bif Nat.blt pc 37 then (bif Nat.beq pc 36 then some (.aload_n 0, 1, 0, 0, 0) else none) else (bif Nat.blt pc 38 then (bif Nat.beq pc 37 then some (.dup, 1, 0, 0, 0) else none) else (bif Nat.beq pc 38 then some (.getfield 24, 3, 2, 2, 0) else none))) else (bif Nat.blt pc 43 then (bif Nat.blt pc 42 then (bif Nat.beq pc 41 then some (.iconst 1, 1, 0, 0, 1) else none) else (bif Nat.beq pc 42 then some (.iadd, 1, 0, 0, 0) else none)) else (bif Nat.blt pc 46 then (bif Nat.beq pc 43 then some (.putfield 24, 3, 2, 2, 0) else none) else (bif Nat.beq pc 46 then some (.return_, 1, 0, 0, 0) else none)))))
/-- SlipWheel$Pages.wordAt(I)I -/
def zc27 (pc : Nat) : Option zEn := bif Nat.blt pc 9 then (bif Nat.blt pc 2 then (bif Nat.blt pc 1 then (bif Nat.beq pc 0 then some (.aload_n 0, 1, 0, 0, 0) else none) else (bif Nat.beq pc 1 then some (.iload_n 1, 1, 0, 0, 0) else none)) else (bif Nat.blt pc 5 then (bif Nat.beq pc 2 then some (.invokevirtual 28, 3, 25, 2, 10) else none) else (bif Nat.blt pc 8 then (bif Nat.beq pc 5 then some (.ifCond .eq 12, 3, 17, 0, 0) else none) else (bif Nat.beq pc 8 then some (.aload_n 0, 1, 0, 0, 0) else none)))) else (bif Nat.blt pc 14 then (bif Nat.blt pc 12 then (bif Nat.beq pc 9 then some (.getfield 9, 3, 0, 2, 0) else none) else (bif Nat.blt pc 13 then (bif Nat.beq pc 12 then some (.iload_n 1, 1, 0, 0, 0) else none) else (bif Nat.beq pc 13 then some (.iaload, 1, 0, 0, 0) else none))) else (bif Nat.blt pc 17 then (bif Nat.beq pc 14 then some (.goto 5, 3, 19, 0, 0) else none) else (bif Nat.blt pc 19 then (bif Nat.beq pc 17 then some (.bipush (-4), 2, 0, 0, -4) else none) else (bif Nat.beq pc 19 then some (.ireturn, 1, 0, 0, 0) else none))))
/-- SlipWheel$Pages.writerAt(I)I -/
def zc28 (pc : Nat) : Option zEn := bif Nat.blt pc 9 then (bif Nat.blt pc 2 then (bif Nat.blt pc 1 then (bif Nat.beq pc 0 then some (.aload_n 0, 1, 0, 0, 0) else none) else (bif Nat.beq pc 1 then some (.iload_n 1, 1, 0, 0, 0) else none)) else (bif Nat.blt pc 5 then (bif Nat.beq pc 2 then some (.invokevirtual 28, 3, 25, 2, 10) else none) else (bif Nat.blt pc 8 then (bif Nat.beq pc 5 then some (.ifCond .eq 12, 3, 17, 0, 0) else none) else (bif Nat.beq pc 8 then some (.aload_n 0, 1, 0, 0, 0) else none)))) else (bif Nat.blt pc 14 then (bif Nat.blt pc 12 then (bif Nat.beq pc 9 then some (.getfield 15, 3, 1, 2, 0) else none) else (bif Nat.blt pc 13 then (bif Nat.beq pc 12 then some (.iload_n 1, 1, 0, 0, 0) else none) else (bif Nat.beq pc 13 then some (.iaload, 1, 0, 0, 0) else none))) else (bif Nat.blt pc 17 then (bif Nat.beq pc 14 then some (.goto 5, 3, 19, 0, 0) else none) else (bif Nat.blt pc 19 then (bif Nat.beq pc 17 then some (.bipush (-4), 2, 0, 0, -4) else none) else (bif Nat.beq pc 19 then some (.ireturn, 1, 0, 0, 0) else none))))
/-- SlipWheel$Pages.known()I -/
def zc29 (pc : Nat) : Option zEn := bif Nat.blt pc 12 then (bif Nat.blt pc 4 then (bif Nat.blt pc 2 then (bif Nat.blt pc 1 then (bif Nat.beq pc 0 then some (.iconst 0, 1, 0, 0, 0) else none) else (bif Nat.beq pc 1 then some (.istore_n 1, 1, 0, 0, 0) else none)) else (bif Nat.blt pc 3 then (bif Nat.beq pc 2 then some (.iconst 0, 1, 0, 0, 0) else none) else (bif Nat.beq pc 3 then some (.istore_n 2, 1, 0, 0, 0) else none))) else (bif Nat.blt pc 6 then (bif Nat.blt pc 5 then (bif Nat.beq pc 4 then some (.iload_n 2, 1, 0, 0, 0) else none) else (bif Nat.beq pc 5 then some (.aload_n 0, 1, 0, 0, 0) else none)) else (bif Nat.blt pc 9 then (bif Nat.beq pc 6 then some (.getfield 24, 3, 2, 2, 0) else none) else (bif Nat.beq pc 9 then some (.if_icmp .ge 20, 3, 29, 0, 0) else none)))) else (bif Nat.blt pc 20 then (bif Nat.blt pc 14 then (bif Nat.blt pc 13 then (bif Nat.beq pc 12 then some (.aload_n 0, 1, 0, 0, 0) else none) else (bif Nat.beq pc 13 then some (.iload_n 2, 1, 0, 0, 0) else none)) else (bif Nat.blt pc 17 then (bif Nat.beq pc 14 then some (.invokevirtual 32, 3, 28, 2, 10) else none) else (bif Nat.beq pc 17 then some (.ifCond .lt 6, 3, 23, 0, 0) else none))) else (bif Nat.blt pc 26 then (bif Nat.blt pc 23 then (bif Nat.beq pc 20 then some (.iinc 1 1, 3, 0, 0, 0) else none) else (bif Nat.beq pc 23 then some (.iinc 2 1, 3, 0, 0, 0) else none)) else (bif Nat.blt pc 29 then (bif Nat.beq pc 26 then some (.goto (-22), 3, 4, 0, 0) else none) else (bif Nat.blt pc 30 then (bif Nat.beq pc 29 then some (.iload_n 1, 1, 0, 0, 0) else none) else (bif Nat.beq pc 30 then some (.ireturn, 1, 0, 0, 0) else none)))))
/-- SlipWheel$Pages.habitOf(II)I -/
def zc30 (pc : Nat) : Option zEn := bif Nat.blt pc 20 then (bif Nat.blt pc 7 then (bif Nat.blt pc 2 then (bif Nat.blt pc 1 then (bif Nat.beq pc 0 then some (.iconst 0, 1, 0, 0, 0) else none) else (bif Nat.beq pc 1 then some (.istore_n 3, 1, 0, 0, 0) else none)) else (bif Nat.blt pc 3 then (bif Nat.beq pc 2 then some (.iconst 0, 1, 0, 0, 0) else none) else (bif Nat.blt pc 5 then (bif Nat.beq pc 3 then some (.istore 4, 2, 0, 0, 0) else none) else (bif Nat.beq pc 5 then some (.iload 4, 2, 0, 0, 0) else none)))) else (bif Nat.blt pc 14 then (bif Nat.blt pc 8 then (bif Nat.beq pc 7 then some (.aload_n 0, 1, 0, 0, 0) else none) else (bif Nat.blt pc 11 then (bif Nat.beq pc 8 then some (.getfield 24, 3, 2, 2, 0) else none) else (bif Nat.beq pc 11 then some (.if_icmp .ge 32, 3, 43, 0, 0) else none))) else (bif Nat.blt pc 15 then (bif Nat.beq pc 14 then some (.aload_n 0, 1, 0, 0, 0) else none) else (bif Nat.blt pc 17 then (bif Nat.beq pc 15 then some (.iload 4, 2, 0, 0, 0) else none) else (bif Nat.beq pc 17 then some (.invokevirtual 32, 3, 28, 2, 10) else none))))) else (bif Nat.blt pc 31 then (bif Nat.blt pc 25 then (bif Nat.blt pc 21 then (bif Nat.beq pc 20 then some (.iload_n 1, 1, 0, 0, 0) else none) else (bif Nat.blt pc 24 then (bif Nat.beq pc 21 then some (.if_icmp .ne 16, 3, 37, 0, 0) else none) else (bif Nat.beq pc 24 then some (.aload_n 0, 1, 0, 0, 0) else none))) else (bif Nat.blt pc 27 then (bif Nat.beq pc 25 then some (.iload 4, 2, 0, 0, 0) else none) else (bif Nat.blt pc 30 then (bif Nat.beq pc 27 then some (.invokevirtual 36, 3, 27, 2, 10) else none) else (bif Nat.beq pc 30 then some (.iload_n 2, 1, 0, 0, 0) else none)))) else (bif Nat.blt pc 40 then (bif Nat.blt pc 34 then (bif Nat.beq pc 31 then some (.if_icmp .ne 6, 3, 37, 0, 0) else none) else (bif Nat.blt pc 37 then (bif Nat.beq pc 34 then some (.iinc 3 1, 3, 0, 0, 0) else none) else (bif Nat.beq pc 37 then some (.iinc 4 1, 3, 0, 0, 0) else none))) else (bif Nat.blt pc 43 then (bif Nat.beq pc 40 then some (.goto (-35), 3, 5, 0, 0) else none) else (bif Nat.blt pc 44 then (bif Nat.beq pc 43 then some (.iload_n 3, 1, 0, 0, 0) else none) else (bif Nat.beq pc 44 then some (.ireturn, 1, 0, 0, 0) else none)))))
/-- SlipWheel$Pages.slip()I -/
def zc31 (pc : Nat) : Option zEn := bif Nat.blt pc 2 then (bif Nat.blt pc 1 then (bif Nat.beq pc 0 then some (.aload_n 0, 1, 0, 0, 0) else none) else (bif Nat.beq pc 1 then some (.aload_n 0, 1, 0, 0, 0) else none)) else (bif Nat.blt pc 5 then (bif Nat.beq pc 2 then some (.getfield 24, 3, 2, 2, 0) else none) else (bif Nat.blt pc 8 then (bif Nat.beq pc 5 then some (.invokevirtual 39, 3, 32, 2, 10) else none) else (bif Nat.beq pc 8 then some (.ireturn, 1, 0, 0, 0) else none)))
/-- SlipWheel$Pages.slipAheadOf(I)I -/
def zc32 (pc : Nat) : Option zEn := bif Nat.blt pc 12 then (bif Nat.blt pc 5 then (bif Nat.blt pc 2 then (bif Nat.blt pc 1 then (bif Nat.beq pc 0 then some (.iconst 1, 1, 0, 0, 1) else none) else (bif Nat.beq pc 1 then some (.istore_n 2, 1, 0, 0, 0) else none)) else (bif Nat.blt pc 3 then (bif Nat.beq pc 2 then some (.iconst 0, 1, 0, 0, 0) else none) else (bif Nat.blt pc 4 then (bif Nat.beq pc 3 then some (.iload_n 1, 1, 0, 0, 0) else none) else (bif Nat.beq pc 4 then some (.iconst 3, 1, 0, 0, 3) else none)))) else (bif Nat.blt pc 9 then (bif Nat.blt pc 6 then (bif Nat.beq pc 5 then some (.isub, 1, 0, 0, 0) else none) else (bif Nat.beq pc 6 then some (.invokestatic 42, 3, 88, 2, 12) else none)) else (bif Nat.blt pc 10 then (bif Nat.beq pc 9 then some (.istore_n 3, 1, 0, 0, 0) else none) else (bif Nat.blt pc 11 then (bif Nat.beq pc 10 then some (.iload_n 3, 1, 0, 0, 0) else none) else (bif Nat.beq pc 11 then some (.iload_n 1, 1, 0, 0, 0) else none))))) else (bif Nat.blt pc 21 then (bif Nat.blt pc 16 then (bif Nat.blt pc 15 then (bif Nat.beq pc 12 then some (.if_icmp .ge 19, 3, 31, 0, 0) else none) else (bif Nat.beq pc 15 then some (.iload_n 2, 1, 0, 0, 0) else none)) else (bif Nat.blt pc 17 then (bif Nat.beq pc 16 then some (.aload_n 0, 1, 0, 0, 0) else none) else (bif Nat.blt pc 18 then (bif Nat.beq pc 17 then some (.iload_n 3, 1, 0, 0, 0) else none) else (bif Nat.beq pc 18 then some (.invokevirtual 36, 3, 27, 2, 10) else none)))) else (bif Nat.blt pc 28 then (bif Nat.blt pc 24 then (bif Nat.beq pc 21 then some (.invokestatic 48, 3, 83, 2, 13) else none) else (bif Nat.blt pc 25 then (bif Nat.beq pc 24 then some (.istore_n 2, 1, 0, 0, 0) else none) else (bif Nat.beq pc 25 then some (.iinc 3 1, 3, 0, 0, 0) else none))) else (bif Nat.blt pc 31 then (bif Nat.beq pc 28 then some (.goto (-18), 3, 10, 0, 0) else none) else (bif Nat.blt pc 32 then (bif Nat.beq pc 31 then some (.iload_n 2, 1, 0, 0, 0) else none) else (bif Nat.beq pc 32 then some (.ireturn, 1, 0, 0, 0) else none)))))
/-- SlipWheel$Search.<init>()V -/
def zc33 (pc : Nat) : Option zEn := bif Nat.blt pc 10 then (bif Nat.blt pc 4 then (bif Nat.blt pc 1 then (bif Nat.beq pc 0 then some (.aload_n 0, 1, 0, 0, 0) else none) else (bif Nat.beq pc 1 then some (.invokespecial 3, 3, 0, 1, 6) else none)) else (bif Nat.blt pc 5 then (bif Nat.beq pc 4 then some (.aload_n 0, 1, 0, 0, 0) else none) else (bif Nat.blt pc 8 then (bif Nat.beq pc 5 then some (.sipush 3510, 3, 0, 0, 3510) else none) else (bif Nat.beq pc 8 then some (.newarray .int, 2, 0, 0, 0) else none)))) else (bif Nat.blt pc 17 then (bif Nat.blt pc 13 then (bif Nat.beq pc 10 then some (.putfield 9, 3, 0, 3, 0) else none) else (bif Nat.blt pc 14 then (bif Nat.beq pc 13 then some (.aload_n 0, 1, 0, 0, 0) else none) else (bif Nat.beq pc 14 then some (.sipush 1024, 3, 0, 0, 1024) else none))) else (bif Nat.blt pc 19 then (bif Nat.beq pc 17 then some (.newarray .byte, 2, 0, 0, 0) else none) else (bif Nat.blt pc 22 then (bif Nat.beq pc 19 then some (.putfield 15, 3, 1, 3, 0) else none) else (bif Nat.beq pc 22 then some (.return_, 1, 0, 0, 0) else none))))
/-- SlipWheel$Search.fewestTurns(LSlipWheel$Everything;II)I -/
def zc34 (pc : Nat) : Option zEn := bif Nat.blt pc 76 then (bif Nat.blt pc 36 then (bif Nat.blt pc 18 then (bif Nat.blt pc 9 then (bif Nat.blt pc 4 then (bif Nat.blt pc 1 then (bif Nat.beq pc 0 then some (.aload_n 1, 1, 0, 0, 0) else none) else (bif Nat.beq pc 1 then some (.getfield 19, 3, 2, 1, 1) else none)) else (bif Nat.blt pc 7 then (bif Nat.beq pc 4 then some (.invokevirtual 25, 3, 54, 1, 11) else none) else (bif Nat.beq pc 7 then some (.istore 4, 2, 0, 0, 0) else none))) else (bif Nat.blt pc 14 then (bif Nat.blt pc 11 then (bif Nat.beq pc 9 then some (.iload 4, 2, 0, 0, 0) else none) else (bif Nat.beq pc 11 then some (.ifCond .ge 6, 3, 17, 0, 0) else none)) else (bif Nat.blt pc 16 then (bif Nat.beq pc 14 then some (.bipush (-4), 2, 0, 0, -4) else none) else (bif Nat.blt pc 17 then (bif Nat.beq pc 16 then some (.ireturn, 1, 0, 0, 0) else none) else (bif Nat.beq pc 17 then some (.aload_n 0, 1, 0, 0, 0) else none))))) else (bif Nat.blt pc 27 then (bif Nat.blt pc 22 then (bif Nat.blt pc 19 then (bif Nat.beq pc 18 then some (.iconst 0, 1, 0, 0, 0) else none) else (bif Nat.beq pc 19 then some (.putfield 31, 3, 2, 3, 0) else none)) else (bif Nat.blt pc 23 then (bif Nat.beq pc 22 then some (.iconst 0, 1, 0, 0, 0) else none) else (bif Nat.blt pc 25 then (bif Nat.beq pc 23 then some (.istore 5, 2, 0, 0, 0) else none) else (bif Nat.beq pc 25 then some (.iload 5, 2, 0, 0, 0) else none)))) else (bif Nat.blt pc 31 then (bif Nat.blt pc 28 then (bif Nat.beq pc 27 then some (.aload_n 0, 1, 0, 0, 0) else none) else (bif Nat.beq pc 28 then some (.getfield 15, 3, 1, 3, 0) else none)) else (bif Nat.blt pc 32 then (bif Nat.beq pc 31 then some (.arraylength, 1, 0, 0, 0) else none) else (bif Nat.blt pc 35 then (bif Nat.beq pc 32 then some (.if_icmp .ge 17, 3, 49, 0, 0) else none) else (bif Nat.beq pc 35 then some (.aload_n 0, 1, 0, 0, 0) else none)))))) else (bif Nat.blt pc 57 then (bif Nat.blt pc 46 then (bif Nat.blt pc 41 then (bif Nat.blt pc 39 then (bif Nat.beq pc 36 then some (.getfield 15, 3, 1, 3, 0) else none) else (bif Nat.beq pc 39 then some (.iload 5, 2, 0, 0, 0) else none)) else (bif Nat.blt pc 42 then (bif Nat.beq pc 41 then some (.iconst 0, 1, 0, 0, 0) else none) else (bif Nat.blt pc 43 then (bif Nat.beq pc 42 then some (.bastore, 1, 0, 0, 0) else none) else (bif Nat.beq pc 43 then some (.iinc 5 1, 3, 0, 0, 0) else none)))) else (bif Nat.blt pc 50 then (bif Nat.blt pc 49 then (bif Nat.beq pc 46 then some (.goto (-21), 3, 25, 0, 0) else none) else (bif Nat.beq pc 49 then some (.aload_n 0, 1, 0, 0, 0) else none)) else (bif Nat.blt pc 51 then (bif Nat.beq pc 50 then some (.aload_n 1, 1, 0, 0, 0) else none) else (bif Nat.blt pc 54 then (bif Nat.beq pc 51 then some (.getfield 35, 3, 3, 1, 1) else none) else (bif Nat.beq pc 54 then some (.invokevirtual 39, 3, 31, 1, 11) else none))))) else (bif Nat.blt pc 66 then (bif Nat.blt pc 62 then (bif Nat.blt pc 59 then (bif Nat.beq pc 57 then some (.iload 4, 2, 0, 0, 0) else none) else (bif Nat.beq pc 59 then some (.invokevirtual 44, 3, 38, 3, 0) else none)) else (bif Nat.blt pc 63 then (bif Nat.beq pc 62 then some (.iconst 0, 1, 0, 0, 0) else none) else (bif Nat.blt pc 65 then (bif Nat.beq pc 63 then some (.istore 5, 2, 0, 0, 0) else none) else (bif Nat.beq pc 65 then some (.iconst 0, 1, 0, 0, 0) else none)))) else (bif Nat.blt pc 70 then (bif Nat.blt pc 68 then (bif Nat.beq pc 66 then some (.istore 6, 2, 0, 0, 0) else none) else (bif Nat.beq pc 68 then some (.iload 6, 2, 0, 0, 0) else none)) else (bif Nat.blt pc 72 then (bif Nat.beq pc 70 then some (.bipush 30, 2, 0, 0, 30) else none) else (bif Nat.blt pc 75 then (bif Nat.beq pc 72 then some (.if_icmp .gt 83, 3, 155, 0, 0) else none) else (bif Nat.beq pc 75 then some (.aload_n 0, 1, 0, 0, 0) else none))))))) else (bif Nat.blt pc 115 then (bif Nat.blt pc 95 then (bif Nat.blt pc 85 then (bif Nat.blt pc 81 then (bif Nat.blt pc 79 then (bif Nat.beq pc 76 then some (.getfield 31, 3, 2, 3, 0) else none) else (bif Nat.beq pc 79 then some (.istore 7, 2, 0, 0, 0) else none)) else (bif Nat.blt pc 82 then (bif Nat.beq pc 81 then some (.aload_n 0, 1, 0, 0, 0) else none) else (bif Nat.blt pc 83 then (bif Nat.beq pc 82 then some (.aload_n 1, 1, 0, 0, 0) else none) else (bif Nat.beq pc 83 then some (.iload 5, 2, 0, 0, 0) else none)))) else (bif Nat.blt pc 88 then (bif Nat.blt pc 87 then (bif Nat.beq pc 85 then some (.iload 7, 2, 0, 0, 0) else none) else (bif Nat.beq pc 87 then some (.iload_n 2, 1, 0, 0, 0) else none)) else (bif Nat.blt pc 89 then (bif Nat.beq pc 88 then some (.iload_n 3, 1, 0, 0, 0) else none) else (bif Nat.blt pc 92 then (bif Nat.beq pc 89 then some (.invokevirtual 48, 3, 35, 6, 10) else none) else (bif Nat.beq pc 92 then some (.ifCond .eq 6, 3, 98, 0, 0) else none))))) else (bif Nat.blt pc 104 then (bif Nat.blt pc 98 then (bif Nat.blt pc 97 then (bif Nat.beq pc 95 then some (.iload 6, 2, 0, 0, 0) else none) else (bif Nat.beq pc 97 then some (.ireturn, 1, 0, 0, 0) else none)) else (bif Nat.blt pc 99 then (bif Nat.beq pc 98 then some (.aload_n 1, 1, 0, 0, 0) else none) else (bif Nat.blt pc 102 then (bif Nat.beq pc 99 then some (.getfield 19, 3, 2, 1, 1) else none) else (bif Nat.beq pc 102 then some (.iload 4, 2, 0, 0, 0) else none)))) else (bif Nat.blt pc 109 then (bif Nat.blt pc 107 then (bif Nat.beq pc 104 then some (.invokevirtual 52, 3, 55, 2, 11) else none) else (bif Nat.beq pc 107 then some (.istore 8, 2, 0, 0, 0) else none)) else (bif Nat.blt pc 111 then (bif Nat.beq pc 109 then some (.iload 5, 2, 0, 0, 0) else none) else (bif Nat.blt pc 113 then (bif Nat.beq pc 111 then some (.istore 9, 2, 0, 0, 0) else none) else (bif Nat.beq pc 113 then some (.iload 9, 2, 0, 0, 0) else none)))))) else (bif Nat.blt pc 135 then (bif Nat.blt pc 123 then (bif Nat.blt pc 120 then (bif Nat.blt pc 117 then (bif Nat.beq pc 115 then some (.iload 7, 2, 0, 0, 0) else none) else (bif Nat.beq pc 117 then some (.if_icmp .ge 24, 3, 141, 0, 0) else none)) else (bif Nat.blt pc 121 then (bif Nat.beq pc 120 then some (.aload_n 0, 1, 0, 0, 0) else none) else (bif Nat.blt pc 122 then (bif Nat.beq pc 121 then some (.aload_n 1, 1, 0, 0, 0) else none) else (bif Nat.beq pc 122 then some (.aload_n 0, 1, 0, 0, 0) else none)))) else (bif Nat.blt pc 128 then (bif Nat.blt pc 125 then (bif Nat.beq pc 123 then some (.iload 9, 2, 0, 0, 0) else none) else (bif Nat.beq pc 125 then some (.invokevirtual 56, 3, 36, 2, 10) else none)) else (bif Nat.blt pc 130 then (bif Nat.beq pc 128 then some (.iload 4, 2, 0, 0, 0) else none) else (bif Nat.blt pc 132 then (bif Nat.beq pc 130 then some (.iload 8, 2, 0, 0, 0) else none) else (bif Nat.beq pc 132 then some (.invokevirtual 59, 3, 37, 5, 0) else none))))) else (bif Nat.blt pc 147 then (bif Nat.blt pc 141 then (bif Nat.blt pc 138 then (bif Nat.beq pc 135 then some (.iinc 9 1, 3, 0, 0, 0) else none) else (bif Nat.beq pc 138 then some (.goto (-25), 3, 113, 0, 0) else none)) else (bif Nat.blt pc 143 then (bif Nat.beq pc 141 then some (.iload 7, 2, 0, 0, 0) else none) else (bif Nat.blt pc 145 then (bif Nat.beq pc 143 then some (.istore 5, 2, 0, 0, 0) else none) else (bif Nat.beq pc 145 then some (.iload 8, 2, 0, 0, 0) else none)))) else (bif Nat.blt pc 152 then (bif Nat.blt pc 149 then (bif Nat.beq pc 147 then some (.istore 4, 2, 0, 0, 0) else none) else (bif Nat.beq pc 149 then some (.iinc 6 1, 3, 0, 0, 0) else none)) else (bif Nat.blt pc 155 then (bif Nat.beq pc 152 then some (.goto (-84), 3, 68, 0, 0) else none) else (bif Nat.blt pc 157 then (bif Nat.beq pc 155 then some (.bipush (-4), 2, 0, 0, -4) else none) else (bif Nat.beq pc 157 then some (.ireturn, 1, 0, 0, 0) else none)))))))
/-- SlipWheel$Search.hasAim(LSlipWheel$Everything;IIII)Z -/
def zc35 (pc : Nat) : Option zEn := bif Nat.blt pc 27 then (bif Nat.blt pc 11 then (bif Nat.blt pc 5 then (bif Nat.blt pc 1 then (bif Nat.beq pc 0 then some (.iload_n 2, 1, 0, 0, 0) else none) else (bif Nat.blt pc 3 then (bif Nat.beq pc 1 then some (.istore 6, 2, 0, 0, 0) else none) else (bif Nat.beq pc 3 then some (.iload 6, 2, 0, 0, 0) else none))) else (bif Nat.blt pc 6 then (bif Nat.beq pc 5 then some (.iload_n 3, 1, 0, 0, 0) else none) else (bif Nat.blt pc 9 then (bif Nat.beq pc 6 then some (.if_icmp .ge 48, 3, 54, 0, 0) else none) else (bif Nat.beq pc 9 then some (.iload 5, 2, 0, 0, 0) else none)))) else (bif Nat.blt pc 16 then (bif Nat.blt pc 14 then (bif Nat.beq pc 11 then some (.ifCond .ne 19, 3, 30, 0, 0) else none) else (bif Nat.blt pc 15 then (bif Nat.beq pc 14 then some (.aload_n 1, 1, 0, 0, 0) else none) else (bif Nat.beq pc 15 then some (.aload_n 0, 1, 0, 0, 0) else none))) else (bif Nat.blt pc 21 then (bif Nat.blt pc 18 then (bif Nat.beq pc 16 then some (.iload 6, 2, 0, 0, 0) else none) else (bif Nat.beq pc 18 then some (.invokevirtual 56, 3, 36, 2, 10) else none)) else (bif Nat.blt pc 24 then (bif Nat.beq pc 21 then some (.invokevirtual 63, 3, 15, 2, 11) else none) else (bif Nat.beq pc 24 then some (.ifCond .eq 24, 3, 48, 0, 0) else none))))) else (bif Nat.blt pc 43 then (bif Nat.blt pc 33 then (bif Nat.blt pc 30 then (bif Nat.beq pc 27 then some (.goto 19, 3, 46, 0, 0) else none) else (bif Nat.blt pc 31 then (bif Nat.beq pc 30 then some (.aload_n 0, 1, 0, 0, 0) else none) else (bif Nat.beq pc 31 then some (.iload 6, 2, 0, 0, 0) else none))) else (bif Nat.blt pc 38 then (bif Nat.blt pc 36 then (bif Nat.beq pc 33 then some (.invokevirtual 56, 3, 36, 2, 10) else none) else (bif Nat.beq pc 36 then some (.iload 4, 2, 0, 0, 0) else none)) else (bif Nat.blt pc 40 then (bif Nat.beq pc 38 then some (.iload 5, 2, 0, 0, 0) else none) else (bif Nat.beq pc 40 then some (.invokestatic 67, 3, 84, 3, 13) else none)))) else (bif Nat.blt pc 48 then (bif Nat.blt pc 46 then (bif Nat.beq pc 43 then some (.ifCond .eq 5, 3, 48, 0, 0) else none) else (bif Nat.blt pc 47 then (bif Nat.beq pc 46 then some (.iconst 1, 1, 0, 0, 1) else none) else (bif Nat.beq pc 47 then some (.ireturn, 1, 0, 0, 1) else none))) else (bif Nat.blt pc 54 then (bif Nat.blt pc 51 then (bif Nat.beq pc 48 then some (.iinc 6 1, 3, 0, 0, 0) else none) else (bif Nat.beq pc 51 then some (.goto (-48), 3, 3, 0, 0) else none)) else (bif Nat.blt pc 55 then (bif Nat.beq pc 54 then some (.iconst 0, 1, 0, 0, 0) else none) else (bif Nat.beq pc 55 then some (.ireturn, 1, 0, 0, 1) else none)))))
/-- SlipWheel$Search.slipAt(I)I -/
def zc36 (pc : Nat) : Option zEn := bif Nat.blt pc 13 then (bif Nat.blt pc 5 then (bif Nat.blt pc 1 then (bif Nat.beq pc 0 then some (.iload_n 1, 1, 0, 0, 0) else none) else (bif Nat.blt pc 4 then (bif Nat.beq pc 1 then some (.ifCond .lt 21, 3, 22, 0, 0) else none) else (bif Nat.beq pc 4 then some (.iload_n 1, 1, 0, 0, 0) else none))) else (bif Nat.blt pc 9 then (bif Nat.blt pc 6 then (bif Nat.beq pc 5 then some (.aload_n 0, 1, 0, 0, 0) else none) else (bif Nat.beq pc 6 then some (.getfield 9, 3, 0, 3, 0) else none)) else (bif Nat.blt pc 10 then (bif Nat.beq pc 9 then some (.arraylength, 1, 0, 0, 0) else none) else (bif Nat.beq pc 10 then some (.if_icmp .ge 12, 3, 22, 0, 0) else none)))) else (bif Nat.blt pc 18 then (bif Nat.blt pc 14 then (bif Nat.beq pc 13 then some (.aload_n 0, 1, 0, 0, 0) else none) else (bif Nat.blt pc 17 then (bif Nat.beq pc 14 then some (.getfield 9, 3, 0, 3, 0) else none) else (bif Nat.beq pc 17 then some (.iload_n 1, 1, 0, 0, 0) else none))) else (bif Nat.blt pc 22 then (bif Nat.blt pc 19 then (bif Nat.beq pc 18 then some (.iaload, 1, 0, 0, 0) else none) else (bif Nat.beq pc 19 then some (.goto 4, 3, 23, 0, 0) else none)) else (bif Nat.blt pc 23 then (bif Nat.beq pc 22 then some (.iconst 1, 1, 0, 0, 1) else none) else (bif Nat.beq pc 23 then some (.ireturn, 1, 0, 0, 0) else none))))
/-- SlipWheel$Search.spread(LSlipWheel$Everything;III)V -/
def zc37 (pc : Nat) : Option zEn := bif Nat.blt pc 30 then (bif Nat.blt pc 15 then (bif Nat.blt pc 6 then (bif Nat.blt pc 2 then (bif Nat.blt pc 1 then (bif Nat.beq pc 0 then some (.aload_n 1, 1, 0, 0, 0) else none) else (bif Nat.beq pc 1 then some (.aload_n 1, 1, 0, 0, 0) else none)) else (bif Nat.blt pc 5 then (bif Nat.beq pc 2 then some (.getfield 19, 3, 2, 1, 1) else none) else (bif Nat.beq pc 5 then some (.iload_n 3, 1, 0, 0, 0) else none))) else (bif Nat.blt pc 10 then (bif Nat.blt pc 9 then (bif Nat.beq pc 6 then some (.invokevirtual 71, 3, 51, 2, 11) else none) else (bif Nat.beq pc 9 then some (.iload_n 2, 1, 0, 0, 0) else none)) else (bif Nat.blt pc 13 then (bif Nat.beq pc 10 then some (.invokevirtual 74, 3, 14, 3, 11) else none) else (bif Nat.beq pc 13 then some (.istore 5, 2, 0, 0, 0) else none)))) else (bif Nat.blt pc 22 then (bif Nat.blt pc 20 then (bif Nat.blt pc 17 then (bif Nat.beq pc 15 then some (.iload 5, 2, 0, 0, 0) else none) else (bif Nat.beq pc 17 then some (.ifCond .ne 10, 3, 27, 0, 0) else none)) else (bif Nat.blt pc 21 then (bif Nat.beq pc 20 then some (.aload_n 0, 1, 0, 0, 0) else none) else (bif Nat.beq pc 21 then some (.iload_n 2, 1, 0, 0, 0) else none))) else (bif Nat.blt pc 27 then (bif Nat.blt pc 24 then (bif Nat.beq pc 22 then some (.iload 4, 2, 0, 0, 0) else none) else (bif Nat.beq pc 24 then some (.invokevirtual 44, 3, 38, 3, 0) else none)) else (bif Nat.blt pc 28 then (bif Nat.beq pc 27 then some (.iconst 0, 1, 0, 0, 0) else none) else (bif Nat.beq pc 28 then some (.istore 6, 2, 0, 0, 0) else none))))) else (bif Nat.blt pc 48 then (bif Nat.blt pc 39 then (bif Nat.blt pc 34 then (bif Nat.blt pc 32 then (bif Nat.beq pc 30 then some (.iload 6, 2, 0, 0, 0) else none) else (bif Nat.beq pc 32 then some (.bipush 8, 2, 0, 0, 8) else none)) else (bif Nat.blt pc 37 then (bif Nat.beq pc 34 then some (.if_icmp .ge 31, 3, 65, 0, 0) else none) else (bif Nat.beq pc 37 then some (.iload 5, 2, 0, 0, 0) else none))) else (bif Nat.blt pc 44 then (bif Nat.blt pc 41 then (bif Nat.beq pc 39 then some (.iload 6, 2, 0, 0, 0) else none) else (bif Nat.beq pc 41 then some (.invokestatic 78, 3, 81, 2, 13) else none)) else (bif Nat.blt pc 47 then (bif Nat.beq pc 44 then some (.ifCond .eq 15, 3, 59, 0, 0) else none) else (bif Nat.beq pc 47 then some (.aload_n 0, 1, 0, 0, 0) else none)))) else (bif Nat.blt pc 56 then (bif Nat.blt pc 51 then (bif Nat.blt pc 49 then (bif Nat.beq pc 48 then some (.iload_n 2, 1, 0, 0, 0) else none) else (bif Nat.beq pc 49 then some (.iload 6, 2, 0, 0, 0) else none)) else (bif Nat.blt pc 54 then (bif Nat.beq pc 51 then some (.invokestatic 82, 3, 83, 2, 13) else none) else (bif Nat.beq pc 54 then some (.iload 4, 2, 0, 0, 0) else none))) else (bif Nat.blt pc 62 then (bif Nat.blt pc 59 then (bif Nat.beq pc 56 then some (.invokevirtual 44, 3, 38, 3, 0) else none) else (bif Nat.beq pc 59 then some (.iinc 6 1, 3, 0, 0, 0) else none)) else (bif Nat.blt pc 65 then (bif Nat.beq pc 62 then some (.goto (-32), 3, 30, 0, 0) else none) else (bif Nat.beq pc 65 then some (.return_, 1, 0, 0, 0) else none)))))
/-- SlipWheel$Search.note(II)V -/
def zc38 (pc : Nat) : Option zEn := bif Nat.blt pc 45 then (bif Nat.blt pc 23 then (bif Nat.blt pc 11 then (bif Nat.blt pc 4 then (bif Nat.blt pc 1 then (bif Nat.beq pc 0 then some (.iload_n 1, 1, 0, 0, 0) else none) else (bif Nat.beq pc 1 then some (.ifCond .lt 29, 3, 30, 0, 0) else none)) else (bif Nat.blt pc 5 then (bif Nat.beq pc 4 then some (.iload_n 1, 1, 0, 0, 0) else none) else (bif Nat.blt pc 8 then (bif Nat.beq pc 5 then some (.sipush 1024, 3, 0, 0, 1024) else none) else (bif Nat.beq pc 8 then some (.if_icmp .ge 22, 3, 30, 0, 0) else none)))) else (bif Nat.blt pc 18 then (bif Nat.blt pc 12 then (bif Nat.beq pc 11 then some (.aload_n 0, 1, 0, 0, 0) else none) else (bif Nat.blt pc 15 then (bif Nat.beq pc 12 then some (.getfield 31, 3, 2, 3, 0) else none) else (bif Nat.beq pc 15 then some (.ifCond .lt 15, 3, 30, 0, 0) else none))) else (bif Nat.blt pc 19 then (bif Nat.beq pc 18 then some (.aload_n 0, 1, 0, 0, 0) else none) else (bif Nat.blt pc 22 then (bif Nat.beq pc 19 then some (.getfield 31, 3, 2, 3, 0) else none) else (bif Nat.beq pc 22 then some (.aload_n 0, 1, 0, 0, 0) else none))))) else (bif Nat.blt pc 35 then (bif Nat.blt pc 30 then (bif Nat.blt pc 26 then (bif Nat.beq pc 23 then some (.getfield 9, 3, 0, 3, 0) else none) else (bif Nat.blt pc 27 then (bif Nat.beq pc 26 then some (.arraylength, 1, 0, 0, 0) else none) else (bif Nat.beq pc 27 then some (.if_icmp .lt 4, 3, 31, 0, 0) else none))) else (bif Nat.blt pc 31 then (bif Nat.beq pc 30 then some (.return_, 1, 0, 0, 0) else none) else (bif Nat.blt pc 32 then (bif Nat.beq pc 31 then some (.aload_n 0, 1, 0, 0, 0) else none) else (bif Nat.beq pc 32 then some (.getfield 15, 3, 1, 3, 0) else none)))) else (bif Nat.blt pc 38 then (bif Nat.blt pc 36 then (bif Nat.beq pc 35 then some (.iload_n 1, 1, 0, 0, 0) else none) else (bif Nat.blt pc 37 then (bif Nat.beq pc 36 then some (.baload, 1, 0, 0, 0) else none) else (bif Nat.beq pc 37 then some (.iload_n 2, 1, 0, 0, 0) else none))) else (bif Nat.blt pc 41 then (bif Nat.beq pc 38 then some (.invokestatic 78, 3, 81, 2, 13) else none) else (bif Nat.blt pc 44 then (bif Nat.beq pc 41 then some (.ifCond .ne 37, 3, 78, 0, 0) else none) else (bif Nat.beq pc 44 then some (.aload_n 0, 1, 0, 0, 0) else none)))))) else (bif Nat.blt pc 59 then (bif Nat.blt pc 53 then (bif Nat.blt pc 50 then (bif Nat.blt pc 48 then (bif Nat.beq pc 45 then some (.getfield 15, 3, 1, 3, 0) else none) else (bif Nat.blt pc 49 then (bif Nat.beq pc 48 then some (.iload_n 1, 1, 0, 0, 0) else none) else (bif Nat.beq pc 49 then some (.dup2, 1, 0, 0, 0) else none))) else (bif Nat.blt pc 51 then (bif Nat.beq pc 50 then some (.baload, 1, 0, 0, 0) else none) else (bif Nat.blt pc 52 then (bif Nat.beq pc 51 then some (.iconst 1, 1, 0, 0, 1) else none) else (bif Nat.beq pc 52 then some (.iload_n 2, 1, 0, 0, 0) else none)))) else (bif Nat.blt pc 56 then (bif Nat.blt pc 54 then (bif Nat.beq pc 53 then some (.ishl, 1, 0, 0, 0) else none) else (bif Nat.blt pc 55 then (bif Nat.beq pc 54 then some (.i2b, 1, 0, 0, 0) else none) else (bif Nat.beq pc 55 then some (.ior, 1, 0, 0, 0) else none))) else (bif Nat.blt pc 57 then (bif Nat.beq pc 56 then some (.i2b, 1, 0, 0, 0) else none) else (bif Nat.blt pc 58 then (bif Nat.beq pc 57 then some (.bastore, 1, 0, 0, 0) else none) else (bif Nat.beq pc 58 then some (.aload_n 0, 1, 0, 0, 0) else none))))) else (bif Nat.blt pc 69 then (bif Nat.blt pc 66 then (bif Nat.blt pc 62 then (bif Nat.beq pc 59 then some (.getfield 9, 3, 0, 3, 0) else none) else (bif Nat.blt pc 63 then (bif Nat.beq pc 62 then some (.aload_n 0, 1, 0, 0, 0) else none) else (bif Nat.beq pc 63 then some (.getfield 31, 3, 2, 3, 0) else none))) else (bif Nat.blt pc 67 then (bif Nat.beq pc 66 then some (.iload_n 1, 1, 0, 0, 0) else none) else (bif Nat.blt pc 68 then (bif Nat.beq pc 67 then some (.iastore, 1, 0, 0, 0) else none) else (bif Nat.beq pc 68 then some (.aload_n 0, 1, 0, 0, 0) else none)))) else (bif Nat.blt pc 74 then (bif Nat.blt pc 70 then (bif Nat.beq pc 69 then some (.dup, 1, 0, 0, 0) else none) else (bif Nat.blt pc 73 then (bif Nat.beq pc 70 then some (.getfield 31, 3, 2, 3, 0) else none) else (bif Nat.beq pc 73 then some (.iconst 1, 1, 0, 0, 1) else none))) else (bif Nat.blt pc 75 then (bif Nat.beq pc 74 then some (.iadd, 1, 0, 0, 0) else none) else (bif Nat.blt pc 78 then (bif Nat.beq pc 75 then some (.putfield 31, 3, 2, 3, 0) else none) else (bif Nat.beq pc 78 then some (.return_, 1, 0, 0, 0) else none))))))
/-- SlipWheel$Sheet.<init>()V -/
def zc39 (pc : Nat) : Option zEn := bif Nat.blt pc 9 then (bif Nat.blt pc 4 then (bif Nat.blt pc 1 then (bif Nat.beq pc 0 then some (.aload_n 0, 1, 0, 0, 0) else none) else (bif Nat.beq pc 1 then some (.invokespecial 3, 3, 0, 1, 6) else none)) else (bif Nat.blt pc 5 then (bif Nat.beq pc 4 then some (.aload_n 0, 1, 0, 0, 0) else none) else (bif Nat.blt pc 7 then (bif Nat.beq pc 5 then some (.bipush 24, 2, 0, 0, 24) else none) else (bif Nat.beq pc 7 then some (.newarray .int, 2, 0, 0, 0) else none)))) else (bif Nat.blt pc 13 then (bif Nat.blt pc 12 then (bif Nat.beq pc 9 then some (.putfield 9, 3, 0, 4, 0) else none) else (bif Nat.beq pc 12 then some (.aload_n 0, 1, 0, 0, 0) else none)) else (bif Nat.blt pc 14 then (bif Nat.beq pc 13 then some (.iconst (-1), 1, 0, 0, -1) else none) else (bif Nat.blt pc 17 then (bif Nat.beq pc 14 then some (.putfield 15, 3, 1, 4, 0) else none) else (bif Nat.beq pc 17 then some (.return_, 1, 0, 0, 0) else none))))
/-- SlipWheel$Tape.<init>()V -/
def zc40 (pc : Nat) : Option zEn := bif Nat.blt pc 9 then (bif Nat.blt pc 4 then (bif Nat.blt pc 1 then (bif Nat.beq pc 0 then some (.aload_n 0, 1, 0, 0, 0) else none) else (bif Nat.beq pc 1 then some (.invokespecial 3, 3, 0, 1, 6) else none)) else (bif Nat.blt pc 5 then (bif Nat.beq pc 4 then some (.aload_n 0, 1, 0, 0, 0) else none) else (bif Nat.blt pc 7 then (bif Nat.beq pc 5 then some (.bipush 80, 2, 0, 0, 80) else none) else (bif Nat.beq pc 7 then some (.newarray .int, 2, 0, 0, 0) else none)))) else (bif Nat.blt pc 15 then (bif Nat.blt pc 12 then (bif Nat.beq pc 9 then some (.putfield 9, 3, 0, 5, 0) else none) else (bif Nat.blt pc 13 then (bif Nat.beq pc 12 then some (.aload_n 0, 1, 0, 0, 0) else none) else (bif Nat.beq pc 13 then some (.bipush 24, 2, 0, 0, 24) else none))) else (bif Nat.blt pc 17 then (bif Nat.beq pc 15 then some (.newarray .int, 2, 0, 0, 0) else none) else (bif Nat.blt pc 20 then (bif Nat.beq pc 17 then some (.putfield 15, 3, 1, 5, 0) else none) else (bif Nat.beq pc 20 then some (.return_, 1, 0, 0, 0) else none))))
/-- SlipWheel$Tongue.<init>()V -/
def zc41 (pc : Nat) : Option zEn := bif Nat.blt pc 28 then (bif Nat.blt pc 13 then (bif Nat.blt pc 5 then (bif Nat.blt pc 1 then (bif Nat.beq pc 0 then some (.aload_n 0, 1, 0, 0, 0) else none) else (bif Nat.blt pc 4 then (bif Nat.beq pc 1 then some (.invokespecial 3, 3, 0, 1, 6) else none) else (bif Nat.beq pc 4 then some (.aload_n 0, 1, 0, 0, 0) else none))) else (bif Nat.blt pc 9 then (bif Nat.blt pc 7 then (bif Nat.beq pc 5 then some (.bipush 8, 2, 0, 0, 8) else none) else (bif Nat.beq pc 7 then some (.newarray .int, 2, 0, 0, 0) else none)) else (bif Nat.blt pc 12 then (bif Nat.beq pc 9 then some (.putfield 9, 3, 0, 6, 0) else none) else (bif Nat.beq pc 12 then some (.aload_n 0, 1, 0, 0, 0) else none)))) else (bif Nat.blt pc 20 then (bif Nat.blt pc 15 then (bif Nat.beq pc 13 then some (.bipush 6, 2, 0, 0, 6) else none) else (bif Nat.blt pc 17 then (bif Nat.beq pc 15 then some (.newarray .int, 2, 0, 0, 0) else none) else (bif Nat.beq pc 17 then some (.putfield 15, 3, 1, 6, 0) else none))) else (bif Nat.blt pc 23 then (bif Nat.blt pc 21 then (bif Nat.beq pc 20 then some (.aload_n 0, 1, 0, 0, 0) else none) else (bif Nat.beq pc 21 then some (.bipush 6, 2, 0, 0, 6) else none)) else (bif Nat.blt pc 25 then (bif Nat.beq pc 23 then some (.newarray .int, 2, 0, 0, 0) else none) else (bif Nat.beq pc 25 then some (.putfield 18, 3, 2, 6, 0) else none))))) else (bif Nat.blt pc 39 then (bif Nat.blt pc 31 then (bif Nat.blt pc 29 then (bif Nat.beq pc 28 then some (.iconst 0, 1, 0, 0, 0) else none) else (bif Nat.blt pc 30 then (bif Nat.beq pc 29 then some (.istore_n 1, 1, 0, 0, 0) else none) else (bif Nat.beq pc 30 then some (.iload_n 1, 1, 0, 0, 0) else none))) else (bif Nat.blt pc 35 then (bif Nat.blt pc 32 then (bif Nat.beq pc 31 then some (.aload_n 0, 1, 0, 0, 0) else none) else (bif Nat.beq pc 32 then some (.getfield 9, 3, 0, 6, 0) else none)) else (bif Nat.blt pc 36 then (bif Nat.beq pc 35 then some (.arraylength, 1, 0, 0, 0) else none) else (bif Nat.beq pc 36 then some (.if_icmp .ge 18, 3, 54, 0, 0) else none)))) else (bif Nat.blt pc 47 then (bif Nat.blt pc 43 then (bif Nat.blt pc 40 then (bif Nat.beq pc 39 then some (.aload_n 0, 1, 0, 0, 0) else none) else (bif Nat.beq pc 40 then some (.getfield 9, 3, 0, 6, 0) else none)) else (bif Nat.blt pc 44 then (bif Nat.beq pc 43 then some (.iload_n 1, 1, 0, 0, 0) else none) else (bif Nat.beq pc 44 then some (.sipush 255, 3, 0, 0, 255) else none))) else (bif Nat.blt pc 51 then (bif Nat.blt pc 48 then (bif Nat.beq pc 47 then some (.iastore, 1, 0, 0, 0) else none) else (bif Nat.beq pc 48 then some (.iinc 1 1, 3, 0, 0, 0) else none)) else (bif Nat.blt pc 54 then (bif Nat.beq pc 51 then some (.goto (-21), 3, 30, 0, 0) else none) else (bif Nat.beq pc 54 then some (.return_, 1, 0, 0, 0) else none)))))
/-- SlipWheel$Tongue.copyFrom(LSlipWheel$Tongue;)V -/
def zc42 (pc : Nat) : Option zEn := bif Nat.blt pc 25 then (bif Nat.blt pc 12 then (bif Nat.blt pc 5 then (bif Nat.blt pc 1 then (bif Nat.beq pc 0 then some (.aload_n 1, 1, 0, 0, 0) else none) else (bif Nat.blt pc 4 then (bif Nat.beq pc 1 then some (.getfield 9, 3, 0, 6, 0) else none) else (bif Nat.beq pc 4 then some (.iconst 0, 1, 0, 0, 0) else none))) else (bif Nat.blt pc 9 then (bif Nat.blt pc 6 then (bif Nat.beq pc 5 then some (.aload_n 0, 1, 0, 0, 0) else none) else (bif Nat.beq pc 6 then some (.getfield 9, 3, 0, 6, 0) else none)) else (bif Nat.blt pc 10 then (bif Nat.beq pc 9 then some (.iconst 0, 1, 0, 0, 0) else none) else (bif Nat.beq pc 10 then some (.bipush 8, 2, 0, 0, 8) else none)))) else (bif Nat.blt pc 19 then (bif Nat.blt pc 15 then (bif Nat.beq pc 12 then some (.invokestatic 21, 3, 0, 5, 7) else none) else (bif Nat.blt pc 16 then (bif Nat.beq pc 15 then some (.aload_n 1, 1, 0, 0, 0) else none) else (bif Nat.beq pc 16 then some (.getfield 15, 3, 1, 6, 0) else none))) else (bif Nat.blt pc 21 then (bif Nat.blt pc 20 then (bif Nat.beq pc 19 then some (.iconst 0, 1, 0, 0, 0) else none) else (bif Nat.beq pc 20 then some (.aload_n 0, 1, 0, 0, 0) else none)) else (bif Nat.blt pc 24 then (bif Nat.beq pc 21 then some (.getfield 15, 3, 1, 6, 0) else none) else (bif Nat.beq pc 24 then some (.iconst 0, 1, 0, 0, 0) else none))))) else (bif Nat.blt pc 39 then (bif Nat.blt pc 31 then (bif Nat.blt pc 27 then (bif Nat.beq pc 25 then some (.bipush 6, 2, 0, 0, 6) else none) else (bif Nat.blt pc 30 then (bif Nat.beq pc 27 then some (.invokestatic 21, 3, 0, 5, 7) else none) else (bif Nat.beq pc 30 then some (.aload_n 1, 1, 0, 0, 0) else none))) else (bif Nat.blt pc 35 then (bif Nat.blt pc 34 then (bif Nat.beq pc 31 then some (.getfield 18, 3, 2, 6, 0) else none) else (bif Nat.beq pc 34 then some (.iconst 0, 1, 0, 0, 0) else none)) else (bif Nat.blt pc 36 then (bif Nat.beq pc 35 then some (.aload_n 0, 1, 0, 0, 0) else none) else (bif Nat.beq pc 36 then some (.getfield 18, 3, 2, 6, 0) else none)))) else (bif Nat.blt pc 46 then (bif Nat.blt pc 42 then (bif Nat.blt pc 40 then (bif Nat.beq pc 39 then some (.iconst 0, 1, 0, 0, 0) else none) else (bif Nat.beq pc 40 then some (.bipush 6, 2, 0, 0, 6) else none)) else (bif Nat.blt pc 45 then (bif Nat.beq pc 42 then some (.invokestatic 21, 3, 0, 5, 7) else none) else (bif Nat.beq pc 45 then some (.aload_n 0, 1, 0, 0, 0) else none))) else (bif Nat.blt pc 50 then (bif Nat.blt pc 47 then (bif Nat.beq pc 46 then some (.aload_n 1, 1, 0, 0, 0) else none) else (bif Nat.beq pc 47 then some (.getfield 27, 3, 3, 6, 0) else none)) else (bif Nat.blt pc 53 then (bif Nat.beq pc 50 then some (.putfield 27, 3, 3, 6, 0) else none) else (bif Nat.beq pc 53 then some (.return_, 1, 0, 0, 0) else none)))))
/-- SlipWheel$Tongue.changeFollowing(II)I -/
def zc43 (pc : Nat) : Option zEn := bif Nat.blt pc 16 then (bif Nat.blt pc 9 then (bif Nat.blt pc 4 then (bif Nat.blt pc 1 then (bif Nat.beq pc 0 then some (.iload_n 1, 1, 0, 0, 0) else none) else (bif Nat.beq pc 1 then some (.ifCond .lt 12, 3, 13, 0, 0) else none)) else (bif Nat.blt pc 5 then (bif Nat.beq pc 4 then some (.iload_n 1, 1, 0, 0, 0) else none) else (bif Nat.blt pc 6 then (bif Nat.beq pc 5 then some (.aload_n 0, 1, 0, 0, 0) else none) else (bif Nat.beq pc 6 then some (.getfield 9, 3, 0, 6, 0) else none)))) else (bif Nat.blt pc 13 then (bif Nat.blt pc 10 then (bif Nat.beq pc 9 then some (.arraylength, 1, 0, 0, 0) else none) else (bif Nat.beq pc 10 then some (.if_icmp .lt 5, 3, 15, 0, 0) else none)) else (bif Nat.blt pc 14 then (bif Nat.beq pc 13 then some (.iconst (-1), 1, 0, 0, -1) else none) else (bif Nat.blt pc 15 then (bif Nat.beq pc 14 then some (.ireturn, 1, 0, 0, 0) else none) else (bif Nat.beq pc 15 then some (.aload_n 0, 1, 0, 0, 0) else none))))) else (bif Nat.blt pc 23 then (bif Nat.blt pc 20 then (bif Nat.blt pc 19 then (bif Nat.beq pc 16 then some (.getfield 9, 3, 0, 6, 0) else none) else (bif Nat.beq pc 19 then some (.iload_n 1, 1, 0, 0, 0) else none)) else (bif Nat.blt pc 21 then (bif Nat.beq pc 20 then some (.iaload, 1, 0, 0, 0) else none) else (bif Nat.blt pc 22 then (bif Nat.beq pc 21 then some (.istore_n 3, 1, 0, 0, 0) else none) else (bif Nat.beq pc 22 then some (.aload_n 0, 1, 0, 0, 0) else none)))) else (bif Nat.blt pc 28 then (bif Nat.blt pc 26 then (bif Nat.beq pc 23 then some (.getfield 9, 3, 0, 6, 0) else none) else (bif Nat.blt pc 27 then (bif Nat.beq pc 26 then some (.iload_n 1, 1, 0, 0, 0) else none) else (bif Nat.beq pc 27 then some (.iload_n 2, 1, 0, 0, 0) else none))) else (bif Nat.blt pc 29 then (bif Nat.beq pc 28 then some (.iastore, 1, 0, 0, 0) else none) else (bif Nat.blt pc 30 then (bif Nat.beq pc 29 then some (.iload_n 3, 1, 0, 0, 0) else none) else (bif Nat.beq pc 30 then some (.ireturn, 1, 0, 0, 0) else none)))))
/-- SlipWheel$Tongue.appendLine(II)I -/
def zc44 (pc : Nat) : Option zEn := bif Nat.blt pc 30 then (bif Nat.blt pc 18 then (bif Nat.blt pc 8 then (bif Nat.blt pc 4 then (bif Nat.blt pc 1 then (bif Nat.beq pc 0 then some (.aload_n 0, 1, 0, 0, 0) else none) else (bif Nat.beq pc 1 then some (.getfield 27, 3, 3, 6, 0) else none)) else (bif Nat.blt pc 7 then (bif Nat.beq pc 4 then some (.ifCond .lt 12, 3, 16, 0, 0) else none) else (bif Nat.beq pc 7 then some (.aload_n 0, 1, 0, 0, 0) else none))) else (bif Nat.blt pc 13 then (bif Nat.blt pc 11 then (bif Nat.beq pc 8 then some (.getfield 27, 3, 3, 6, 0) else none) else (bif Nat.beq pc 11 then some (.bipush 6, 2, 0, 0, 6) else none)) else (bif Nat.blt pc 16 then (bif Nat.beq pc 13 then some (.if_icmp .lt 6, 3, 19, 0, 0) else none) else (bif Nat.beq pc 16 then some (.bipush (-3), 2, 0, 0, -3) else none)))) else (bif Nat.blt pc 24 then (bif Nat.blt pc 20 then (bif Nat.blt pc 19 then (bif Nat.beq pc 18 then some (.ireturn, 1, 0, 0, 0) else none) else (bif Nat.beq pc 19 then some (.aload_n 0, 1, 0, 0, 0) else none)) else (bif Nat.blt pc 23 then (bif Nat.beq pc 20 then some (.getfield 15, 3, 1, 6, 0) else none) else (bif Nat.beq pc 23 then some (.aload_n 0, 1, 0, 0, 0) else none))) else (bif Nat.blt pc 28 then (bif Nat.blt pc 27 then (bif Nat.beq pc 24 then some (.getfield 27, 3, 3, 6, 0) else none) else (bif Nat.beq pc 27 then some (.iload_n 1, 1, 0, 0, 0) else none)) else (bif Nat.blt pc 29 then (bif Nat.beq pc 28 then some (.iastore, 1, 0, 0, 0) else none) else (bif Nat.beq pc 29 then some (.aload_n 0, 1, 0, 0, 0) else none))))) else (bif Nat.blt pc 44 then (bif Nat.blt pc 38 then (bif Nat.blt pc 34 then (bif Nat.blt pc 33 then (bif Nat.beq pc 30 then some (.getfield 18, 3, 2, 6, 0) else none) else (bif Nat.beq pc 33 then some (.aload_n 0, 1, 0, 0, 0) else none)) else (bif Nat.blt pc 37 then (bif Nat.beq pc 34 then some (.getfield 27, 3, 3, 6, 0) else none) else (bif Nat.beq pc 37 then some (.iload_n 2, 1, 0, 0, 0) else none))) else (bif Nat.blt pc 40 then (bif Nat.blt pc 39 then (bif Nat.beq pc 38 then some (.iastore, 1, 0, 0, 0) else none) else (bif Nat.beq pc 39 then some (.aload_n 0, 1, 0, 0, 0) else none)) else (bif Nat.blt pc 41 then (bif Nat.beq pc 40 then some (.dup, 1, 0, 0, 0) else none) else (bif Nat.beq pc 41 then some (.getfield 27, 3, 3, 6, 0) else none)))) else (bif Nat.blt pc 50 then (bif Nat.blt pc 46 then (bif Nat.blt pc 45 then (bif Nat.beq pc 44 then some (.iconst 1, 1, 0, 0, 1) else none) else (bif Nat.beq pc 45 then some (.iadd, 1, 0, 0, 0) else none)) else (bif Nat.blt pc 49 then (bif Nat.beq pc 46 then some (.putfield 27, 3, 3, 6, 0) else none) else (bif Nat.beq pc 49 then some (.aload_n 0, 1, 0, 0, 0) else none))) else (bif Nat.blt pc 54 then (bif Nat.blt pc 53 then (bif Nat.beq pc 50 then some (.getfield 27, 3, 3, 6, 0) else none) else (bif Nat.beq pc 53 then some (.iconst 1, 1, 0, 0, 1) else none)) else (bif Nat.blt pc 55 then (bif Nat.beq pc 54 then some (.isub, 1, 0, 0, 0) else none) else (bif Nat.beq pc 55 then some (.ireturn, 1, 0, 0, 0) else none)))))
/-- SlipWheel$Tongue.mayCome(II)I -/
def zc45 (pc : Nat) : Option zEn := bif Nat.blt pc 54 then (bif Nat.blt pc 25 then (bif Nat.blt pc 16 then (bif Nat.blt pc 6 then (bif Nat.blt pc 1 then (bif Nat.beq pc 0 then some (.iload_n 1, 1, 0, 0, 0) else none) else (bif Nat.blt pc 3 then (bif Nat.beq pc 1 then some (.bipush 8, 2, 0, 0, 8) else none) else (bif Nat.beq pc 3 then some (.if_icmp .ge 9, 3, 12, 0, 0) else none))) else (bif Nat.blt pc 12 then (bif Nat.blt pc 9 then (bif Nat.beq pc 6 then some (.sipush 255, 3, 0, 0, 255) else none) else (bif Nat.beq pc 9 then some (.goto 12, 3, 21, 0, 0) else none)) else (bif Nat.blt pc 13 then (bif Nat.beq pc 12 then some (.aload_n 0, 1, 0, 0, 0) else none) else (bif Nat.beq pc 13 then some (.getfield 9, 3, 0, 6, 0) else none)))) else (bif Nat.blt pc 20 then (bif Nat.blt pc 17 then (bif Nat.beq pc 16 then some (.iload_n 1, 1, 0, 0, 0) else none) else (bif Nat.blt pc 19 then (bif Nat.beq pc 17 then some (.bipush 7, 2, 0, 0, 7) else none) else (bif Nat.beq pc 19 then some (.iand, 1, 0, 0, 0) else none))) else (bif Nat.blt pc 22 then (bif Nat.blt pc 21 then (bif Nat.beq pc 20 then some (.iaload, 1, 0, 0, 0) else none) else (bif Nat.beq pc 21 then some (.istore_n 3, 1, 0, 0, 0) else none)) else (bif Nat.blt pc 23 then (bif Nat.beq pc 22 then some (.iconst 0, 1, 0, 0, 0) else none) else (bif Nat.beq pc 23 then some (.istore 4, 2, 0, 0, 0) else none))))) else (bif Nat.blt pc 41 then (bif Nat.blt pc 31 then (bif Nat.blt pc 27 then (bif Nat.beq pc 25 then some (.iload 4, 2, 0, 0, 0) else none) else (bif Nat.blt pc 28 then (bif Nat.beq pc 27 then some (.aload_n 0, 1, 0, 0, 0) else none) else (bif Nat.beq pc 28 then some (.getfield 27, 3, 3, 6, 0) else none))) else (bif Nat.blt pc 36 then (bif Nat.blt pc 34 then (bif Nat.beq pc 31 then some (.if_icmp .ge 68, 3, 99, 0, 0) else none) else (bif Nat.beq pc 34 then some (.iload 4, 2, 0, 0, 0) else none)) else (bif Nat.blt pc 38 then (bif Nat.beq pc 36 then some (.bipush 6, 2, 0, 0, 6) else none) else (bif Nat.beq pc 38 then some (.if_icmp .ge 61, 3, 99, 0, 0) else none)))) else (bif Nat.blt pc 48 then (bif Nat.blt pc 45 then (bif Nat.blt pc 42 then (bif Nat.beq pc 41 then some (.aload_n 0, 1, 0, 0, 0) else none) else (bif Nat.beq pc 42 then some (.getfield 18, 3, 2, 6, 0) else none)) else (bif Nat.blt pc 47 then (bif Nat.beq pc 45 then some (.iload 4, 2, 0, 0, 0) else none) else (bif Nat.beq pc 47 then some (.iaload, 1, 0, 0, 0) else none))) else (bif Nat.blt pc 50 then (bif Nat.blt pc 49 then (bif Nat.beq pc 48 then some (.iconst 1, 1, 0, 0, 1) else none) else (bif Nat.beq pc 49 then some (.isub, 1, 0, 0, 0) else none)) else (bif Nat.blt pc 52 then (bif Nat.beq pc 50 then some (.istore 5, 2, 0, 0, 0) else none) else (bif Nat.beq pc 52 then some (.iload 5, 2, 0, 0, 0) else none)))))) else (bif Nat.blt pc 78 then (bif Nat.blt pc 66 then (bif Nat.blt pc 59 then (bif Nat.blt pc 55 then (bif Nat.beq pc 54 then some (.iload_n 2, 1, 0, 0, 0) else none) else (bif Nat.blt pc 58 then (bif Nat.beq pc 55 then some (.if_icmp .ge 38, 3, 93, 0, 0) else none) else (bif Nat.beq pc 58 then some (.iload_n 1, 1, 0, 0, 0) else none))) else (bif Nat.blt pc 63 then (bif Nat.blt pc 60 then (bif Nat.beq pc 59 then some (.aload_n 0, 1, 0, 0, 0) else none) else (bif Nat.beq pc 60 then some (.getfield 15, 3, 1, 6, 0) else none)) else (bif Nat.blt pc 65 then (bif Nat.beq pc 63 then some (.iload 4, 2, 0, 0, 0) else none) else (bif Nat.beq pc 65 then some (.iaload, 1, 0, 0, 0) else none)))) else (bif Nat.blt pc 70 then (bif Nat.blt pc 67 then (bif Nat.beq pc 66 then some (.iconst 3, 1, 0, 0, 3) else none) else (bif Nat.blt pc 68 then (bif Nat.beq pc 67 then some (.ishr, 1, 0, 0, 0) else none) else (bif Nat.beq pc 68 then some (.iload 5, 2, 0, 0, 0) else none))) else (bif Nat.blt pc 76 then (bif Nat.blt pc 73 then (bif Nat.beq pc 70 then some (.invokestatic 31, 3, 84, 3, 13) else none) else (bif Nat.beq pc 73 then some (.ifCond .eq 20, 3, 93, 0, 0) else none)) else (bif Nat.blt pc 77 then (bif Nat.beq pc 76 then some (.iload_n 3, 1, 0, 0, 0) else none) else (bif Nat.beq pc 77 then some (.iconst 1, 1, 0, 0, 1) else none))))) else (bif Nat.blt pc 89 then (bif Nat.blt pc 84 then (bif Nat.blt pc 79 then (bif Nat.beq pc 78 then some (.aload_n 0, 1, 0, 0, 0) else none) else (bif Nat.blt pc 82 then (bif Nat.beq pc 79 then some (.getfield 15, 3, 1, 6, 0) else none) else (bif Nat.beq pc 82 then some (.iload 4, 2, 0, 0, 0) else none))) else (bif Nat.blt pc 87 then (bif Nat.blt pc 85 then (bif Nat.beq pc 84 then some (.iaload, 1, 0, 0, 0) else none) else (bif Nat.beq pc 85 then some (.bipush 7, 2, 0, 0, 7) else none)) else (bif Nat.blt pc 88 then (bif Nat.beq pc 87 then some (.iand, 1, 0, 0, 0) else none) else (bif Nat.beq pc 88 then some (.ishl, 1, 0, 0, 0) else none)))) else (bif Nat.blt pc 93 then (bif Nat.blt pc 91 then (bif Nat.blt pc 90 then (bif Nat.beq pc 89 then some (.iconst (-1), 1, 0, 0, -1) else none) else (bif Nat.beq pc 90 then some (.ixor, 1, 0, 0, 0) else none)) else (bif Nat.blt pc 92 then (bif Nat.beq pc 91 then some (.iand, 1, 0, 0, 0) else none) else (bif Nat.beq pc 92 then some (.istore_n 3, 1, 0, 0, 0) else none))) else (bif Nat.blt pc 99 then (bif Nat.blt pc 96 then (bif Nat.beq pc 93 then some (.iinc 4 1, 3, 0, 0, 0) else none) else (bif Nat.beq pc 96 then some (.goto (-71), 3, 25, 0, 0) else none)) else (bif Nat.blt pc 100 then (bif Nat.beq pc 99 then some (.iload_n 3, 1, 0, 0, 0) else none) else (bif Nat.beq pc 100 then some (.ireturn, 1, 0, 0, 0) else none))))))
/-- SlipWheel$Tongue.lineAtEndOf(II)I -/
def zc46 (pc : Nat) : Option zEn := bif Nat.blt pc 30 then (bif Nat.blt pc 17 then (bif Nat.blt pc 7 then (bif Nat.blt pc 2 then (bif Nat.blt pc 1 then (bif Nat.beq pc 0 then some (.iconst 0, 1, 0, 0, 0) else none) else (bif Nat.beq pc 1 then some (.istore_n 3, 1, 0, 0, 0) else none)) else (bif Nat.blt pc 3 then (bif Nat.beq pc 2 then some (.iload_n 3, 1, 0, 0, 0) else none) else (bif Nat.blt pc 4 then (bif Nat.beq pc 3 then some (.aload_n 0, 1, 0, 0, 0) else none) else (bif Nat.beq pc 4 then some (.getfield 27, 3, 3, 6, 0) else none)))) else (bif Nat.blt pc 11 then (bif Nat.blt pc 10 then (bif Nat.beq pc 7 then some (.if_icmp .ge 54, 3, 61, 0, 0) else none) else (bif Nat.beq pc 10 then some (.iload_n 3, 1, 0, 0, 0) else none)) else (bif Nat.blt pc 13 then (bif Nat.beq pc 11 then some (.bipush 6, 2, 0, 0, 6) else none) else (bif Nat.blt pc 16 then (bif Nat.beq pc 13 then some (.if_icmp .ge 48, 3, 61, 0, 0) else none) else (bif Nat.beq pc 16 then some (.iconst 1, 1, 0, 0, 1) else none))))) else (bif Nat.blt pc 24 then (bif Nat.blt pc 19 then (bif Nat.blt pc 18 then (bif Nat.beq pc 17 then some (.iconst 3, 1, 0, 0, 3) else none) else (bif Nat.beq pc 18 then some (.aload_n 0, 1, 0, 0, 0) else none)) else (bif Nat.blt pc 22 then (bif Nat.beq pc 19 then some (.getfield 18, 3, 2, 6, 0) else none) else (bif Nat.blt pc 23 then (bif Nat.beq pc 22 then some (.iload_n 3, 1, 0, 0, 0) else none) else (bif Nat.beq pc 23 then some (.iaload, 1, 0, 0, 0) else none)))) else (bif Nat.blt pc 26 then (bif Nat.blt pc 25 then (bif Nat.beq pc 24 then some (.imul, 1, 0, 0, 0) else none) else (bif Nat.beq pc 25 then some (.ishl, 1, 0, 0, 0) else none)) else (bif Nat.blt pc 27 then (bif Nat.beq pc 26 then some (.iconst 1, 1, 0, 0, 1) else none) else (bif Nat.blt pc 28 then (bif Nat.beq pc 27 then some (.isub, 1, 0, 0, 0) else none) else (bif Nat.beq pc 28 then some (.istore 4, 2, 0, 0, 0) else none)))))) else (bif Nat.blt pc 45 then (bif Nat.blt pc 37 then (bif Nat.blt pc 32 then (bif Nat.blt pc 31 then (bif Nat.beq pc 30 then some (.iload_n 2, 1, 0, 0, 0) else none) else (bif Nat.beq pc 31 then some (.aload_n 0, 1, 0, 0, 0) else none)) else (bif Nat.blt pc 35 then (bif Nat.beq pc 32 then some (.getfield 18, 3, 2, 6, 0) else none) else (bif Nat.blt pc 36 then (bif Nat.beq pc 35 then some (.iload_n 3, 1, 0, 0, 0) else none) else (bif Nat.beq pc 36 then some (.iaload, 1, 0, 0, 0) else none)))) else (bif Nat.blt pc 41 then (bif Nat.blt pc 40 then (bif Nat.beq pc 37 then some (.if_icmp .lt 18, 3, 55, 0, 0) else none) else (bif Nat.beq pc 40 then some (.iload_n 1, 1, 0, 0, 0) else none)) else (bif Nat.blt pc 43 then (bif Nat.beq pc 41 then some (.iload 4, 2, 0, 0, 0) else none) else (bif Nat.blt pc 44 then (bif Nat.beq pc 43 then some (.iand, 1, 0, 0, 0) else none) else (bif Nat.beq pc 44 then some (.aload_n 0, 1, 0, 0, 0) else none))))) else (bif Nat.blt pc 54 then (bif Nat.blt pc 49 then (bif Nat.blt pc 48 then (bif Nat.beq pc 45 then some (.getfield 15, 3, 1, 6, 0) else none) else (bif Nat.beq pc 48 then some (.iload_n 3, 1, 0, 0, 0) else none)) else (bif Nat.blt pc 50 then (bif Nat.beq pc 49 then some (.iaload, 1, 0, 0, 0) else none) else (bif Nat.blt pc 53 then (bif Nat.beq pc 50 then some (.if_icmp .ne 5, 3, 55, 0, 0) else none) else (bif Nat.beq pc 53 then some (.iload_n 3, 1, 0, 0, 0) else none)))) else (bif Nat.blt pc 58 then (bif Nat.blt pc 55 then (bif Nat.beq pc 54 then some (.ireturn, 1, 0, 0, 0) else none) else (bif Nat.beq pc 55 then some (.iinc 3 1, 3, 0, 0, 0) else none)) else (bif Nat.blt pc 61 then (bif Nat.beq pc 58 then some (.goto (-56), 3, 2, 0, 0) else none) else (bif Nat.blt pc 63 then (bif Nat.beq pc 61 then some (.bipush (-4), 2, 0, 0, -4) else none) else (bif Nat.beq pc 63 then some (.ireturn, 1, 0, 0, 0) else none))))))
/-- SlipWheel$Tongue.lengthOfLine(I)I -/
def zc47 (pc : Nat) : Option zEn := bif Nat.blt pc 11 then (bif Nat.blt pc 5 then (bif Nat.blt pc 1 then (bif Nat.beq pc 0 then some (.iload_n 1, 1, 0, 0, 0) else none) else (bif Nat.blt pc 4 then (bif Nat.beq pc 1 then some (.ifCond .lt 18, 3, 19, 0, 0) else none) else (bif Nat.beq pc 4 then some (.iload_n 1, 1, 0, 0, 0) else none))) else (bif Nat.blt pc 7 then (bif Nat.beq pc 5 then some (.bipush 6, 2, 0, 0, 6) else none) else (bif Nat.blt pc 10 then (bif Nat.beq pc 7 then some (.if_icmp .ge 12, 3, 19, 0, 0) else none) else (bif Nat.beq pc 10 then some (.aload_n 0, 1, 0, 0, 0) else none)))) else (bif Nat.blt pc 16 then (bif Nat.blt pc 14 then (bif Nat.beq pc 11 then some (.getfield 18, 3, 2, 6, 0) else none) else (bif Nat.blt pc 15 then (bif Nat.beq pc 14 then some (.iload_n 1, 1, 0, 0, 0) else none) else (bif Nat.beq pc 15 then some (.iaload, 1, 0, 0, 0) else none))) else (bif Nat.blt pc 19 then (bif Nat.beq pc 16 then some (.goto 4, 3, 20, 0, 0) else none) else (bif Nat.blt pc 20 then (bif Nat.beq pc 19 then some (.iconst 0, 1, 0, 0, 0) else none) else (bif Nat.beq pc 20 then some (.ireturn, 1, 0, 0, 0) else none))))
/-- SlipWheel$Wheel.<init>(LSlipWheel$Cells;)V -/
def zc48 (pc : Nat) : Option zEn := bif Nat.blt pc 9 then (bif Nat.blt pc 4 then (bif Nat.blt pc 1 then (bif Nat.beq pc 0 then some (.aload_n 0, 1, 0, 0, 0) else none) else (bif Nat.beq pc 1 then some (.invokespecial 3, 3, 0, 1, 6) else none)) else (bif Nat.blt pc 5 then (bif Nat.beq pc 4 then some (.aload_n 0, 1, 0, 0, 0) else none) else (bif Nat.blt pc 7 then (bif Nat.beq pc 5 then some (.bipush 6, 2, 0, 0, 6) else none) else (bif Nat.beq pc 7 then some (.newarray .int, 2, 0, 0, 0) else none)))) else (bif Nat.blt pc 13 then (bif Nat.blt pc 12 then (bif Nat.beq pc 9 then some (.putfield 9, 3, 1, 7, 0) else none) else (bif Nat.beq pc 12 then some (.aload_n 0, 1, 0, 0, 0) else none)) else (bif Nat.blt pc 14 then (bif Nat.beq pc 13 then some (.aload_n 1, 1, 0, 0, 0) else none) else (bif Nat.blt pc 17 then (bif Nat.beq pc 14 then some (.putfield 15, 3, 0, 7, 0) else none) else (bif Nat.beq pc 17 then some (.return_, 1, 0, 0, 0) else none))))
/-- SlipWheel$Wheel.copyFrom(LSlipWheel$Wheel;)V -/
def zc49 (pc : Nat) : Option zEn := bif Nat.blt pc 17 then (bif Nat.blt pc 9 then (bif Nat.blt pc 4 then (bif Nat.blt pc 1 then (bif Nat.beq pc 0 then some (.aload_n 1, 1, 0, 0, 0) else none) else (bif Nat.beq pc 1 then some (.getfield 9, 3, 1, 7, 0) else none)) else (bif Nat.blt pc 5 then (bif Nat.beq pc 4 then some (.iconst 0, 1, 0, 0, 0) else none) else (bif Nat.blt pc 6 then (bif Nat.beq pc 5 then some (.aload_n 0, 1, 0, 0, 0) else none) else (bif Nat.beq pc 6 then some (.getfield 9, 3, 1, 7, 0) else none)))) else (bif Nat.blt pc 12 then (bif Nat.blt pc 10 then (bif Nat.beq pc 9 then some (.iconst 0, 1, 0, 0, 0) else none) else (bif Nat.beq pc 10 then some (.bipush 6, 2, 0, 0, 6) else none)) else (bif Nat.blt pc 15 then (bif Nat.beq pc 12 then some (.invokestatic 19, 3, 0, 5, 7) else none) else (bif Nat.blt pc 16 then (bif Nat.beq pc 15 then some (.aload_n 0, 1, 0, 0, 0) else none) else (bif Nat.beq pc 16 then some (.aload_n 1, 1, 0, 0, 0) else none))))) else (bif Nat.blt pc 28 then (bif Nat.blt pc 23 then (bif Nat.blt pc 20 then (bif Nat.beq pc 17 then some (.getfield 25, 3, 2, 7, 0) else none) else (bif Nat.beq pc 20 then some (.putfield 25, 3, 2, 7, 0) else none)) else (bif Nat.blt pc 24 then (bif Nat.beq pc 23 then some (.aload_n 0, 1, 0, 0, 0) else none) else (bif Nat.blt pc 25 then (bif Nat.beq pc 24 then some (.aload_n 1, 1, 0, 0, 0) else none) else (bif Nat.beq pc 25 then some (.getfield 29, 3, 3, 7, 0) else none)))) else (bif Nat.blt pc 33 then (bif Nat.blt pc 31 then (bif Nat.beq pc 28 then some (.putfield 29, 3, 3, 7, 0) else none) else (bif Nat.blt pc 32 then (bif Nat.beq pc 31 then some (.aload_n 0, 1, 0, 0, 0) else none) else (bif Nat.beq pc 32 then some (.aload_n 1, 1, 0, 0, 0) else none))) else (bif Nat.blt pc 36 then (bif Nat.beq pc 33 then some (.getfield 32, 3, 4, 7, 0) else none) else (bif Nat.blt pc 39 then (bif Nat.beq pc 36 then some (.putfield 32, 3, 4, 7, 0) else none) else (bif Nat.beq pc 39 then some (.return_, 1, 0, 0, 0) else none)))))
/-- SlipWheel$Wheel.takeSeat(I)V -/
def zc50 (pc : Nat) : Option zEn := bif Nat.blt pc 10 then (bif Nat.blt pc 4 then (bif Nat.blt pc 1 then (bif Nat.beq pc 0 then some (.iload_n 1, 1, 0, 0, 0) else none) else (bif Nat.beq pc 1 then some (.ifCond .lt 16, 3, 17, 0, 0) else none)) else (bif Nat.blt pc 5 then (bif Nat.beq pc 4 then some (.iload_n 1, 1, 0, 0, 0) else none) else (bif Nat.blt pc 7 then (bif Nat.beq pc 5 then some (.bipush 6, 2, 0, 0, 6) else none) else (bif Nat.beq pc 7 then some (.if_icmp .ge 10, 3, 17, 0, 0) else none)))) else (bif Nat.blt pc 15 then (bif Nat.blt pc 11 then (bif Nat.beq pc 10 then some (.aload_n 0, 1, 0, 0, 0) else none) else (bif Nat.blt pc 14 then (bif Nat.beq pc 11 then some (.getfield 9, 3, 1, 7, 0) else none) else (bif Nat.beq pc 14 then some (.iload_n 1, 1, 0, 0, 0) else none))) else (bif Nat.blt pc 16 then (bif Nat.beq pc 15 then some (.iload_n 1, 1, 0, 0, 0) else none) else (bif Nat.blt pc 17 then (bif Nat.beq pc 16 then some (.iastore, 1, 0, 0, 0) else none) else (bif Nat.beq pc 17 then some (.return_, 1, 0, 0, 0) else none))))
/-- SlipWheel$Wheel.cellOn(I)I -/
def zc51 (pc : Nat) : Option zEn := bif Nat.blt pc 12 then (bif Nat.blt pc 5 then (bif Nat.blt pc 1 then (bif Nat.beq pc 0 then some (.aload_n 0, 1, 0, 0, 0) else none) else (bif Nat.blt pc 4 then (bif Nat.beq pc 1 then some (.getfield 15, 3, 0, 7, 0) else none) else (bif Nat.beq pc 4 then some (.iload_n 1, 1, 0, 0, 0) else none))) else (bif Nat.blt pc 8 then (bif Nat.beq pc 5 then some (.invokevirtual 36, 3, 2, 2, 11) else none) else (bif Nat.blt pc 11 then (bif Nat.beq pc 8 then some (.ifCond .eq 12, 3, 20, 0, 0) else none) else (bif Nat.beq pc 11 then some (.aload_n 0, 1, 0, 0, 0) else none)))) else (bif Nat.blt pc 17 then (bif Nat.blt pc 15 then (bif Nat.beq pc 12 then some (.getfield 9, 3, 1, 7, 0) else none) else (bif Nat.blt pc 16 then (bif Nat.beq pc 15 then some (.iload_n 1, 1, 0, 0, 0) else none) else (bif Nat.beq pc 16 then some (.iaload, 1, 0, 0, 0) else none))) else (bif Nat.blt pc 20 then (bif Nat.beq pc 17 then some (.goto 5, 3, 22, 0, 0) else none) else (bif Nat.blt pc 22 then (bif Nat.beq pc 20 then some (.bipush (-4), 2, 0, 0, -4) else none) else (bif Nat.beq pc 22 then some (.ireturn, 1, 0, 0, 0) else none))))
/-- SlipWheel$Wheel.seatOf(I)I -/
def zc52 (pc : Nat) : Option zEn := bif Nat.blt pc 13 then (bif Nat.blt pc 5 then (bif Nat.blt pc 2 then (bif Nat.blt pc 1 then (bif Nat.beq pc 0 then some (.iconst 0, 1, 0, 0, 0) else none) else (bif Nat.beq pc 1 then some (.istore_n 2, 1, 0, 0, 0) else none)) else (bif Nat.blt pc 3 then (bif Nat.beq pc 2 then some (.iload_n 2, 1, 0, 0, 0) else none) else (bif Nat.beq pc 3 then some (.bipush 6, 2, 0, 0, 6) else none))) else (bif Nat.blt pc 9 then (bif Nat.blt pc 8 then (bif Nat.beq pc 5 then some (.if_icmp .ge 20, 3, 25, 0, 0) else none) else (bif Nat.beq pc 8 then some (.aload_n 0, 1, 0, 0, 0) else none)) else (bif Nat.blt pc 10 then (bif Nat.beq pc 9 then some (.iload_n 2, 1, 0, 0, 0) else none) else (bif Nat.beq pc 10 then some (.invokevirtual 42, 3, 51, 2, 10) else none)))) else (bif Nat.blt pc 19 then (bif Nat.blt pc 17 then (bif Nat.blt pc 14 then (bif Nat.beq pc 13 then some (.iload_n 1, 1, 0, 0, 0) else none) else (bif Nat.beq pc 14 then some (.if_icmp .ne 5, 3, 19, 0, 0) else none)) else (bif Nat.blt pc 18 then (bif Nat.beq pc 17 then some (.iload_n 2, 1, 0, 0, 0) else none) else (bif Nat.beq pc 18 then some (.ireturn, 1, 0, 0, 0) else none))) else (bif Nat.blt pc 25 then (bif Nat.blt pc 22 then (bif Nat.beq pc 19 then some (.iinc 2 1, 3, 0, 0, 0) else none) else (bif Nat.beq pc 22 then some (.goto (-20), 3, 2, 0, 0) else none)) else (bif Nat.blt pc 27 then (bif Nat.beq pc 25 then some (.bipush (-4), 2, 0, 0, -4) else none) else (bif Nat.beq pc 27 then some (.ireturn, 1, 0, 0, 0) else none))))
/-- SlipWheel$Wheel.changeSeats(II)V -/
def zc53 (pc : Nat) : Option zEn := bif Nat.blt pc 25 then (bif Nat.blt pc 11 then (bif Nat.blt pc 5 then (bif Nat.blt pc 1 then (bif Nat.beq pc 0 then some (.aload_n 0, 1, 0, 0, 0) else none) else (bif Nat.blt pc 2 then (bif Nat.beq pc 1 then some (.iload_n 1, 1, 0, 0, 0) else none) else (bif Nat.beq pc 2 then some (.invokevirtual 46, 3, 52, 2, 10) else none))) else (bif Nat.blt pc 7 then (bif Nat.blt pc 6 then (bif Nat.beq pc 5 then some (.istore_n 3, 1, 0, 0, 0) else none) else (bif Nat.beq pc 6 then some (.aload_n 0, 1, 0, 0, 0) else none)) else (bif Nat.blt pc 8 then (bif Nat.beq pc 7 then some (.iload_n 2, 1, 0, 0, 0) else none) else (bif Nat.beq pc 8 then some (.invokevirtual 46, 3, 52, 2, 10) else none)))) else (bif Nat.blt pc 17 then (bif Nat.blt pc 13 then (bif Nat.beq pc 11 then some (.istore 4, 2, 0, 0, 0) else none) else (bif Nat.blt pc 14 then (bif Nat.beq pc 13 then some (.aload_n 0, 1, 0, 0, 0) else none) else (bif Nat.beq pc 14 then some (.getfield 15, 3, 0, 7, 0) else none))) else (bif Nat.blt pc 21 then (bif Nat.blt pc 18 then (bif Nat.beq pc 17 then some (.iload_n 3, 1, 0, 0, 0) else none) else (bif Nat.beq pc 18 then some (.invokevirtual 36, 3, 2, 2, 11) else none)) else (bif Nat.blt pc 24 then (bif Nat.beq pc 21 then some (.ifCond .eq 30, 3, 51, 0, 0) else none) else (bif Nat.beq pc 24 then some (.aload_n 0, 1, 0, 0, 0) else none))))) else (bif Nat.blt pc 41 then (bif Nat.blt pc 33 then (bif Nat.blt pc 28 then (bif Nat.beq pc 25 then some (.getfield 15, 3, 0, 7, 0) else none) else (bif Nat.blt pc 30 then (bif Nat.beq pc 28 then some (.iload 4, 2, 0, 0, 0) else none) else (bif Nat.beq pc 30 then some (.invokevirtual 36, 3, 2, 2, 11) else none))) else (bif Nat.blt pc 37 then (bif Nat.blt pc 36 then (bif Nat.beq pc 33 then some (.ifCond .eq 18, 3, 51, 0, 0) else none) else (bif Nat.beq pc 36 then some (.aload_n 0, 1, 0, 0, 0) else none)) else (bif Nat.blt pc 40 then (bif Nat.beq pc 37 then some (.getfield 9, 3, 1, 7, 0) else none) else (bif Nat.beq pc 40 then some (.iload_n 3, 1, 0, 0, 0) else none)))) else (bif Nat.blt pc 47 then (bif Nat.blt pc 43 then (bif Nat.blt pc 42 then (bif Nat.beq pc 41 then some (.iload_n 2, 1, 0, 0, 0) else none) else (bif Nat.beq pc 42 then some (.iastore, 1, 0, 0, 0) else none)) else (bif Nat.blt pc 44 then (bif Nat.beq pc 43 then some (.aload_n 0, 1, 0, 0, 0) else none) else (bif Nat.beq pc 44 then some (.getfield 9, 3, 1, 7, 0) else none))) else (bif Nat.blt pc 50 then (bif Nat.blt pc 49 then (bif Nat.beq pc 47 then some (.iload 4, 2, 0, 0, 0) else none) else (bif Nat.beq pc 49 then some (.iload_n 1, 1, 0, 0, 0) else none)) else (bif Nat.blt pc 51 then (bif Nat.beq pc 50 then some (.iastore, 1, 0, 0, 0) else none) else (bif Nat.beq pc 51 then some (.return_, 1, 0, 0, 0) else none)))))
/-- SlipWheel$Wheel.seatOfTurn()I -/
def zc54 (pc : Nat) : Option zEn := bif Nat.blt pc 18 then (bif Nat.blt pc 6 then (bif Nat.blt pc 4 then (bif Nat.blt pc 1 then (bif Nat.beq pc 0 then some (.aload_n 0, 1, 0, 0, 0) else none) else (bif Nat.beq pc 1 then some (.getfield 15, 3, 0, 7, 0) else none)) else (bif Nat.blt pc 5 then (bif Nat.beq pc 4 then some (.aload_n 0, 1, 0, 0, 0) else none) else (bif Nat.beq pc 5 then some (.aload_n 0, 1, 0, 0, 0) else none))) else (bif Nat.blt pc 12 then (bif Nat.blt pc 9 then (bif Nat.beq pc 6 then some (.getfield 25, 3, 2, 7, 0) else none) else (bif Nat.beq pc 9 then some (.invokevirtual 42, 3, 51, 2, 10) else none)) else (bif Nat.blt pc 15 then (bif Nat.beq pc 12 then some (.invokevirtual 49, 3, 5, 2, 11) else none) else (bif Nat.beq pc 15 then some (.ifCond .eq 10, 3, 25, 0, 0) else none)))) else (bif Nat.blt pc 26 then (bif Nat.blt pc 22 then (bif Nat.blt pc 19 then (bif Nat.beq pc 18 then some (.aload_n 0, 1, 0, 0, 0) else none) else (bif Nat.beq pc 19 then some (.getfield 25, 3, 2, 7, 0) else none)) else (bif Nat.blt pc 25 then (bif Nat.beq pc 22 then some (.goto 11, 3, 33, 0, 0) else none) else (bif Nat.beq pc 25 then some (.aload_n 0, 1, 0, 0, 0) else none))) else (bif Nat.blt pc 30 then (bif Nat.blt pc 27 then (bif Nat.beq pc 26 then some (.aload_n 0, 1, 0, 0, 0) else none) else (bif Nat.beq pc 27 then some (.getfield 25, 3, 2, 7, 0) else none)) else (bif Nat.blt pc 33 then (bif Nat.beq pc 30 then some (.invokevirtual 52, 3, 55, 2, 10) else none) else (bif Nat.beq pc 33 then some (.ireturn, 1, 0, 0, 0) else none))))
/-- SlipWheel$Wheel.seatBehind(I)I -/
def zc55 (pc : Nat) : Option zEn := bif Nat.blt pc 9 then (bif Nat.blt pc 2 then (bif Nat.blt pc 1 then (bif Nat.beq pc 0 then some (.aload_n 0, 1, 0, 0, 0) else none) else (bif Nat.beq pc 1 then some (.iload_n 1, 1, 0, 0, 0) else none)) else (bif Nat.blt pc 3 then (bif Nat.beq pc 2 then some (.aload_n 0, 1, 0, 0, 0) else none) else (bif Nat.blt pc 6 then (bif Nat.beq pc 3 then some (.getfield 32, 3, 4, 7, 0) else none) else (bif Nat.beq pc 6 then some (.ifCond .eq 7, 3, 13, 0, 0) else none)))) else (bif Nat.blt pc 13 then (bif Nat.blt pc 10 then (bif Nat.beq pc 9 then some (.iconst (-1), 1, 0, 0, -1) else none) else (bif Nat.beq pc 10 then some (.goto 4, 3, 14, 0, 0) else none)) else (bif Nat.blt pc 14 then (bif Nat.beq pc 13 then some (.iconst 1, 1, 0, 0, 1) else none) else (bif Nat.blt pc 17 then (bif Nat.beq pc 14 then some (.invokevirtual 55, 3, 56, 3, 10) else none) else (bif Nat.beq pc 17 then some (.ireturn, 1, 0, 0, 0) else none))))
/-- SlipWheel$Wheel.livingSeatPast(II)I -/
def zc56 (pc : Nat) : Option zEn := bif Nat.blt pc 28 then (bif Nat.blt pc 14 then (bif Nat.blt pc 8 then (bif Nat.blt pc 4 then (bif Nat.blt pc 1 then (bif Nat.beq pc 0 then some (.aload_n 0, 1, 0, 0, 0) else none) else (bif Nat.beq pc 1 then some (.getfield 15, 3, 0, 7, 0) else none)) else (bif Nat.blt pc 7 then (bif Nat.beq pc 4 then some (.getfield 59, 3, 3, 0, 1) else none) else (bif Nat.beq pc 7 then some (.istore_n 3, 1, 0, 0, 0) else none))) else (bif Nat.blt pc 11 then (bif Nat.blt pc 9 then (bif Nat.beq pc 8 then some (.iconst 1, 1, 0, 0, 1) else none) else (bif Nat.beq pc 9 then some (.istore 4, 2, 0, 0, 0) else none)) else (bif Nat.blt pc 13 then (bif Nat.beq pc 11 then some (.iload 4, 2, 0, 0, 0) else none) else (bif Nat.beq pc 13 then some (.iload_n 3, 1, 0, 0, 0) else none)))) else (bif Nat.blt pc 22 then (bif Nat.blt pc 18 then (bif Nat.blt pc 17 then (bif Nat.beq pc 14 then some (.if_icmp .gt 48, 3, 62, 0, 0) else none) else (bif Nat.beq pc 17 then some (.iload_n 3, 1, 0, 0, 0) else none)) else (bif Nat.blt pc 21 then (bif Nat.beq pc 18 then some (.ifCond .le 16, 3, 34, 0, 0) else none) else (bif Nat.beq pc 21 then some (.iload_n 1, 1, 0, 0, 0) else none))) else (bif Nat.blt pc 25 then (bif Nat.blt pc 24 then (bif Nat.beq pc 22 then some (.iload 4, 2, 0, 0, 0) else none) else (bif Nat.beq pc 24 then some (.iload_n 2, 1, 0, 0, 0) else none)) else (bif Nat.blt pc 26 then (bif Nat.beq pc 25 then some (.imul, 1, 0, 0, 0) else none) else (bif Nat.blt pc 27 then (bif Nat.beq pc 26 then some (.iadd, 1, 0, 0, 0) else none) else (bif Nat.beq pc 27 then some (.iload_n 3, 1, 0, 0, 0) else none)))))) else (bif Nat.blt pc 44 then (bif Nat.blt pc 37 then (bif Nat.blt pc 34 then (bif Nat.blt pc 31 then (bif Nat.beq pc 28 then some (.invokestatic 62, 3, 87, 2, 12) else none) else (bif Nat.beq pc 31 then some (.goto 4, 3, 35, 0, 0) else none)) else (bif Nat.blt pc 35 then (bif Nat.beq pc 34 then some (.iconst 0, 1, 0, 0, 0) else none) else (bif Nat.beq pc 35 then some (.istore 5, 2, 0, 0, 0) else none))) else (bif Nat.blt pc 41 then (bif Nat.blt pc 38 then (bif Nat.beq pc 37 then some (.aload_n 0, 1, 0, 0, 0) else none) else (bif Nat.beq pc 38 then some (.getfield 15, 3, 0, 7, 0) else none)) else (bif Nat.blt pc 42 then (bif Nat.beq pc 41 then some (.aload_n 0, 1, 0, 0, 0) else none) else (bif Nat.beq pc 42 then some (.iload 5, 2, 0, 0, 0) else none)))) else (bif Nat.blt pc 55 then (bif Nat.blt pc 50 then (bif Nat.blt pc 47 then (bif Nat.beq pc 44 then some (.invokevirtual 42, 3, 51, 2, 10) else none) else (bif Nat.beq pc 47 then some (.invokevirtual 49, 3, 5, 2, 11) else none)) else (bif Nat.blt pc 53 then (bif Nat.beq pc 50 then some (.ifCond .eq 6, 3, 56, 0, 0) else none) else (bif Nat.beq pc 53 then some (.iload 5, 2, 0, 0, 0) else none))) else (bif Nat.blt pc 59 then (bif Nat.blt pc 56 then (bif Nat.beq pc 55 then some (.ireturn, 1, 0, 0, 0) else none) else (bif Nat.beq pc 56 then some (.iinc 4 1, 3, 0, 0, 0) else none)) else (bif Nat.blt pc 62 then (bif Nat.beq pc 59 then some (.goto (-48), 3, 11, 0, 0) else none) else (bif Nat.blt pc 64 then (bif Nat.beq pc 62 then some (.bipush (-4), 2, 0, 0, -4) else none) else (bif Nat.beq pc 64 then some (.ireturn, 1, 0, 0, 0) else none))))))
/-- SlipWheel$Wheel.goOn()V -/
def zc57 (pc : Nat) : Option zEn := bif Nat.blt pc 12 then (bif Nat.blt pc 3 then (bif Nat.blt pc 1 then (bif Nat.beq pc 0 then some (.aload_n 0, 1, 0, 0, 0) else none) else (bif Nat.blt pc 2 then (bif Nat.beq pc 1 then some (.aload_n 0, 1, 0, 0, 0) else none) else (bif Nat.beq pc 2 then some (.aload_n 0, 1, 0, 0, 0) else none))) else (bif Nat.blt pc 6 then (bif Nat.beq pc 3 then some (.invokevirtual 67, 3, 54, 1, 10) else none) else (bif Nat.blt pc 9 then (bif Nat.beq pc 6 then some (.invokevirtual 52, 3, 55, 2, 10) else none) else (bif Nat.beq pc 9 then some (.putfield 25, 3, 2, 7, 0) else none)))) else (bif Nat.blt pc 17 then (bif Nat.blt pc 13 then (bif Nat.beq pc 12 then some (.aload_n 0, 1, 0, 0, 0) else none) else (bif Nat.blt pc 14 then (bif Nat.beq pc 13 then some (.dup, 1, 0, 0, 0) else none) else (bif Nat.beq pc 14 then some (.getfield 29, 3, 3, 7, 0) else none))) else (bif Nat.blt pc 19 then (bif Nat.blt pc 18 then (bif Nat.beq pc 17 then some (.iconst 1, 1, 0, 0, 1) else none) else (bif Nat.beq pc 18 then some (.iadd, 1, 0, 0, 0) else none)) else (bif Nat.blt pc 22 then (bif Nat.beq pc 19 then some (.putfield 29, 3, 3, 7, 0) else none) else (bif Nat.beq pc 22 then some (.return_, 1, 0, 0, 0) else none))))
/-- SlipWheel.<init>()V -/
def zc58 (pc : Nat) : Option zEn := bif Nat.blt pc 49 then (bif Nat.blt pc 23 then (bif Nat.blt pc 9 then (bif Nat.blt pc 4 then (bif Nat.blt pc 1 then (bif Nat.beq pc 0 then some (.aload_n 0, 1, 0, 0, 0) else none) else (bif Nat.beq pc 1 then some (.invokespecial 1, 3, 0, 1, 6) else none)) else (bif Nat.blt pc 5 then (bif Nat.beq pc 4 then some (.aload_n 0, 1, 0, 0, 0) else none) else (bif Nat.blt pc 8 then (bif Nat.beq pc 5 then some (.new 7, 3, 5, 1, 0) else none) else (bif Nat.beq pc 8 then some (.dup, 1, 0, 0, 0) else none)))) else (bif Nat.blt pc 16 then (bif Nat.blt pc 12 then (bif Nat.beq pc 9 then some (.invokespecial 9, 3, 12, 1, 5) else none) else (bif Nat.blt pc 15 then (bif Nat.beq pc 12 then some (.putfield 10, 3, 0, 8, 0) else none) else (bif Nat.beq pc 15 then some (.aload_n 0, 1, 0, 0, 0) else none))) else (bif Nat.blt pc 19 then (bif Nat.beq pc 16 then some (.new 7, 3, 5, 1, 0) else none) else (bif Nat.blt pc 20 then (bif Nat.beq pc 19 then some (.dup, 1, 0, 0, 0) else none) else (bif Nat.beq pc 20 then some (.invokespecial 9, 3, 12, 1, 5) else none))))) else (bif Nat.blt pc 37 then (bif Nat.blt pc 30 then (bif Nat.blt pc 26 then (bif Nat.beq pc 23 then some (.putfield 16, 3, 1, 8, 0) else none) else (bif Nat.blt pc 27 then (bif Nat.beq pc 26 then some (.aload_n 0, 1, 0, 0, 0) else none) else (bif Nat.beq pc 27 then some (.new 19, 3, 3, 5, 0) else none))) else (bif Nat.blt pc 31 then (bif Nat.beq pc 30 then some (.dup, 1, 0, 0, 0) else none) else (bif Nat.blt pc 34 then (bif Nat.beq pc 31 then some (.invokespecial 21, 3, 40, 1, 5) else none) else (bif Nat.beq pc 34 then some (.putfield 22, 3, 2, 8, 0) else none)))) else (bif Nat.blt pc 42 then (bif Nat.blt pc 38 then (bif Nat.beq pc 37 then some (.aload_n 0, 1, 0, 0, 0) else none) else (bif Nat.blt pc 39 then (bif Nat.beq pc 38 then some (.iconst 4, 1, 0, 0, 4) else none) else (bif Nat.beq pc 39 then some (.anewarray 26, 3, 0, 4, 0) else none))) else (bif Nat.blt pc 45 then (bif Nat.beq pc 42 then some (.putfield 28, 3, 3, 8, 0) else none) else (bif Nat.blt pc 46 then (bif Nat.beq pc 45 then some (.aload_n 0, 1, 0, 0, 0) else none) else (bif Nat.beq pc 46 then some (.new 32, 3, 3, 3, 0) else none)))))) else (bif Nat.blt pc 71 then (bif Nat.blt pc 61 then (bif Nat.blt pc 56 then (bif Nat.blt pc 50 then (bif Nat.beq pc 49 then some (.dup, 1, 0, 0, 0) else none) else (bif Nat.blt pc 53 then (bif Nat.beq pc 50 then some (.invokespecial 34, 3, 33, 1, 5) else none) else (bif Nat.beq pc 53 then some (.putfield 35, 3, 4, 8, 0) else none))) else (bif Nat.blt pc 57 then (bif Nat.beq pc 56 then some (.aload_n 0, 1, 0, 0, 0) else none) else (bif Nat.blt pc 59 then (bif Nat.beq pc 57 then some (.bipush 6, 2, 0, 0, 6) else none) else (bif Nat.beq pc 59 then some (.newarray .int, 2, 0, 0, 0) else none)))) else (bif Nat.blt pc 66 then (bif Nat.blt pc 64 then (bif Nat.beq pc 61 then some (.putfield 39, 3, 5, 8, 0) else none) else (bif Nat.blt pc 65 then (bif Nat.beq pc 64 then some (.iconst 0, 1, 0, 0, 0) else none) else (bif Nat.beq pc 65 then some (.istore_n 1, 1, 0, 0, 0) else none))) else (bif Nat.blt pc 67 then (bif Nat.beq pc 66 then some (.iload_n 1, 1, 0, 0, 0) else none) else (bif Nat.blt pc 68 then (bif Nat.beq pc 67 then some (.aload_n 0, 1, 0, 0, 0) else none) else (bif Nat.beq pc 68 then some (.getfield 28, 3, 3, 8, 0) else none))))) else (bif Nat.blt pc 83 then (bif Nat.blt pc 76 then (bif Nat.blt pc 72 then (bif Nat.beq pc 71 then some (.arraylength, 1, 0, 0, 0) else none) else (bif Nat.blt pc 75 then (bif Nat.beq pc 72 then some (.if_icmp .ge 22, 3, 94, 0, 0) else none) else (bif Nat.beq pc 75 then some (.aload_n 0, 1, 0, 0, 0) else none))) else (bif Nat.blt pc 79 then (bif Nat.beq pc 76 then some (.getfield 28, 3, 3, 8, 0) else none) else (bif Nat.blt pc 80 then (bif Nat.beq pc 79 then some (.iload_n 1, 1, 0, 0, 0) else none) else (bif Nat.beq pc 80 then some (.new 26, 3, 3, 4, 0) else none)))) else (bif Nat.blt pc 88 then (bif Nat.blt pc 84 then (bif Nat.beq pc 83 then some (.dup, 1, 0, 0, 0) else none) else (bif Nat.blt pc 87 then (bif Nat.beq pc 84 then some (.invokespecial 43, 3, 39, 1, 5) else none) else (bif Nat.beq pc 87 then some (.aastore, 1, 0, 0, 0) else none))) else (bif Nat.blt pc 91 then (bif Nat.beq pc 88 then some (.iinc 1 1, 3, 0, 0, 0) else none) else (bif Nat.blt pc 94 then (bif Nat.beq pc 91 then some (.goto (-25), 3, 66, 0, 0) else none) else (bif Nat.beq pc 94 then some (.return_, 1, 0, 0, 0) else none))))))
/-- SlipWheel.follow(II)I -/
def zc59 (pc : Nat) : Option zEn := bif Nat.blt pc 18 then (bif Nat.blt pc 8 then (bif Nat.blt pc 4 then (bif Nat.blt pc 1 then (bif Nat.beq pc 0 then some (.iload_n 1, 1, 0, 0, 0) else none) else (bif Nat.beq pc 1 then some (.invokestatic 44, 3, 79, 1, 12) else none)) else (bif Nat.blt pc 7 then (bif Nat.beq pc 4 then some (.ifCond .eq 14, 3, 18, 0, 0) else none) else (bif Nat.beq pc 7 then some (.iload_n 2, 1, 0, 0, 0) else none))) else (bif Nat.blt pc 12 then (bif Nat.blt pc 11 then (bif Nat.beq pc 8 then some (.ifCond .lt 10, 3, 18, 0, 0) else none) else (bif Nat.beq pc 11 then some (.iload_n 2, 1, 0, 0, 0) else none)) else (bif Nat.blt pc 15 then (bif Nat.beq pc 12 then some (.sipush 255, 3, 0, 0, 255) else none) else (bif Nat.beq pc 15 then some (.if_icmp .le 5, 3, 20, 0, 0) else none)))) else (bif Nat.blt pc 24 then (bif Nat.blt pc 20 then (bif Nat.blt pc 19 then (bif Nat.beq pc 18 then some (.iconst (-1), 1, 0, 0, -1) else none) else (bif Nat.beq pc 19 then some (.ireturn, 1, 0, 0, 0) else none)) else (bif Nat.blt pc 21 then (bif Nat.beq pc 20 then some (.aload_n 0, 1, 0, 0, 0) else none) else (bif Nat.beq pc 21 then some (.getfield 10, 3, 0, 8, 0) else none))) else (bif Nat.blt pc 28 then (bif Nat.blt pc 27 then (bif Nat.beq pc 24 then some (.getfield 48, 3, 0, 1, 1) else none) else (bif Nat.beq pc 27 then some (.iload_n 1, 1, 0, 0, 0) else none)) else (bif Nat.blt pc 29 then (bif Nat.beq pc 28 then some (.iload_n 2, 1, 0, 0, 0) else none) else (bif Nat.blt pc 32 then (bif Nat.beq pc 29 then some (.invokevirtual 52, 3, 43, 3, 11) else none) else (bif Nat.beq pc 32 then some (.ireturn, 1, 0, 0, 0) else none)))))
/-- SlipWheel.line(II)I -/
def zc60 (pc : Nat) : Option zEn := bif Nat.blt pc 11 then (bif Nat.blt pc 3 then (bif Nat.blt pc 1 then (bif Nat.beq pc 0 then some (.iload_n 1, 1, 0, 0, 0) else none) else (bif Nat.blt pc 2 then (bif Nat.beq pc 1 then some (.iload_n 2, 1, 0, 0, 0) else none) else (bif Nat.beq pc 2 then some (.iconst 4, 1, 0, 0, 4) else none))) else (bif Nat.blt pc 9 then (bif Nat.blt pc 6 then (bif Nat.beq pc 3 then some (.invokestatic 58, 3, 80, 3, 12) else none) else (bif Nat.beq pc 6 then some (.ifCond .ne 5, 3, 11, 0, 0) else none)) else (bif Nat.blt pc 10 then (bif Nat.beq pc 9 then some (.iconst (-1), 1, 0, 0, -1) else none) else (bif Nat.beq pc 10 then some (.ireturn, 1, 0, 0, 0) else none)))) else (bif Nat.blt pc 18 then (bif Nat.blt pc 12 then (bif Nat.beq pc 11 then some (.aload_n 0, 1, 0, 0, 0) else none) else (bif Nat.blt pc 15 then (bif Nat.beq pc 12 then some (.getfield 10, 3, 0, 8, 0) else none) else (bif Nat.beq pc 15 then some (.getfield 48, 3, 0, 1, 1) else none))) else (bif Nat.blt pc 20 then (bif Nat.blt pc 19 then (bif Nat.beq pc 18 then some (.iload_n 1, 1, 0, 0, 0) else none) else (bif Nat.beq pc 19 then some (.iload_n 2, 1, 0, 0, 0) else none)) else (bif Nat.blt pc 23 then (bif Nat.beq pc 20 then some (.invokevirtual 62, 3, 44, 3, 11) else none) else (bif Nat.beq pc 23 then some (.ireturn, 1, 0, 0, 0) else none))))
/-- SlipWheel.cell(I)I -/
def zc61 (pc : Nat) : Option zEn := bif Nat.blt pc 19 then (bif Nat.blt pc 9 then (bif Nat.blt pc 4 then (bif Nat.blt pc 1 then (bif Nat.beq pc 0 then some (.iload_n 1, 1, 0, 0, 0) else none) else (bif Nat.beq pc 1 then some (.ifCond .lt 8, 3, 9, 0, 0) else none)) else (bif Nat.blt pc 5 then (bif Nat.beq pc 4 then some (.iload_n 1, 1, 0, 0, 0) else none) else (bif Nat.blt pc 6 then (bif Nat.beq pc 5 then some (.iconst 3, 1, 0, 0, 3) else none) else (bif Nat.beq pc 6 then some (.if_icmp .le 5, 3, 11, 0, 0) else none)))) else (bif Nat.blt pc 12 then (bif Nat.blt pc 10 then (bif Nat.beq pc 9 then some (.iconst (-1), 1, 0, 0, -1) else none) else (bif Nat.blt pc 11 then (bif Nat.beq pc 10 then some (.ireturn, 1, 0, 0, 0) else none) else (bif Nat.beq pc 11 then some (.aload_n 0, 1, 0, 0, 0) else none))) else (bif Nat.blt pc 15 then (bif Nat.beq pc 12 then some (.getfield 10, 3, 0, 8, 0) else none) else (bif Nat.blt pc 18 then (bif Nat.beq pc 15 then some (.getfield 65, 3, 1, 1, 1) else none) else (bif Nat.beq pc 18 then some (.iload_n 1, 1, 0, 0, 0) else none))))) else (bif Nat.blt pc 28 then (bif Nat.blt pc 23 then (bif Nat.blt pc 22 then (bif Nat.beq pc 19 then some (.invokevirtual 69, 3, 3, 2, 11) else none) else (bif Nat.beq pc 22 then some (.istore_n 2, 1, 0, 0, 0) else none)) else (bif Nat.blt pc 24 then (bif Nat.beq pc 23 then some (.iload_n 2, 1, 0, 0, 0) else none) else (bif Nat.blt pc 27 then (bif Nat.beq pc 24 then some (.ifCond .lt 14, 3, 38, 0, 0) else none) else (bif Nat.beq pc 27 then some (.aload_n 0, 1, 0, 0, 0) else none)))) else (bif Nat.blt pc 35 then (bif Nat.blt pc 31 then (bif Nat.beq pc 28 then some (.getfield 10, 3, 0, 8, 0) else none) else (bif Nat.blt pc 34 then (bif Nat.beq pc 31 then some (.getfield 75, 3, 2, 1, 1) else none) else (bif Nat.beq pc 34 then some (.iload_n 2, 1, 0, 0, 0) else none))) else (bif Nat.blt pc 38 then (bif Nat.beq pc 35 then some (.invokevirtual 79, 3, 50, 2, 1) else none) else (bif Nat.blt pc 39 then (bif Nat.beq pc 38 then some (.iload_n 2, 1, 0, 0, 0) else none) else (bif Nat.beq pc 39 then some (.ireturn, 1, 0, 0, 0) else none)))))
/-- SlipWheel.weight(III)I -/
def zc62 (pc : Nat) : Option zEn := bif Nat.blt pc 26 then (bif Nat.blt pc 14 then (bif Nat.blt pc 7 then (bif Nat.blt pc 1 then (bif Nat.beq pc 0 then some (.aload_n 0, 1, 0, 0, 0) else none) else (bif Nat.blt pc 4 then (bif Nat.beq pc 1 then some (.getfield 10, 3, 0, 8, 0) else none) else (bif Nat.beq pc 4 then some (.getfield 65, 3, 1, 1, 1) else none))) else (bif Nat.blt pc 8 then (bif Nat.beq pc 7 then some (.iload_n 1, 1, 0, 0, 0) else none) else (bif Nat.blt pc 11 then (bif Nat.beq pc 8 then some (.invokevirtual 85, 3, 2, 2, 11) else none) else (bif Nat.beq pc 11 then some (.ifCond .eq 20, 3, 31, 0, 0) else none)))) else (bif Nat.blt pc 21 then (bif Nat.blt pc 15 then (bif Nat.beq pc 14 then some (.iload_n 2, 1, 0, 0, 0) else none) else (bif Nat.blt pc 18 then (bif Nat.beq pc 15 then some (.invokestatic 44, 3, 79, 1, 12) else none) else (bif Nat.beq pc 18 then some (.ifCond .eq 13, 3, 31, 0, 0) else none))) else (bif Nat.blt pc 22 then (bif Nat.beq pc 21 then some (.iload_n 3, 1, 0, 0, 0) else none) else (bif Nat.blt pc 25 then (bif Nat.beq pc 22 then some (.ifCond .lt 9, 3, 31, 0, 0) else none) else (bif Nat.beq pc 25 then some (.iload_n 3, 1, 0, 0, 0) else none))))) else (bif Nat.blt pc 37 then (bif Nat.blt pc 32 then (bif Nat.blt pc 28 then (bif Nat.beq pc 26 then some (.bipush 9, 2, 0, 0, 9) else none) else (bif Nat.blt pc 31 then (bif Nat.beq pc 28 then some (.if_icmp .le 5, 3, 33, 0, 0) else none) else (bif Nat.beq pc 31 then some (.iconst (-1), 1, 0, 0, -1) else none))) else (bif Nat.blt pc 33 then (bif Nat.beq pc 32 then some (.ireturn, 1, 0, 0, 0) else none) else (bif Nat.blt pc 34 then (bif Nat.beq pc 33 then some (.aload_n 0, 1, 0, 0, 0) else none) else (bif Nat.beq pc 34 then some (.getfield 10, 3, 0, 8, 0) else none)))) else (bif Nat.blt pc 42 then (bif Nat.blt pc 40 then (bif Nat.beq pc 37 then some (.getfield 65, 3, 1, 1, 1) else none) else (bif Nat.blt pc 41 then (bif Nat.beq pc 40 then some (.iload_n 1, 1, 0, 0, 0) else none) else (bif Nat.beq pc 41 then some (.iload_n 2, 1, 0, 0, 0) else none))) else (bif Nat.blt pc 43 then (bif Nat.beq pc 42 then some (.iload_n 3, 1, 0, 0, 0) else none) else (bif Nat.blt pc 46 then (bif Nat.beq pc 43 then some (.invokevirtual 88, 3, 9, 4, 11) else none) else (bif Nat.beq pc 46 then some (.ireturn, 1, 0, 0, 0) else none)))))
/-- SlipWheel.dead(IZ)I -/
def zc63 (pc : Nat) : Option zEn := bif Nat.blt pc 16 then (bif Nat.blt pc 8 then (bif Nat.blt pc 4 then (bif Nat.blt pc 1 then (bif Nat.beq pc 0 then some (.aload_n 0, 1, 0, 0, 0) else none) else (bif Nat.beq pc 1 then some (.getfield 10, 3, 0, 8, 0) else none)) else (bif Nat.blt pc 7 then (bif Nat.beq pc 4 then some (.getfield 65, 3, 1, 1, 1) else none) else (bif Nat.beq pc 7 then some (.iload_n 1, 1, 0, 0, 0) else none))) else (bif Nat.blt pc 14 then (bif Nat.blt pc 11 then (bif Nat.beq pc 8 then some (.invokevirtual 85, 3, 2, 2, 11) else none) else (bif Nat.beq pc 11 then some (.ifCond .ne 5, 3, 16, 0, 0) else none)) else (bif Nat.blt pc 15 then (bif Nat.beq pc 14 then some (.iconst (-1), 1, 0, 0, -1) else none) else (bif Nat.beq pc 15 then some (.ireturn, 1, 0, 0, 0) else none)))) else (bif Nat.blt pc 24 then (bif Nat.blt pc 20 then (bif Nat.blt pc 17 then (bif Nat.beq pc 16 then some (.aload_n 0, 1, 0, 0, 0) else none) else (bif Nat.beq pc 17 then some (.getfield 10, 3, 0, 8, 0) else none)) else (bif Nat.blt pc 23 then (bif Nat.beq pc 20 then some (.getfield 65, 3, 1, 1, 1) else none) else (bif Nat.beq pc 23 then some (.iload_n 1, 1, 0, 0, 0) else none))) else (bif Nat.blt pc 28 then (bif Nat.blt pc 25 then (bif Nat.beq pc 24 then some (.iload_n 2, 1, 0, 0, 0) else none) else (bif Nat.beq pc 25 then some (.invokevirtual 92, 3, 6, 3, 11) else none)) else (bif Nat.blt pc 31 then (bif Nat.beq pc 28 then some (.invokestatic 96, 3, 82, 1, 12) else none) else (bif Nat.beq pc 31 then some (.ireturn, 1, 0, 0, 0) else none))))
/-- SlipWheel.swap(II)I -/
def zc64 (pc : Nat) : Option zEn := bif Nat.blt pc 30 then (bif Nat.blt pc 15 then (bif Nat.blt pc 7 then (bif Nat.blt pc 1 then (bif Nat.beq pc 0 then some (.aload_n 0, 1, 0, 0, 0) else none) else (bif Nat.blt pc 4 then (bif Nat.beq pc 1 then some (.getfield 10, 3, 0, 8, 0) else none) else (bif Nat.beq pc 4 then some (.getfield 65, 3, 1, 1, 1) else none))) else (bif Nat.blt pc 11 then (bif Nat.blt pc 8 then (bif Nat.beq pc 7 then some (.iload_n 1, 1, 0, 0, 0) else none) else (bif Nat.beq pc 8 then some (.invokevirtual 85, 3, 2, 2, 11) else none)) else (bif Nat.blt pc 14 then (bif Nat.beq pc 11 then some (.ifCond .eq 22, 3, 33, 0, 0) else none) else (bif Nat.beq pc 14 then some (.aload_n 0, 1, 0, 0, 0) else none)))) else (bif Nat.blt pc 22 then (bif Nat.blt pc 18 then (bif Nat.beq pc 15 then some (.getfield 10, 3, 0, 8, 0) else none) else (bif Nat.blt pc 21 then (bif Nat.beq pc 18 then some (.getfield 65, 3, 1, 1, 1) else none) else (bif Nat.beq pc 21 then some (.iload_n 2, 1, 0, 0, 0) else none))) else (bif Nat.blt pc 28 then (bif Nat.blt pc 25 then (bif Nat.beq pc 22 then some (.invokevirtual 85, 3, 2, 2, 11) else none) else (bif Nat.beq pc 25 then some (.ifCond .eq 8, 3, 33, 0, 0) else none)) else (bif Nat.blt pc 29 then (bif Nat.beq pc 28 then some (.iload_n 1, 1, 0, 0, 0) else none) else (bif Nat.beq pc 29 then some (.iload_n 2, 1, 0, 0, 0) else none))))) else (bif Nat.blt pc 43 then (bif Nat.blt pc 35 then (bif Nat.blt pc 33 then (bif Nat.beq pc 30 then some (.if_icmp .ne 5, 3, 35, 0, 0) else none) else (bif Nat.blt pc 34 then (bif Nat.beq pc 33 then some (.iconst (-1), 1, 0, 0, -1) else none) else (bif Nat.beq pc 34 then some (.ireturn, 1, 0, 0, 0) else none))) else (bif Nat.blt pc 39 then (bif Nat.blt pc 36 then (bif Nat.beq pc 35 then some (.aload_n 0, 1, 0, 0, 0) else none) else (bif Nat.beq pc 36 then some (.getfield 10, 3, 0, 8, 0) else none)) else (bif Nat.blt pc 42 then (bif Nat.beq pc 39 then some (.getfield 75, 3, 2, 1, 1) else none) else (bif Nat.beq pc 42 then some (.iload_n 1, 1, 0, 0, 0) else none)))) else (bif Nat.blt pc 51 then (bif Nat.blt pc 47 then (bif Nat.blt pc 44 then (bif Nat.beq pc 43 then some (.iload_n 2, 1, 0, 0, 0) else none) else (bif Nat.beq pc 44 then some (.invokevirtual 100, 3, 53, 3, 1) else none)) else (bif Nat.blt pc 48 then (bif Nat.beq pc 47 then some (.aload_n 0, 1, 0, 0, 0) else none) else (bif Nat.beq pc 48 then some (.getfield 10, 3, 0, 8, 0) else none))) else (bif Nat.blt pc 55 then (bif Nat.blt pc 54 then (bif Nat.beq pc 51 then some (.getfield 75, 3, 2, 1, 1) else none) else (bif Nat.beq pc 54 then some (.iload_n 1, 1, 0, 0, 0) else none)) else (bif Nat.blt pc 58 then (bif Nat.beq pc 55 then some (.invokevirtual 104, 3, 52, 2, 11) else none) else (bif Nat.beq pc 58 then some (.ireturn, 1, 0, 0, 0) else none)))))
/-- SlipWheel.turn(Z)I -/
def zc65 (pc : Nat) : Option zEn := bif Nat.blt pc 12 then (bif Nat.blt pc 7 then (bif Nat.blt pc 1 then (bif Nat.beq pc 0 then some (.aload_n 0, 1, 0, 0, 0) else none) else (bif Nat.blt pc 4 then (bif Nat.beq pc 1 then some (.getfield 10, 3, 0, 8, 0) else none) else (bif Nat.beq pc 4 then some (.getfield 75, 3, 2, 1, 1) else none))) else (bif Nat.blt pc 10 then (bif Nat.beq pc 7 then some (.getfield 107, 3, 4, 7, 1) else none) else (bif Nat.blt pc 11 then (bif Nat.beq pc 10 then some (.istore_n 2, 1, 0, 0, 0) else none) else (bif Nat.beq pc 11 then some (.aload_n 0, 1, 0, 0, 0) else none)))) else (bif Nat.blt pc 19 then (bif Nat.blt pc 15 then (bif Nat.beq pc 12 then some (.getfield 10, 3, 0, 8, 0) else none) else (bif Nat.blt pc 18 then (bif Nat.beq pc 15 then some (.getfield 75, 3, 2, 1, 1) else none) else (bif Nat.beq pc 18 then some (.iload_n 1, 1, 0, 0, 0) else none))) else (bif Nat.blt pc 23 then (bif Nat.blt pc 22 then (bif Nat.beq pc 19 then some (.putfield 107, 3, 4, 7, 1) else none) else (bif Nat.beq pc 22 then some (.iload_n 2, 1, 0, 0, 0) else none)) else (bif Nat.blt pc 26 then (bif Nat.beq pc 23 then some (.invokestatic 96, 3, 82, 1, 12) else none) else (bif Nat.beq pc 26 then some (.ireturn, 1, 0, 0, 0) else none))))
/-- SlipWheel.told(II)I -/
def zc66 (pc : Nat) : Option zEn := bif Nat.blt pc 68 then (bif Nat.blt pc 24 then (bif Nat.blt pc 11 then (bif Nat.blt pc 4 then (bif Nat.blt pc 1 then (bif Nat.beq pc 0 then some (.aload_n 0, 1, 0, 0, 0) else none) else (bif Nat.beq pc 1 then some (.getfield 10, 3, 0, 8, 0) else none)) else (bif Nat.blt pc 7 then (bif Nat.beq pc 4 then some (.getfield 65, 3, 1, 1, 1) else none) else (bif Nat.blt pc 8 then (bif Nat.beq pc 7 then some (.iload_n 1, 1, 0, 0, 0) else none) else (bif Nat.beq pc 8 then some (.invokevirtual 85, 3, 2, 2, 11) else none)))) else (bif Nat.blt pc 18 then (bif Nat.blt pc 14 then (bif Nat.beq pc 11 then some (.ifCond .eq 13, 3, 24, 0, 0) else none) else (bif Nat.blt pc 15 then (bif Nat.beq pc 14 then some (.iload_n 2, 1, 0, 0, 0) else none) else (bif Nat.beq pc 15 then some (.ifCond .lt 9, 3, 24, 0, 0) else none))) else (bif Nat.blt pc 19 then (bif Nat.beq pc 18 then some (.iload_n 2, 1, 0, 0, 0) else none) else (bif Nat.blt pc 21 then (bif Nat.beq pc 19 then some (.bipush 10, 2, 0, 0, 10) else none) else (bif Nat.beq pc 21 then some (.if_icmp .le 5, 3, 26, 0, 0) else none))))) else (bif Nat.blt pc 56 then (bif Nat.blt pc 27 then (bif Nat.blt pc 25 then (bif Nat.beq pc 24 then some (.iconst (-1), 1, 0, 0, -1) else none) else (bif Nat.blt pc 26 then (bif Nat.beq pc 25 then some (.ireturn, 1, 0, 0, 0) else none) else (bif Nat.beq pc 26 then some (.iload_n 2, 1, 0, 0, 0) else none))) else (bif Nat.blt pc 52 then (bif Nat.beq pc 27 then some (.tableswitch 72 0 2 #[25, 37, 49], 25, 0, 0, 0) else none) else (bif Nat.blt pc 53 then (bif Nat.beq pc 52 then some (.aload_n 0, 1, 0, 0, 0) else none) else (bif Nat.beq pc 53 then some (.getfield 10, 3, 0, 8, 0) else none)))) else (bif Nat.blt pc 63 then (bif Nat.blt pc 59 then (bif Nat.beq pc 56 then some (.getfield 65, 3, 1, 1, 1) else none) else (bif Nat.blt pc 60 then (bif Nat.beq pc 59 then some (.iload_n 1, 1, 0, 0, 0) else none) else (bif Nat.beq pc 60 then some (.invokevirtual 111, 3, 4, 2, 11) else none))) else (bif Nat.blt pc 64 then (bif Nat.beq pc 63 then some (.ireturn, 1, 0, 0, 0) else none) else (bif Nat.blt pc 65 then (bif Nat.beq pc 64 then some (.aload_n 0, 1, 0, 0, 0) else none) else (bif Nat.beq pc 65 then some (.getfield 10, 3, 0, 8, 0) else none)))))) else (bif Nat.blt pc 94 then (bif Nat.blt pc 80 then (bif Nat.blt pc 75 then (bif Nat.blt pc 71 then (bif Nat.beq pc 68 then some (.getfield 75, 3, 2, 1, 1) else none) else (bif Nat.blt pc 72 then (bif Nat.beq pc 71 then some (.iload_n 1, 1, 0, 0, 0) else none) else (bif Nat.beq pc 72 then some (.invokevirtual 104, 3, 52, 2, 11) else none))) else (bif Nat.blt pc 76 then (bif Nat.beq pc 75 then some (.ireturn, 1, 0, 0, 0) else none) else (bif Nat.blt pc 77 then (bif Nat.beq pc 76 then some (.aload_n 0, 1, 0, 0, 0) else none) else (bif Nat.beq pc 77 then some (.getfield 10, 3, 0, 8, 0) else none)))) else (bif Nat.blt pc 87 then (bif Nat.blt pc 83 then (bif Nat.beq pc 80 then some (.getfield 65, 3, 1, 1, 1) else none) else (bif Nat.blt pc 84 then (bif Nat.beq pc 83 then some (.iload_n 1, 1, 0, 0, 0) else none) else (bif Nat.beq pc 84 then some (.invokevirtual 114, 3, 5, 2, 11) else none))) else (bif Nat.blt pc 90 then (bif Nat.beq pc 87 then some (.ifCond .ne 7, 3, 94, 0, 0) else none) else (bif Nat.blt pc 91 then (bif Nat.beq pc 90 then some (.iconst 1, 1, 0, 0, 1) else none) else (bif Nat.beq pc 91 then some (.goto 4, 3, 95, 0, 0) else none))))) else (bif Nat.blt pc 106 then (bif Nat.blt pc 99 then (bif Nat.blt pc 95 then (bif Nat.beq pc 94 then some (.iconst 0, 1, 0, 0, 0) else none) else (bif Nat.blt pc 98 then (bif Nat.beq pc 95 then some (.invokestatic 96, 3, 82, 1, 12) else none) else (bif Nat.beq pc 98 then some (.ireturn, 1, 0, 0, 0) else none))) else (bif Nat.blt pc 100 then (bif Nat.beq pc 99 then some (.aload_n 0, 1, 0, 0, 0) else none) else (bif Nat.blt pc 103 then (bif Nat.beq pc 100 then some (.getfield 10, 3, 0, 8, 0) else none) else (bif Nat.beq pc 103 then some (.getfield 65, 3, 1, 1, 1) else none)))) else (bif Nat.blt pc 109 then (bif Nat.blt pc 107 then (bif Nat.beq pc 106 then some (.iload_n 1, 1, 0, 0, 0) else none) else (bif Nat.blt pc 108 then (bif Nat.beq pc 107 then some (.iload_n 2, 1, 0, 0, 0) else none) else (bif Nat.beq pc 108 then some (.iconst 3, 1, 0, 0, 3) else none))) else (bif Nat.blt pc 110 then (bif Nat.beq pc 109 then some (.isub, 1, 0, 0, 0) else none) else (bif Nat.blt pc 113 then (bif Nat.beq pc 110 then some (.invokevirtual 117, 3, 8, 3, 11) else none) else (bif Nat.beq pc 113 then some (.ireturn, 1, 0, 0, 0) else none))))))
/-- SlipWheel.count(I)I -/
def zc67 (pc : Nat) : Option zEn := bif Nat.blt pc 107 then (bif Nat.blt pc 74 then (bif Nat.blt pc 59 then (bif Nat.blt pc 49 then (bif Nat.blt pc 1 then (bif Nat.beq pc 0 then some (.iload_n 1, 1, 0, 0, 0) else none) else (bif Nat.blt pc 48 then (bif Nat.beq pc 1 then some (.tableswitch 170 0 7 #[47, 58, 72, 83, 94, 105, 138, 159], 47, 0, 0, 0) else none) else (bif Nat.beq pc 48 then some (.aload_n 0, 1, 0, 0, 0) else none))) else (bif Nat.blt pc 55 then (bif Nat.blt pc 52 then (bif Nat.beq pc 49 then some (.getfield 10, 3, 0, 8, 0) else none) else (bif Nat.beq pc 52 then some (.getfield 65, 3, 1, 1, 1) else none)) else (bif Nat.blt pc 58 then (bif Nat.beq pc 55 then some (.getfield 150, 3, 3, 0, 1) else none) else (bif Nat.beq pc 58 then some (.ireturn, 1, 0, 0, 0) else none)))) else (bif Nat.blt pc 66 then (bif Nat.blt pc 60 then (bif Nat.beq pc 59 then some (.aload_n 0, 1, 0, 0, 0) else none) else (bif Nat.blt pc 63 then (bif Nat.beq pc 60 then some (.getfield 10, 3, 0, 8, 0) else none) else (bif Nat.beq pc 63 then some (.getfield 65, 3, 1, 1, 1) else none))) else (bif Nat.blt pc 72 then (bif Nat.blt pc 69 then (bif Nat.beq pc 66 then some (.invokevirtual 153, 3, 7, 1, 11) else none) else (bif Nat.beq pc 69 then some (.invokestatic 156, 3, 86, 1, 12) else none)) else (bif Nat.blt pc 73 then (bif Nat.beq pc 72 then some (.ireturn, 1, 0, 0, 0) else none) else (bif Nat.beq pc 73 then some (.aload_n 0, 1, 0, 0, 0) else none))))) else (bif Nat.blt pc 91 then (bif Nat.blt pc 83 then (bif Nat.blt pc 77 then (bif Nat.beq pc 74 then some (.getfield 10, 3, 0, 8, 0) else none) else (bif Nat.blt pc 80 then (bif Nat.beq pc 77 then some (.getfield 141, 3, 3, 1, 1) else none) else (bif Nat.beq pc 80 then some (.getfield 145, 3, 2, 2, 1) else none))) else (bif Nat.blt pc 85 then (bif Nat.blt pc 84 then (bif Nat.beq pc 83 then some (.ireturn, 1, 0, 0, 0) else none) else (bif Nat.beq pc 84 then some (.aload_n 0, 1, 0, 0, 0) else none)) else (bif Nat.blt pc 88 then (bif Nat.beq pc 85 then some (.getfield 10, 3, 0, 8, 0) else none) else (bif Nat.beq pc 88 then some (.getfield 48, 3, 0, 1, 1) else none)))) else (bif Nat.blt pc 99 then (bif Nat.blt pc 95 then (bif Nat.blt pc 94 then (bif Nat.beq pc 91 then some (.getfield 161, 3, 3, 6, 1) else none) else (bif Nat.beq pc 94 then some (.ireturn, 1, 0, 0, 0) else none)) else (bif Nat.blt pc 96 then (bif Nat.beq pc 95 then some (.aload_n 0, 1, 0, 0, 0) else none) else (bif Nat.beq pc 96 then some (.getfield 10, 3, 0, 8, 0) else none))) else (bif Nat.blt pc 105 then (bif Nat.blt pc 102 then (bif Nat.beq pc 99 then some (.getfield 141, 3, 3, 1, 1) else none) else (bif Nat.beq pc 102 then some (.invokevirtual 164, 3, 29, 1, 11) else none)) else (bif Nat.blt pc 106 then (bif Nat.beq pc 105 then some (.ireturn, 1, 0, 0, 0) else none) else (bif Nat.beq pc 106 then some (.aload_n 0, 1, 0, 0, 0) else none)))))) else (bif Nat.blt pc 140 then (bif Nat.blt pc 124 then (bif Nat.blt pc 114 then (bif Nat.blt pc 110 then (bif Nat.beq pc 107 then some (.getfield 10, 3, 0, 8, 0) else none) else (bif Nat.blt pc 113 then (bif Nat.beq pc 110 then some (.getfield 48, 3, 0, 1, 1) else none) else (bif Nat.beq pc 113 then some (.aload_n 0, 1, 0, 0, 0) else none))) else (bif Nat.blt pc 120 then (bif Nat.blt pc 117 then (bif Nat.beq pc 114 then some (.getfield 10, 3, 0, 8, 0) else none) else (bif Nat.beq pc 117 then some (.getfield 141, 3, 3, 1, 1) else none)) else (bif Nat.blt pc 123 then (bif Nat.beq pc 120 then some (.invokevirtual 167, 3, 31, 1, 11) else none) else (bif Nat.beq pc 123 then some (.iconst 4, 1, 0, 0, 4) else none)))) else (bif Nat.blt pc 134 then (bif Nat.blt pc 130 then (bif Nat.blt pc 127 then (bif Nat.beq pc 124 then some (.invokevirtual 170, 3, 45, 3, 11) else none) else (bif Nat.beq pc 127 then some (.ifCond .ne 7, 3, 134, 0, 0) else none)) else (bif Nat.blt pc 131 then (bif Nat.beq pc 130 then some (.iconst 1, 1, 0, 0, 1) else none) else (bif Nat.beq pc 131 then some (.goto 4, 3, 135, 0, 0) else none))) else (bif Nat.blt pc 138 then (bif Nat.blt pc 135 then (bif Nat.beq pc 134 then some (.iconst 0, 1, 0, 0, 0) else none) else (bif Nat.beq pc 135 then some (.invokestatic 96, 3, 82, 1, 12) else none)) else (bif Nat.blt pc 139 then (bif Nat.beq pc 138 then some (.ireturn, 1, 0, 0, 0) else none) else (bif Nat.beq pc 139 then some (.aload_n 0, 1, 0, 0, 0) else none))))) else (bif Nat.blt pc 159 then (bif Nat.blt pc 147 then (bif Nat.blt pc 143 then (bif Nat.beq pc 140 then some (.getfield 10, 3, 0, 8, 0) else none) else (bif Nat.blt pc 146 then (bif Nat.beq pc 143 then some (.getfield 75, 3, 2, 1, 1) else none) else (bif Nat.beq pc 146 then some (.aload_n 0, 1, 0, 0, 0) else none))) else (bif Nat.blt pc 153 then (bif Nat.blt pc 150 then (bif Nat.beq pc 147 then some (.getfield 10, 3, 0, 8, 0) else none) else (bif Nat.beq pc 150 then some (.getfield 75, 3, 2, 1, 1) else none)) else (bif Nat.blt pc 156 then (bif Nat.beq pc 153 then some (.invokevirtual 173, 3, 54, 1, 11) else none) else (bif Nat.beq pc 156 then some (.invokevirtual 176, 3, 51, 2, 11) else none)))) else (bif Nat.blt pc 167 then (bif Nat.blt pc 161 then (bif Nat.blt pc 160 then (bif Nat.beq pc 159 then some (.ireturn, 1, 0, 0, 0) else none) else (bif Nat.beq pc 160 then some (.aload_n 0, 1, 0, 0, 0) else none)) else (bif Nat.blt pc 164 then (bif Nat.beq pc 161 then some (.getfield 10, 3, 0, 8, 0) else none) else (bif Nat.beq pc 164 then some (.getfield 75, 3, 2, 1, 1) else none))) else (bif Nat.blt pc 171 then (bif Nat.blt pc 170 then (bif Nat.beq pc 167 then some (.getfield 179, 3, 3, 7, 1) else none) else (bif Nat.beq pc 170 then some (.ireturn, 1, 0, 0, 0) else none)) else (bif Nat.blt pc 172 then (bif Nat.beq pc 171 then some (.iconst (-1), 1, 0, 0, -1) else none) else (bif Nat.beq pc 172 then some (.ireturn, 1, 0, 0, 0) else none))))))
/-- SlipWheel.read(II)I -/
def zc68 (pc : Nat) : Option zEn := bif Nat.blt pc 25 then (bif Nat.blt pc 14 then (bif Nat.blt pc 7 then (bif Nat.blt pc 1 then (bif Nat.beq pc 0 then some (.aload_n 0, 1, 0, 0, 0) else none) else (bif Nat.blt pc 4 then (bif Nat.beq pc 1 then some (.getfield 10, 3, 0, 8, 0) else none) else (bif Nat.beq pc 4 then some (.getfield 141, 3, 3, 1, 1) else none))) else (bif Nat.blt pc 8 then (bif Nat.beq pc 7 then some (.iload_n 1, 1, 0, 0, 0) else none) else (bif Nat.blt pc 11 then (bif Nat.beq pc 8 then some (.invokevirtual 182, 3, 25, 2, 11) else none) else (bif Nat.beq pc 11 then some (.ifCond .eq 12, 3, 23, 0, 0) else none)))) else (bif Nat.blt pc 19 then (bif Nat.blt pc 15 then (bif Nat.beq pc 14 then some (.iload_n 2, 1, 0, 0, 0) else none) else (bif Nat.blt pc 18 then (bif Nat.beq pc 15 then some (.ifCond .lt 8, 3, 23, 0, 0) else none) else (bif Nat.beq pc 18 then some (.iload_n 2, 1, 0, 0, 0) else none))) else (bif Nat.blt pc 23 then (bif Nat.blt pc 20 then (bif Nat.beq pc 19 then some (.iconst 1, 1, 0, 0, 1) else none) else (bif Nat.beq pc 20 then some (.if_icmp .le 5, 3, 25, 0, 0) else none)) else (bif Nat.blt pc 24 then (bif Nat.beq pc 23 then some (.iconst (-1), 1, 0, 0, -1) else none) else (bif Nat.beq pc 24 then some (.ireturn, 1, 0, 0, 0) else none))))) else (bif Nat.blt pc 40 then (bif Nat.blt pc 30 then (bif Nat.blt pc 26 then (bif Nat.beq pc 25 then some (.iload_n 2, 1, 0, 0, 0) else none) else (bif Nat.blt pc 29 then (bif Nat.beq pc 26 then some (.ifCond .ne 17, 3, 43, 0, 0) else none) else (bif Nat.beq pc 29 then some (.aload_n 0, 1, 0, 0, 0) else none))) else (bif Nat.blt pc 36 then (bif Nat.blt pc 33 then (bif Nat.beq pc 30 then some (.getfield 10, 3, 0, 8, 0) else none) else (bif Nat.beq pc 33 then some (.getfield 141, 3, 3, 1, 1) else none)) else (bif Nat.blt pc 37 then (bif Nat.beq pc 36 then some (.iload_n 1, 1, 0, 0, 0) else none) else (bif Nat.beq pc 37 then some (.invokevirtual 183, 3, 27, 2, 11) else none)))) else (bif Nat.blt pc 47 then (bif Nat.blt pc 43 then (bif Nat.beq pc 40 then some (.goto 14, 3, 54, 0, 0) else none) else (bif Nat.blt pc 44 then (bif Nat.beq pc 43 then some (.aload_n 0, 1, 0, 0, 0) else none) else (bif Nat.beq pc 44 then some (.getfield 10, 3, 0, 8, 0) else none))) else (bif Nat.blt pc 51 then (bif Nat.blt pc 50 then (bif Nat.beq pc 47 then some (.getfield 141, 3, 3, 1, 1) else none) else (bif Nat.beq pc 50 then some (.iload_n 1, 1, 0, 0, 0) else none)) else (bif Nat.blt pc 54 then (bif Nat.beq pc 51 then some (.invokevirtual 186, 3, 28, 2, 11) else none) else (bif Nat.beq pc 54 then some (.ireturn, 1, 0, 0, 0) else none)))))
/-- SlipWheel.come(I)I -/
def zc69 (pc : Nat) : Option zEn := bif Nat.blt pc 16 then (bif Nat.blt pc 8 then (bif Nat.blt pc 4 then (bif Nat.blt pc 1 then (bif Nat.beq pc 0 then some (.aload_n 0, 1, 0, 0, 0) else none) else (bif Nat.beq pc 1 then some (.getfield 10, 3, 0, 8, 0) else none)) else (bif Nat.blt pc 7 then (bif Nat.beq pc 4 then some (.getfield 65, 3, 1, 1, 1) else none) else (bif Nat.beq pc 7 then some (.iload_n 1, 1, 0, 0, 0) else none))) else (bif Nat.blt pc 14 then (bif Nat.blt pc 11 then (bif Nat.beq pc 8 then some (.invokevirtual 85, 3, 2, 2, 11) else none) else (bif Nat.beq pc 11 then some (.ifCond .ne 5, 3, 16, 0, 0) else none)) else (bif Nat.blt pc 15 then (bif Nat.beq pc 14 then some (.iconst (-1), 1, 0, 0, -1) else none) else (bif Nat.beq pc 15 then some (.ireturn, 1, 0, 0, 0) else none)))) else (bif Nat.blt pc 22 then (bif Nat.blt pc 20 then (bif Nat.blt pc 17 then (bif Nat.beq pc 16 then some (.aload_n 0, 1, 0, 0, 0) else none) else (bif Nat.beq pc 17 then some (.getfield 10, 3, 0, 8, 0) else none)) else (bif Nat.blt pc 21 then (bif Nat.beq pc 20 then some (.iload_n 1, 1, 0, 0, 0) else none) else (bif Nat.beq pc 21 then some (.aload_n 0, 1, 0, 0, 0) else none))) else (bif Nat.blt pc 28 then (bif Nat.blt pc 25 then (bif Nat.beq pc 22 then some (.getfield 10, 3, 0, 8, 0) else none) else (bif Nat.beq pc 25 then some (.getfield 141, 3, 3, 1, 1) else none)) else (bif Nat.blt pc 31 then (bif Nat.beq pc 28 then some (.invokevirtual 167, 3, 31, 1, 11) else none) else (bif Nat.blt pc 34 then (bif Nat.beq pc 31 then some (.invokevirtual 189, 3, 14, 3, 11) else none) else (bif Nat.beq pc 34 then some (.ireturn, 1, 0, 0, 0) else none)))))
/-- SlipWheel.draw(I)I -/
def zc70 (pc : Nat) : Option zEn := bif Nat.blt pc 40 then (bif Nat.blt pc 17 then (bif Nat.blt pc 8 then (bif Nat.blt pc 2 then (bif Nat.blt pc 1 then (bif Nat.beq pc 0 then some (.iload_n 1, 1, 0, 0, 0) else none) else (bif Nat.beq pc 1 then some (.iconst 1, 1, 0, 0, 1) else none)) else (bif Nat.blt pc 5 then (bif Nat.beq pc 2 then some (.if_icmp .lt 9, 3, 11, 0, 0) else none) else (bif Nat.blt pc 6 then (bif Nat.beq pc 5 then some (.iload_n 1, 1, 0, 0, 0) else none) else (bif Nat.beq pc 6 then some (.bipush 60, 2, 0, 0, 60) else none)))) else (bif Nat.blt pc 12 then (bif Nat.blt pc 11 then (bif Nat.beq pc 8 then some (.if_icmp .le 5, 3, 13, 0, 0) else none) else (bif Nat.beq pc 11 then some (.iconst (-1), 1, 0, 0, -1) else none)) else (bif Nat.blt pc 13 then (bif Nat.beq pc 12 then some (.ireturn, 1, 0, 0, 0) else none) else (bif Nat.blt pc 14 then (bif Nat.beq pc 13 then some (.aload_n 0, 1, 0, 0, 0) else none) else (bif Nat.beq pc 14 then some (.getfield 10, 3, 0, 8, 0) else none))))) else (bif Nat.blt pc 29 then (bif Nat.blt pc 23 then (bif Nat.blt pc 20 then (bif Nat.beq pc 17 then some (.getfield 75, 3, 2, 1, 1) else none) else (bif Nat.beq pc 20 then some (.invokevirtual 173, 3, 54, 1, 11) else none)) else (bif Nat.blt pc 26 then (bif Nat.beq pc 23 then some (.ifCond .ge 6, 3, 29, 0, 0) else none) else (bif Nat.blt pc 28 then (bif Nat.beq pc 26 then some (.bipush (-4), 2, 0, 0, -4) else none) else (bif Nat.beq pc 28 then some (.ireturn, 1, 0, 0, 0) else none)))) else (bif Nat.blt pc 33 then (bif Nat.blt pc 30 then (bif Nat.beq pc 29 then some (.aload_n 0, 1, 0, 0, 0) else none) else (bif Nat.beq pc 30 then some (.getfield 10, 3, 0, 8, 0) else none)) else (bif Nat.blt pc 36 then (bif Nat.beq pc 33 then some (.getfield 141, 3, 3, 1, 1) else none) else (bif Nat.blt pc 39 then (bif Nat.beq pc 36 then some (.getfield 145, 3, 2, 2, 1) else none) else (bif Nat.beq pc 39 then some (.istore_n 2, 1, 0, 0, 0) else none)))))) else (bif Nat.blt pc 58 then (bif Nat.blt pc 47 then (bif Nat.blt pc 42 then (bif Nat.blt pc 41 then (bif Nat.beq pc 40 then some (.iconst 0, 1, 0, 0, 0) else none) else (bif Nat.beq pc 41 then some (.istore_n 3, 1, 0, 0, 0) else none)) else (bif Nat.blt pc 43 then (bif Nat.beq pc 42 then some (.iload_n 3, 1, 0, 0, 0) else none) else (bif Nat.blt pc 44 then (bif Nat.beq pc 43 then some (.iload_n 1, 1, 0, 0, 0) else none) else (bif Nat.beq pc 44 then some (.if_icmp .ge 26, 3, 70, 0, 0) else none)))) else (bif Nat.blt pc 51 then (bif Nat.blt pc 48 then (bif Nat.beq pc 47 then some (.aload_n 0, 1, 0, 0, 0) else none) else (bif Nat.beq pc 48 then some (.getfield 10, 3, 0, 8, 0) else none)) else (bif Nat.blt pc 54 then (bif Nat.beq pc 51 then some (.invokevirtual 209, 3, 16, 1, 1) else none) else (bif Nat.blt pc 55 then (bif Nat.beq pc 54 then some (.aload_n 0, 1, 0, 0, 0) else none) else (bif Nat.beq pc 55 then some (.getfield 10, 3, 0, 8, 0) else none))))) else (bif Nat.blt pc 71 then (bif Nat.blt pc 64 then (bif Nat.blt pc 61 then (bif Nat.beq pc 58 then some (.getfield 75, 3, 2, 1, 1) else none) else (bif Nat.beq pc 61 then some (.invokevirtual 206, 3, 57, 1, 1) else none)) else (bif Nat.blt pc 67 then (bif Nat.beq pc 64 then some (.iinc 3 1, 3, 0, 0, 0) else none) else (bif Nat.blt pc 70 then (bif Nat.beq pc 67 then some (.goto (-25), 3, 42, 0, 0) else none) else (bif Nat.beq pc 70 then some (.aload_n 0, 1, 0, 0, 0) else none)))) else (bif Nat.blt pc 80 then (bif Nat.blt pc 74 then (bif Nat.beq pc 71 then some (.getfield 10, 3, 0, 8, 0) else none) else (bif Nat.blt pc 77 then (bif Nat.beq pc 74 then some (.getfield 141, 3, 3, 1, 1) else none) else (bif Nat.beq pc 77 then some (.getfield 145, 3, 2, 2, 1) else none))) else (bif Nat.blt pc 81 then (bif Nat.beq pc 80 then some (.iload_n 2, 1, 0, 0, 0) else none) else (bif Nat.blt pc 82 then (bif Nat.beq pc 81 then some (.isub, 1, 0, 0, 0) else none) else (bif Nat.beq pc 82 then some (.ireturn, 1, 0, 0, 0) else none))))))
/-- SlipWheel.seed(I)I -/
def zc71 (pc : Nat) : Option zEn := bif Nat.blt pc 13 then (bif Nat.blt pc 5 then (bif Nat.blt pc 1 then (bif Nat.beq pc 0 then some (.iload_n 1, 1, 0, 0, 0) else none) else (bif Nat.blt pc 4 then (bif Nat.beq pc 1 then some (.ifCond .ge 5, 3, 6, 0, 0) else none) else (bif Nat.beq pc 4 then some (.iconst (-1), 1, 0, 0, -1) else none))) else (bif Nat.blt pc 7 then (bif Nat.blt pc 6 then (bif Nat.beq pc 5 then some (.ireturn, 1, 0, 0, 0) else none) else (bif Nat.beq pc 6 then some (.aload_n 0, 1, 0, 0, 0) else none)) else (bif Nat.blt pc 10 then (bif Nat.beq pc 7 then some (.getfield 10, 3, 0, 8, 0) else none) else (bif Nat.beq pc 10 then some (.getfield 212, 3, 4, 1, 1) else none)))) else (bif Nat.blt pc 18 then (bif Nat.blt pc 14 then (bif Nat.beq pc 13 then some (.istore_n 2, 1, 0, 0, 0) else none) else (bif Nat.blt pc 15 then (bif Nat.beq pc 14 then some (.aload_n 0, 1, 0, 0, 0) else none) else (bif Nat.beq pc 15 then some (.getfield 10, 3, 0, 8, 0) else none))) else (bif Nat.blt pc 22 then (bif Nat.blt pc 19 then (bif Nat.beq pc 18 then some (.iload_n 1, 1, 0, 0, 0) else none) else (bif Nat.beq pc 19 then some (.putfield 212, 3, 4, 1, 1) else none)) else (bif Nat.blt pc 23 then (bif Nat.beq pc 22 then some (.iload_n 2, 1, 0, 0, 0) else none) else (bif Nat.beq pc 23 then some (.ireturn, 1, 0, 0, 0) else none))))
/-- SlipWheel.undo(I)I -/
def zc72 (pc : Nat) : Option zEn := bif Nat.blt pc 27 then (bif Nat.blt pc 12 then (bif Nat.blt pc 5 then (bif Nat.blt pc 1 then (bif Nat.beq pc 0 then some (.iload_n 1, 1, 0, 0, 0) else none) else (bif Nat.blt pc 2 then (bif Nat.beq pc 1 then some (.iconst 1, 1, 0, 0, 1) else none) else (bif Nat.beq pc 2 then some (.if_icmp .lt 9, 3, 11, 0, 0) else none))) else (bif Nat.blt pc 8 then (bif Nat.blt pc 6 then (bif Nat.beq pc 5 then some (.iload_n 1, 1, 0, 0, 0) else none) else (bif Nat.beq pc 6 then some (.bipush 60, 2, 0, 0, 60) else none)) else (bif Nat.blt pc 11 then (bif Nat.beq pc 8 then some (.if_icmp .le 5, 3, 13, 0, 0) else none) else (bif Nat.beq pc 11 then some (.iconst (-1), 1, 0, 0, -1) else none)))) else (bif Nat.blt pc 15 then (bif Nat.blt pc 13 then (bif Nat.beq pc 12 then some (.ireturn, 1, 0, 0, 0) else none) else (bif Nat.blt pc 14 then (bif Nat.beq pc 13 then some (.iload_n 1, 1, 0, 0, 0) else none) else (bif Nat.beq pc 14 then some (.aload_n 0, 1, 0, 0, 0) else none))) else (bif Nat.blt pc 21 then (bif Nat.blt pc 18 then (bif Nat.beq pc 15 then some (.getfield 10, 3, 0, 8, 0) else none) else (bif Nat.beq pc 18 then some (.getfield 141, 3, 3, 1, 1) else none)) else (bif Nat.blt pc 24 then (bif Nat.beq pc 21 then some (.getfield 145, 3, 2, 2, 1) else none) else (bif Nat.beq pc 24 then some (.if_icmp .le 6, 3, 30, 0, 0) else none))))) else (bif Nat.blt pc 41 then (bif Nat.blt pc 31 then (bif Nat.blt pc 29 then (bif Nat.beq pc 27 then some (.bipush (-2), 2, 0, 0, -2) else none) else (bif Nat.blt pc 30 then (bif Nat.beq pc 29 then some (.ireturn, 1, 0, 0, 0) else none) else (bif Nat.beq pc 30 then some (.aload_n 0, 1, 0, 0, 0) else none))) else (bif Nat.blt pc 37 then (bif Nat.blt pc 34 then (bif Nat.beq pc 31 then some (.getfield 10, 3, 0, 8, 0) else none) else (bif Nat.beq pc 34 then some (.getfield 141, 3, 3, 1, 1) else none)) else (bif Nat.blt pc 38 then (bif Nat.beq pc 37 then some (.dup, 1, 0, 0, 0) else none) else (bif Nat.beq pc 38 then some (.getfield 145, 3, 2, 2, 1) else none)))) else (bif Nat.blt pc 47 then (bif Nat.blt pc 43 then (bif Nat.blt pc 42 then (bif Nat.beq pc 41 then some (.iload_n 1, 1, 0, 0, 0) else none) else (bif Nat.beq pc 42 then some (.isub, 1, 0, 0, 0) else none)) else (bif Nat.blt pc 46 then (bif Nat.beq pc 43 then some (.putfield 145, 3, 2, 2, 1) else none) else (bif Nat.beq pc 46 then some (.aload_n 0, 1, 0, 0, 0) else none))) else (bif Nat.blt pc 53 then (bif Nat.blt pc 50 then (bif Nat.beq pc 47 then some (.getfield 10, 3, 0, 8, 0) else none) else (bif Nat.beq pc 50 then some (.getfield 141, 3, 3, 1, 1) else none)) else (bif Nat.blt pc 56 then (bif Nat.beq pc 53 then some (.getfield 145, 3, 2, 2, 1) else none) else (bif Nat.beq pc 56 then some (.ireturn, 1, 0, 0, 0) else none)))))
/-- SlipWheel.reach(II)I -/
def zc73 (pc : Nat) : Option zEn := bif Nat.blt pc 11 then (bif Nat.blt pc 3 then (bif Nat.blt pc 1 then (bif Nat.beq pc 0 then some (.iload_n 1, 1, 0, 0, 0) else none) else (bif Nat.blt pc 2 then (bif Nat.beq pc 1 then some (.iload_n 2, 1, 0, 0, 0) else none) else (bif Nat.beq pc 2 then some (.iconst 3, 1, 0, 0, 3) else none))) else (bif Nat.blt pc 9 then (bif Nat.blt pc 6 then (bif Nat.beq pc 3 then some (.invokestatic 58, 3, 80, 3, 12) else none) else (bif Nat.beq pc 6 then some (.ifCond .ne 5, 3, 11, 0, 0) else none)) else (bif Nat.blt pc 10 then (bif Nat.beq pc 9 then some (.iconst (-1), 1, 0, 0, -1) else none) else (bif Nat.beq pc 10 then some (.ireturn, 1, 0, 0, 0) else none)))) else (bif Nat.blt pc 19 then (bif Nat.blt pc 15 then (bif Nat.blt pc 12 then (bif Nat.beq pc 11 then some (.aload_n 0, 1, 0, 0, 0) else none) else (bif Nat.beq pc 12 then some (.getfield 35, 3, 4, 8, 0) else none)) else (bif Nat.blt pc 16 then (bif Nat.beq pc 15 then some (.aload_n 0, 1, 0, 0, 0) else none) else (bif Nat.beq pc 16 then some (.getfield 10, 3, 0, 8, 0) else none))) else (bif Nat.blt pc 21 then (bif Nat.blt pc 20 then (bif Nat.beq pc 19 then some (.iload_n 1, 1, 0, 0, 0) else none) else (bif Nat.beq pc 20 then some (.iload_n 2, 1, 0, 0, 0) else none)) else (bif Nat.blt pc 24 then (bif Nat.beq pc 21 then some (.invokevirtual 215, 3, 34, 4, 11) else none) else (bif Nat.beq pc 24 then some (.ireturn, 1, 0, 0, 0) else none))))
/-- SlipWheel.soon(II)I -/
def zc74 (pc : Nat) : Option zEn := bif Nat.blt pc 29 then (bif Nat.blt pc 13 then (bif Nat.blt pc 7 then (bif Nat.blt pc 1 then (bif Nat.beq pc 0 then some (.iload_n 1, 1, 0, 0, 0) else none) else (bif Nat.blt pc 4 then (bif Nat.beq pc 1 then some (.invokestatic 44, 3, 79, 1, 12) else none) else (bif Nat.beq pc 4 then some (.ifCond .eq 13, 3, 17, 0, 0) else none))) else (bif Nat.blt pc 9 then (bif Nat.blt pc 8 then (bif Nat.beq pc 7 then some (.iload_n 2, 1, 0, 0, 0) else none) else (bif Nat.beq pc 8 then some (.iconst 1, 1, 0, 0, 1) else none)) else (bif Nat.blt pc 12 then (bif Nat.beq pc 9 then some (.if_icmp .lt 8, 3, 17, 0, 0) else none) else (bif Nat.beq pc 12 then some (.iload_n 2, 1, 0, 0, 0) else none)))) else (bif Nat.blt pc 19 then (bif Nat.blt pc 17 then (bif Nat.blt pc 14 then (bif Nat.beq pc 13 then some (.iconst 5, 1, 0, 0, 5) else none) else (bif Nat.beq pc 14 then some (.if_icmp .le 5, 3, 19, 0, 0) else none)) else (bif Nat.blt pc 18 then (bif Nat.beq pc 17 then some (.iconst (-1), 1, 0, 0, -1) else none) else (bif Nat.beq pc 18 then some (.ireturn, 1, 0, 0, 0) else none))) else (bif Nat.blt pc 23 then (bif Nat.blt pc 20 then (bif Nat.beq pc 19 then some (.aload_n 0, 1, 0, 0, 0) else none) else (bif Nat.beq pc 20 then some (.getfield 10, 3, 0, 8, 0) else none)) else (bif Nat.blt pc 26 then (bif Nat.beq pc 23 then some (.getfield 75, 3, 2, 1, 1) else none) else (bif Nat.beq pc 26 then some (.invokevirtual 173, 3, 54, 1, 11) else none))))) else (bif Nat.blt pc 44 then (bif Nat.blt pc 36 then (bif Nat.blt pc 31 then (bif Nat.blt pc 30 then (bif Nat.beq pc 29 then some (.istore_n 3, 1, 0, 0, 0) else none) else (bif Nat.beq pc 30 then some (.iload_n 3, 1, 0, 0, 0) else none)) else (bif Nat.blt pc 34 then (bif Nat.beq pc 31 then some (.ifCond .ge 8, 3, 39, 0, 0) else none) else (bif Nat.beq pc 34 then some (.bipush (-4), 2, 0, 0, -4) else none))) else (bif Nat.blt pc 40 then (bif Nat.blt pc 39 then (bif Nat.beq pc 36 then some (.goto 23, 3, 59, 0, 0) else none) else (bif Nat.beq pc 39 then some (.aload_n 0, 1, 0, 0, 0) else none)) else (bif Nat.blt pc 43 then (bif Nat.beq pc 40 then some (.getfield 10, 3, 0, 8, 0) else none) else (bif Nat.beq pc 43 then some (.iload_n 3, 1, 0, 0, 0) else none)))) else (bif Nat.blt pc 54 then (bif Nat.blt pc 48 then (bif Nat.blt pc 45 then (bif Nat.beq pc 44 then some (.aload_n 0, 1, 0, 0, 0) else none) else (bif Nat.beq pc 45 then some (.getfield 10, 3, 0, 8, 0) else none)) else (bif Nat.blt pc 51 then (bif Nat.beq pc 48 then some (.getfield 141, 3, 3, 1, 1) else none) else (bif Nat.beq pc 51 then some (.invokevirtual 167, 3, 31, 1, 11) else none))) else (bif Nat.blt pc 56 then (bif Nat.blt pc 55 then (bif Nat.beq pc 54 then some (.iload_n 1, 1, 0, 0, 0) else none) else (bif Nat.beq pc 55 then some (.iload_n 2, 1, 0, 0, 0) else none)) else (bif Nat.blt pc 59 then (bif Nat.beq pc 56 then some (.invokestatic 219, 3, 85, 5, 12) else none) else (bif Nat.beq pc 59 then some (.ireturn, 1, 0, 0, 0) else none)))))
/-- SlipWheel.habit(II)I -/
def zc75 (pc : Nat) : Option zEn := bif Nat.blt pc 21 then (bif Nat.blt pc 8 then (bif Nat.blt pc 4 then (bif Nat.blt pc 1 then (bif Nat.beq pc 0 then some (.aload_n 0, 1, 0, 0, 0) else none) else (bif Nat.beq pc 1 then some (.getfield 10, 3, 0, 8, 0) else none)) else (bif Nat.blt pc 7 then (bif Nat.beq pc 4 then some (.getfield 65, 3, 1, 1, 1) else none) else (bif Nat.beq pc 7 then some (.iload_n 1, 1, 0, 0, 0) else none))) else (bif Nat.blt pc 14 then (bif Nat.blt pc 11 then (bif Nat.beq pc 8 then some (.invokevirtual 85, 3, 2, 2, 11) else none) else (bif Nat.beq pc 11 then some (.ifCond .eq 10, 3, 21, 0, 0) else none)) else (bif Nat.blt pc 15 then (bif Nat.beq pc 14 then some (.iload_n 2, 1, 0, 0, 0) else none) else (bif Nat.blt pc 18 then (bif Nat.beq pc 15 then some (.invokestatic 44, 3, 79, 1, 12) else none) else (bif Nat.beq pc 18 then some (.ifCond .ne 5, 3, 23, 0, 0) else none))))) else (bif Nat.blt pc 27 then (bif Nat.blt pc 23 then (bif Nat.blt pc 22 then (bif Nat.beq pc 21 then some (.iconst (-1), 1, 0, 0, -1) else none) else (bif Nat.beq pc 22 then some (.ireturn, 1, 0, 0, 0) else none)) else (bif Nat.blt pc 24 then (bif Nat.beq pc 23 then some (.aload_n 0, 1, 0, 0, 0) else none) else (bif Nat.beq pc 24 then some (.getfield 10, 3, 0, 8, 0) else none))) else (bif Nat.blt pc 31 then (bif Nat.blt pc 30 then (bif Nat.beq pc 27 then some (.getfield 141, 3, 3, 1, 1) else none) else (bif Nat.beq pc 30 then some (.iload_n 1, 1, 0, 0, 0) else none)) else (bif Nat.blt pc 32 then (bif Nat.beq pc 31 then some (.iload_n 2, 1, 0, 0, 0) else none) else (bif Nat.blt pc 35 then (bif Nat.beq pc 32 then some (.invokevirtual 226, 3, 30, 3, 11) else none) else (bif Nat.beq pc 35 then some (.ireturn, 1, 0, 0, 0) else none)))))
/-- SlipWheel.prevented(I)I -/
def zc76 (pc : Nat) : Option zEn := bif Nat.blt pc 20 then (bif Nat.blt pc 10 then (bif Nat.blt pc 5 then (bif Nat.blt pc 1 then (bif Nat.beq pc 0 then some (.iload_n 1, 1, 0, 0, 0) else none) else (bif Nat.blt pc 4 then (bif Nat.beq pc 1 then some (.ifCond .lt 8, 3, 9, 0, 0) else none) else (bif Nat.beq pc 4 then some (.iload_n 1, 1, 0, 0, 0) else none))) else (bif Nat.blt pc 6 then (bif Nat.beq pc 5 then some (.iconst 1, 1, 0, 0, 1) else none) else (bif Nat.blt pc 9 then (bif Nat.beq pc 6 then some (.if_icmp .le 5, 3, 11, 0, 0) else none) else (bif Nat.beq pc 9 then some (.iconst (-1), 1, 0, 0, -1) else none)))) else (bif Nat.blt pc 15 then (bif Nat.blt pc 11 then (bif Nat.beq pc 10 then some (.ireturn, 1, 0, 0, 0) else none) else (bif Nat.blt pc 12 then (bif Nat.beq pc 11 then some (.aload_n 0, 1, 0, 0, 0) else none) else (bif Nat.beq pc 12 then some (.getfield 10, 3, 0, 8, 0) else none))) else (bif Nat.blt pc 18 then (bif Nat.beq pc 15 then some (.invokevirtual 232, 3, 19, 1, 11) else none) else (bif Nat.blt pc 19 then (bif Nat.beq pc 18 then some (.istore_n 2, 1, 0, 0, 0) else none) else (bif Nat.beq pc 19 then some (.iload_n 2, 1, 0, 0, 0) else none))))) else (bif Nat.blt pc 31 then (bif Nat.blt pc 26 then (bif Nat.blt pc 23 then (bif Nat.beq pc 20 then some (.ifCond .ge 6, 3, 26, 0, 0) else none) else (bif Nat.blt pc 25 then (bif Nat.beq pc 23 then some (.bipush (-4), 2, 0, 0, -4) else none) else (bif Nat.beq pc 25 then some (.ireturn, 1, 0, 0, 0) else none))) else (bif Nat.blt pc 27 then (bif Nat.beq pc 26 then some (.iload_n 1, 1, 0, 0, 0) else none) else (bif Nat.blt pc 30 then (bif Nat.beq pc 27 then some (.ifCond .ne 7, 3, 34, 0, 0) else none) else (bif Nat.beq pc 30 then some (.iload_n 2, 1, 0, 0, 0) else none)))) else (bif Nat.blt pc 38 then (bif Nat.blt pc 34 then (bif Nat.beq pc 31 then some (.goto 11, 3, 42, 0, 0) else none) else (bif Nat.blt pc 35 then (bif Nat.beq pc 34 then some (.aload_n 0, 1, 0, 0, 0) else none) else (bif Nat.beq pc 35 then some (.getfield 10, 3, 0, 8, 0) else none))) else (bif Nat.blt pc 39 then (bif Nat.beq pc 38 then some (.iload_n 2, 1, 0, 0, 0) else none) else (bif Nat.blt pc 42 then (bif Nat.beq pc 39 then some (.invokevirtual 235, 3, 20, 2, 11) else none) else (bif Nat.beq pc 42 then some (.ireturn, 1, 0, 0, 0) else none)))))
/-- SlipWheel.image()I -/
def zc77 (pc : Nat) : Option zEn := bif Nat.blt pc 11 then (bif Nat.blt pc 4 then (bif Nat.blt pc 1 then (bif Nat.beq pc 0 then some (.aload_n 0, 1, 0, 0, 0) else none) else (bif Nat.beq pc 1 then some (.getfield 16, 3, 1, 8, 0) else none)) else (bif Nat.blt pc 5 then (bif Nat.beq pc 4 then some (.aload_n 0, 1, 0, 0, 0) else none) else (bif Nat.blt pc 8 then (bif Nat.beq pc 5 then some (.getfield 10, 3, 0, 8, 0) else none) else (bif Nat.beq pc 8 then some (.invokevirtual 249, 3, 13, 2, 1) else none)))) else (bif Nat.blt pc 13 then (bif Nat.blt pc 12 then (bif Nat.beq pc 11 then some (.aload_n 0, 1, 0, 0, 0) else none) else (bif Nat.beq pc 12 then some (.iconst 1, 1, 0, 0, 1) else none)) else (bif Nat.blt pc 16 then (bif Nat.beq pc 13 then some (.putfield 253, 3, 6, 8, 0) else none) else (bif Nat.blt pc 17 then (bif Nat.beq pc 16 then some (.iconst 1, 1, 0, 0, 1) else none) else (bif Nat.beq pc 17 then some (.ireturn, 1, 0, 0, 0) else none))))
/-- SlipWheel.restore()I -/
def zc78 (pc : Nat) : Option zEn := bif Nat.blt pc 11 then (bif Nat.blt pc 7 then (bif Nat.blt pc 1 then (bif Nat.beq pc 0 then some (.aload_n 0, 1, 0, 0, 0) else none) else (bif Nat.blt pc 4 then (bif Nat.beq pc 1 then some (.getfield 253, 3, 6, 8, 0) else none) else (bif Nat.beq pc 4 then some (.ifCond .ne 6, 3, 10, 0, 0) else none))) else (bif Nat.blt pc 9 then (bif Nat.beq pc 7 then some (.bipush (-4), 2, 0, 0, -4) else none) else (bif Nat.blt pc 10 then (bif Nat.beq pc 9 then some (.ireturn, 1, 0, 0, 0) else none) else (bif Nat.beq pc 10 then some (.aload_n 0, 1, 0, 0, 0) else none)))) else (bif Nat.blt pc 18 then (bif Nat.blt pc 14 then (bif Nat.beq pc 11 then some (.getfield 10, 3, 0, 8, 0) else none) else (bif Nat.blt pc 15 then (bif Nat.beq pc 14 then some (.aload_n 0, 1, 0, 0, 0) else none) else (bif Nat.beq pc 15 then some (.getfield 16, 3, 1, 8, 0) else none))) else (bif Nat.blt pc 21 then (bif Nat.beq pc 18 then some (.invokevirtual 249, 3, 13, 2, 1) else none) else (bif Nat.blt pc 22 then (bif Nat.beq pc 21 then some (.iconst 1, 1, 0, 0, 1) else none) else (bif Nat.beq pc 22 then some (.ireturn, 1, 0, 0, 0) else none))))
/-- SlipWheel.isWord(I)Z -/
def zc79 (pc : Nat) : Option zEn := bif Nat.blt pc 7 then (bif Nat.blt pc 4 then (bif Nat.blt pc 1 then (bif Nat.beq pc 0 then some (.iload_n 0, 1, 0, 0, 0) else none) else (bif Nat.beq pc 1 then some (.ifCond .lt 13, 3, 14, 0, 0) else none)) else (bif Nat.blt pc 5 then (bif Nat.beq pc 4 then some (.iload_n 0, 1, 0, 0, 0) else none) else (bif Nat.beq pc 5 then some (.bipush 8, 2, 0, 0, 8) else none))) else (bif Nat.blt pc 11 then (bif Nat.blt pc 10 then (bif Nat.beq pc 7 then some (.if_icmp .ge 7, 3, 14, 0, 0) else none) else (bif Nat.beq pc 10 then some (.iconst 1, 1, 0, 0, 1) else none)) else (bif Nat.blt pc 14 then (bif Nat.beq pc 11 then some (.goto 4, 3, 15, 0, 0) else none) else (bif Nat.blt pc 15 then (bif Nat.beq pc 14 then some (.iconst 0, 1, 0, 0, 0) else none) else (bif Nat.beq pc 15 then some (.ireturn, 1, 0, 0, 1) else none))))
/-- SlipWheel.isRowOfWords(III)Z -/
def zc80 (pc : Nat) : Option zEn := bif Nat.blt pc 15 then (bif Nat.blt pc 6 then (bif Nat.blt pc 2 then (bif Nat.blt pc 1 then (bif Nat.beq pc 0 then some (.iload_n 1, 1, 0, 0, 0) else none) else (bif Nat.beq pc 1 then some (.iconst 1, 1, 0, 0, 1) else none)) else (bif Nat.blt pc 5 then (bif Nat.beq pc 2 then some (.if_icmp .lt 25, 3, 27, 0, 0) else none) else (bif Nat.beq pc 5 then some (.iload_n 1, 1, 0, 0, 0) else none))) else (bif Nat.blt pc 10 then (bif Nat.blt pc 7 then (bif Nat.beq pc 6 then some (.iload_n 2, 1, 0, 0, 0) else none) else (bif Nat.beq pc 7 then some (.if_icmp .gt 20, 3, 27, 0, 0) else none)) else (bif Nat.blt pc 11 then (bif Nat.beq pc 10 then some (.iload_n 0, 1, 0, 0, 0) else none) else (bif Nat.blt pc 14 then (bif Nat.beq pc 11 then some (.ifCond .lt 16, 3, 27, 0, 0) else none) else (bif Nat.beq pc 14 then some (.iload_n 0, 1, 0, 0, 0) else none))))) else (bif Nat.blt pc 20 then (bif Nat.blt pc 17 then (bif Nat.blt pc 16 then (bif Nat.beq pc 15 then some (.iconst 1, 1, 0, 0, 1) else none) else (bif Nat.beq pc 16 then some (.iconst 3, 1, 0, 0, 3) else none)) else (bif Nat.blt pc 18 then (bif Nat.beq pc 17 then some (.iload_n 1, 1, 0, 0, 0) else none) else (bif Nat.blt pc 19 then (bif Nat.beq pc 18 then some (.imul, 1, 0, 0, 0) else none) else (bif Nat.beq pc 19 then some (.ishl, 1, 0, 0, 0) else none)))) else (bif Nat.blt pc 24 then (bif Nat.blt pc 23 then (bif Nat.beq pc 20 then some (.if_icmp .ge 7, 3, 27, 0, 0) else none) else (bif Nat.beq pc 23 then some (.iconst 1, 1, 0, 0, 1) else none)) else (bif Nat.blt pc 27 then (bif Nat.beq pc 24 then some (.goto 4, 3, 28, 0, 0) else none) else (bif Nat.blt pc 28 then (bif Nat.beq pc 27 then some (.iconst 0, 1, 0, 0, 0) else none) else (bif Nat.beq pc 28 then some (.ireturn, 1, 0, 0, 1) else none)))))
/-- SlipWheel.holds(II)Z -/
def zc81 (pc : Nat) : Option zEn := bif Nat.blt pc 5 then (bif Nat.blt pc 2 then (bif Nat.blt pc 1 then (bif Nat.beq pc 0 then some (.iload_n 0, 1, 0, 0, 0) else none) else (bif Nat.beq pc 1 then some (.iload_n 1, 1, 0, 0, 0) else none)) else (bif Nat.blt pc 3 then (bif Nat.beq pc 2 then some (.ishr, 1, 0, 0, 0) else none) else (bif Nat.blt pc 4 then (bif Nat.beq pc 3 then some (.iconst 1, 1, 0, 0, 1) else none) else (bif Nat.beq pc 4 then some (.iand, 1, 0, 0, 0) else none)))) else (bif Nat.blt pc 9 then (bif Nat.blt pc 8 then (bif Nat.beq pc 5 then some (.ifCond .eq 7, 3, 12, 0, 0) else none) else (bif Nat.beq pc 8 then some (.iconst 1, 1, 0, 0, 1) else none)) else (bif Nat.blt pc 12 then (bif Nat.beq pc 9 then some (.goto 4, 3, 13, 0, 0) else none) else (bif Nat.blt pc 13 then (bif Nat.beq pc 12 then some (.iconst 0, 1, 0, 0, 0) else none) else (bif Nat.beq pc 13 then some (.ireturn, 1, 0, 0, 1) else none))))
/-- SlipWheel.bit(Z)I -/
def zc82 (pc : Nat) : Option zEn := bif Nat.blt pc 5 then (bif Nat.blt pc 1 then (bif Nat.beq pc 0 then some (.iload_n 0, 1, 0, 0, 0) else none) else (bif Nat.blt pc 4 then (bif Nat.beq pc 1 then some (.ifCond .eq 7, 3, 8, 0, 0) else none) else (bif Nat.beq pc 4 then some (.iconst 1, 1, 0, 0, 1) else none))) else (bif Nat.blt pc 8 then (bif Nat.beq pc 5 then some (.goto 4, 3, 9, 0, 0) else none) else (bif Nat.blt pc 9 then (bif Nat.beq pc 8 then some (.iconst 0, 1, 0, 0, 0) else none) else (bif Nat.beq pc 9 then some (.ireturn, 1, 0, 0, 0) else none)))
/-- SlipWheel.slipWith(II)I -/
def zc83 (pc : Nat) : Option zEn := bif Nat.blt pc 11 then (bif Nat.blt pc 5 then (bif Nat.blt pc 3 then (bif Nat.blt pc 1 then (bif Nat.beq pc 0 then some (.iload_n 0, 1, 0, 0, 0) else none) else (bif Nat.beq pc 1 then some (.bipush 8, 2, 0, 0, 8) else none)) else (bif Nat.blt pc 4 then (bif Nat.beq pc 3 then some (.imul, 1, 0, 0, 0) else none) else (bif Nat.beq pc 4 then some (.iload_n 1, 1, 0, 0, 0) else none))) else (bif Nat.blt pc 7 then (bif Nat.blt pc 6 then (bif Nat.beq pc 5 then some (.iadd, 1, 0, 0, 0) else none) else (bif Nat.beq pc 6 then some (.istore_n 2, 1, 0, 0, 0) else none)) else (bif Nat.blt pc 8 then (bif Nat.beq pc 7 then some (.iload_n 2, 1, 0, 0, 0) else none) else (bif Nat.beq pc 8 then some (.sipush 1024, 3, 0, 0, 1024) else none)))) else (bif Nat.blt pc 21 then (bif Nat.blt pc 15 then (bif Nat.blt pc 14 then (bif Nat.beq pc 11 then some (.if_icmp .ge 7, 3, 18, 0, 0) else none) else (bif Nat.beq pc 14 then some (.iload_n 2, 1, 0, 0, 0) else none)) else (bif Nat.blt pc 18 then (bif Nat.beq pc 15 then some (.goto 12, 3, 27, 0, 0) else none) else (bif Nat.beq pc 18 then some (.sipush 512, 3, 0, 0, 512) else none))) else (bif Nat.blt pc 25 then (bif Nat.blt pc 22 then (bif Nat.beq pc 21 then some (.iload_n 2, 1, 0, 0, 0) else none) else (bif Nat.beq pc 22 then some (.sipush 511, 3, 0, 0, 511) else none)) else (bif Nat.blt pc 26 then (bif Nat.beq pc 25 then some (.iand, 1, 0, 0, 0) else none) else (bif Nat.blt pc 27 then (bif Nat.beq pc 26 then some (.iadd, 1, 0, 0, 0) else none) else (bif Nat.beq pc 27 then some (.ireturn, 1, 0, 0, 0) else none)))))
/-- SlipWheel.slipEndsWith(III)Z -/
def zc84 (pc : Nat) : Option zEn := bif Nat.blt pc 12 then (bif Nat.blt pc 5 then (bif Nat.blt pc 2 then (bif Nat.blt pc 1 then (bif Nat.beq pc 0 then some (.iconst 1, 1, 0, 0, 1) else none) else (bif Nat.beq pc 1 then some (.iconst 3, 1, 0, 0, 3) else none)) else (bif Nat.blt pc 3 then (bif Nat.beq pc 2 then some (.iload_n 2, 1, 0, 0, 0) else none) else (bif Nat.blt pc 4 then (bif Nat.beq pc 3 then some (.imul, 1, 0, 0, 0) else none) else (bif Nat.beq pc 4 then some (.ishl, 1, 0, 0, 0) else none)))) else (bif Nat.blt pc 7 then (bif Nat.blt pc 6 then (bif Nat.beq pc 5 then some (.istore_n 3, 1, 0, 0, 0) else none) else (bif Nat.beq pc 6 then some (.iload_n 0, 1, 0, 0, 0) else none)) else (bif Nat.blt pc 8 then (bif Nat.beq pc 7 then some (.iload_n 3, 1, 0, 0, 0) else none) else (bif Nat.blt pc 11 then (bif Nat.beq pc 8 then some (.if_icmp .lt 16, 3, 24, 0, 0) else none) else (bif Nat.beq pc 11 then some (.iload_n 0, 1, 0, 0, 0) else none))))) else (bif Nat.blt pc 17 then (bif Nat.blt pc 14 then (bif Nat.blt pc 13 then (bif Nat.beq pc 12 then some (.iload_n 3, 1, 0, 0, 0) else none) else (bif Nat.beq pc 13 then some (.iconst 1, 1, 0, 0, 1) else none)) else (bif Nat.blt pc 15 then (bif Nat.beq pc 14 then some (.isub, 1, 0, 0, 0) else none) else (bif Nat.blt pc 16 then (bif Nat.beq pc 15 then some (.iand, 1, 0, 0, 0) else none) else (bif Nat.beq pc 16 then some (.iload_n 1, 1, 0, 0, 0) else none)))) else (bif Nat.blt pc 21 then (bif Nat.blt pc 20 then (bif Nat.beq pc 17 then some (.if_icmp .ne 7, 3, 24, 0, 0) else none) else (bif Nat.beq pc 20 then some (.iconst 1, 1, 0, 0, 1) else none)) else (bif Nat.blt pc 24 then (bif Nat.beq pc 21 then some (.goto 4, 3, 25, 0, 0) else none) else (bif Nat.blt pc 25 then (bif Nat.beq pc 24 then some (.iconst 0, 1, 0, 0, 0) else none) else (bif Nat.beq pc 25 then some (.ireturn, 1, 0, 0, 1) else none)))))
/-- SlipWheel.soonWithin(LSlipWheel$Everything;IIII)I -/
def zc85 (pc : Nat) : Option zEn := bif Nat.blt pc 79 then (bif Nat.blt pc 41 then (bif Nat.blt pc 19 then (bif Nat.blt pc 9 then (bif Nat.blt pc 3 then (bif Nat.blt pc 2 then (bif Nat.beq pc 0 then some (.iload 4, 2, 0, 0, 0) else none) else (bif Nat.beq pc 2 then some (.iconst 1, 1, 0, 0, 1) else none)) else (bif Nat.blt pc 6 then (bif Nat.beq pc 3 then some (.if_icmp .lt 9, 3, 12, 0, 0) else none) else (bif Nat.blt pc 8 then (bif Nat.beq pc 6 then some (.iload 4, 2, 0, 0, 0) else none) else (bif Nat.beq pc 8 then some (.iconst 5, 1, 0, 0, 5) else none)))) else (bif Nat.blt pc 14 then (bif Nat.blt pc 12 then (bif Nat.beq pc 9 then some (.if_icmp .le 5, 3, 14, 0, 0) else none) else (bif Nat.blt pc 13 then (bif Nat.beq pc 12 then some (.iconst 0, 1, 0, 0, 0) else none) else (bif Nat.beq pc 13 then some (.ireturn, 1, 0, 0, 0) else none))) else (bif Nat.blt pc 15 then (bif Nat.beq pc 14 then some (.aload_n 0, 1, 0, 0, 0) else none) else (bif Nat.blt pc 18 then (bif Nat.beq pc 15 then some (.getfield 75, 3, 2, 1, 1) else none) else (bif Nat.beq pc 18 then some (.iload_n 1, 1, 0, 0, 0) else none))))) else (bif Nat.blt pc 29 then (bif Nat.blt pc 24 then (bif Nat.blt pc 22 then (bif Nat.beq pc 19 then some (.invokevirtual 176, 3, 51, 2, 11) else none) else (bif Nat.beq pc 22 then some (.istore 5, 2, 0, 0, 0) else none)) else (bif Nat.blt pc 25 then (bif Nat.beq pc 24 then some (.aload_n 0, 1, 0, 0, 0) else none) else (bif Nat.blt pc 28 then (bif Nat.beq pc 25 then some (.getfield 75, 3, 2, 1, 1) else none) else (bif Nat.beq pc 28 then some (.iload_n 1, 1, 0, 0, 0) else none)))) else (bif Nat.blt pc 35 then (bif Nat.blt pc 32 then (bif Nat.beq pc 29 then some (.invokevirtual 286, 3, 55, 2, 11) else none) else (bif Nat.blt pc 34 then (bif Nat.beq pc 32 then some (.istore 6, 2, 0, 0, 0) else none) else (bif Nat.beq pc 34 then some (.aload_n 0, 1, 0, 0, 0) else none))) else (bif Nat.blt pc 37 then (bif Nat.beq pc 35 then some (.iload 5, 2, 0, 0, 0) else none) else (bif Nat.blt pc 38 then (bif Nat.beq pc 37 then some (.iload_n 2, 1, 0, 0, 0) else none) else (bif Nat.beq pc 38 then some (.invokevirtual 189, 3, 14, 3, 11) else none)))))) else (bif Nat.blt pc 60 then (bif Nat.blt pc 51 then (bif Nat.blt pc 45 then (bif Nat.blt pc 43 then (bif Nat.beq pc 41 then some (.istore 7, 2, 0, 0, 0) else none) else (bif Nat.beq pc 43 then some (.iload 7, 2, 0, 0, 0) else none)) else (bif Nat.blt pc 48 then (bif Nat.beq pc 45 then some (.ifCond .ne 16, 3, 61, 0, 0) else none) else (bif Nat.blt pc 49 then (bif Nat.beq pc 48 then some (.aload_n 0, 1, 0, 0, 0) else none) else (bif Nat.beq pc 49 then some (.iload 6, 2, 0, 0, 0) else none)))) else (bif Nat.blt pc 55 then (bif Nat.blt pc 52 then (bif Nat.beq pc 51 then some (.iload_n 2, 1, 0, 0, 0) else none) else (bif Nat.blt pc 53 then (bif Nat.beq pc 52 then some (.iload_n 3, 1, 0, 0, 0) else none) else (bif Nat.beq pc 53 then some (.iload 4, 2, 0, 0, 0) else none))) else (bif Nat.blt pc 56 then (bif Nat.beq pc 55 then some (.iconst 1, 1, 0, 0, 1) else none) else (bif Nat.blt pc 57 then (bif Nat.beq pc 56 then some (.isub, 1, 0, 0, 0) else none) else (bif Nat.beq pc 57 then some (.invokestatic 219, 3, 85, 5, 12) else none))))) else (bif Nat.blt pc 67 then (bif Nat.blt pc 62 then (bif Nat.blt pc 61 then (bif Nat.beq pc 60 then some (.ireturn, 1, 0, 0, 0) else none) else (bif Nat.beq pc 61 then some (.iconst 0, 1, 0, 0, 0) else none)) else (bif Nat.blt pc 64 then (bif Nat.beq pc 62 then some (.istore 8, 2, 0, 0, 0) else none) else (bif Nat.blt pc 65 then (bif Nat.beq pc 64 then some (.iconst 0, 1, 0, 0, 0) else none) else (bif Nat.beq pc 65 then some (.istore 9, 2, 0, 0, 0) else none)))) else (bif Nat.blt pc 72 then (bif Nat.blt pc 68 then (bif Nat.beq pc 67 then some (.iconst 0, 1, 0, 0, 0) else none) else (bif Nat.blt pc 70 then (bif Nat.beq pc 68 then some (.istore 10, 2, 0, 0, 0) else none) else (bif Nat.beq pc 70 then some (.iload 10, 2, 0, 0, 0) else none))) else (bif Nat.blt pc 74 then (bif Nat.beq pc 72 then some (.bipush 8, 2, 0, 0, 8) else none) else (bif Nat.blt pc 77 then (bif Nat.beq pc 74 then some (.if_icmp .ge 80, 3, 154, 0, 0) else none) else (bif Nat.beq pc 77 then some (.iload 7, 2, 0, 0, 0) else none))))))) else (bif Nat.blt pc 124 then (bif Nat.blt pc 103 then (bif Nat.blt pc 90 then (bif Nat.blt pc 84 then (bif Nat.blt pc 81 then (bif Nat.beq pc 79 then some (.iload 10, 2, 0, 0, 0) else none) else (bif Nat.beq pc 81 then some (.invokestatic 192, 3, 81, 2, 12) else none)) else (bif Nat.blt pc 87 then (bif Nat.beq pc 84 then some (.ifCond .eq 64, 3, 148, 0, 0) else none) else (bif Nat.blt pc 89 then (bif Nat.beq pc 87 then some (.iload 10, 2, 0, 0, 0) else none) else (bif Nat.beq pc 89 then some (.iload_n 3, 1, 0, 0, 0) else none)))) else (bif Nat.blt pc 99 then (bif Nat.blt pc 93 then (bif Nat.beq pc 90 then some (.if_icmp .ne 9, 3, 99, 0, 0) else none) else (bif Nat.blt pc 96 then (bif Nat.beq pc 93 then some (.sipush 1000, 3, 0, 0, 1000) else none) else (bif Nat.beq pc 96 then some (.goto 20, 3, 116, 0, 0) else none))) else (bif Nat.blt pc 100 then (bif Nat.beq pc 99 then some (.aload_n 0, 1, 0, 0, 0) else none) else (bif Nat.blt pc 102 then (bif Nat.beq pc 100 then some (.iload 6, 2, 0, 0, 0) else none) else (bif Nat.beq pc 102 then some (.iload_n 2, 1, 0, 0, 0) else none))))) else (bif Nat.blt pc 112 then (bif Nat.blt pc 108 then (bif Nat.blt pc 105 then (bif Nat.beq pc 103 then some (.iload 10, 2, 0, 0, 0) else none) else (bif Nat.beq pc 105 then some (.invokestatic 289, 3, 83, 2, 12) else none)) else (bif Nat.blt pc 109 then (bif Nat.beq pc 108 then some (.iload_n 3, 1, 0, 0, 0) else none) else (bif Nat.blt pc 111 then (bif Nat.beq pc 109 then some (.iload 4, 2, 0, 0, 0) else none) else (bif Nat.beq pc 111 then some (.iconst 1, 1, 0, 0, 1) else none)))) else (bif Nat.blt pc 118 then (bif Nat.blt pc 113 then (bif Nat.beq pc 112 then some (.isub, 1, 0, 0, 0) else none) else (bif Nat.blt pc 116 then (bif Nat.beq pc 113 then some (.invokestatic 219, 3, 85, 5, 12) else none) else (bif Nat.beq pc 116 then some (.istore 11, 2, 0, 0, 0) else none))) else (bif Nat.blt pc 119 then (bif Nat.beq pc 118 then some (.aload_n 0, 1, 0, 0, 0) else none) else (bif Nat.blt pc 122 then (bif Nat.beq pc 119 then some (.getfield 65, 3, 1, 1, 1) else none) else (bif Nat.beq pc 122 then some (.iload 5, 2, 0, 0, 0) else none)))))) else (bif Nat.blt pc 145 then (bif Nat.blt pc 135 then (bif Nat.blt pc 129 then (bif Nat.blt pc 126 then (bif Nat.beq pc 124 then some (.iload 10, 2, 0, 0, 0) else none) else (bif Nat.beq pc 126 then some (.invokevirtual 117, 3, 8, 3, 11) else none)) else (bif Nat.blt pc 131 then (bif Nat.beq pc 129 then some (.istore 12, 2, 0, 0, 0) else none) else (bif Nat.blt pc 133 then (bif Nat.beq pc 131 then some (.iload 8, 2, 0, 0, 0) else none) else (bif Nat.beq pc 133 then some (.iload 12, 2, 0, 0, 0) else none)))) else (bif Nat.blt pc 139 then (bif Nat.blt pc 137 then (bif Nat.beq pc 135 then some (.iload 11, 2, 0, 0, 0) else none) else (bif Nat.blt pc 138 then (bif Nat.beq pc 137 then some (.imul, 1, 0, 0, 0) else none) else (bif Nat.beq pc 138 then some (.iadd, 1, 0, 0, 0) else none))) else (bif Nat.blt pc 141 then (bif Nat.beq pc 139 then some (.istore 8, 2, 0, 0, 0) else none) else (bif Nat.blt pc 143 then (bif Nat.beq pc 141 then some (.iload 9, 2, 0, 0, 0) else none) else (bif Nat.beq pc 143 then some (.iload 12, 2, 0, 0, 0) else none))))) else (bif Nat.blt pc 159 then (bif Nat.blt pc 151 then (bif Nat.blt pc 146 then (bif Nat.beq pc 145 then some (.iadd, 1, 0, 0, 0) else none) else (bif Nat.blt pc 148 then (bif Nat.beq pc 146 then some (.istore 9, 2, 0, 0, 0) else none) else (bif Nat.beq pc 148 then some (.iinc 10 1, 3, 0, 0, 0) else none))) else (bif Nat.blt pc 154 then (bif Nat.beq pc 151 then some (.goto (-81), 3, 70, 0, 0) else none) else (bif Nat.blt pc 156 then (bif Nat.beq pc 154 then some (.iload 9, 2, 0, 0, 0) else none) else (bif Nat.beq pc 156 then some (.ifCond .le 11, 3, 167, 0, 0) else none)))) else (bif Nat.blt pc 164 then (bif Nat.blt pc 161 then (bif Nat.beq pc 159 then some (.iload 8, 2, 0, 0, 0) else none) else (bif Nat.blt pc 163 then (bif Nat.beq pc 161 then some (.iload 9, 2, 0, 0, 0) else none) else (bif Nat.beq pc 163 then some (.idiv, 1, 0, 0, 0) else none))) else (bif Nat.blt pc 167 then (bif Nat.beq pc 164 then some (.goto 4, 3, 168, 0, 0) else none) else (bif Nat.blt pc 168 then (bif Nat.beq pc 167 then some (.iconst 0, 1, 0, 0, 0) else none) else (bif Nat.beq pc 168 then some (.ireturn, 1, 0, 0, 0) else none)))))))
/-- java/lang/Integer.bitCount(I)I -/
def zc86 (pc : Nat) : Option zEn := bif Nat.blt pc 27 then (bif Nat.blt pc 14 then (bif Nat.blt pc 7 then (bif Nat.blt pc 2 then (bif Nat.blt pc 1 then (bif Nat.beq pc 0 then some (.iload_n 0, 1, 0, 0, 0) else none) else (bif Nat.beq pc 1 then some (.iload_n 0, 1, 0, 0, 0) else none)) else (bif Nat.blt pc 3 then (bif Nat.beq pc 2 then some (.iconst 1, 1, 0, 0, 1) else none) else (bif Nat.blt pc 4 then (bif Nat.beq pc 3 then some (.iushr, 1, 0, 0, 0) else none) else (bif Nat.beq pc 4 then some (.ldc_w 265, 3, 0, 0, 1431655765) else none)))) else (bif Nat.blt pc 9 then (bif Nat.blt pc 8 then (bif Nat.beq pc 7 then some (.iand, 1, 0, 0, 0) else none) else (bif Nat.beq pc 8 then some (.isub, 1, 0, 0, 0) else none)) else (bif Nat.blt pc 10 then (bif Nat.beq pc 9 then some (.istore_n 0, 1, 0, 0, 0) else none) else (bif Nat.blt pc 11 then (bif Nat.beq pc 10 then some (.iload_n 0, 1, 0, 0, 0) else none) else (bif Nat.beq pc 11 then some (.ldc_w 266, 3, 0, 0, 858993459) else none))))) else (bif Nat.blt pc 21 then (bif Nat.blt pc 16 then (bif Nat.blt pc 15 then (bif Nat.beq pc 14 then some (.iand, 1, 0, 0, 0) else none) else (bif Nat.beq pc 15 then some (.iload_n 0, 1, 0, 0, 0) else none)) else (bif Nat.blt pc 17 then (bif Nat.beq pc 16 then some (.iconst 2, 1, 0, 0, 2) else none) else (bif Nat.blt pc 18 then (bif Nat.beq pc 17 then some (.iushr, 1, 0, 0, 0) else none) else (bif Nat.beq pc 18 then some (.ldc_w 266, 3, 0, 0, 858993459) else none)))) else (bif Nat.blt pc 24 then (bif Nat.blt pc 22 then (bif Nat.beq pc 21 then some (.iand, 1, 0, 0, 0) else none) else (bif Nat.blt pc 23 then (bif Nat.beq pc 22 then some (.iadd, 1, 0, 0, 0) else none) else (bif Nat.beq pc 23 then some (.istore_n 0, 1, 0, 0, 0) else none))) else (bif Nat.blt pc 25 then (bif Nat.beq pc 24 then some (.iload_n 0, 1, 0, 0, 0) else none) else (bif Nat.blt pc 26 then (bif Nat.beq pc 25 then some (.iload_n 0, 1, 0, 0, 0) else none) else (bif Nat.beq pc 26 then some (.iconst 4, 1, 0, 0, 4) else none)))))) else (bif Nat.blt pc 40 then (bif Nat.blt pc 34 then (bif Nat.blt pc 29 then (bif Nat.blt pc 28 then (bif Nat.beq pc 27 then some (.iushr, 1, 0, 0, 0) else none) else (bif Nat.beq pc 28 then some (.iadd, 1, 0, 0, 0) else none)) else (bif Nat.blt pc 32 then (bif Nat.beq pc 29 then some (.ldc_w 267, 3, 0, 0, 252645135) else none) else (bif Nat.blt pc 33 then (bif Nat.beq pc 32 then some (.iand, 1, 0, 0, 0) else none) else (bif Nat.beq pc 33 then some (.istore_n 0, 1, 0, 0, 0) else none)))) else (bif Nat.blt pc 36 then (bif Nat.blt pc 35 then (bif Nat.beq pc 34 then some (.iload_n 0, 1, 0, 0, 0) else none) else (bif Nat.beq pc 35 then some (.iload_n 0, 1, 0, 0, 0) else none)) else (bif Nat.blt pc 38 then (bif Nat.beq pc 36 then some (.bipush 8, 2, 0, 0, 8) else none) else (bif Nat.blt pc 39 then (bif Nat.beq pc 38 then some (.iushr, 1, 0, 0, 0) else none) else (bif Nat.beq pc 39 then some (.iadd, 1, 0, 0, 0) else none))))) else (bif Nat.blt pc 46 then (bif Nat.blt pc 42 then (bif Nat.blt pc 41 then (bif Nat.beq pc 40 then some (.istore_n 0, 1, 0, 0, 0) else none) else (bif Nat.beq pc 41 then some (.iload_n 0, 1, 0, 0, 0) else none)) else (bif Nat.blt pc 43 then (bif Nat.beq pc 42 then some (.iload_n 0, 1, 0, 0, 0) else none) else (bif Nat.blt pc 45 then (bif Nat.beq pc 43 then some (.bipush 16, 2, 0, 0, 16) else none) else (bif Nat.beq pc 45 then some (.iushr, 1, 0, 0, 0) else none)))) else (bif Nat.blt pc 49 then (bif Nat.blt pc 47 then (bif Nat.beq pc 46 then some (.iadd, 1, 0, 0, 0) else none) else (bif Nat.blt pc 48 then (bif Nat.beq pc 47 then some (.istore_n 0, 1, 0, 0, 0) else none) else (bif Nat.beq pc 48 then some (.iload_n 0, 1, 0, 0, 0) else none))) else (bif Nat.blt pc 51 then (bif Nat.beq pc 49 then some (.bipush 63, 2, 0, 0, 63) else none) else (bif Nat.blt pc 52 then (bif Nat.beq pc 51 then some (.iand, 1, 0, 0, 0) else none) else (bif Nat.beq pc 52 then some (.ireturn, 1, 0, 0, 0) else none))))))
/-- java/lang/Math.floorMod(II)I -/
def zc87 (pc : Nat) : Option zEn := bif Nat.blt pc 10 then (bif Nat.blt pc 4 then (bif Nat.blt pc 2 then (bif Nat.blt pc 1 then (bif Nat.beq pc 0 then some (.iload_n 0, 1, 0, 0, 0) else none) else (bif Nat.beq pc 1 then some (.iload_n 1, 1, 0, 0, 0) else none)) else (bif Nat.blt pc 3 then (bif Nat.beq pc 2 then some (.irem, 1, 0, 0, 0) else none) else (bif Nat.beq pc 3 then some (.istore_n 2, 1, 0, 0, 0) else none))) else (bif Nat.blt pc 6 then (bif Nat.blt pc 5 then (bif Nat.beq pc 4 then some (.iload_n 0, 1, 0, 0, 0) else none) else (bif Nat.beq pc 5 then some (.iload_n 1, 1, 0, 0, 0) else none)) else (bif Nat.blt pc 7 then (bif Nat.beq pc 6 then some (.ixor, 1, 0, 0, 0) else none) else (bif Nat.beq pc 7 then some (.ifCond .ge 11, 3, 18, 0, 0) else none)))) else (bif Nat.blt pc 16 then (bif Nat.blt pc 14 then (bif Nat.blt pc 11 then (bif Nat.beq pc 10 then some (.iload_n 2, 1, 0, 0, 0) else none) else (bif Nat.beq pc 11 then some (.ifCond .eq 7, 3, 18, 0, 0) else none)) else (bif Nat.blt pc 15 then (bif Nat.beq pc 14 then some (.iload_n 2, 1, 0, 0, 0) else none) else (bif Nat.beq pc 15 then some (.iload_n 1, 1, 0, 0, 0) else none))) else (bif Nat.blt pc 18 then (bif Nat.blt pc 17 then (bif Nat.beq pc 16 then some (.iadd, 1, 0, 0, 0) else none) else (bif Nat.beq pc 17 then some (.ireturn, 1, 0, 0, 0) else none)) else (bif Nat.blt pc 19 then (bif Nat.beq pc 18 then some (.iload_n 2, 1, 0, 0, 0) else none) else (bif Nat.beq pc 19 then some (.ireturn, 1, 0, 0, 0) else none))))
/-- java/lang/Math.max(II)I -/
def zc88 (pc : Nat) : Option zEn := bif Nat.blt pc 5 then (bif Nat.blt pc 1 then (bif Nat.beq pc 0 then some (.iload_n 0, 1, 0, 0, 0) else none) else (bif Nat.blt pc 2 then (bif Nat.beq pc 1 then some (.iload_n 1, 1, 0, 0, 0) else none) else (bif Nat.beq pc 2 then some (.if_icmp .lt 7, 3, 9, 0, 0) else none))) else (bif Nat.blt pc 9 then (bif Nat.blt pc 6 then (bif Nat.beq pc 5 then some (.iload_n 0, 1, 0, 0, 0) else none) else (bif Nat.beq pc 6 then some (.goto 4, 3, 10, 0, 0) else none)) else (bif Nat.blt pc 10 then (bif Nat.beq pc 9 then some (.iload_n 1, 1, 0, 0, 0) else none) else (bif Nat.beq pc 10 then some (.ireturn, 1, 0, 0, 0) else none)))
/-- SlipWheelLaw.cell([II)I -/
def zc89 (pc : Nat) : Option zEn := bif Nat.blt pc 9 then (bif Nat.blt pc 3 then (bif Nat.blt pc 1 then (bif Nat.beq pc 0 then some (.iload_n 1, 1, 0, 0, 0) else none) else (bif Nat.blt pc 2 then (bif Nat.beq pc 1 then some (.aload_n 0, 1, 0, 0, 0) else none) else (bif Nat.beq pc 2 then some (.arraylength, 1, 1, 0, 0) else none))) else (bif Nat.blt pc 7 then (bif Nat.blt pc 6 then (bif Nat.beq pc 3 then some (.if_icmp .ge 9, 3, 12, 0, 0) else none) else (bif Nat.beq pc 6 then some (.aload_n 0, 1, 0, 0, 0) else none)) else (bif Nat.blt pc 8 then (bif Nat.beq pc 7 then some (.iload_n 1, 1, 0, 0, 0) else none) else (bif Nat.beq pc 8 then some (.iaload, 1, 1, 0, 0) else none)))) else (bif Nat.blt pc 15 then (bif Nat.blt pc 12 then (bif Nat.beq pc 9 then some (.goto 9, 3, 18, 0, 0) else none) else (bif Nat.blt pc 14 then (bif Nat.beq pc 12 then some (.ldc 7, 2, 0, 0, 625341585) else none) else (bif Nat.beq pc 14 then some (.iload_n 1, 1, 0, 0, 0) else none))) else (bif Nat.blt pc 17 then (bif Nat.blt pc 16 then (bif Nat.beq pc 15 then some (.iconst 3, 1, 0, 0, 3) else none) else (bif Nat.beq pc 16 then some (.iadd, 1, 0, 0, 0) else none)) else (bif Nat.blt pc 18 then (bif Nat.beq pc 17 then some (.imul, 1, 0, 0, 0) else none) else (bif Nat.beq pc 18 then some (.ireturn, 1, 0, 0, 0) else none))))
/-- SlipWheelLaw.some(II)I -/
def zc90 (pc : Nat) : Option zEn := bif Nat.blt pc 4 then (bif Nat.blt pc 1 then (bif Nat.beq pc 0 then some (.iload_n 0, 1, 0, 0, 0) else none) else (bif Nat.blt pc 3 then (bif Nat.beq pc 1 then some (.ldc 8, 2, 0, 0, 2147483647) else none) else (bif Nat.beq pc 3 then some (.iand, 1, 0, 0, 0) else none))) else (bif Nat.blt pc 5 then (bif Nat.beq pc 4 then some (.iload_n 1, 1, 0, 0, 0) else none) else (bif Nat.blt pc 6 then (bif Nat.beq pc 5 then some (.irem, 1, 0, 0, 0) else none) else (bif Nat.beq pc 6 then some (.ireturn, 1, 0, 0, 0) else none)))
/-- SlipWheelLaw.build(LSlipWheel;[II[I[I[I[I[II)Z -/
def zc91 (pc : Nat) : Option zEn := bif Nat.blt pc 393 then (bif Nat.blt pc 205 then (bif Nat.blt pc 105 then (bif Nat.blt pc 44 then (bif Nat.blt pc 20 then (bif Nat.blt pc 9 then (bif Nat.blt pc 5 then (bif Nat.blt pc 1 then (bif Nat.beq pc 0 then some (.aload_n 1, 1, 0, 0, 0) else none) else (bif Nat.blt pc 2 then (bif Nat.beq pc 1 then some (.iload_n 2, 1, 0, 0, 0) else none) else (bif Nat.beq pc 2 then some (.invokestatic 48, 3, 89, 2, 12) else none))) else (bif Nat.blt pc 7 then (bif Nat.beq pc 5 then some (.istore 9, 2, 0, 0, 0) else none) else (bif Nat.blt pc 8 then (bif Nat.beq pc 7 then some (.aload_n 1, 1, 0, 0, 0) else none) else (bif Nat.beq pc 8 then some (.iload_n 2, 1, 0, 0, 0) else none)))) else (bif Nat.blt pc 14 then (bif Nat.blt pc 10 then (bif Nat.beq pc 9 then some (.iconst 1, 1, 0, 0, 1) else none) else (bif Nat.blt pc 11 then (bif Nat.beq pc 10 then some (.iadd, 1, 0, 0, 0) else none) else (bif Nat.beq pc 11 then some (.invokestatic 48, 3, 89, 2, 12) else none))) else (bif Nat.blt pc 17 then (bif Nat.blt pc 16 then (bif Nat.beq pc 14 then some (.istore 10, 2, 0, 0, 0) else none) else (bif Nat.beq pc 16 then some (.iconst 1, 1, 0, 0, 1) else none)) else (bif Nat.blt pc 19 then (bif Nat.beq pc 17 then some (.istore 11, 2, 0, 0, 0) else none) else (bif Nat.beq pc 19 then some (.iconst 0, 1, 0, 0, 0) else none))))) else (bif Nat.blt pc 34 then (bif Nat.blt pc 26 then (bif Nat.blt pc 22 then (bif Nat.beq pc 20 then some (.istore 12, 2, 0, 0, 0) else none) else (bif Nat.blt pc 24 then (bif Nat.beq pc 22 then some (.iload 12, 2, 0, 0, 0) else none) else (bif Nat.beq pc 24 then some (.bipush 8, 2, 0, 0, 8) else none))) else (bif Nat.blt pc 29 then (bif Nat.beq pc 26 then some (.if_icmp .ge 109, 3, 135, 0, 0) else none) else (bif Nat.blt pc 31 then (bif Nat.beq pc 29 then some (.iload 11, 2, 0, 0, 0) else none) else (bif Nat.beq pc 31 then some (.ifCond .eq 104, 3, 135, 0, 0) else none)))) else (bif Nat.blt pc 37 then (bif Nat.blt pc 35 then (bif Nat.beq pc 34 then some (.aload_n 1, 1, 0, 0, 0) else none) else (bif Nat.blt pc 36 then (bif Nat.beq pc 35 then some (.iload_n 2, 1, 0, 0, 0) else none) else (bif Nat.beq pc 36 then some (.iconst 2, 1, 0, 0, 2) else none))) else (bif Nat.blt pc 40 then (bif Nat.blt pc 38 then (bif Nat.beq pc 37 then some (.iadd, 1, 0, 0, 0) else none) else (bif Nat.beq pc 38 then some (.iload 12, 2, 0, 0, 0) else none)) else (bif Nat.blt pc 41 then (bif Nat.beq pc 40 then some (.iadd, 1, 0, 0, 0) else none) else (bif Nat.beq pc 41 then some (.invokestatic 48, 3, 89, 2, 12) else none)))))) else (bif Nat.blt pc 71 then (bif Nat.blt pc 55 then (bif Nat.blt pc 49 then (bif Nat.blt pc 46 then (bif Nat.beq pc 44 then some (.istore 13, 2, 0, 0, 0) else none) else (bif Nat.blt pc 47 then (bif Nat.beq pc 46 then some (.aload_n 3, 1, 0, 0, 0) else none) else (bif Nat.beq pc 47 then some (.iload 12, 2, 0, 0, 0) else none))) else (bif Nat.blt pc 51 then (bif Nat.beq pc 49 then some (.iload 9, 2, 0, 0, 0) else none) else (bif Nat.blt pc 52 then (bif Nat.beq pc 51 then some (.iconst 3, 1, 0, 0, 3) else none) else (bif Nat.beq pc 52 then some (.invokestatic 51, 3, 90, 2, 12) else none)))) else (bif Nat.blt pc 64 then (bif Nat.blt pc 58 then (bif Nat.beq pc 55 then some (.ifCond .ne 9, 3, 64, 0, 0) else none) else (bif Nat.blt pc 61 then (bif Nat.beq pc 58 then some (.sipush 255, 3, 0, 0, 255) else none) else (bif Nat.beq pc 61 then some (.goto 44, 3, 105, 0, 0) else none))) else (bif Nat.blt pc 67 then (bif Nat.blt pc 66 then (bif Nat.beq pc 64 then some (.iload 9, 2, 0, 0, 0) else none) else (bif Nat.beq pc 66 then some (.iconst 3, 1, 0, 0, 3) else none)) else (bif Nat.blt pc 70 then (bif Nat.beq pc 67 then some (.invokestatic 51, 3, 90, 2, 12) else none) else (bif Nat.beq pc 70 then some (.iconst 1, 1, 0, 0, 1) else none))))) else (bif Nat.blt pc 90 then (bif Nat.blt pc 79 then (bif Nat.blt pc 74 then (bif Nat.beq pc 71 then some (.if_icmp .ne 14, 3, 85, 0, 0) else none) else (bif Nat.blt pc 76 then (bif Nat.beq pc 74 then some (.iload 13, 2, 0, 0, 0) else none) else (bif Nat.beq pc 76 then some (.sipush 256, 3, 0, 0, 256) else none))) else (bif Nat.blt pc 85 then (bif Nat.blt pc 82 then (bif Nat.beq pc 79 then some (.invokestatic 51, 3, 90, 2, 12) else none) else (bif Nat.beq pc 82 then some (.goto 23, 3, 105, 0, 0) else none)) else (bif Nat.blt pc 87 then (bif Nat.beq pc 85 then some (.iload 13, 2, 0, 0, 0) else none) else (bif Nat.beq pc 87 then some (.sipush 256, 3, 0, 0, 256) else none)))) else (bif Nat.blt pc 97 then (bif Nat.blt pc 93 then (bif Nat.beq pc 90 then some (.invokestatic 51, 3, 90, 2, 12) else none) else (bif Nat.blt pc 95 then (bif Nat.beq pc 93 then some (.iload 13, 2, 0, 0, 0) else none) else (bif Nat.beq pc 95 then some (.bipush 8, 2, 0, 0, 8) else none))) else (bif Nat.blt pc 101 then (bif Nat.blt pc 98 then (bif Nat.beq pc 97 then some (.ishr, 1, 0, 0, 0) else none) else (bif Nat.beq pc 98 then some (.sipush 256, 3, 0, 0, 256) else none)) else (bif Nat.blt pc 104 then (bif Nat.beq pc 101 then some (.invokestatic 51, 3, 90, 2, 12) else none) else (bif Nat.beq pc 104 then some (.iand, 1, 0, 0, 0) else none))))))) else (bif Nat.blt pc 156 then (bif Nat.blt pc 129 then (bif Nat.blt pc 113 then (bif Nat.blt pc 109 then (bif Nat.blt pc 106 then (bif Nat.beq pc 105 then some (.iastore, 1, 0, 0, 0) else none) else (bif Nat.blt pc 107 then (bif Nat.beq pc 106 then some (.aload_n 0, 1, 0, 0, 0) else none) else (bif Nat.beq pc 107 then some (.iload 12, 2, 0, 0, 0) else none))) else (bif Nat.blt pc 110 then (bif Nat.beq pc 109 then some (.aload_n 3, 1, 0, 0, 0) else none) else (bif Nat.blt pc 112 then (bif Nat.beq pc 110 then some (.iload 12, 2, 0, 0, 0) else none) else (bif Nat.beq pc 112 then some (.iaload, 1, 0, 0, 0) else none)))) else (bif Nat.blt pc 122 then (bif Nat.blt pc 116 then (bif Nat.beq pc 113 then some (.invokevirtual 54, 3, 59, 3, 10) else none) else (bif Nat.blt pc 119 then (bif Nat.beq pc 116 then some (.sipush 255, 3, 0, 0, 255) else none) else (bif Nat.beq pc 119 then some (.if_icmp .ne 7, 3, 126, 0, 0) else none))) else (bif Nat.blt pc 126 then (bif Nat.blt pc 123 then (bif Nat.beq pc 122 then some (.iconst 1, 1, 0, 0, 1) else none) else (bif Nat.beq pc 123 then some (.goto 4, 3, 127, 0, 0) else none)) else (bif Nat.blt pc 127 then (bif Nat.beq pc 126 then some (.iconst 0, 1, 0, 0, 0) else none) else (bif Nat.beq pc 127 then some (.istore 11, 2, 0, 0, 0) else none))))) else (bif Nat.blt pc 143 then (bif Nat.blt pc 137 then (bif Nat.blt pc 132 then (bif Nat.beq pc 129 then some (.iinc 12 1, 3, 0, 0, 0) else none) else (bif Nat.blt pc 135 then (bif Nat.beq pc 132 then some (.goto (-110), 3, 22, 0, 0) else none) else (bif Nat.beq pc 135 then some (.aload 4, 2, 0, 0, 0) else none))) else (bif Nat.blt pc 141 then (bif Nat.blt pc 139 then (bif Nat.beq pc 137 then some (.bipush 12, 2, 0, 0, 12) else none) else (bif Nat.beq pc 139 then some (.iload 9, 2, 0, 0, 0) else none)) else (bif Nat.blt pc 142 then (bif Nat.beq pc 141 then some (.iconst 2, 1, 0, 0, 2) else none) else (bif Nat.beq pc 142 then some (.ishr, 1, 0, 0, 0) else none)))) else (bif Nat.blt pc 149 then (bif Nat.blt pc 145 then (bif Nat.beq pc 143 then some (.bipush 7, 2, 0, 0, 7) else none) else (bif Nat.blt pc 148 then (bif Nat.beq pc 145 then some (.invokestatic 51, 3, 90, 2, 12) else none) else (bif Nat.beq pc 148 then some (.iastore, 1, 0, 0, 0) else none))) else (bif Nat.blt pc 152 then (bif Nat.blt pc 150 then (bif Nat.beq pc 149 then some (.iconst 0, 1, 0, 0, 0) else none) else (bif Nat.beq pc 150 then some (.istore 12, 2, 0, 0, 0) else none)) else (bif Nat.blt pc 154 then (bif Nat.beq pc 152 then some (.iload 12, 2, 0, 0, 0) else none) else (bif Nat.beq pc 154 then some (.aload 4, 2, 0, 0, 0) else none)))))) else (bif Nat.blt pc 180 then (bif Nat.blt pc 168 then (bif Nat.blt pc 162 then (bif Nat.blt pc 158 then (bif Nat.beq pc 156 then some (.bipush 12, 2, 0, 0, 12) else none) else (bif Nat.blt pc 159 then (bif Nat.beq pc 158 then some (.iaload, 1, 0, 0, 0) else none) else (bif Nat.beq pc 159 then some (.if_icmp .ge 112, 3, 271, 0, 0) else none))) else (bif Nat.blt pc 164 then (bif Nat.beq pc 162 then some (.iload 11, 2, 0, 0, 0) else none) else (bif Nat.blt pc 167 then (bif Nat.beq pc 164 then some (.ifCond .eq 107, 3, 271, 0, 0) else none) else (bif Nat.beq pc 167 then some (.aload_n 1, 1, 0, 0, 0) else none)))) else (bif Nat.blt pc 172 then (bif Nat.blt pc 169 then (bif Nat.beq pc 168 then some (.iload_n 2, 1, 0, 0, 0) else none) else (bif Nat.blt pc 171 then (bif Nat.beq pc 169 then some (.bipush 10, 2, 0, 0, 10) else none) else (bif Nat.beq pc 171 then some (.iadd, 1, 0, 0, 0) else none))) else (bif Nat.blt pc 175 then (bif Nat.blt pc 174 then (bif Nat.beq pc 172 then some (.iload 12, 2, 0, 0, 0) else none) else (bif Nat.beq pc 174 then some (.iadd, 1, 0, 0, 0) else none)) else (bif Nat.blt pc 178 then (bif Nat.beq pc 175 then some (.invokestatic 48, 3, 89, 2, 12) else none) else (bif Nat.beq pc 178 then some (.istore 13, 2, 0, 0, 0) else none))))) else (bif Nat.blt pc 193 then (bif Nat.blt pc 186 then (bif Nat.blt pc 182 then (bif Nat.beq pc 180 then some (.aload 4, 2, 0, 0, 0) else none) else (bif Nat.blt pc 184 then (bif Nat.beq pc 182 then some (.bipush 6, 2, 0, 0, 6) else none) else (bif Nat.beq pc 184 then some (.iload 12, 2, 0, 0, 0) else none))) else (bif Nat.blt pc 189 then (bif Nat.blt pc 187 then (bif Nat.beq pc 186 then some (.iadd, 1, 0, 0, 0) else none) else (bif Nat.beq pc 187 then some (.iload 13, 2, 0, 0, 0) else none)) else (bif Nat.blt pc 190 then (bif Nat.beq pc 189 then some (.iconst 5, 1, 0, 0, 5) else none) else (bif Nat.beq pc 190 then some (.invokestatic 51, 3, 90, 2, 12) else none)))) else (bif Nat.blt pc 200 then (bif Nat.blt pc 196 then (bif Nat.beq pc 193 then some (.ifCond .ne 7, 3, 200, 0, 0) else none) else (bif Nat.blt pc 197 then (bif Nat.beq pc 196 then some (.iconst 1, 1, 0, 0, 1) else none) else (bif Nat.beq pc 197 then some (.goto 13, 3, 210, 0, 0) else none))) else (bif Nat.blt pc 203 then (bif Nat.blt pc 201 then (bif Nat.beq pc 200 then some (.iconst 2, 1, 0, 0, 2) else none) else (bif Nat.beq pc 201 then some (.iload 13, 2, 0, 0, 0) else none)) else (bif Nat.blt pc 204 then (bif Nat.beq pc 203 then some (.iconst 3, 1, 0, 0, 3) else none) else (bif Nat.beq pc 204 then some (.ishr, 1, 0, 0, 0) else none)))))))) else (bif Nat.blt pc 296 then (bif Nat.blt pc 248 then (bif Nat.blt pc 226 then (bif Nat.blt pc 215 then (bif Nat.blt pc 210 then (bif Nat.blt pc 206 then (bif Nat.beq pc 205 then some (.iconst 3, 1, 0, 0, 3) else none) else (bif Nat.blt pc 209 then (bif Nat.beq pc 206 then some (.invokestatic 51, 3, 90, 2, 12) else none) else (bif Nat.beq pc 209 then some (.iadd, 1, 0, 0, 0) else none))) else (bif Nat.blt pc 211 then (bif Nat.beq pc 210 then some (.iastore, 1, 0, 0, 0) else none) else (bif Nat.blt pc 213 then (bif Nat.beq pc 211 then some (.aload 4, 2, 0, 0, 0) else none) else (bif Nat.beq pc 213 then some (.iload 12, 2, 0, 0, 0) else none)))) else (bif Nat.blt pc 220 then (bif Nat.blt pc 217 then (bif Nat.beq pc 215 then some (.iload 13, 2, 0, 0, 0) else none) else (bif Nat.blt pc 219 then (bif Nat.beq pc 217 then some (.bipush 6, 2, 0, 0, 6) else none) else (bif Nat.beq pc 219 then some (.ishr, 1, 0, 0, 0) else none))) else (bif Nat.blt pc 222 then (bif Nat.blt pc 221 then (bif Nat.beq pc 220 then some (.iconst 1, 1, 0, 0, 1) else none) else (bif Nat.beq pc 221 then some (.iconst 3, 1, 0, 0, 3) else none)) else (bif Nat.blt pc 224 then (bif Nat.beq pc 222 then some (.aload 4, 2, 0, 0, 0) else none) else (bif Nat.beq pc 224 then some (.bipush 6, 2, 0, 0, 6) else none))))) else (bif Nat.blt pc 236 then (bif Nat.blt pc 230 then (bif Nat.blt pc 228 then (bif Nat.beq pc 226 then some (.iload 12, 2, 0, 0, 0) else none) else (bif Nat.blt pc 229 then (bif Nat.beq pc 228 then some (.iadd, 1, 0, 0, 0) else none) else (bif Nat.beq pc 229 then some (.iaload, 1, 0, 0, 0) else none))) else (bif Nat.blt pc 232 then (bif Nat.blt pc 231 then (bif Nat.beq pc 230 then some (.imul, 1, 0, 0, 0) else none) else (bif Nat.beq pc 231 then some (.ishl, 1, 0, 0, 0) else none)) else (bif Nat.blt pc 235 then (bif Nat.beq pc 232 then some (.invokestatic 51, 3, 90, 2, 12) else none) else (bif Nat.beq pc 235 then some (.iastore, 1, 0, 0, 0) else none)))) else (bif Nat.blt pc 241 then (bif Nat.blt pc 237 then (bif Nat.beq pc 236 then some (.aload_n 0, 1, 0, 0, 0) else none) else (bif Nat.blt pc 239 then (bif Nat.beq pc 237 then some (.aload 4, 2, 0, 0, 0) else none) else (bif Nat.beq pc 239 then some (.iload 12, 2, 0, 0, 0) else none))) else (bif Nat.blt pc 244 then (bif Nat.blt pc 242 then (bif Nat.beq pc 241 then some (.iaload, 1, 0, 0, 0) else none) else (bif Nat.beq pc 242 then some (.aload 4, 2, 0, 0, 0) else none)) else (bif Nat.blt pc 246 then (bif Nat.beq pc 244 then some (.bipush 6, 2, 0, 0, 6) else none) else (bif Nat.beq pc 246 then some (.iload 12, 2, 0, 0, 0) else none)))))) else (bif Nat.blt pc 274 then (bif Nat.blt pc 259 then (bif Nat.blt pc 253 then (bif Nat.blt pc 249 then (bif Nat.beq pc 248 then some (.iadd, 1, 0, 0, 0) else none) else (bif Nat.blt pc 250 then (bif Nat.beq pc 249 then some (.iaload, 1, 0, 0, 0) else none) else (bif Nat.beq pc 250 then some (.invokevirtual 59, 3, 60, 3, 10) else none))) else (bif Nat.blt pc 255 then (bif Nat.beq pc 253 then some (.iload 12, 2, 0, 0, 0) else none) else (bif Nat.blt pc 258 then (bif Nat.beq pc 255 then some (.if_icmp .ne 7, 3, 262, 0, 0) else none) else (bif Nat.beq pc 258 then some (.iconst 1, 1, 0, 0, 1) else none)))) else (bif Nat.blt pc 265 then (bif Nat.blt pc 262 then (bif Nat.beq pc 259 then some (.goto 4, 3, 263, 0, 0) else none) else (bif Nat.blt pc 263 then (bif Nat.beq pc 262 then some (.iconst 0, 1, 0, 0, 0) else none) else (bif Nat.beq pc 263 then some (.istore 11, 2, 0, 0, 0) else none))) else (bif Nat.blt pc 271 then (bif Nat.blt pc 268 then (bif Nat.beq pc 265 then some (.iinc 12 1, 3, 0, 0, 0) else none) else (bif Nat.beq pc 268 then some (.goto (-116), 3, 152, 0, 0) else none)) else (bif Nat.blt pc 273 then (bif Nat.beq pc 271 then some (.aload 7, 2, 0, 0, 0) else none) else (bif Nat.beq pc 273 then some (.iconst 0, 1, 0, 0, 0) else none))))) else (bif Nat.blt pc 286 then (bif Nat.blt pc 280 then (bif Nat.blt pc 276 then (bif Nat.beq pc 274 then some (.iload 8, 2, 0, 0, 0) else none) else (bif Nat.blt pc 278 then (bif Nat.beq pc 276 then some (.iload 9, 2, 0, 0, 0) else none) else (bif Nat.beq pc 278 then some (.bipush 6, 2, 0, 0, 6) else none))) else (bif Nat.blt pc 283 then (bif Nat.blt pc 281 then (bif Nat.beq pc 280 then some (.ishr, 1, 0, 0, 0) else none) else (bif Nat.beq pc 281 then some (.bipush 7, 2, 0, 0, 7) else none)) else (bif Nat.blt pc 285 then (bif Nat.beq pc 283 then some (.iload 8, 2, 0, 0, 0) else none) else (bif Nat.beq pc 285 then some (.isub, 1, 0, 0, 0) else none)))) else (bif Nat.blt pc 291 then (bif Nat.blt pc 289 then (bif Nat.beq pc 286 then some (.invokestatic 51, 3, 90, 2, 12) else none) else (bif Nat.blt pc 290 then (bif Nat.beq pc 289 then some (.iadd, 1, 0, 0, 0) else none) else (bif Nat.beq pc 290 then some (.iastore, 1, 0, 0, 0) else none))) else (bif Nat.blt pc 294 then (bif Nat.blt pc 293 then (bif Nat.beq pc 291 then some (.aload 7, 2, 0, 0, 0) else none) else (bif Nat.beq pc 293 then some (.iconst 5, 1, 0, 0, 5) else none)) else (bif Nat.blt pc 295 then (bif Nat.beq pc 294 then some (.iconst 1, 1, 0, 0, 1) else none) else (bif Nat.beq pc 295 then some (.iastore, 1, 0, 0, 0) else none))))))) else (bif Nat.blt pc 346 then (bif Nat.blt pc 318 then (bif Nat.blt pc 305 then (bif Nat.blt pc 301 then (bif Nat.blt pc 297 then (bif Nat.beq pc 296 then some (.iconst 0, 1, 0, 0, 0) else none) else (bif Nat.blt pc 299 then (bif Nat.beq pc 297 then some (.istore 12, 2, 0, 0, 0) else none) else (bif Nat.beq pc 299 then some (.iload 12, 2, 0, 0, 0) else none))) else (bif Nat.blt pc 303 then (bif Nat.beq pc 301 then some (.aload 7, 2, 0, 0, 0) else none) else (bif Nat.blt pc 304 then (bif Nat.beq pc 303 then some (.iconst 0, 1, 0, 0, 0) else none) else (bif Nat.beq pc 304 then some (.iaload, 1, 0, 0, 0) else none)))) else (bif Nat.blt pc 313 then (bif Nat.blt pc 308 then (bif Nat.beq pc 305 then some (.if_icmp .ge 195, 3, 500, 0, 0) else none) else (bif Nat.blt pc 310 then (bif Nat.beq pc 308 then some (.iload 11, 2, 0, 0, 0) else none) else (bif Nat.beq pc 310 then some (.ifCond .eq 190, 3, 500, 0, 0) else none))) else (bif Nat.blt pc 315 then (bif Nat.blt pc 314 then (bif Nat.beq pc 313 then some (.aload_n 1, 1, 0, 0, 0) else none) else (bif Nat.beq pc 314 then some (.iload_n 2, 1, 0, 0, 0) else none)) else (bif Nat.blt pc 317 then (bif Nat.beq pc 315 then some (.bipush 16, 2, 0, 0, 16) else none) else (bif Nat.beq pc 317 then some (.iadd, 1, 0, 0, 0) else none))))) else (bif Nat.blt pc 332 then (bif Nat.blt pc 324 then (bif Nat.blt pc 320 then (bif Nat.beq pc 318 then some (.iload 12, 2, 0, 0, 0) else none) else (bif Nat.blt pc 321 then (bif Nat.beq pc 320 then some (.iadd, 1, 0, 0, 0) else none) else (bif Nat.beq pc 321 then some (.invokestatic 48, 3, 89, 2, 12) else none))) else (bif Nat.blt pc 328 then (bif Nat.blt pc 326 then (bif Nat.beq pc 324 then some (.istore 13, 2, 0, 0, 0) else none) else (bif Nat.beq pc 326 then some (.aload 5, 2, 0, 0, 0) else none)) else (bif Nat.blt pc 330 then (bif Nat.beq pc 328 then some (.bipush 10, 2, 0, 0, 10) else none) else (bif Nat.beq pc 330 then some (.iload 12, 2, 0, 0, 0) else none)))) else (bif Nat.blt pc 336 then (bif Nat.blt pc 333 then (bif Nat.beq pc 332 then some (.imul, 1, 0, 0, 0) else none) else (bif Nat.blt pc 335 then (bif Nat.beq pc 333 then some (.iload 13, 2, 0, 0, 0) else none) else (bif Nat.beq pc 335 then some (.iconst 2, 1, 0, 0, 2) else none))) else (bif Nat.blt pc 342 then (bif Nat.blt pc 339 then (bif Nat.beq pc 336 then some (.invokestatic 51, 3, 90, 2, 12) else none) else (bif Nat.beq pc 339 then some (.ifCond .ne 7, 3, 346, 0, 0) else none)) else (bif Nat.blt pc 343 then (bif Nat.beq pc 342 then some (.iconst 0, 1, 0, 0, 0) else none) else (bif Nat.beq pc 343 then some (.goto 11, 3, 354, 0, 0) else none)))))) else (bif Nat.blt pc 367 then (bif Nat.blt pc 355 then (bif Nat.blt pc 350 then (bif Nat.blt pc 348 then (bif Nat.beq pc 346 then some (.iload 13, 2, 0, 0, 0) else none) else (bif Nat.blt pc 349 then (bif Nat.beq pc 348 then some (.iconst 1, 1, 0, 0, 1) else none) else (bif Nat.beq pc 349 then some (.ishr, 1, 0, 0, 0) else none))) else (bif Nat.blt pc 351 then (bif Nat.beq pc 350 then some (.iconst 4, 1, 0, 0, 4) else none) else (bif Nat.blt pc 354 then (bif Nat.beq pc 351 then some (.invokestatic 51, 3, 90, 2, 12) else none) else (bif Nat.beq pc 354 then some (.iastore, 1, 0, 0, 0) else none)))) else (bif Nat.blt pc 361 then (bif Nat.blt pc 357 then (bif Nat.beq pc 355 then some (.aload 6, 2, 0, 0, 0) else none) else (bif Nat.blt pc 359 then (bif Nat.beq pc 357 then some (.iload 12, 2, 0, 0, 0) else none) else (bif Nat.beq pc 359 then some (.iload 12, 2, 0, 0, 0) else none))) else (bif Nat.blt pc 363 then (bif Nat.blt pc 362 then (bif Nat.beq pc 361 then some (.iastore, 1, 0, 0, 0) else none) else (bif Nat.beq pc 362 then some (.aload_n 0, 1, 0, 0, 0) else none)) else (bif Nat.blt pc 365 then (bif Nat.beq pc 363 then some (.aload 5, 2, 0, 0, 0) else none) else (bif Nat.beq pc 365 then some (.bipush 10, 2, 0, 0, 10) else none))))) else (bif Nat.blt pc 380 then (bif Nat.blt pc 371 then (bif Nat.blt pc 369 then (bif Nat.beq pc 367 then some (.iload 12, 2, 0, 0, 0) else none) else (bif Nat.blt pc 370 then (bif Nat.beq pc 369 then some (.imul, 1, 0, 0, 0) else none) else (bif Nat.beq pc 370 then some (.iaload, 1, 0, 0, 0) else none))) else (bif Nat.blt pc 376 then (bif Nat.blt pc 374 then (bif Nat.beq pc 371 then some (.invokevirtual 62, 3, 61, 2, 10) else none) else (bif Nat.beq pc 374 then some (.iload 12, 2, 0, 0, 0) else none)) else (bif Nat.blt pc 379 then (bif Nat.beq pc 376 then some (.if_icmp .ne 7, 3, 383, 0, 0) else none) else (bif Nat.beq pc 379 then some (.iconst 1, 1, 0, 0, 1) else none)))) else (bif Nat.blt pc 386 then (bif Nat.blt pc 383 then (bif Nat.beq pc 380 then some (.goto 4, 3, 384, 0, 0) else none) else (bif Nat.blt pc 384 then (bif Nat.beq pc 383 then some (.iconst 0, 1, 0, 0, 0) else none) else (bif Nat.beq pc 384 then some (.istore 11, 2, 0, 0, 0) else none))) else (bif Nat.blt pc 389 then (bif Nat.blt pc 387 then (bif Nat.beq pc 386 then some (.iconst 0, 1, 0, 0, 0) else none) else (bif Nat.beq pc 387 then some (.istore 14, 2, 0, 0, 0) else none)) else (bif Nat.blt pc 391 then (bif Nat.beq pc 389 then some (.iload 14, 2, 0, 0, 0) else none) else (bif Nat.beq pc 391 then some (.bipush 8, 2, 0, 0, 8) else none))))))))) else (bif Nat.blt pc 590 then (bif Nat.blt pc 486 then (bif Nat.blt pc 441 then (bif Nat.blt pc 415 then (bif Nat.blt pc 405 then (bif Nat.blt pc 401 then (bif Nat.blt pc 396 then (bif Nat.beq pc 393 then some (.if_icmp .ge 101, 3, 494, 0, 0) else none) else (bif Nat.blt pc 398 then (bif Nat.beq pc 396 then some (.iload 11, 2, 0, 0, 0) else none) else (bif Nat.beq pc 398 then some (.ifCond .eq 96, 3, 494, 0, 0) else none))) else (bif Nat.blt pc 403 then (bif Nat.beq pc 401 then some (.iload 13, 2, 0, 0, 0) else none) else (bif Nat.blt pc 404 then (bif Nat.beq pc 403 then some (.iconst 3, 1, 0, 0, 3) else none) else (bif Nat.beq pc 404 then some (.iconst 3, 1, 0, 0, 3) else none)))) else (bif Nat.blt pc 409 then (bif Nat.blt pc 407 then (bif Nat.beq pc 405 then some (.iload 14, 2, 0, 0, 0) else none) else (bif Nat.blt pc 408 then (bif Nat.beq pc 407 then some (.imul, 1, 0, 0, 0) else none) else (bif Nat.beq pc 408 then some (.iadd, 1, 0, 0, 0) else none))) else (bif Nat.blt pc 412 then (bif Nat.blt pc 410 then (bif Nat.beq pc 409 then some (.ishr, 1, 0, 0, 0) else none) else (bif Nat.beq pc 410 then some (.bipush 7, 2, 0, 0, 7) else none)) else (bif Nat.blt pc 413 then (bif Nat.beq pc 412 then some (.iand, 1, 0, 0, 0) else none) else (bif Nat.beq pc 413 then some (.istore 15, 2, 0, 0, 0) else none))))) else (bif Nat.blt pc 426 then (bif Nat.blt pc 421 then (bif Nat.blt pc 417 then (bif Nat.beq pc 415 then some (.aload 5, 2, 0, 0, 0) else none) else (bif Nat.blt pc 419 then (bif Nat.beq pc 417 then some (.bipush 10, 2, 0, 0, 10) else none) else (bif Nat.beq pc 419 then some (.iload 12, 2, 0, 0, 0) else none))) else (bif Nat.blt pc 423 then (bif Nat.blt pc 422 then (bif Nat.beq pc 421 then some (.imul, 1, 0, 0, 0) else none) else (bif Nat.beq pc 422 then some (.iconst 2, 1, 0, 0, 2) else none)) else (bif Nat.blt pc 424 then (bif Nat.beq pc 423 then some (.iadd, 1, 0, 0, 0) else none) else (bif Nat.beq pc 424 then some (.iload 14, 2, 0, 0, 0) else none)))) else (bif Nat.blt pc 430 then (bif Nat.blt pc 427 then (bif Nat.beq pc 426 then some (.iadd, 1, 0, 0, 0) else none) else (bif Nat.blt pc 429 then (bif Nat.beq pc 427 then some (.iload 10, 2, 0, 0, 0) else none) else (bif Nat.beq pc 429 then some (.iconst 2, 1, 0, 0, 2) else none))) else (bif Nat.blt pc 436 then (bif Nat.blt pc 433 then (bif Nat.beq pc 430 then some (.invokestatic 51, 3, 90, 2, 12) else none) else (bif Nat.beq pc 433 then some (.ifCond .ne 8, 3, 441, 0, 0) else none)) else (bif Nat.blt pc 438 then (bif Nat.beq pc 436 then some (.iload 15, 2, 0, 0, 0) else none) else (bif Nat.beq pc 438 then some (.goto 17, 3, 455, 0, 0) else none)))))) else (bif Nat.blt pc 463 then (bif Nat.blt pc 453 then (bif Nat.blt pc 447 then (bif Nat.blt pc 443 then (bif Nat.beq pc 441 then some (.iload 15, 2, 0, 0, 0) else none) else (bif Nat.blt pc 444 then (bif Nat.beq pc 443 then some (.iconst 4, 1, 0, 0, 4) else none) else (bif Nat.beq pc 444 then some (.if_icmp .ge 7, 3, 451, 0, 0) else none))) else (bif Nat.blt pc 448 then (bif Nat.beq pc 447 then some (.iconst 0, 1, 0, 0, 0) else none) else (bif Nat.blt pc 451 then (bif Nat.beq pc 448 then some (.goto 7, 3, 455, 0, 0) else none) else (bif Nat.beq pc 451 then some (.iload 15, 2, 0, 0, 0) else none)))) else (bif Nat.blt pc 456 then (bif Nat.blt pc 454 then (bif Nat.beq pc 453 then some (.iconst 3, 1, 0, 0, 3) else none) else (bif Nat.blt pc 455 then (bif Nat.beq pc 454 then some (.isub, 1, 0, 0, 0) else none) else (bif Nat.beq pc 455 then some (.iastore, 1, 0, 0, 0) else none))) else (bif Nat.blt pc 459 then (bif Nat.blt pc 457 then (bif Nat.beq pc 456 then some (.aload_n 0, 1, 0, 0, 0) else none) else (bif Nat.beq pc 457 then some (.iload 12, 2, 0, 0, 0) else none)) else (bif Nat.blt pc 461 then (bif Nat.beq pc 459 then some (.iload 14, 2, 0, 0, 0) else none) else (bif Nat.beq pc 461 then some (.aload 5, 2, 0, 0, 0) else none))))) else (bif Nat.blt pc 473 then (bif Nat.blt pc 468 then (bif Nat.blt pc 465 then (bif Nat.beq pc 463 then some (.bipush 10, 2, 0, 0, 10) else none) else (bif Nat.blt pc 467 then (bif Nat.beq pc 465 then some (.iload 12, 2, 0, 0, 0) else none) else (bif Nat.beq pc 467 then some (.imul, 1, 0, 0, 0) else none))) else (bif Nat.blt pc 470 then (bif Nat.blt pc 469 then (bif Nat.beq pc 468 then some (.iconst 2, 1, 0, 0, 2) else none) else (bif Nat.beq pc 469 then some (.iadd, 1, 0, 0, 0) else none)) else (bif Nat.blt pc 472 then (bif Nat.beq pc 470 then some (.iload 14, 2, 0, 0, 0) else none) else (bif Nat.beq pc 472 then some (.iadd, 1, 0, 0, 0) else none)))) else (bif Nat.blt pc 478 then (bif Nat.blt pc 474 then (bif Nat.beq pc 473 then some (.iaload, 1, 0, 0, 0) else none) else (bif Nat.blt pc 477 then (bif Nat.beq pc 474 then some (.invokevirtual 65, 3, 62, 4, 10) else none) else (bif Nat.beq pc 477 then some (.iconst 1, 1, 0, 0, 1) else none))) else (bif Nat.blt pc 482 then (bif Nat.blt pc 481 then (bif Nat.beq pc 478 then some (.if_icmp .ne 7, 3, 485, 0, 0) else none) else (bif Nat.beq pc 481 then some (.iconst 1, 1, 0, 0, 1) else none)) else (bif Nat.blt pc 485 then (bif Nat.beq pc 482 then some (.goto 4, 3, 486, 0, 0) else none) else (bif Nat.beq pc 485 then some (.iconst 0, 1, 0, 0, 0) else none))))))) else (bif Nat.blt pc 540 then (bif Nat.blt pc 515 then (bif Nat.blt pc 501 then (bif Nat.blt pc 494 then (bif Nat.blt pc 488 then (bif Nat.beq pc 486 then some (.istore 11, 2, 0, 0, 0) else none) else (bif Nat.blt pc 491 then (bif Nat.beq pc 488 then some (.iinc 14 1, 3, 0, 0, 0) else none) else (bif Nat.beq pc 491 then some (.goto (-102), 3, 389, 0, 0) else none))) else (bif Nat.blt pc 497 then (bif Nat.beq pc 494 then some (.iinc 12 1, 3, 0, 0, 0) else none) else (bif Nat.blt pc 500 then (bif Nat.beq pc 497 then some (.goto (-198), 3, 299, 0, 0) else none) else (bif Nat.beq pc 500 then some (.iconst 0, 1, 0, 0, 0) else none)))) else (bif Nat.blt pc 506 then (bif Nat.blt pc 503 then (bif Nat.beq pc 501 then some (.istore 12, 2, 0, 0, 0) else none) else (bif Nat.blt pc 505 then (bif Nat.beq pc 503 then some (.iload 12, 2, 0, 0, 0) else none) else (bif Nat.beq pc 505 then some (.iconst 4, 1, 0, 0, 4) else none))) else (bif Nat.blt pc 511 then (bif Nat.blt pc 509 then (bif Nat.beq pc 506 then some (.if_icmp .ge 244, 3, 750, 0, 0) else none) else (bif Nat.beq pc 509 then some (.iload 11, 2, 0, 0, 0) else none)) else (bif Nat.blt pc 514 then (bif Nat.beq pc 511 then some (.ifCond .eq 239, 3, 750, 0, 0) else none) else (bif Nat.beq pc 514 then some (.aload_n 1, 1, 0, 0, 0) else none))))) else (bif Nat.blt pc 527 then (bif Nat.blt pc 519 then (bif Nat.blt pc 516 then (bif Nat.beq pc 515 then some (.iload_n 2, 1, 0, 0, 0) else none) else (bif Nat.blt pc 518 then (bif Nat.beq pc 516 then some (.bipush 22, 2, 0, 0, 22) else none) else (bif Nat.beq pc 518 then some (.iadd, 1, 0, 0, 0) else none))) else (bif Nat.blt pc 522 then (bif Nat.blt pc 521 then (bif Nat.beq pc 519 then some (.iload 12, 2, 0, 0, 0) else none) else (bif Nat.beq pc 521 then some (.iadd, 1, 0, 0, 0) else none)) else (bif Nat.blt pc 525 then (bif Nat.beq pc 522 then some (.invokestatic 48, 3, 89, 2, 12) else none) else (bif Nat.beq pc 525 then some (.istore 13, 2, 0, 0, 0) else none)))) else (bif Nat.blt pc 534 then (bif Nat.blt pc 529 then (bif Nat.beq pc 527 then some (.iload 13, 2, 0, 0, 0) else none) else (bif Nat.blt pc 531 then (bif Nat.beq pc 529 then some (.bipush 6, 2, 0, 0, 6) else none) else (bif Nat.beq pc 531 then some (.invokestatic 51, 3, 90, 2, 12) else none))) else (bif Nat.blt pc 538 then (bif Nat.blt pc 536 then (bif Nat.beq pc 534 then some (.istore 14, 2, 0, 0, 0) else none) else (bif Nat.beq pc 536 then some (.iload 13, 2, 0, 0, 0) else none)) else (bif Nat.blt pc 539 then (bif Nat.beq pc 538 then some (.iconst 3, 1, 0, 0, 3) else none) else (bif Nat.beq pc 539 then some (.ishr, 1, 0, 0, 0) else none)))))) else (bif Nat.blt pc 565 then (bif Nat.blt pc 552 then (bif Nat.blt pc 547 then (bif Nat.blt pc 542 then (bif Nat.beq pc 540 then some (.bipush 6, 2, 0, 0, 6) else none) else (bif Nat.blt pc 545 then (bif Nat.beq pc 542 then some (.invokestatic 51, 3, 90, 2, 12) else none) else (bif Nat.beq pc 545 then some (.istore 15, 2, 0, 0, 0) else none))) else (bif Nat.blt pc 549 then (bif Nat.beq pc 547 then some (.iload 14, 2, 0, 0, 0) else none) else (bif Nat.blt pc 551 then (bif Nat.beq pc 549 then some (.aload 7, 2, 0, 0, 0) else none) else (bif Nat.beq pc 551 then some (.iconst 0, 1, 0, 0, 0) else none)))) else (bif Nat.blt pc 558 then (bif Nat.blt pc 553 then (bif Nat.beq pc 552 then some (.iaload, 1, 0, 0, 0) else none) else (bif Nat.blt pc 556 then (bif Nat.beq pc 553 then some (.if_icmp .ge 115, 3, 668, 0, 0) else none) else (bif Nat.beq pc 556 then some (.iload 15, 2, 0, 0, 0) else none))) else (bif Nat.blt pc 561 then (bif Nat.blt pc 560 then (bif Nat.beq pc 558 then some (.aload 7, 2, 0, 0, 0) else none) else (bif Nat.beq pc 560 then some (.iconst 0, 1, 0, 0, 0) else none)) else (bif Nat.blt pc 562 then (bif Nat.beq pc 561 then some (.iaload, 1, 0, 0, 0) else none) else (bif Nat.beq pc 562 then some (.if_icmp .ge 106, 3, 668, 0, 0) else none))))) else (bif Nat.blt pc 578 then (bif Nat.blt pc 572 then (bif Nat.blt pc 567 then (bif Nat.beq pc 565 then some (.iload 14, 2, 0, 0, 0) else none) else (bif Nat.blt pc 569 then (bif Nat.beq pc 567 then some (.iload 15, 2, 0, 0, 0) else none) else (bif Nat.beq pc 569 then some (.if_icmp .eq 99, 3, 668, 0, 0) else none))) else (bif Nat.blt pc 575 then (bif Nat.blt pc 573 then (bif Nat.beq pc 572 then some (.iconst 0, 1, 0, 0, 0) else none) else (bif Nat.beq pc 573 then some (.istore 16, 2, 0, 0, 0) else none)) else (bif Nat.blt pc 576 then (bif Nat.beq pc 575 then some (.iconst 0, 1, 0, 0, 0) else none) else (bif Nat.beq pc 576 then some (.istore 17, 2, 0, 0, 0) else none)))) else (bif Nat.blt pc 583 then (bif Nat.blt pc 579 then (bif Nat.beq pc 578 then some (.iconst 0, 1, 0, 0, 0) else none) else (bif Nat.blt pc 581 then (bif Nat.beq pc 579 then some (.istore 18, 2, 0, 0, 0) else none) else (bif Nat.beq pc 581 then some (.iload 18, 2, 0, 0, 0) else none))) else (bif Nat.blt pc 586 then (bif Nat.blt pc 585 then (bif Nat.beq pc 583 then some (.aload 7, 2, 0, 0, 0) else none) else (bif Nat.beq pc 585 then some (.iconst 0, 1, 0, 0, 0) else none)) else (bif Nat.blt pc 587 then (bif Nat.beq pc 586 then some (.iaload, 1, 0, 0, 0) else none) else (bif Nat.beq pc 587 then some (.if_icmp .ge 47, 3, 634, 0, 0) else none)))))))) else (bif Nat.blt pc 698 then (bif Nat.blt pc 647 then (bif Nat.blt pc 616 then (bif Nat.blt pc 602 then (bif Nat.blt pc 595 then (bif Nat.blt pc 592 then (bif Nat.beq pc 590 then some (.aload 6, 2, 0, 0, 0) else none) else (bif Nat.blt pc 594 then (bif Nat.beq pc 592 then some (.iload 18, 2, 0, 0, 0) else none) else (bif Nat.beq pc 594 then some (.iaload, 1, 0, 0, 0) else none))) else (bif Nat.blt pc 597 then (bif Nat.beq pc 595 then some (.iload 14, 2, 0, 0, 0) else none) else (bif Nat.blt pc 600 then (bif Nat.beq pc 597 then some (.if_icmp .ne 8, 3, 605, 0, 0) else none) else (bif Nat.beq pc 600 then some (.iload 18, 2, 0, 0, 0) else none)))) else (bif Nat.blt pc 609 then (bif Nat.blt pc 605 then (bif Nat.beq pc 602 then some (.goto 5, 3, 607, 0, 0) else none) else (bif Nat.blt pc 607 then (bif Nat.beq pc 605 then some (.iload 16, 2, 0, 0, 0) else none) else (bif Nat.beq pc 607 then some (.istore 16, 2, 0, 0, 0) else none))) else (bif Nat.blt pc 613 then (bif Nat.blt pc 611 then (bif Nat.beq pc 609 then some (.aload 6, 2, 0, 0, 0) else none) else (bif Nat.beq pc 611 then some (.iload 18, 2, 0, 0, 0) else none)) else (bif Nat.blt pc 614 then (bif Nat.beq pc 613 then some (.iaload, 1, 0, 0, 0) else none) else (bif Nat.beq pc 614 then some (.iload 15, 2, 0, 0, 0) else none))))) else (bif Nat.blt pc 634 then (bif Nat.blt pc 624 then (bif Nat.blt pc 619 then (bif Nat.beq pc 616 then some (.if_icmp .ne 8, 3, 624, 0, 0) else none) else (bif Nat.blt pc 621 then (bif Nat.beq pc 619 then some (.iload 18, 2, 0, 0, 0) else none) else (bif Nat.beq pc 621 then some (.goto 5, 3, 626, 0, 0) else none))) else (bif Nat.blt pc 628 then (bif Nat.blt pc 626 then (bif Nat.beq pc 624 then some (.iload 17, 2, 0, 0, 0) else none) else (bif Nat.beq pc 626 then some (.istore 17, 2, 0, 0, 0) else none)) else (bif Nat.blt pc 631 then (bif Nat.beq pc 628 then some (.iinc 18 1, 3, 0, 0, 0) else none) else (bif Nat.beq pc 631 then some (.goto (-50), 3, 581, 0, 0) else none)))) else (bif Nat.blt pc 640 then (bif Nat.blt pc 636 then (bif Nat.beq pc 634 then some (.aload 6, 2, 0, 0, 0) else none) else (bif Nat.blt pc 638 then (bif Nat.beq pc 636 then some (.iload 16, 2, 0, 0, 0) else none) else (bif Nat.beq pc 638 then some (.iload 15, 2, 0, 0, 0) else none))) else (bif Nat.blt pc 643 then (bif Nat.blt pc 641 then (bif Nat.beq pc 640 then some (.iastore, 1, 0, 0, 0) else none) else (bif Nat.beq pc 641 then some (.aload 6, 2, 0, 0, 0) else none)) else (bif Nat.blt pc 645 then (bif Nat.beq pc 643 then some (.iload 17, 2, 0, 0, 0) else none) else (bif Nat.beq pc 645 then some (.iload 14, 2, 0, 0, 0) else none)))))) else (bif Nat.blt pc 672 then (bif Nat.blt pc 658 then (bif Nat.blt pc 651 then (bif Nat.blt pc 648 then (bif Nat.beq pc 647 then some (.iastore, 1, 0, 0, 0) else none) else (bif Nat.blt pc 649 then (bif Nat.beq pc 648 then some (.aload_n 0, 1, 0, 0, 0) else none) else (bif Nat.beq pc 649 then some (.iload 14, 2, 0, 0, 0) else none))) else (bif Nat.blt pc 653 then (bif Nat.beq pc 651 then some (.iload 15, 2, 0, 0, 0) else none) else (bif Nat.blt pc 656 then (bif Nat.beq pc 653 then some (.invokevirtual 69, 3, 64, 3, 10) else none) else (bif Nat.beq pc 656 then some (.iload 17, 2, 0, 0, 0) else none)))) else (bif Nat.blt pc 665 then (bif Nat.blt pc 661 then (bif Nat.beq pc 658 then some (.if_icmp .ne 7, 3, 665, 0, 0) else none) else (bif Nat.blt pc 662 then (bif Nat.beq pc 661 then some (.iconst 1, 1, 0, 0, 1) else none) else (bif Nat.beq pc 662 then some (.goto 4, 3, 666, 0, 0) else none))) else (bif Nat.blt pc 668 then (bif Nat.blt pc 666 then (bif Nat.beq pc 665 then some (.iconst 0, 1, 0, 0, 0) else none) else (bif Nat.beq pc 666 then some (.istore 11, 2, 0, 0, 0) else none)) else (bif Nat.blt pc 670 then (bif Nat.beq pc 668 then some (.iload 13, 2, 0, 0, 0) else none) else (bif Nat.beq pc 670 then some (.bipush 6, 2, 0, 0, 6) else none))))) else (bif Nat.blt pc 685 then (bif Nat.blt pc 678 then (bif Nat.blt pc 673 then (bif Nat.beq pc 672 then some (.ishr, 1, 0, 0, 0) else none) else (bif Nat.blt pc 675 then (bif Nat.beq pc 673 then some (.bipush 6, 2, 0, 0, 6) else none) else (bif Nat.beq pc 675 then some (.invokestatic 51, 3, 90, 2, 12) else none))) else (bif Nat.blt pc 682 then (bif Nat.blt pc 680 then (bif Nat.beq pc 678 then some (.istore 16, 2, 0, 0, 0) else none) else (bif Nat.beq pc 680 then some (.iload 16, 2, 0, 0, 0) else none)) else (bif Nat.blt pc 684 then (bif Nat.beq pc 682 then some (.aload 7, 2, 0, 0, 0) else none) else (bif Nat.beq pc 684 then some (.iconst 0, 1, 0, 0, 0) else none)))) else (bif Nat.blt pc 691 then (bif Nat.blt pc 686 then (bif Nat.beq pc 685 then some (.iaload, 1, 0, 0, 0) else none) else (bif Nat.blt pc 689 then (bif Nat.beq pc 686 then some (.if_icmp .ge 58, 3, 744, 0, 0) else none) else (bif Nat.beq pc 689 then some (.iload 13, 2, 0, 0, 0) else none))) else (bif Nat.blt pc 694 then (bif Nat.blt pc 693 then (bif Nat.beq pc 691 then some (.bipush 9, 2, 0, 0, 9) else none) else (bif Nat.beq pc 693 then some (.ishr, 1, 0, 0, 0) else none)) else (bif Nat.blt pc 695 then (bif Nat.beq pc 694 then some (.iconst 3, 1, 0, 0, 3) else none) else (bif Nat.beq pc 695 then some (.invokestatic 51, 3, 90, 2, 12) else none))))))) else (bif Nat.blt pc 744 then (bif Nat.blt pc 722 then (bif Nat.blt pc 710 then (bif Nat.blt pc 706 then (bif Nat.blt pc 701 then (bif Nat.beq pc 698 then some (.ifCond .ne 46, 3, 744, 0, 0) else none) else (bif Nat.blt pc 703 then (bif Nat.beq pc 701 then some (.iload 11, 2, 0, 0, 0) else none) else (bif Nat.beq pc 703 then some (.ifCond .eq 27, 3, 730, 0, 0) else none))) else (bif Nat.blt pc 707 then (bif Nat.beq pc 706 then some (.aload_n 0, 1, 0, 0, 0) else none) else (bif Nat.blt pc 709 then (bif Nat.beq pc 707 then some (.iload 16, 2, 0, 0, 0) else none) else (bif Nat.beq pc 709 then some (.iconst 1, 1, 0, 0, 1) else none)))) else (bif Nat.blt pc 717 then (bif Nat.blt pc 713 then (bif Nat.beq pc 710 then some (.invokevirtual 72, 3, 63, 3, 10) else none) else (bif Nat.blt pc 715 then (bif Nat.beq pc 713 then some (.aload 5, 2, 0, 0, 0) else none) else (bif Nat.beq pc 715 then some (.bipush 10, 2, 0, 0, 10) else none))) else (bif Nat.blt pc 720 then (bif Nat.blt pc 719 then (bif Nat.beq pc 717 then some (.iload 16, 2, 0, 0, 0) else none) else (bif Nat.beq pc 719 then some (.imul, 1, 0, 0, 0) else none)) else (bif Nat.blt pc 721 then (bif Nat.beq pc 720 then some (.iconst 1, 1, 0, 0, 1) else none) else (bif Nat.beq pc 721 then some (.iadd, 1, 0, 0, 0) else none))))) else (bif Nat.blt pc 735 then (bif Nat.blt pc 727 then (bif Nat.blt pc 723 then (bif Nat.beq pc 722 then some (.iaload, 1, 0, 0, 0) else none) else (bif Nat.blt pc 726 then (bif Nat.beq pc 723 then some (.if_icmp .ne 7, 3, 730, 0, 0) else none) else (bif Nat.beq pc 726 then some (.iconst 1, 1, 0, 0, 1) else none))) else (bif Nat.blt pc 731 then (bif Nat.blt pc 730 then (bif Nat.beq pc 727 then some (.goto 4, 3, 731, 0, 0) else none) else (bif Nat.beq pc 730 then some (.iconst 0, 1, 0, 0, 0) else none)) else (bif Nat.blt pc 733 then (bif Nat.beq pc 731 then some (.istore 11, 2, 0, 0, 0) else none) else (bif Nat.beq pc 733 then some (.aload 5, 2, 0, 0, 0) else none)))) else (bif Nat.blt pc 740 then (bif Nat.blt pc 737 then (bif Nat.beq pc 735 then some (.bipush 10, 2, 0, 0, 10) else none) else (bif Nat.blt pc 739 then (bif Nat.beq pc 737 then some (.iload 16, 2, 0, 0, 0) else none) else (bif Nat.beq pc 739 then some (.imul, 1, 0, 0, 0) else none))) else (bif Nat.blt pc 742 then (bif Nat.blt pc 741 then (bif Nat.beq pc 740 then some (.iconst 1, 1, 0, 0, 1) else none) else (bif Nat.beq pc 741 then some (.iadd, 1, 0, 0, 0) else none)) else (bif Nat.blt pc 743 then (bif Nat.beq pc 742 then some (.iconst 1, 1, 0, 0, 1) else none) else (bif Nat.beq pc 743 then some (.iastore, 1, 0, 0, 0) else none)))))) else (bif Nat.blt pc 768 then (bif Nat.blt pc 756 then (bif Nat.blt pc 752 then (bif Nat.blt pc 747 then (bif Nat.beq pc 744 then some (.iinc 12 1, 3, 0, 0, 0) else none) else (bif Nat.blt pc 750 then (bif Nat.beq pc 747 then some (.goto (-244), 3, 503, 0, 0) else none) else (bif Nat.beq pc 750 then some (.aload 7, 2, 0, 0, 0) else none))) else (bif Nat.blt pc 753 then (bif Nat.beq pc 752 then some (.iconst 3, 1, 0, 0, 3) else none) else (bif Nat.blt pc 755 then (bif Nat.beq pc 753 then some (.iload 10, 2, 0, 0, 0) else none) else (bif Nat.beq pc 755 then some (.iconst 1, 1, 0, 0, 1) else none)))) else (bif Nat.blt pc 761 then (bif Nat.blt pc 757 then (bif Nat.beq pc 756 then some (.ishr, 1, 0, 0, 0) else none) else (bif Nat.blt pc 758 then (bif Nat.beq pc 757 then some (.iconst 2, 1, 0, 0, 2) else none) else (bif Nat.beq pc 758 then some (.invokestatic 51, 3, 90, 2, 12) else none))) else (bif Nat.blt pc 764 then (bif Nat.blt pc 762 then (bif Nat.beq pc 761 then some (.iastore, 1, 0, 0, 0) else none) else (bif Nat.beq pc 762 then some (.iload 11, 2, 0, 0, 0) else none)) else (bif Nat.blt pc 767 then (bif Nat.beq pc 764 then some (.ifCond .eq 27, 3, 791, 0, 0) else none) else (bif Nat.beq pc 767 then some (.aload_n 0, 1, 0, 0, 0) else none))))) else (bif Nat.blt pc 780 then (bif Nat.blt pc 772 then (bif Nat.blt pc 770 then (bif Nat.beq pc 768 then some (.aload 7, 2, 0, 0, 0) else none) else (bif Nat.blt pc 771 then (bif Nat.beq pc 770 then some (.iconst 3, 1, 0, 0, 3) else none) else (bif Nat.beq pc 771 then some (.iaload, 1, 0, 0, 0) else none))) else (bif Nat.blt pc 776 then (bif Nat.blt pc 773 then (bif Nat.beq pc 772 then some (.iconst 1, 1, 0, 0, 1) else none) else (bif Nat.beq pc 773 then some (.if_icmp .ne 7, 3, 780, 0, 0) else none)) else (bif Nat.blt pc 777 then (bif Nat.beq pc 776 then some (.iconst 1, 1, 0, 0, 1) else none) else (bif Nat.beq pc 777 then some (.goto 4, 3, 781, 0, 0) else none)))) else (bif Nat.blt pc 787 then (bif Nat.blt pc 781 then (bif Nat.beq pc 780 then some (.iconst 0, 1, 0, 0, 0) else none) else (bif Nat.blt pc 784 then (bif Nat.beq pc 781 then some (.invokevirtual 76, 3, 65, 2, 10) else none) else (bif Nat.beq pc 784 then some (.ifCond .ne 7, 3, 791, 0, 0) else none))) else (bif Nat.blt pc 791 then (bif Nat.blt pc 788 then (bif Nat.beq pc 787 then some (.iconst 1, 1, 0, 0, 1) else none) else (bif Nat.beq pc 788 then some (.goto 4, 3, 792, 0, 0) else none)) else (bif Nat.blt pc 792 then (bif Nat.beq pc 791 then some (.iconst 0, 1, 0, 0, 0) else none) else (bif Nat.beq pc 792 then some (.ireturn, 1, 0, 0, 1) else none)))))))))
/-- SlipWheelLaw.law([I)Z -/
def zc92 (pc : Nat) : Option zEn := bif Nat.blt pc 409 then (bif Nat.blt pc 207 then (bif Nat.blt pc 98 then (bif Nat.blt pc 50 then (bif Nat.blt pc 24 then (bif Nat.blt pc 12 then (bif Nat.blt pc 7 then (bif Nat.blt pc 3 then (bif Nat.beq pc 0 then some (.new 55, 3, 7, 8, 0) else none) else (bif Nat.blt pc 4 then (bif Nat.beq pc 3 then some (.dup, 1, 0, 0, 0) else none) else (bif Nat.beq pc 4 then some (.invokespecial 79, 3, 58, 1, 4) else none))) else (bif Nat.blt pc 8 then (bif Nat.beq pc 7 then some (.astore_n 1, 1, 0, 0, 0) else none) else (bif Nat.blt pc 10 then (bif Nat.beq pc 8 then some (.bipush 8, 2, 0, 0, 8) else none) else (bif Nat.beq pc 10 then some (.newarray .int, 2, 0, 0, 0) else none)))) else (bif Nat.blt pc 17 then (bif Nat.blt pc 13 then (bif Nat.beq pc 12 then some (.astore_n 2, 1, 0, 0, 0) else none) else (bif Nat.blt pc 15 then (bif Nat.beq pc 13 then some (.bipush 16, 2, 0, 0, 16) else none) else (bif Nat.beq pc 15 then some (.newarray .int, 2, 0, 0, 0) else none))) else (bif Nat.blt pc 20 then (bif Nat.blt pc 18 then (bif Nat.beq pc 17 then some (.astore_n 3, 1, 0, 0, 0) else none) else (bif Nat.beq pc 18 then some (.bipush 64, 2, 0, 0, 64) else none)) else (bif Nat.blt pc 22 then (bif Nat.beq pc 20 then some (.newarray .int, 2, 0, 0, 0) else none) else (bif Nat.beq pc 22 then some (.astore 4, 2, 0, 0, 0) else none))))) else (bif Nat.blt pc 38 then (bif Nat.blt pc 30 then (bif Nat.blt pc 26 then (bif Nat.beq pc 24 then some (.bipush 6, 2, 0, 0, 6) else none) else (bif Nat.blt pc 28 then (bif Nat.beq pc 26 then some (.newarray .int, 2, 0, 0, 0) else none) else (bif Nat.beq pc 28 then some (.astore 5, 2, 0, 0, 0) else none))) else (bif Nat.blt pc 34 then (bif Nat.blt pc 32 then (bif Nat.beq pc 30 then some (.bipush 64, 2, 0, 0, 64) else none) else (bif Nat.beq pc 32 then some (.newarray .int, 2, 0, 0, 0) else none)) else (bif Nat.blt pc 36 then (bif Nat.beq pc 34 then some (.astore 6, 2, 0, 0, 0) else none) else (bif Nat.beq pc 36 then some (.bipush 64, 2, 0, 0, 64) else none)))) else (bif Nat.blt pc 44 then (bif Nat.blt pc 40 then (bif Nat.beq pc 38 then some (.newarray .int, 2, 0, 0, 0) else none) else (bif Nat.blt pc 42 then (bif Nat.beq pc 40 then some (.astore 7, 2, 0, 0, 0) else none) else (bif Nat.beq pc 42 then some (.bipush 8, 2, 0, 0, 8) else none))) else (bif Nat.blt pc 48 then (bif Nat.blt pc 46 then (bif Nat.beq pc 44 then some (.newarray .int, 2, 0, 0, 0) else none) else (bif Nat.beq pc 46 then some (.astore 8, 2, 0, 0, 0) else none)) else (bif Nat.blt pc 49 then (bif Nat.beq pc 48 then some (.aload_n 1, 1, 0, 0, 0) else none) else (bif Nat.beq pc 49 then some (.aload_n 0, 1, 0, 0, 0) else none)))))) else (bif Nat.blt pc 71 then (bif Nat.blt pc 59 then (bif Nat.blt pc 53 then (bif Nat.blt pc 51 then (bif Nat.beq pc 50 then some (.iconst 0, 1, 0, 0, 0) else none) else (bif Nat.blt pc 52 then (bif Nat.beq pc 51 then some (.aload_n 2, 1, 0, 0, 0) else none) else (bif Nat.beq pc 52 then some (.aload_n 3, 1, 0, 0, 0) else none))) else (bif Nat.blt pc 55 then (bif Nat.beq pc 53 then some (.aload 4, 2, 0, 0, 0) else none) else (bif Nat.blt pc 57 then (bif Nat.beq pc 55 then some (.aload 5, 2, 0, 0, 0) else none) else (bif Nat.beq pc 57 then some (.aload 8, 2, 0, 0, 0) else none)))) else (bif Nat.blt pc 66 then (bif Nat.blt pc 60 then (bif Nat.beq pc 59 then some (.iconst 1, 1, 0, 0, 1) else none) else (bif Nat.blt pc 63 then (bif Nat.beq pc 60 then some (.invokestatic 80, 3, 91, 9, 12) else none) else (bif Nat.beq pc 63 then some (.ifCond .ne 5, 3, 68, 0, 0) else none))) else (bif Nat.blt pc 68 then (bif Nat.blt pc 67 then (bif Nat.beq pc 66 then some (.iconst 0, 1, 0, 0, 0) else none) else (bif Nat.beq pc 67 then some (.ireturn, 1, 0, 0, 1) else none)) else (bif Nat.blt pc 69 then (bif Nat.beq pc 68 then some (.aload_n 0, 1, 0, 0, 0) else none) else (bif Nat.beq pc 69 then some (.bipush 60, 2, 0, 0, 60) else none))))) else (bif Nat.blt pc 84 then (bif Nat.blt pc 77 then (bif Nat.blt pc 74 then (bif Nat.beq pc 71 then some (.invokestatic 48, 3, 89, 2, 12) else none) else (bif Nat.blt pc 76 then (bif Nat.beq pc 74 then some (.istore 9, 2, 0, 0, 0) else none) else (bif Nat.beq pc 76 then some (.iconst 1, 1, 0, 0, 1) else none))) else (bif Nat.blt pc 80 then (bif Nat.blt pc 79 then (bif Nat.beq pc 77 then some (.istore 10, 2, 0, 0, 0) else none) else (bif Nat.beq pc 79 then some (.iconst 0, 1, 0, 0, 0) else none)) else (bif Nat.blt pc 82 then (bif Nat.beq pc 80 then some (.istore 11, 2, 0, 0, 0) else none) else (bif Nat.beq pc 82 then some (.iload 11, 2, 0, 0, 0) else none)))) else (bif Nat.blt pc 88 then (bif Nat.blt pc 86 then (bif Nat.beq pc 84 then some (.aload 8, 2, 0, 0, 0) else none) else (bif Nat.blt pc 87 then (bif Nat.beq pc 86 then some (.iconst 0, 1, 0, 0, 0) else none) else (bif Nat.beq pc 87 then some (.iaload, 1, 0, 0, 0) else none))) else (bif Nat.blt pc 93 then (bif Nat.blt pc 91 then (bif Nat.beq pc 88 then some (.if_icmp .ge 44, 3, 132, 0, 0) else none) else (bif Nat.beq pc 91 then some (.iload 10, 2, 0, 0, 0) else none)) else (bif Nat.blt pc 96 then (bif Nat.beq pc 93 then some (.ifCond .eq 30, 3, 123, 0, 0) else none) else (bif Nat.beq pc 96 then some (.aload 4, 2, 0, 0, 0) else none))))))) else (bif Nat.blt pc 148 then (bif Nat.blt pc 120 then (bif Nat.blt pc 109 then (bif Nat.blt pc 103 then (bif Nat.blt pc 100 then (bif Nat.beq pc 98 then some (.bipush 10, 2, 0, 0, 10) else none) else (bif Nat.blt pc 102 then (bif Nat.beq pc 100 then some (.iload 11, 2, 0, 0, 0) else none) else (bif Nat.beq pc 102 then some (.imul, 1, 0, 0, 0) else none))) else (bif Nat.blt pc 104 then (bif Nat.beq pc 103 then some (.iaload, 1, 0, 0, 0) else none) else (bif Nat.blt pc 107 then (bif Nat.beq pc 104 then some (.ifCond .eq 15, 3, 119, 0, 0) else none) else (bif Nat.beq pc 107 then some (.aload 4, 2, 0, 0, 0) else none)))) else (bif Nat.blt pc 114 then (bif Nat.blt pc 111 then (bif Nat.beq pc 109 then some (.bipush 10, 2, 0, 0, 10) else none) else (bif Nat.blt pc 113 then (bif Nat.beq pc 111 then some (.iload 11, 2, 0, 0, 0) else none) else (bif Nat.beq pc 113 then some (.imul, 1, 0, 0, 0) else none))) else (bif Nat.blt pc 116 then (bif Nat.blt pc 115 then (bif Nat.beq pc 114 then some (.iaload, 1, 0, 0, 0) else none) else (bif Nat.beq pc 115 then some (.iconst 3, 1, 0, 0, 3) else none)) else (bif Nat.blt pc 119 then (bif Nat.beq pc 116 then some (.if_icmp .ne 7, 3, 123, 0, 0) else none) else (bif Nat.beq pc 119 then some (.iconst 1, 1, 0, 0, 1) else none))))) else (bif Nat.blt pc 135 then (bif Nat.blt pc 126 then (bif Nat.blt pc 123 then (bif Nat.beq pc 120 then some (.goto 4, 3, 124, 0, 0) else none) else (bif Nat.blt pc 124 then (bif Nat.beq pc 123 then some (.iconst 0, 1, 0, 0, 0) else none) else (bif Nat.beq pc 124 then some (.istore 10, 2, 0, 0, 0) else none))) else (bif Nat.blt pc 132 then (bif Nat.blt pc 129 then (bif Nat.beq pc 126 then some (.iinc 11 1, 3, 0, 0, 0) else none) else (bif Nat.beq pc 129 then some (.goto (-47), 3, 82, 0, 0) else none)) else (bif Nat.blt pc 133 then (bif Nat.beq pc 132 then some (.iconst 0, 1, 0, 0, 0) else none) else (bif Nat.beq pc 133 then some (.istore 11, 2, 0, 0, 0) else none)))) else (bif Nat.blt pc 140 then (bif Nat.blt pc 136 then (bif Nat.beq pc 135 then some (.iconst 0, 1, 0, 0, 0) else none) else (bif Nat.blt pc 138 then (bif Nat.beq pc 136 then some (.istore 12, 2, 0, 0, 0) else none) else (bif Nat.beq pc 138 then some (.iload 12, 2, 0, 0, 0) else none))) else (bif Nat.blt pc 145 then (bif Nat.blt pc 142 then (bif Nat.beq pc 140 then some (.bipush 40, 2, 0, 0, 40) else none) else (bif Nat.beq pc 142 then some (.if_icmp .ge 160, 3, 302, 0, 0) else none)) else (bif Nat.blt pc 146 then (bif Nat.beq pc 145 then some (.aload_n 1, 1, 0, 0, 0) else none) else (bif Nat.beq pc 146 then some (.bipush 6, 2, 0, 0, 6) else none)))))) else (bif Nat.blt pc 177 then (bif Nat.blt pc 163 then (bif Nat.blt pc 155 then (bif Nat.blt pc 151 then (bif Nat.beq pc 148 then some (.invokevirtual 84, 3, 67, 2, 10) else none) else (bif Nat.blt pc 153 then (bif Nat.beq pc 151 then some (.istore 13, 2, 0, 0, 0) else none) else (bif Nat.beq pc 153 then some (.iload 13, 2, 0, 0, 0) else none))) else (bif Nat.blt pc 159 then (bif Nat.blt pc 158 then (bif Nat.beq pc 155 then some (.ifCond .ge 7, 3, 162, 0, 0) else none) else (bif Nat.beq pc 158 then some (.iconst 0, 1, 0, 0, 0) else none)) else (bif Nat.blt pc 162 then (bif Nat.beq pc 159 then some (.goto 9, 3, 168, 0, 0) else none) else (bif Nat.beq pc 162 then some (.aload_n 1, 1, 0, 0, 0) else none)))) else (bif Nat.blt pc 170 then (bif Nat.blt pc 165 then (bif Nat.beq pc 163 then some (.iload 13, 2, 0, 0, 0) else none) else (bif Nat.blt pc 168 then (bif Nat.beq pc 165 then some (.invokevirtual 87, 3, 69, 2, 10) else none) else (bif Nat.beq pc 168 then some (.istore 14, 2, 0, 0, 0) else none))) else (bif Nat.blt pc 172 then (bif Nat.blt pc 171 then (bif Nat.beq pc 170 then some (.aload_n 1, 1, 0, 0, 0) else none) else (bif Nat.beq pc 171 then some (.iconst 2, 1, 0, 0, 2) else none)) else (bif Nat.blt pc 175 then (bif Nat.beq pc 172 then some (.invokevirtual 84, 3, 67, 2, 10) else none) else (bif Nat.beq pc 175 then some (.istore 15, 2, 0, 0, 0) else none))))) else (bif Nat.blt pc 191 then (bif Nat.blt pc 182 then (bif Nat.blt pc 178 then (bif Nat.beq pc 177 then some (.aload_n 1, 1, 0, 0, 0) else none) else (bif Nat.blt pc 179 then (bif Nat.beq pc 178 then some (.iconst 1, 1, 0, 0, 1) else none) else (bif Nat.beq pc 179 then some (.invokevirtual 89, 3, 70, 2, 10) else none))) else (bif Nat.blt pc 186 then (bif Nat.blt pc 184 then (bif Nat.beq pc 182 then some (.istore 16, 2, 0, 0, 0) else none) else (bif Nat.beq pc 184 then some (.iload 13, 2, 0, 0, 0) else none)) else (bif Nat.blt pc 189 then (bif Nat.beq pc 186 then some (.ifCond .ge 13, 3, 199, 0, 0) else none) else (bif Nat.beq pc 189 then some (.iload 16, 2, 0, 0, 0) else none)))) else (bif Nat.blt pc 199 then (bif Nat.blt pc 193 then (bif Nat.beq pc 191 then some (.bipush (-4), 2, 0, 0, -4) else none) else (bif Nat.blt pc 196 then (bif Nat.beq pc 193 then some (.if_icmp .eq 36, 3, 229, 0, 0) else none) else (bif Nat.beq pc 196 then some (.goto 31, 3, 227, 0, 0) else none))) else (bif Nat.blt pc 203 then (bif Nat.blt pc 201 then (bif Nat.beq pc 199 then some (.iload 16, 2, 0, 0, 0) else none) else (bif Nat.beq pc 201 then some (.iload 14, 2, 0, 0, 0) else none)) else (bif Nat.blt pc 206 then (bif Nat.beq pc 203 then some (.ifCond .ne 7, 3, 210, 0, 0) else none) else (bif Nat.beq pc 206 then some (.iconst 0, 1, 0, 0, 0) else none)))))))) else (bif Nat.blt pc 311 then (bif Nat.blt pc 257 then (bif Nat.blt pc 231 then (bif Nat.blt pc 220 then (bif Nat.blt pc 214 then (bif Nat.blt pc 210 then (bif Nat.beq pc 207 then some (.goto 4, 3, 211, 0, 0) else none) else (bif Nat.blt pc 211 then (bif Nat.beq pc 210 then some (.iconst 1, 1, 0, 0, 1) else none) else (bif Nat.beq pc 211 then some (.if_icmp .ne 16, 3, 227, 0, 0) else none))) else (bif Nat.blt pc 215 then (bif Nat.beq pc 214 then some (.aload_n 1, 1, 0, 0, 0) else none) else (bif Nat.blt pc 217 then (bif Nat.beq pc 215 then some (.bipush 7, 2, 0, 0, 7) else none) else (bif Nat.beq pc 217 then some (.invokevirtual 84, 3, 67, 2, 10) else none)))) else (bif Nat.blt pc 224 then (bif Nat.blt pc 222 then (bif Nat.beq pc 220 then some (.iload 11, 2, 0, 0, 0) else none) else (bif Nat.blt pc 223 then (bif Nat.beq pc 222 then some (.iconst 1, 1, 0, 0, 1) else none) else (bif Nat.beq pc 223 then some (.iadd, 1, 0, 0, 0) else none))) else (bif Nat.blt pc 228 then (bif Nat.blt pc 227 then (bif Nat.beq pc 224 then some (.if_icmp .eq 5, 3, 229, 0, 0) else none) else (bif Nat.beq pc 227 then some (.iconst 0, 1, 0, 0, 0) else none)) else (bif Nat.blt pc 229 then (bif Nat.beq pc 228 then some (.ireturn, 1, 0, 0, 1) else none) else (bif Nat.beq pc 229 then some (.iload 13, 2, 0, 0, 0) else none))))) else (bif Nat.blt pc 245 then (bif Nat.blt pc 239 then (bif Nat.blt pc 234 then (bif Nat.beq pc 231 then some (.ifCond .ge 8, 3, 239, 0, 0) else none) else (bif Nat.blt pc 236 then (bif Nat.beq pc 234 then some (.iload 11, 2, 0, 0, 0) else none) else (bif Nat.beq pc 236 then some (.goto 7, 3, 243, 0, 0) else none))) else (bif Nat.blt pc 242 then (bif Nat.blt pc 241 then (bif Nat.beq pc 239 then some (.iload 11, 2, 0, 0, 0) else none) else (bif Nat.beq pc 241 then some (.iconst 1, 1, 0, 0, 1) else none)) else (bif Nat.blt pc 243 then (bif Nat.beq pc 242 then some (.iadd, 1, 0, 0, 0) else none) else (bif Nat.beq pc 243 then some (.istore 11, 2, 0, 0, 0) else none)))) else (bif Nat.blt pc 251 then (bif Nat.blt pc 247 then (bif Nat.beq pc 245 then some (.iload 16, 2, 0, 0, 0) else none) else (bif Nat.blt pc 248 then (bif Nat.beq pc 247 then some (.iconst 1, 1, 0, 0, 1) else none) else (bif Nat.beq pc 248 then some (.if_icmp .ne 48, 3, 296, 0, 0) else none))) else (bif Nat.blt pc 254 then (bif Nat.blt pc 253 then (bif Nat.beq pc 251 then some (.iload 14, 2, 0, 0, 0) else none) else (bif Nat.beq pc 253 then some (.aload_n 1, 1, 0, 0, 0) else none)) else (bif Nat.blt pc 256 then (bif Nat.beq pc 254 then some (.iload 15, 2, 0, 0, 0) else none) else (bif Nat.beq pc 256 then some (.iconst 0, 1, 0, 0, 0) else none)))))) else (bif Nat.blt pc 284 then (bif Nat.blt pc 269 then (bif Nat.blt pc 262 then (bif Nat.blt pc 260 then (bif Nat.beq pc 257 then some (.invokevirtual 92, 3, 68, 3, 10) else none) else (bif Nat.blt pc 261 then (bif Nat.beq pc 260 then some (.ishr, 1, 0, 0, 0) else none) else (bif Nat.beq pc 261 then some (.iconst 1, 1, 0, 0, 1) else none))) else (bif Nat.blt pc 266 then (bif Nat.blt pc 263 then (bif Nat.beq pc 262 then some (.iand, 1, 0, 0, 0) else none) else (bif Nat.beq pc 263 then some (.ifCond .eq 31, 3, 294, 0, 0) else none)) else (bif Nat.blt pc 267 then (bif Nat.beq pc 266 then some (.aload_n 1, 1, 0, 0, 0) else none) else (bif Nat.beq pc 267 then some (.iload 15, 2, 0, 0, 0) else none)))) else (bif Nat.blt pc 275 then (bif Nat.blt pc 270 then (bif Nat.beq pc 269 then some (.iconst 1, 1, 0, 0, 1) else none) else (bif Nat.blt pc 273 then (bif Nat.beq pc 270 then some (.invokevirtual 92, 3, 68, 3, 10) else none) else (bif Nat.beq pc 273 then some (.iload 13, 2, 0, 0, 0) else none))) else (bif Nat.blt pc 280 then (bif Nat.blt pc 278 then (bif Nat.beq pc 275 then some (.if_icmp .ne 19, 3, 294, 0, 0) else none) else (bif Nat.beq pc 278 then some (.iload 13, 2, 0, 0, 0) else none)) else (bif Nat.blt pc 283 then (bif Nat.beq pc 280 then some (.ifCond .lt 16, 3, 296, 0, 0) else none) else (bif Nat.beq pc 283 then some (.aload_n 1, 1, 0, 0, 0) else none))))) else (bif Nat.blt pc 296 then (bif Nat.blt pc 290 then (bif Nat.blt pc 286 then (bif Nat.beq pc 284 then some (.iload 13, 2, 0, 0, 0) else none) else (bif Nat.blt pc 287 then (bif Nat.beq pc 286 then some (.iconst 2, 1, 0, 0, 2) else none) else (bif Nat.beq pc 287 then some (.invokevirtual 95, 3, 66, 3, 10) else none))) else (bif Nat.blt pc 294 then (bif Nat.blt pc 291 then (bif Nat.beq pc 290 then some (.iconst 1, 1, 0, 0, 1) else none) else (bif Nat.beq pc 291 then some (.if_icmp .ne 5, 3, 296, 0, 0) else none)) else (bif Nat.blt pc 295 then (bif Nat.beq pc 294 then some (.iconst 0, 1, 0, 0, 0) else none) else (bif Nat.beq pc 295 then some (.ireturn, 1, 0, 0, 1) else none)))) else (bif Nat.blt pc 303 then (bif Nat.blt pc 299 then (bif Nat.beq pc 296 then some (.iinc 12 1, 3, 0, 0, 0) else none) else (bif Nat.blt pc 302 then (bif Nat.beq pc 299 then some (.goto (-161), 3, 138, 0, 0) else none) else (bif Nat.beq pc 302 then some (.aload_n 1, 1, 0, 0, 0) else none))) else (bif Nat.blt pc 307 then (bif Nat.blt pc 304 then (bif Nat.beq pc 303 then some (.iconst 2, 1, 0, 0, 2) else none) else (bif Nat.beq pc 304 then some (.invokevirtual 84, 3, 67, 2, 10) else none)) else (bif Nat.blt pc 309 then (bif Nat.beq pc 307 then some (.istore 12, 2, 0, 0, 0) else none) else (bif Nat.beq pc 309 then some (.iload 10, 2, 0, 0, 0) else none))))))) else (bif Nat.blt pc 359 then (bif Nat.blt pc 336 then (bif Nat.blt pc 324 then (bif Nat.blt pc 316 then (bif Nat.blt pc 314 then (bif Nat.beq pc 311 then some (.ifCond .eq 15, 3, 326, 0, 0) else none) else (bif Nat.blt pc 315 then (bif Nat.beq pc 314 then some (.aload_n 1, 1, 0, 0, 0) else none) else (bif Nat.beq pc 315 then some (.iconst 0, 1, 0, 0, 0) else none))) else (bif Nat.blt pc 319 then (bif Nat.beq pc 316 then some (.invokevirtual 98, 3, 76, 2, 10) else none) else (bif Nat.blt pc 321 then (bif Nat.beq pc 319 then some (.bipush (-4), 2, 0, 0, -4) else none) else (bif Nat.beq pc 321 then some (.if_icmp .eq 5, 3, 326, 0, 0) else none)))) else (bif Nat.blt pc 327 then (bif Nat.blt pc 325 then (bif Nat.beq pc 324 then some (.iconst 0, 1, 0, 0, 0) else none) else (bif Nat.blt pc 326 then (bif Nat.beq pc 325 then some (.ireturn, 1, 0, 0, 1) else none) else (bif Nat.beq pc 326 then some (.iconst 1, 1, 0, 0, 1) else none))) else (bif Nat.blt pc 331 then (bif Nat.blt pc 329 then (bif Nat.beq pc 327 then some (.istore 13, 2, 0, 0, 0) else none) else (bif Nat.beq pc 329 then some (.iload 13, 2, 0, 0, 0) else none)) else (bif Nat.blt pc 333 then (bif Nat.beq pc 331 then some (.iload 12, 2, 0, 0, 0) else none) else (bif Nat.beq pc 333 then some (.if_icmp .ge 40, 3, 373, 0, 0) else none))))) else (bif Nat.blt pc 347 then (bif Nat.blt pc 342 then (bif Nat.blt pc 338 then (bif Nat.beq pc 336 then some (.iload 10, 2, 0, 0, 0) else none) else (bif Nat.blt pc 341 then (bif Nat.beq pc 338 then some (.ifCond .eq 35, 3, 373, 0, 0) else none) else (bif Nat.beq pc 341 then some (.aload_n 2, 1, 0, 0, 0) else none))) else (bif Nat.blt pc 345 then (bif Nat.blt pc 343 then (bif Nat.beq pc 342 then some (.aload_n 1, 1, 0, 0, 0) else none) else (bif Nat.beq pc 343 then some (.iload 13, 2, 0, 0, 0) else none)) else (bif Nat.blt pc 346 then (bif Nat.beq pc 345 then some (.iconst 1, 1, 0, 0, 1) else none) else (bif Nat.beq pc 346 then some (.isub, 1, 0, 0, 0) else none)))) else (bif Nat.blt pc 352 then (bif Nat.blt pc 348 then (bif Nat.beq pc 347 then some (.iconst 0, 1, 0, 0, 0) else none) else (bif Nat.blt pc 351 then (bif Nat.beq pc 348 then some (.invokevirtual 92, 3, 68, 3, 10) else none) else (bif Nat.beq pc 351 then some (.iaload, 1, 0, 0, 0) else none))) else (bif Nat.blt pc 355 then (bif Nat.blt pc 353 then (bif Nat.beq pc 352 then some (.aload_n 1, 1, 0, 0, 0) else none) else (bif Nat.beq pc 353 then some (.iload 13, 2, 0, 0, 0) else none)) else (bif Nat.blt pc 356 then (bif Nat.beq pc 355 then some (.iconst 0, 1, 0, 0, 0) else none) else (bif Nat.beq pc 356 then some (.invokevirtual 92, 3, 68, 3, 10) else none)))))) else (bif Nat.blt pc 383 then (bif Nat.blt pc 370 then (bif Nat.blt pc 362 then (bif Nat.blt pc 360 then (bif Nat.beq pc 359 then some (.ishr, 1, 0, 0, 0) else none) else (bif Nat.blt pc 361 then (bif Nat.beq pc 360 then some (.iconst 1, 1, 0, 0, 1) else none) else (bif Nat.beq pc 361 then some (.iand, 1, 0, 0, 0) else none))) else (bif Nat.blt pc 366 then (bif Nat.blt pc 365 then (bif Nat.beq pc 362 then some (.ifCond .ne 5, 3, 367, 0, 0) else none) else (bif Nat.beq pc 365 then some (.iconst 0, 1, 0, 0, 0) else none)) else (bif Nat.blt pc 367 then (bif Nat.beq pc 366 then some (.ireturn, 1, 0, 0, 1) else none) else (bif Nat.beq pc 367 then some (.iinc 13 1, 3, 0, 0, 0) else none)))) else (bif Nat.blt pc 376 then (bif Nat.blt pc 373 then (bif Nat.beq pc 370 then some (.goto (-41), 3, 329, 0, 0) else none) else (bif Nat.blt pc 374 then (bif Nat.beq pc 373 then some (.iconst 0, 1, 0, 0, 0) else none) else (bif Nat.beq pc 374 then some (.istore 13, 2, 0, 0, 0) else none))) else (bif Nat.blt pc 379 then (bif Nat.blt pc 377 then (bif Nat.beq pc 376 then some (.iconst 0, 1, 0, 0, 0) else none) else (bif Nat.beq pc 377 then some (.istore 14, 2, 0, 0, 0) else none)) else (bif Nat.blt pc 381 then (bif Nat.beq pc 379 then some (.iload 14, 2, 0, 0, 0) else none) else (bif Nat.beq pc 381 then some (.aload 8, 2, 0, 0, 0) else none))))) else (bif Nat.blt pc 395 then (bif Nat.blt pc 388 then (bif Nat.blt pc 384 then (bif Nat.beq pc 383 then some (.iconst 0, 1, 0, 0, 0) else none) else (bif Nat.blt pc 385 then (bif Nat.beq pc 384 then some (.iaload, 1, 0, 0, 0) else none) else (bif Nat.beq pc 385 then some (.if_icmp .ge 38, 3, 423, 0, 0) else none))) else (bif Nat.blt pc 391 then (bif Nat.blt pc 389 then (bif Nat.beq pc 388 then some (.iconst 0, 1, 0, 0, 0) else none) else (bif Nat.beq pc 389 then some (.istore 15, 2, 0, 0, 0) else none)) else (bif Nat.blt pc 393 then (bif Nat.beq pc 391 then some (.iload 15, 2, 0, 0, 0) else none) else (bif Nat.beq pc 393 then some (.bipush 8, 2, 0, 0, 8) else none)))) else (bif Nat.blt pc 401 then (bif Nat.blt pc 398 then (bif Nat.beq pc 395 then some (.if_icmp .ge 22, 3, 417, 0, 0) else none) else (bif Nat.blt pc 400 then (bif Nat.beq pc 398 then some (.iload 13, 2, 0, 0, 0) else none) else (bif Nat.beq pc 400 then some (.aload_n 1, 1, 0, 0, 0) else none))) else (bif Nat.blt pc 405 then (bif Nat.blt pc 403 then (bif Nat.beq pc 401 then some (.iload 14, 2, 0, 0, 0) else none) else (bif Nat.beq pc 403 then some (.iload 15, 2, 0, 0, 0) else none)) else (bif Nat.blt pc 408 then (bif Nat.beq pc 405 then some (.invokevirtual 101, 3, 75, 3, 10) else none) else (bif Nat.beq pc 408 then some (.iadd, 1, 0, 0, 0) else none))))))))) else (bif Nat.blt pc 630 then (bif Nat.blt pc 523 then (bif Nat.blt pc 466 then (bif Nat.blt pc 440 then (bif Nat.blt pc 425 then (bif Nat.blt pc 417 then (bif Nat.blt pc 411 then (bif Nat.beq pc 409 then some (.istore 13, 2, 0, 0, 0) else none) else (bif Nat.blt pc 414 then (bif Nat.beq pc 411 then some (.iinc 15 1, 3, 0, 0, 0) else none) else (bif Nat.beq pc 414 then some (.goto (-23), 3, 391, 0, 0) else none))) else (bif Nat.blt pc 420 then (bif Nat.beq pc 417 then some (.iinc 14 1, 3, 0, 0, 0) else none) else (bif Nat.blt pc 423 then (bif Nat.beq pc 420 then some (.goto (-41), 3, 379, 0, 0) else none) else (bif Nat.beq pc 423 then some (.iload 13, 2, 0, 0, 0) else none)))) else (bif Nat.blt pc 431 then (bif Nat.blt pc 427 then (bif Nat.beq pc 425 then some (.iload 12, 2, 0, 0, 0) else none) else (bif Nat.blt pc 430 then (bif Nat.beq pc 427 then some (.if_icmp .ne 13, 3, 440, 0, 0) else none) else (bif Nat.beq pc 430 then some (.aload_n 1, 1, 0, 0, 0) else none))) else (bif Nat.blt pc 435 then (bif Nat.blt pc 432 then (bif Nat.beq pc 431 then some (.iconst 4, 1, 0, 0, 4) else none) else (bif Nat.beq pc 432 then some (.invokevirtual 84, 3, 67, 2, 10) else none)) else (bif Nat.blt pc 437 then (bif Nat.beq pc 435 then some (.iload 12, 2, 0, 0, 0) else none) else (bif Nat.beq pc 437 then some (.if_icmp .eq 5, 3, 442, 0, 0) else none))))) else (bif Nat.blt pc 452 then (bif Nat.blt pc 444 then (bif Nat.blt pc 441 then (bif Nat.beq pc 440 then some (.iconst 0, 1, 0, 0, 0) else none) else (bif Nat.blt pc 442 then (bif Nat.beq pc 441 then some (.ireturn, 1, 0, 0, 1) else none) else (bif Nat.beq pc 442 then some (.iload 9, 2, 0, 0, 0) else none))) else (bif Nat.blt pc 449 then (bif Nat.blt pc 446 then (bif Nat.beq pc 444 then some (.bipush 8, 2, 0, 0, 8) else none) else (bif Nat.beq pc 446 then some (.invokestatic 51, 3, 90, 2, 12) else none)) else (bif Nat.blt pc 451 then (bif Nat.beq pc 449 then some (.istore 14, 2, 0, 0, 0) else none) else (bif Nat.beq pc 451 then some (.aload_n 1, 1, 0, 0, 0) else none)))) else (bif Nat.blt pc 458 then (bif Nat.blt pc 454 then (bif Nat.beq pc 452 then some (.iload 14, 2, 0, 0, 0) else none) else (bif Nat.blt pc 455 then (bif Nat.beq pc 454 then some (.iconst 1, 1, 0, 0, 1) else none) else (bif Nat.beq pc 455 then some (.invokevirtual 104, 3, 73, 3, 10) else none))) else (bif Nat.blt pc 461 then (bif Nat.blt pc 460 then (bif Nat.beq pc 458 then some (.istore 15, 2, 0, 0, 0) else none) else (bif Nat.beq pc 460 then some (.aload_n 1, 1, 0, 0, 0) else none)) else (bif Nat.blt pc 463 then (bif Nat.beq pc 461 then some (.bipush 6, 2, 0, 0, 6) else none) else (bif Nat.beq pc 463 then some (.invokevirtual 84, 3, 67, 2, 10) else none)))))) else (bif Nat.blt pc 491 then (bif Nat.blt pc 477 then (bif Nat.blt pc 472 then (bif Nat.blt pc 469 then (bif Nat.beq pc 466 then some (.ifCond .lt 121, 3, 587, 0, 0) else none) else (bif Nat.blt pc 470 then (bif Nat.beq pc 469 then some (.iconst 0, 1, 0, 0, 0) else none) else (bif Nat.beq pc 470 then some (.istore 16, 2, 0, 0, 0) else none))) else (bif Nat.blt pc 473 then (bif Nat.beq pc 472 then some (.iconst 1, 1, 0, 0, 1) else none) else (bif Nat.blt pc 475 then (bif Nat.beq pc 473 then some (.istore 17, 2, 0, 0, 0) else none) else (bif Nat.beq pc 475 then some (.iload 17, 2, 0, 0, 0) else none)))) else (bif Nat.blt pc 482 then (bif Nat.blt pc 478 then (bif Nat.beq pc 477 then some (.iconst 5, 1, 0, 0, 5) else none) else (bif Nat.blt pc 481 then (bif Nat.beq pc 478 then some (.if_icmp .ge 83, 3, 561, 0, 0) else none) else (bif Nat.beq pc 481 then some (.aload_n 1, 1, 0, 0, 0) else none))) else (bif Nat.blt pc 486 then (bif Nat.blt pc 484 then (bif Nat.beq pc 482 then some (.iload 14, 2, 0, 0, 0) else none) else (bif Nat.beq pc 484 then some (.iload 17, 2, 0, 0, 0) else none)) else (bif Nat.blt pc 489 then (bif Nat.beq pc 486 then some (.invokevirtual 107, 3, 74, 3, 10) else none) else (bif Nat.beq pc 489 then some (.istore 18, 2, 0, 0, 0) else none))))) else (bif Nat.blt pc 507 then (bif Nat.blt pc 498 then (bif Nat.blt pc 493 then (bif Nat.beq pc 491 then some (.iload 18, 2, 0, 0, 0) else none) else (bif Nat.blt pc 496 then (bif Nat.beq pc 493 then some (.ifCond .lt 56, 3, 549, 0, 0) else none) else (bif Nat.beq pc 496 then some (.iload 18, 2, 0, 0, 0) else none))) else (bif Nat.blt pc 504 then (bif Nat.blt pc 501 then (bif Nat.beq pc 498 then some (.sipush 1000, 3, 0, 0, 1000) else none) else (bif Nat.beq pc 501 then some (.if_icmp .gt 48, 3, 549, 0, 0) else none)) else (bif Nat.blt pc 506 then (bif Nat.beq pc 504 then some (.iload 18, 2, 0, 0, 0) else none) else (bif Nat.beq pc 506 then some (.iconst 4, 1, 0, 0, 4) else none)))) else (bif Nat.blt pc 513 then (bif Nat.blt pc 508 then (bif Nat.beq pc 507 then some (.iadd, 1, 0, 0, 0) else none) else (bif Nat.blt pc 510 then (bif Nat.beq pc 508 then some (.iload 16, 2, 0, 0, 0) else none) else (bif Nat.beq pc 510 then some (.if_icmp .lt 39, 3, 549, 0, 0) else none))) else (bif Nat.blt pc 518 then (bif Nat.blt pc 515 then (bif Nat.beq pc 513 then some (.iload 18, 2, 0, 0, 0) else none) else (bif Nat.beq pc 515 then some (.ifCond .le 36, 3, 551, 0, 0) else none)) else (bif Nat.blt pc 520 then (bif Nat.beq pc 518 then some (.iload 15, 2, 0, 0, 0) else none) else (bif Nat.beq pc 520 then some (.ifCond .lt 29, 3, 549, 0, 0) else none))))))) else (bif Nat.blt pc 575 then (bif Nat.blt pc 549 then (bif Nat.blt pc 533 then (bif Nat.blt pc 529 then (bif Nat.blt pc 525 then (bif Nat.beq pc 523 then some (.iload 12, 2, 0, 0, 0) else none) else (bif Nat.blt pc 528 then (bif Nat.beq pc 525 then some (.ifCond .le 26, 3, 551, 0, 0) else none) else (bif Nat.beq pc 528 then some (.aload_n 1, 1, 0, 0, 0) else none))) else (bif Nat.blt pc 531 then (bif Nat.beq pc 529 then some (.iload 12, 2, 0, 0, 0) else none) else (bif Nat.blt pc 532 then (bif Nat.beq pc 531 then some (.iconst 1, 1, 0, 0, 1) else none) else (bif Nat.beq pc 532 then some (.isub, 1, 0, 0, 0) else none)))) else (bif Nat.blt pc 539 then (bif Nat.blt pc 534 then (bif Nat.beq pc 533 then some (.iconst 0, 1, 0, 0, 0) else none) else (bif Nat.blt pc 537 then (bif Nat.beq pc 534 then some (.invokevirtual 92, 3, 68, 3, 10) else none) else (bif Nat.beq pc 537 then some (.iload 14, 2, 0, 0, 0) else none))) else (bif Nat.blt pc 544 then (bif Nat.blt pc 542 then (bif Nat.beq pc 539 then some (.if_icmp .eq 12, 3, 551, 0, 0) else none) else (bif Nat.beq pc 542 then some (.iload 15, 2, 0, 0, 0) else none)) else (bif Nat.blt pc 546 then (bif Nat.beq pc 544 then some (.iload 17, 2, 0, 0, 0) else none) else (bif Nat.beq pc 546 then some (.if_icmp .le 5, 3, 551, 0, 0) else none))))) else (bif Nat.blt pc 563 then (bif Nat.blt pc 553 then (bif Nat.blt pc 550 then (bif Nat.beq pc 549 then some (.iconst 0, 1, 0, 0, 0) else none) else (bif Nat.blt pc 551 then (bif Nat.beq pc 550 then some (.ireturn, 1, 0, 0, 1) else none) else (bif Nat.beq pc 551 then some (.iload 18, 2, 0, 0, 0) else none))) else (bif Nat.blt pc 558 then (bif Nat.blt pc 555 then (bif Nat.beq pc 553 then some (.istore 16, 2, 0, 0, 0) else none) else (bif Nat.beq pc 555 then some (.iinc 17 1, 3, 0, 0, 0) else none)) else (bif Nat.blt pc 561 then (bif Nat.beq pc 558 then some (.goto (-83), 3, 475, 0, 0) else none) else (bif Nat.beq pc 561 then some (.iload 12, 2, 0, 0, 0) else none)))) else (bif Nat.blt pc 569 then (bif Nat.blt pc 566 then (bif Nat.beq pc 563 then some (.ifCond .le 24, 3, 587, 0, 0) else none) else (bif Nat.blt pc 567 then (bif Nat.beq pc 566 then some (.aload_n 1, 1, 0, 0, 0) else none) else (bif Nat.beq pc 567 then some (.iload 12, 2, 0, 0, 0) else none))) else (bif Nat.blt pc 571 then (bif Nat.blt pc 570 then (bif Nat.beq pc 569 then some (.iconst 1, 1, 0, 0, 1) else none) else (bif Nat.beq pc 570 then some (.isub, 1, 0, 0, 0) else none)) else (bif Nat.blt pc 572 then (bif Nat.beq pc 571 then some (.iconst 0, 1, 0, 0, 0) else none) else (bif Nat.beq pc 572 then some (.invokevirtual 92, 3, 68, 3, 10) else none)))))) else (bif Nat.blt pc 600 then (bif Nat.blt pc 588 then (bif Nat.blt pc 582 then (bif Nat.blt pc 577 then (bif Nat.beq pc 575 then some (.iload 14, 2, 0, 0, 0) else none) else (bif Nat.blt pc 580 then (bif Nat.beq pc 577 then some (.if_icmp .ne 10, 3, 587, 0, 0) else none) else (bif Nat.beq pc 580 then some (.iload 15, 2, 0, 0, 0) else none))) else (bif Nat.blt pc 586 then (bif Nat.blt pc 585 then (bif Nat.beq pc 582 then some (.ifCond .eq 5, 3, 587, 0, 0) else none) else (bif Nat.beq pc 585 then some (.iconst 0, 1, 0, 0, 0) else none)) else (bif Nat.blt pc 587 then (bif Nat.beq pc 586 then some (.ireturn, 1, 0, 0, 1) else none) else (bif Nat.beq pc 587 then some (.iconst 1, 1, 0, 0, 1) else none)))) else (bif Nat.blt pc 592 then (bif Nat.blt pc 590 then (bif Nat.beq pc 588 then some (.iload 9, 2, 0, 0, 0) else none) else (bif Nat.blt pc 591 then (bif Nat.beq pc 590 then some (.iconst 3, 1, 0, 0, 3) else none) else (bif Nat.beq pc 591 then some (.ishr, 1, 0, 0, 0) else none))) else (bif Nat.blt pc 597 then (bif Nat.blt pc 594 then (bif Nat.beq pc 592 then some (.bipush 9, 2, 0, 0, 9) else none) else (bif Nat.beq pc 594 then some (.invokestatic 51, 3, 90, 2, 12) else none)) else (bif Nat.blt pc 598 then (bif Nat.beq pc 597 then some (.iadd, 1, 0, 0, 0) else none) else (bif Nat.beq pc 598 then some (.istore 16, 2, 0, 0, 0) else none))))) else (bif Nat.blt pc 614 then (bif Nat.blt pc 605 then (bif Nat.blt pc 602 then (bif Nat.beq pc 600 then some (.iload 9, 2, 0, 0, 0) else none) else (bif Nat.blt pc 604 then (bif Nat.beq pc 602 then some (.bipush 7, 2, 0, 0, 7) else none) else (bif Nat.beq pc 604 then some (.ishr, 1, 0, 0, 0) else none))) else (bif Nat.blt pc 611 then (bif Nat.blt pc 608 then (bif Nat.beq pc 605 then some (.sipush 1000, 3, 0, 0, 1000) else none) else (bif Nat.beq pc 608 then some (.invokestatic 51, 3, 90, 2, 12) else none)) else (bif Nat.blt pc 613 then (bif Nat.beq pc 611 then some (.istore 17, 2, 0, 0, 0) else none) else (bif Nat.beq pc 613 then some (.aload_n 1, 1, 0, 0, 0) else none)))) else (bif Nat.blt pc 621 then (bif Nat.blt pc 617 then (bif Nat.beq pc 614 then some (.invokevirtual 110, 3, 77, 1, 10) else none) else (bif Nat.blt pc 618 then (bif Nat.beq pc 617 then some (.iconst 1, 1, 0, 0, 1) else none) else (bif Nat.beq pc 618 then some (.if_icmp .ne 12, 3, 630, 0, 0) else none))) else (bif Nat.blt pc 624 then (bif Nat.blt pc 622 then (bif Nat.beq pc 621 then some (.aload_n 1, 1, 0, 0, 0) else none) else (bif Nat.beq pc 622 then some (.iload 17, 2, 0, 0, 0) else none)) else (bif Nat.blt pc 627 then (bif Nat.beq pc 624 then some (.invokevirtual 114, 3, 71, 2, 10) else none) else (bif Nat.beq pc 627 then some (.ifCond .ge 5, 3, 632, 0, 0) else none)))))))) else (bif Nat.blt pc 734 then (bif Nat.blt pc 679 then (bif Nat.blt pc 653 then (bif Nat.blt pc 640 then (bif Nat.blt pc 633 then (bif Nat.blt pc 631 then (bif Nat.beq pc 630 then some (.iconst 0, 1, 0, 0, 0) else none) else (bif Nat.blt pc 632 then (bif Nat.beq pc 631 then some (.ireturn, 1, 0, 0, 1) else none) else (bif Nat.beq pc 632 then some (.aload_n 1, 1, 0, 0, 0) else none))) else (bif Nat.blt pc 635 then (bif Nat.beq pc 633 then some (.iload 16, 2, 0, 0, 0) else none) else (bif Nat.blt pc 638 then (bif Nat.beq pc 635 then some (.invokevirtual 89, 3, 70, 2, 10) else none) else (bif Nat.beq pc 638 then some (.istore 18, 2, 0, 0, 0) else none)))) else (bif Nat.blt pc 645 then (bif Nat.blt pc 641 then (bif Nat.beq pc 640 then some (.aload_n 1, 1, 0, 0, 0) else none) else (bif Nat.blt pc 642 then (bif Nat.beq pc 641 then some (.iconst 2, 1, 0, 0, 2) else none) else (bif Nat.beq pc 642 then some (.invokevirtual 84, 3, 67, 2, 10) else none))) else (bif Nat.blt pc 649 then (bif Nat.blt pc 647 then (bif Nat.beq pc 645 then some (.istore 19, 2, 0, 0, 0) else none) else (bif Nat.beq pc 647 then some (.iload 12, 2, 0, 0, 0) else none)) else (bif Nat.blt pc 651 then (bif Nat.beq pc 649 then some (.istore 20, 2, 0, 0, 0) else none) else (bif Nat.beq pc 651 then some (.iload 20, 2, 0, 0, 0) else none))))) else (bif Nat.blt pc 666 then (bif Nat.blt pc 660 then (bif Nat.blt pc 655 then (bif Nat.beq pc 653 then some (.iload 19, 2, 0, 0, 0) else none) else (bif Nat.blt pc 658 then (bif Nat.beq pc 655 then some (.if_icmp .ge 39, 3, 694, 0, 0) else none) else (bif Nat.beq pc 658 then some (.aload 6, 2, 0, 0, 0) else none))) else (bif Nat.blt pc 664 then (bif Nat.blt pc 662 then (bif Nat.beq pc 660 then some (.iload 20, 2, 0, 0, 0) else none) else (bif Nat.beq pc 662 then some (.iload 12, 2, 0, 0, 0) else none)) else (bif Nat.blt pc 665 then (bif Nat.beq pc 664 then some (.isub, 1, 0, 0, 0) else none) else (bif Nat.beq pc 665 then some (.aload_n 1, 1, 0, 0, 0) else none)))) else (bif Nat.blt pc 672 then (bif Nat.blt pc 668 then (bif Nat.beq pc 666 then some (.iload 20, 2, 0, 0, 0) else none) else (bif Nat.blt pc 669 then (bif Nat.beq pc 668 then some (.iconst 0, 1, 0, 0, 0) else none) else (bif Nat.beq pc 669 then some (.invokevirtual 92, 3, 68, 3, 10) else none))) else (bif Nat.blt pc 675 then (bif Nat.blt pc 673 then (bif Nat.beq pc 672 then some (.iastore, 1, 0, 0, 0) else none) else (bif Nat.beq pc 673 then some (.aload 7, 2, 0, 0, 0) else none)) else (bif Nat.blt pc 677 then (bif Nat.beq pc 675 then some (.iload 20, 2, 0, 0, 0) else none) else (bif Nat.beq pc 677 then some (.iload 12, 2, 0, 0, 0) else none)))))) else (bif Nat.blt pc 704 then (bif Nat.blt pc 691 then (bif Nat.blt pc 683 then (bif Nat.blt pc 680 then (bif Nat.beq pc 679 then some (.isub, 1, 0, 0, 0) else none) else (bif Nat.blt pc 681 then (bif Nat.beq pc 680 then some (.aload_n 1, 1, 0, 0, 0) else none) else (bif Nat.beq pc 681 then some (.iload 20, 2, 0, 0, 0) else none))) else (bif Nat.blt pc 687 then (bif Nat.blt pc 684 then (bif Nat.beq pc 683 then some (.iconst 1, 1, 0, 0, 1) else none) else (bif Nat.beq pc 684 then some (.invokevirtual 92, 3, 68, 3, 10) else none)) else (bif Nat.blt pc 688 then (bif Nat.beq pc 687 then some (.iastore, 1, 0, 0, 0) else none) else (bif Nat.beq pc 688 then some (.iinc 20 1, 3, 0, 0, 0) else none)))) else (bif Nat.blt pc 698 then (bif Nat.blt pc 694 then (bif Nat.beq pc 691 then some (.goto (-40), 3, 651, 0, 0) else none) else (bif Nat.blt pc 695 then (bif Nat.beq pc 694 then some (.aload_n 1, 1, 0, 0, 0) else none) else (bif Nat.beq pc 695 then some (.invokevirtual 117, 3, 78, 1, 10) else none))) else (bif Nat.blt pc 702 then (bif Nat.blt pc 699 then (bif Nat.beq pc 698 then some (.iconst 1, 1, 0, 0, 1) else none) else (bif Nat.beq pc 699 then some (.if_icmp .ne 58, 3, 757, 0, 0) else none)) else (bif Nat.blt pc 703 then (bif Nat.beq pc 702 then some (.aload_n 1, 1, 0, 0, 0) else none) else (bif Nat.beq pc 703 then some (.iconst 2, 1, 0, 0, 2) else none))))) else (bif Nat.blt pc 721 then (bif Nat.blt pc 712 then (bif Nat.blt pc 707 then (bif Nat.beq pc 704 then some (.invokevirtual 84, 3, 67, 2, 10) else none) else (bif Nat.blt pc 709 then (bif Nat.beq pc 707 then some (.iload 12, 2, 0, 0, 0) else none) else (bif Nat.beq pc 709 then some (.if_icmp .ne 48, 3, 757, 0, 0) else none))) else (bif Nat.blt pc 715 then (bif Nat.blt pc 713 then (bif Nat.beq pc 712 then some (.aload_n 1, 1, 0, 0, 0) else none) else (bif Nat.beq pc 713 then some (.iload 17, 2, 0, 0, 0) else none)) else (bif Nat.blt pc 718 then (bif Nat.beq pc 715 then some (.invokevirtual 114, 3, 71, 2, 10) else none) else (bif Nat.beq pc 718 then some (.ifCond .lt 39, 3, 757, 0, 0) else none)))) else (bif Nat.blt pc 727 then (bif Nat.blt pc 722 then (bif Nat.beq pc 721 then some (.aload_n 1, 1, 0, 0, 0) else none) else (bif Nat.blt pc 724 then (bif Nat.beq pc 722 then some (.iload 16, 2, 0, 0, 0) else none) else (bif Nat.beq pc 724 then some (.invokevirtual 89, 3, 70, 2, 10) else none))) else (bif Nat.blt pc 732 then (bif Nat.blt pc 729 then (bif Nat.beq pc 727 then some (.iload 18, 2, 0, 0, 0) else none) else (bif Nat.beq pc 729 then some (.if_icmp .ne 28, 3, 757, 0, 0) else none)) else (bif Nat.blt pc 733 then (bif Nat.beq pc 732 then some (.aload_n 1, 1, 0, 0, 0) else none) else (bif Nat.beq pc 733 then some (.iconst 2, 1, 0, 0, 2) else none))))))) else (bif Nat.blt pc 788 then (bif Nat.blt pc 761 then (bif Nat.blt pc 749 then (bif Nat.blt pc 742 then (bif Nat.blt pc 737 then (bif Nat.beq pc 734 then some (.invokevirtual 84, 3, 67, 2, 10) else none) else (bif Nat.blt pc 739 then (bif Nat.beq pc 737 then some (.iload 19, 2, 0, 0, 0) else none) else (bif Nat.beq pc 739 then some (.if_icmp .ne 18, 3, 757, 0, 0) else none))) else (bif Nat.blt pc 744 then (bif Nat.beq pc 742 then some (.iload 18, 2, 0, 0, 0) else none) else (bif Nat.blt pc 747 then (bif Nat.beq pc 744 then some (.ifCond .lt 15, 3, 759, 0, 0) else none) else (bif Nat.beq pc 747 then some (.iload 19, 2, 0, 0, 0) else none)))) else (bif Nat.blt pc 754 then (bif Nat.blt pc 751 then (bif Nat.beq pc 749 then some (.iload 12, 2, 0, 0, 0) else none) else (bif Nat.blt pc 753 then (bif Nat.beq pc 751 then some (.iload 18, 2, 0, 0, 0) else none) else (bif Nat.beq pc 753 then some (.iadd, 1, 0, 0, 0) else none))) else (bif Nat.blt pc 758 then (bif Nat.blt pc 757 then (bif Nat.beq pc 754 then some (.if_icmp .eq 5, 3, 759, 0, 0) else none) else (bif Nat.beq pc 757 then some (.iconst 0, 1, 0, 0, 0) else none)) else (bif Nat.blt pc 759 then (bif Nat.beq pc 758 then some (.ireturn, 1, 0, 0, 1) else none) else (bif Nat.beq pc 759 then some (.iload 12, 2, 0, 0, 0) else none))))) else (bif Nat.blt pc 774 then (bif Nat.blt pc 767 then (bif Nat.blt pc 763 then (bif Nat.beq pc 761 then some (.istore 20, 2, 0, 0, 0) else none) else (bif Nat.blt pc 765 then (bif Nat.beq pc 763 then some (.iload 20, 2, 0, 0, 0) else none) else (bif Nat.beq pc 765 then some (.iload 19, 2, 0, 0, 0) else none))) else (bif Nat.blt pc 771 then (bif Nat.blt pc 770 then (bif Nat.beq pc 767 then some (.if_icmp .ge 47, 3, 814, 0, 0) else none) else (bif Nat.beq pc 770 then some (.aload_n 1, 1, 0, 0, 0) else none)) else (bif Nat.blt pc 773 then (bif Nat.beq pc 771 then some (.iload 20, 2, 0, 0, 0) else none) else (bif Nat.beq pc 773 then some (.iconst 0, 1, 0, 0, 0) else none)))) else (bif Nat.blt pc 781 then (bif Nat.blt pc 777 then (bif Nat.beq pc 774 then some (.invokevirtual 92, 3, 68, 3, 10) else none) else (bif Nat.blt pc 779 then (bif Nat.beq pc 777 then some (.aload 6, 2, 0, 0, 0) else none) else (bif Nat.beq pc 779 then some (.iload 20, 2, 0, 0, 0) else none))) else (bif Nat.blt pc 784 then (bif Nat.blt pc 783 then (bif Nat.beq pc 781 then some (.iload 12, 2, 0, 0, 0) else none) else (bif Nat.beq pc 783 then some (.isub, 1, 0, 0, 0) else none)) else (bif Nat.blt pc 785 then (bif Nat.beq pc 784 then some (.iaload, 1, 0, 0, 0) else none) else (bif Nat.beq pc 785 then some (.if_icmp .ne 21, 3, 806, 0, 0) else none)))))) else (bif Nat.blt pc 814 then (bif Nat.blt pc 801 then (bif Nat.blt pc 792 then (bif Nat.blt pc 789 then (bif Nat.beq pc 788 then some (.aload_n 1, 1, 0, 0, 0) else none) else (bif Nat.blt pc 791 then (bif Nat.beq pc 789 then some (.iload 20, 2, 0, 0, 0) else none) else (bif Nat.beq pc 791 then some (.iconst 1, 1, 0, 0, 1) else none))) else (bif Nat.blt pc 797 then (bif Nat.blt pc 795 then (bif Nat.beq pc 792 then some (.invokevirtual 92, 3, 68, 3, 10) else none) else (bif Nat.beq pc 795 then some (.aload 7, 2, 0, 0, 0) else none)) else (bif Nat.blt pc 799 then (bif Nat.beq pc 797 then some (.iload 20, 2, 0, 0, 0) else none) else (bif Nat.beq pc 799 then some (.iload 12, 2, 0, 0, 0) else none)))) else (bif Nat.blt pc 806 then (bif Nat.blt pc 802 then (bif Nat.beq pc 801 then some (.isub, 1, 0, 0, 0) else none) else (bif Nat.blt pc 803 then (bif Nat.beq pc 802 then some (.iaload, 1, 0, 0, 0) else none) else (bif Nat.beq pc 803 then some (.if_icmp .eq 5, 3, 808, 0, 0) else none))) else (bif Nat.blt pc 808 then (bif Nat.blt pc 807 then (bif Nat.beq pc 806 then some (.iconst 0, 1, 0, 0, 0) else none) else (bif Nat.beq pc 807 then some (.ireturn, 1, 0, 0, 1) else none)) else (bif Nat.blt pc 811 then (bif Nat.beq pc 808 then some (.iinc 20 1, 3, 0, 0, 0) else none) else (bif Nat.beq pc 811 then some (.goto (-48), 3, 763, 0, 0) else none))))) else (bif Nat.blt pc 829 then (bif Nat.blt pc 820 then (bif Nat.blt pc 816 then (bif Nat.beq pc 814 then some (.iload 19, 2, 0, 0, 0) else none) else (bif Nat.blt pc 819 then (bif Nat.beq pc 816 then some (.ifCond .eq 20, 3, 836, 0, 0) else none) else (bif Nat.beq pc 819 then some (.aload_n 1, 1, 0, 0, 0) else none))) else (bif Nat.blt pc 825 then (bif Nat.blt pc 822 then (bif Nat.beq pc 820 then some (.iload 19, 2, 0, 0, 0) else none) else (bif Nat.beq pc 822 then some (.invokevirtual 120, 3, 72, 2, 10) else none)) else (bif Nat.blt pc 828 then (bif Nat.beq pc 825 then some (.ifCond .ne 15, 3, 840, 0, 0) else none) else (bif Nat.beq pc 828 then some (.aload_n 1, 1, 0, 0, 0) else none)))) else (bif Nat.blt pc 836 then (bif Nat.blt pc 830 then (bif Nat.beq pc 829 then some (.iconst 2, 1, 0, 0, 2) else none) else (bif Nat.blt pc 833 then (bif Nat.beq pc 830 then some (.invokevirtual 84, 3, 67, 2, 10) else none) else (bif Nat.beq pc 833 then some (.ifCond .ne 7, 3, 840, 0, 0) else none))) else (bif Nat.blt pc 840 then (bif Nat.blt pc 837 then (bif Nat.beq pc 836 then some (.iconst 1, 1, 0, 0, 1) else none) else (bif Nat.beq pc 837 then some (.goto 4, 3, 841, 0, 0) else none)) else (bif Nat.blt pc 841 then (bif Nat.beq pc 840 then some (.iconst 0, 1, 0, 0, 0) else none) else (bif Nat.beq pc 841 then some (.ireturn, 1, 0, 0, 1) else none)))))))))
def zml (i : Nat) : Nat := bif Nat.blt i 46 then (bif Nat.blt i 23 then (bif Nat.blt i 11 then (bif Nat.blt i 5 then (bif Nat.blt i 2 then (bif Nat.blt i 1 then (2) else (3)) else (bif Nat.blt i 3 then (2) else (bif Nat.blt i 4 then (2) else (2)))) else (bif Nat.blt i 8 then (bif Nat.blt i 6 then (2) else (bif Nat.blt i 7 then (4) else (3))) else (bif Nat.blt i 9 then (3) else (bif Nat.blt i 10 then (5) else (5))))) else (bif Nat.blt i 17 then (bif Nat.blt i 14 then (bif Nat.blt i 12 then (4) else (bif Nat.blt i 13 then (1) else (2))) else (bif Nat.blt i 15 then (3) else (bif Nat.blt i 16 then (3) else (3)))) else (bif Nat.blt i 20 then (bif Nat.blt i 18 then (7) else (bif Nat.blt i 19 then (4) else (2))) else (bif Nat.blt i 21 then (6) else (bif Nat.blt i 22 then (4) else (1)))))) else (bif Nat.blt i 34 then (bif Nat.blt i 28 then (bif Nat.blt i 25 then (bif Nat.blt i 24 then (2) else (1)) else (bif Nat.blt i 26 then (2) else (bif Nat.blt i 27 then (3) else (2)))) else (bif Nat.blt i 31 then (bif Nat.blt i 29 then (2) else (bif Nat.blt i 30 then (3) else (5))) else (bif Nat.blt i 32 then (1) else (bif Nat.blt i 33 then (4) else (1))))) else (bif Nat.blt i 40 then (bif Nat.blt i 37 then (bif Nat.blt i 35 then (10) else (bif Nat.blt i 36 then (7) else (2))) else (bif Nat.blt i 38 then (7) else (bif Nat.blt i 39 then (3) else (1)))) else (bif Nat.blt i 43 then (bif Nat.blt i 41 then (1) else (bif Nat.blt i 42 then (2) else (2))) else (bif Nat.blt i 44 then (4) else (bif Nat.blt i 45 then (3) else (6))))))) else (bif Nat.blt i 69 then (bif Nat.blt i 57 then (bif Nat.blt i 51 then (bif Nat.blt i 48 then (bif Nat.blt i 47 then (5) else (2)) else (bif Nat.blt i 49 then (2) else (bif Nat.blt i 50 then (2) else (2)))) else (bif Nat.blt i 54 then (bif Nat.blt i 52 then (2) else (bif Nat.blt i 53 then (3) else (5))) else (bif Nat.blt i 55 then (1) else (bif Nat.blt i 56 then (2) else (6))))) else (bif Nat.blt i 63 then (bif Nat.blt i 60 then (bif Nat.blt i 58 then (1) else (bif Nat.blt i 59 then (2) else (3))) else (bif Nat.blt i 61 then (3) else (bif Nat.blt i 62 then (3) else (4)))) else (bif Nat.blt i 66 then (bif Nat.blt i 64 then (3) else (bif Nat.blt i 65 then (3) else (3))) else (bif Nat.blt i 67 then (3) else (bif Nat.blt i 68 then (2) else (3)))))) else (bif Nat.blt i 81 then (bif Nat.blt i 75 then (bif Nat.blt i 72 then (bif Nat.blt i 70 then (2) else (bif Nat.blt i 71 then (4) else (3))) else (bif Nat.blt i 73 then (2) else (bif Nat.blt i 74 then (3) else (4)))) else (bif Nat.blt i 78 then (bif Nat.blt i 76 then (3) else (bif Nat.blt i 77 then (3) else (1))) else (bif Nat.blt i 79 then (1) else (bif Nat.blt i 80 then (1) else (3))))) else (bif Nat.blt i 87 then (bif Nat.blt i 84 then (bif Nat.blt i 82 then (2) else (bif Nat.blt i 83 then (1) else (3))) else (bif Nat.blt i 85 then (4) else (bif Nat.blt i 86 then (13) else (1)))) else (bif Nat.blt i 90 then (bif Nat.blt i 88 then (3) else (bif Nat.blt i 89 then (2) else (2))) else (bif Nat.blt i 91 then (2) else (bif Nat.blt i 92 then (19) else (21)))))))
def zsz (i : Nat) : Nat := bif Nat.blt i 46 then (bif Nat.blt i 23 then (bif Nat.blt i 11 then (bif Nat.blt i 5 then (bif Nat.blt i 2 then (bif Nat.blt i 1 then (53) else (62)) else (bif Nat.blt i 3 then (24) else (bif Nat.blt i 4 then (46) else (19)))) else (bif Nat.blt i 8 then (bif Nat.blt i 6 then (23) else (bif Nat.blt i 7 then (26) else (32))) else (bif Nat.blt i 9 then (31) else (bif Nat.blt i 10 then (45) else (39))))) else (bif Nat.blt i 17 then (bif Nat.blt i 14 then (bif Nat.blt i 12 then (46) else (bif Nat.blt i 13 then (58) else (53))) else (bif Nat.blt i 15 then (85) else (bif Nat.blt i 16 then (38) else (57)))) else (bif Nat.blt i 20 then (bif Nat.blt i 18 then (102) else (bif Nat.blt i 19 then (49) else (32))) else (bif Nat.blt i 21 then (70) else (bif Nat.blt i 22 then (37) else (21)))))) else (bif Nat.blt i 34 then (bif Nat.blt i 28 then (bif Nat.blt i 25 then (bif Nat.blt i 24 then (39) else (15)) else (bif Nat.blt i 26 then (24) else (bif Nat.blt i 27 then (47) else (20)))) else (bif Nat.blt i 31 then (bif Nat.blt i 29 then (20) else (bif Nat.blt i 30 then (31) else (45))) else (bif Nat.blt i 32 then (9) else (bif Nat.blt i 33 then (33) else (23))))) else (bif Nat.blt i 40 then (bif Nat.blt i 37 then (bif Nat.blt i 35 then (158) else (bif Nat.blt i 36 then (56) else (24))) else (bif Nat.blt i 38 then (66) else (bif Nat.blt i 39 then (79) else (18)))) else (bif Nat.blt i 43 then (bif Nat.blt i 41 then (21) else (bif Nat.blt i 42 then (55) else (54))) else (bif Nat.blt i 44 then (31) else (bif Nat.blt i 45 then (56) else (101))))))) else (bif Nat.blt i 69 then (bif Nat.blt i 57 then (bif Nat.blt i 51 then (bif Nat.blt i 48 then (bif Nat.blt i 47 then (64) else (21)) else (bif Nat.blt i 49 then (18) else (bif Nat.blt i 50 then (40) else (18)))) else (bif Nat.blt i 54 then (bif Nat.blt i 52 then (23) else (bif Nat.blt i 53 then (28) else (52))) else (bif Nat.blt i 55 then (34) else (bif Nat.blt i 56 then (18) else (65))))) else (bif Nat.blt i 63 then (bif Nat.blt i 60 then (bif Nat.blt i 58 then (23) else (bif Nat.blt i 59 then (95) else (33))) else (bif Nat.blt i 61 then (24) else (bif Nat.blt i 62 then (40) else (47)))) else (bif Nat.blt i 66 then (bif Nat.blt i 64 then (32) else (bif Nat.blt i 65 then (59) else (27))) else (bif Nat.blt i 67 then (114) else (bif Nat.blt i 68 then (173) else (55)))))) else (bif Nat.blt i 81 then (bif Nat.blt i 75 then (bif Nat.blt i 72 then (bif Nat.blt i 70 then (35) else (bif Nat.blt i 71 then (83) else (24))) else (bif Nat.blt i 73 then (57) else (bif Nat.blt i 74 then (25) else (60)))) else (bif Nat.blt i 78 then (bif Nat.blt i 76 then (36) else (bif Nat.blt i 77 then (43) else (18))) else (bif Nat.blt i 79 then (23) else (bif Nat.blt i 80 then (16) else (29))))) else (bif Nat.blt i 87 then (bif Nat.blt i 84 then (bif Nat.blt i 82 then (14) else (bif Nat.blt i 83 then (10) else (28))) else (bif Nat.blt i 85 then (26) else (bif Nat.blt i 86 then (169) else (53)))) else (bif Nat.blt i 90 then (bif Nat.blt i 88 then (20) else (bif Nat.blt i 89 then (11) else (19))) else (bif Nat.blt i 91 then (7) else (bif Nat.blt i 92 then (793) else (842)))))))
def zC (i pc : Nat) : Option zEn := bif Nat.blt i 93 && Nat.blt pc (zsz i) then (bif Nat.blt i 46 then (bif Nat.blt i 23 then (bif Nat.blt i 11 then (bif Nat.blt i 5 then (bif Nat.blt i 2 then (bif Nat.blt i 1 then (zc0 pc) else (zc1 pc)) else (bif Nat.blt i 3 then (zc2 pc) else (bif Nat.blt i 4 then (zc3 pc) else (zc4 pc)))) else (bif Nat.blt i 8 then (bif Nat.blt i 6 then (zc5 pc) else (bif Nat.blt i 7 then (zc6 pc) else (zc7 pc))) else (bif Nat.blt i 9 then (zc8 pc) else (bif Nat.blt i 10 then (zc9 pc) else (zc10 pc))))) else (bif Nat.blt i 17 then (bif Nat.blt i 14 then (bif Nat.blt i 12 then (zc11 pc) else (bif Nat.blt i 13 then (zc12 pc) else (zc13 pc))) else (bif Nat.blt i 15 then (zc14 pc) else (bif Nat.blt i 16 then (zc15 pc) else (zc16 pc)))) else (bif Nat.blt i 20 then (bif Nat.blt i 18 then (zc17 pc) else (bif Nat.blt i 19 then (zc18 pc) else (zc19 pc))) else (bif Nat.blt i 21 then (zc20 pc) else (bif Nat.blt i 22 then (zc21 pc) else (zc22 pc)))))) else (bif Nat.blt i 34 then (bif Nat.blt i 28 then (bif Nat.blt i 25 then (bif Nat.blt i 24 then (zc23 pc) else (zc24 pc)) else (bif Nat.blt i 26 then (zc25 pc) else (bif Nat.blt i 27 then (zc26 pc) else (zc27 pc)))) else (bif Nat.blt i 31 then (bif Nat.blt i 29 then (zc28 pc) else (bif Nat.blt i 30 then (zc29 pc) else (zc30 pc))) else (bif Nat.blt i 32 then (zc31 pc) else (bif Nat.blt i 33 then (zc32 pc) else (zc33 pc))))) else (bif Nat.blt i 40 then (bif Nat.blt i 37 then (bif Nat.blt i 35 then (zc34 pc) else (bif Nat.blt i 36 then (zc35 pc) else (zc36 pc))) else (bif Nat.blt i 38 then (zc37 pc) else (bif Nat.blt i 39 then (zc38 pc) else (zc39 pc)))) else (bif Nat.blt i 43 then (bif Nat.blt i 41 then (zc40 pc) else (bif Nat.blt i 42 then (zc41 pc) else (zc42 pc))) else (bif Nat.blt i 44 then (zc43 pc) else (bif Nat.blt i 45 then (zc44 pc) else (zc45 pc))))))) else (bif Nat.blt i 69 then (bif Nat.blt i 57 then (bif Nat.blt i 51 then (bif Nat.blt i 48 then (bif Nat.blt i 47 then (zc46 pc) else (zc47 pc)) else (bif Nat.blt i 49 then (zc48 pc) else (bif Nat.blt i 50 then (zc49 pc) else (zc50 pc)))) else (bif Nat.blt i 54 then (bif Nat.blt i 52 then (zc51 pc) else (bif Nat.blt i 53 then (zc52 pc) else (zc53 pc))) else (bif Nat.blt i 55 then (zc54 pc) else (bif Nat.blt i 56 then (zc55 pc) else (zc56 pc))))) else (bif Nat.blt i 63 then (bif Nat.blt i 60 then (bif Nat.blt i 58 then (zc57 pc) else (bif Nat.blt i 59 then (zc58 pc) else (zc59 pc))) else (bif Nat.blt i 61 then (zc60 pc) else (bif Nat.blt i 62 then (zc61 pc) else (zc62 pc)))) else (bif Nat.blt i 66 then (bif Nat.blt i 64 then (zc63 pc) else (bif Nat.blt i 65 then (zc64 pc) else (zc65 pc))) else (bif Nat.blt i 67 then (zc66 pc) else (bif Nat.blt i 68 then (zc67 pc) else (zc68 pc)))))) else (bif Nat.blt i 81 then (bif Nat.blt i 75 then (bif Nat.blt i 72 then (bif Nat.blt i 70 then (zc69 pc) else (bif Nat.blt i 71 then (zc70 pc) else (zc71 pc))) else (bif Nat.blt i 73 then (zc72 pc) else (bif Nat.blt i 74 then (zc73 pc) else (zc74 pc)))) else (bif Nat.blt i 78 then (bif Nat.blt i 76 then (zc75 pc) else (bif Nat.blt i 77 then (zc76 pc) else (zc77 pc))) else (bif Nat.blt i 79 then (zc78 pc) else (bif Nat.blt i 80 then (zc79 pc) else (zc80 pc))))) else (bif Nat.blt i 87 then (bif Nat.blt i 84 then (bif Nat.blt i 82 then (zc81 pc) else (bif Nat.blt i 83 then (zc82 pc) else (zc83 pc))) else (bif Nat.blt i 85 then (zc84 pc) else (bif Nat.blt i 86 then (zc85 pc) else (zc86 pc)))) else (bif Nat.blt i 90 then (bif Nat.blt i 88 then (zc87 pc) else (bif Nat.blt i 89 then (zc88 pc) else (zc89 pc))) else (bif Nat.blt i 91 then (zc90 pc) else (bif Nat.blt i 92 then (zc91 pc) else (zc92 pc)))))))) else none
/-- the place of a method's class in zCl; 99 where it has no objects here -/
def zci (i : Nat) : Nat := bif Nat.blt i 46 then (bif Nat.blt i 23 then (bif Nat.blt i 11 then (bif Nat.blt i 5 then (bif Nat.blt i 2 then (bif Nat.blt i 1 then (0) else (0)) else (bif Nat.blt i 3 then (0) else (bif Nat.blt i 4 then (0) else (0)))) else (bif Nat.blt i 8 then (bif Nat.blt i 6 then (0) else (bif Nat.blt i 7 then (0) else (0))) else (bif Nat.blt i 9 then (0) else (bif Nat.blt i 10 then (0) else (0))))) else (bif Nat.blt i 17 then (bif Nat.blt i 14 then (bif Nat.blt i 12 then (0) else (bif Nat.blt i 13 then (1) else (1))) else (bif Nat.blt i 15 then (1) else (bif Nat.blt i 16 then (1) else (1)))) else (bif Nat.blt i 20 then (bif Nat.blt i 18 then (1) else (bif Nat.blt i 19 then (1) else (1))) else (bif Nat.blt i 21 then (1) else (bif Nat.blt i 22 then (1) else (2)))))) else (bif Nat.blt i 34 then (bif Nat.blt i 28 then (bif Nat.blt i 25 then (bif Nat.blt i 24 then (2) else (2)) else (bif Nat.blt i 26 then (2) else (bif Nat.blt i 27 then (2) else (2)))) else (bif Nat.blt i 31 then (bif Nat.blt i 29 then (2) else (bif Nat.blt i 30 then (2) else (2))) else (bif Nat.blt i 32 then (2) else (bif Nat.blt i 33 then (2) else (3))))) else (bif Nat.blt i 40 then (bif Nat.blt i 37 then (bif Nat.blt i 35 then (3) else (bif Nat.blt i 36 then (3) else (3))) else (bif Nat.blt i 38 then (3) else (bif Nat.blt i 39 then (3) else (4)))) else (bif Nat.blt i 43 then (bif Nat.blt i 41 then (5) else (bif Nat.blt i 42 then (6) else (6))) else (bif Nat.blt i 44 then (6) else (bif Nat.blt i 45 then (6) else (6))))))) else (bif Nat.blt i 69 then (bif Nat.blt i 57 then (bif Nat.blt i 51 then (bif Nat.blt i 48 then (bif Nat.blt i 47 then (6) else (6)) else (bif Nat.blt i 49 then (7) else (bif Nat.blt i 50 then (7) else (7)))) else (bif Nat.blt i 54 then (bif Nat.blt i 52 then (7) else (bif Nat.blt i 53 then (7) else (7))) else (bif Nat.blt i 55 then (7) else (bif Nat.blt i 56 then (7) else (7))))) else (bif Nat.blt i 63 then (bif Nat.blt i 60 then (bif Nat.blt i 58 then (7) else (bif Nat.blt i 59 then (8) else (8))) else (bif Nat.blt i 61 then (8) else (bif Nat.blt i 62 then (8) else (8)))) else (bif Nat.blt i 66 then (bif Nat.blt i 64 then (8) else (bif Nat.blt i 65 then (8) else (8))) else (bif Nat.blt i 67 then (8) else (bif Nat.blt i 68 then (8) else (8)))))) else (bif Nat.blt i 81 then (bif Nat.blt i 75 then (bif Nat.blt i 72 then (bif Nat.blt i 70 then (8) else (bif Nat.blt i 71 then (8) else (8))) else (bif Nat.blt i 73 then (8) else (bif Nat.blt i 74 then (8) else (8)))) else (bif Nat.blt i 78 then (bif Nat.blt i 76 then (8) else (bif Nat.blt i 77 then (8) else (8))) else (bif Nat.blt i 79 then (8) else (bif Nat.blt i 80 then (8) else (8))))) else (bif Nat.blt i 87 then (bif Nat.blt i 84 then (bif Nat.blt i 82 then (8) else (bif Nat.blt i 83 then (8) else (8))) else (bif Nat.blt i 85 then (8) else (bif Nat.blt i 86 then (8) else (99)))) else (bif Nat.blt i 90 then (bif Nat.blt i 88 then (99) else (bif Nat.blt i 89 then (99) else (99))) else (bif Nat.blt i 91 then (99) else (bif Nat.blt i 92 then (99) else (99)))))))
def zNm (i : Nat) : MethodName := bif Nat.blt i 46 then (bif Nat.blt i 23 then (bif Nat.blt i 11 then (bif Nat.blt i 5 then (bif Nat.blt i 2 then (bif Nat.blt i 1 then (yX0_init) else (yX0_copyFrom)) else (bif Nat.blt i 3 then (yX0_has) else (bif Nat.blt i 4 then (yX0_append) else (yX0_kindOf)))) else (bif Nat.blt i 8 then (bif Nat.blt i 6 then (yX0_isAlive) else (bif Nat.blt i 7 then (yX0_changeDead) else (yX0_living))) else (bif Nat.blt i 9 then (yX0_weightOf) else (bif Nat.blt i 10 then (yX0_changeWeight) else (yX0_weightOfSet))))) else (bif Nat.blt i 17 then (bif Nat.blt i 14 then (bif Nat.blt i 12 then (yX0_weightedWords) else (bif Nat.blt i 13 then (yX1_init) else (yX1_copyFrom))) else (bif Nat.blt i 15 then (yX1_canCome) else (bif Nat.blt i 16 then (yX1_hasEnded) else (yX1_addDrawnWord)))) else (bif Nat.blt i 20 then (bif Nat.blt i 18 then (yX1_drawnWord) else (bif Nat.blt i 19 then (yX1_lineEndingAt) else (yX1_firstLineEnd))) else (bif Nat.blt i 21 then (yX1_preventers) else (bif Nat.blt i 22 then (yX1_couldHaveWrittenElse) else (yX2_init)))))) else (bif Nat.blt i 34 then (bif Nat.blt i 28 then (bif Nat.blt i 25 then (bif Nat.blt i 24 then (yX2_copyFrom) else (yX2_isFull)) else (bif Nat.blt i 26 then (yX2_has) else (bif Nat.blt i 27 then (yX2_append) else (yX2_wordAt)))) else (bif Nat.blt i 31 then (bif Nat.blt i 29 then (yX2_writerAt) else (bif Nat.blt i 30 then (yX2_known) else (yX2_habitOf))) else (bif Nat.blt i 32 then (yX2_slip) else (bif Nat.blt i 33 then (yX2_slipAheadOf) else (yX3_init))))) else (bif Nat.blt i 40 then (bif Nat.blt i 37 then (bif Nat.blt i 35 then (yX3_fewestTurns) else (bif Nat.blt i 36 then (yX3_hasAim) else (yX3_slipAt))) else (bif Nat.blt i 38 then (yX3_spread) else (bif Nat.blt i 39 then (yX3_note) else (yX4_init)))) else (bif Nat.blt i 43 then (bif Nat.blt i 41 then (yX5_init) else (bif Nat.blt i 42 then (yX6_init) else (yX6_copyFrom))) else (bif Nat.blt i 44 then (yX6_changeFollowing) else (bif Nat.blt i 45 then (yX6_appendLine) else (yX6_mayCome))))))) else (bif Nat.blt i 69 then (bif Nat.blt i 57 then (bif Nat.blt i 51 then (bif Nat.blt i 48 then (bif Nat.blt i 47 then (yX6_lineAtEndOf) else (yX6_lengthOfLine)) else (bif Nat.blt i 49 then (yX7_init) else (bif Nat.blt i 50 then (yX7_copyFrom) else (yX7_takeSeat)))) else (bif Nat.blt i 54 then (bif Nat.blt i 52 then (yX7_cellOn) else (bif Nat.blt i 53 then (yX7_seatOf) else (yX7_changeSeats))) else (bif Nat.blt i 55 then (yX7_seatOfTurn) else (bif Nat.blt i 56 then (yX7_seatBehind) else (yX7_livingSeatPast))))) else (bif Nat.blt i 63 then (bif Nat.blt i 60 then (bif Nat.blt i 58 then (yX7_goOn) else (bif Nat.blt i 59 then (yX8_init) else (yX8_follow))) else (bif Nat.blt i 61 then (yX8_line) else (bif Nat.blt i 62 then (yX8_cell) else (yX8_weight)))) else (bif Nat.blt i 66 then (bif Nat.blt i 64 then (yX8_dead) else (bif Nat.blt i 65 then (yX8_swap) else (yX8_turn))) else (bif Nat.blt i 67 then (yX8_told) else (bif Nat.blt i 68 then (yX8_count) else (yX8_read)))))) else (bif Nat.blt i 81 then (bif Nat.blt i 75 then (bif Nat.blt i 72 then (bif Nat.blt i 70 then (yX8_come) else (bif Nat.blt i 71 then (yX8_draw) else (yX8_seed))) else (bif Nat.blt i 73 then (yX8_undo) else (bif Nat.blt i 74 then (yX8_reach) else (yX8_soon)))) else (bif Nat.blt i 78 then (bif Nat.blt i 76 then (yX8_habit) else (bif Nat.blt i 77 then (yX8_prevented) else (yX8_image))) else (bif Nat.blt i 79 then (yX8_restore) else (bif Nat.blt i 80 then (yX8_isWord) else (yX8_isRowOfWords))))) else (bif Nat.blt i 87 then (bif Nat.blt i 84 then (bif Nat.blt i 82 then (yX8_holds) else (bif Nat.blt i 83 then (yX8_bit) else (yX8_slipWith))) else (bif Nat.blt i 85 then (yX8_slipEndsWith) else (bif Nat.blt i 86 then (yX8_soonWithin) else (yJ6_bitCount_0f7a4)))) else (bif Nat.blt i 90 then (bif Nat.blt i 88 then (yJ9_floorMod_7cf53) else (bif Nat.blt i 89 then (yJ9_max_7cf53) else (yL_cell))) else (bif Nat.blt i 91 then (yL_some) else (bif Nat.blt i 92 then (yL_build) else (yL_law)))))))
def zBy (i : Nat) : ByteArray := bif Nat.blt i 46 then (bif Nat.blt i 23 then (bif Nat.blt i 11 then (bif Nat.blt i 5 then (bif Nat.blt i 2 then (bif Nat.blt i 1 then (cX0_init) else (cX0_copyFrom)) else (bif Nat.blt i 3 then (cX0_has) else (bif Nat.blt i 4 then (cX0_append) else (cX0_kindOf)))) else (bif Nat.blt i 8 then (bif Nat.blt i 6 then (cX0_isAlive) else (bif Nat.blt i 7 then (cX0_changeDead) else (cX0_living))) else (bif Nat.blt i 9 then (cX0_weightOf) else (bif Nat.blt i 10 then (cX0_changeWeight) else (cX0_weightOfSet))))) else (bif Nat.blt i 17 then (bif Nat.blt i 14 then (bif Nat.blt i 12 then (cX0_weightedWords) else (bif Nat.blt i 13 then (cX1_init) else (cX1_copyFrom))) else (bif Nat.blt i 15 then (cX1_canCome) else (bif Nat.blt i 16 then (cX1_hasEnded) else (cX1_addDrawnWord)))) else (bif Nat.blt i 20 then (bif Nat.blt i 18 then (cX1_drawnWord) else (bif Nat.blt i 19 then (cX1_lineEndingAt) else (cX1_firstLineEnd))) else (bif Nat.blt i 21 then (cX1_preventers) else (bif Nat.blt i 22 then (cX1_couldHaveWrittenElse) else (cX2_init)))))) else (bif Nat.blt i 34 then (bif Nat.blt i 28 then (bif Nat.blt i 25 then (bif Nat.blt i 24 then (cX2_copyFrom) else (cX2_isFull)) else (bif Nat.blt i 26 then (cX2_has) else (bif Nat.blt i 27 then (cX2_append) else (cX2_wordAt)))) else (bif Nat.blt i 31 then (bif Nat.blt i 29 then (cX2_writerAt) else (bif Nat.blt i 30 then (cX2_known) else (cX2_habitOf))) else (bif Nat.blt i 32 then (cX2_slip) else (bif Nat.blt i 33 then (cX2_slipAheadOf) else (cX3_init))))) else (bif Nat.blt i 40 then (bif Nat.blt i 37 then (bif Nat.blt i 35 then (cX3_fewestTurns) else (bif Nat.blt i 36 then (cX3_hasAim) else (cX3_slipAt))) else (bif Nat.blt i 38 then (cX3_spread) else (bif Nat.blt i 39 then (cX3_note) else (cX4_init)))) else (bif Nat.blt i 43 then (bif Nat.blt i 41 then (cX5_init) else (bif Nat.blt i 42 then (cX6_init) else (cX6_copyFrom))) else (bif Nat.blt i 44 then (cX6_changeFollowing) else (bif Nat.blt i 45 then (cX6_appendLine) else (cX6_mayCome))))))) else (bif Nat.blt i 69 then (bif Nat.blt i 57 then (bif Nat.blt i 51 then (bif Nat.blt i 48 then (bif Nat.blt i 47 then (cX6_lineAtEndOf) else (cX6_lengthOfLine)) else (bif Nat.blt i 49 then (cX7_init) else (bif Nat.blt i 50 then (cX7_copyFrom) else (cX7_takeSeat)))) else (bif Nat.blt i 54 then (bif Nat.blt i 52 then (cX7_cellOn) else (bif Nat.blt i 53 then (cX7_seatOf) else (cX7_changeSeats))) else (bif Nat.blt i 55 then (cX7_seatOfTurn) else (bif Nat.blt i 56 then (cX7_seatBehind) else (cX7_livingSeatPast))))) else (bif Nat.blt i 63 then (bif Nat.blt i 60 then (bif Nat.blt i 58 then (cX7_goOn) else (bif Nat.blt i 59 then (cX8_init) else (cX8_follow))) else (bif Nat.blt i 61 then (cX8_line) else (bif Nat.blt i 62 then (cX8_cell) else (cX8_weight)))) else (bif Nat.blt i 66 then (bif Nat.blt i 64 then (cX8_dead) else (bif Nat.blt i 65 then (cX8_swap) else (cX8_turn))) else (bif Nat.blt i 67 then (cX8_told) else (bif Nat.blt i 68 then (cX8_count) else (cX8_read)))))) else (bif Nat.blt i 81 then (bif Nat.blt i 75 then (bif Nat.blt i 72 then (bif Nat.blt i 70 then (cX8_come) else (bif Nat.blt i 71 then (cX8_draw) else (cX8_seed))) else (bif Nat.blt i 73 then (cX8_undo) else (bif Nat.blt i 74 then (cX8_reach) else (cX8_soon)))) else (bif Nat.blt i 78 then (bif Nat.blt i 76 then (cX8_habit) else (bif Nat.blt i 77 then (cX8_prevented) else (cX8_image))) else (bif Nat.blt i 79 then (cX8_restore) else (bif Nat.blt i 80 then (cX8_isWord) else (cX8_isRowOfWords))))) else (bif Nat.blt i 87 then (bif Nat.blt i 84 then (bif Nat.blt i 82 then (cX8_holds) else (bif Nat.blt i 83 then (cX8_bit) else (cX8_slipWith))) else (bif Nat.blt i 85 then (cX8_slipEndsWith) else (bif Nat.blt i 86 then (cX8_soonWithin) else (cJ6_bitCount_0f7a4)))) else (bif Nat.blt i 90 then (bif Nat.blt i 88 then (cJ9_floorMod_7cf53) else (bif Nat.blt i 89 then (cJ9_max_7cf53) else (cL_cell))) else (bif Nat.blt i 91 then (cL_some) else (bif Nat.blt i 92 then (cL_build) else (cL_law)))))))
def zRt (i : Nat) : Option FieldType := bif Nat.blt i 46 then (bif Nat.blt i 23 then (bif Nat.blt i 11 then (bif Nat.blt i 5 then (bif Nat.blt i 2 then (bif Nat.blt i 1 then ((none)) else ((none))) else (bif Nat.blt i 3 then ((some .boolean)) else (bif Nat.blt i 4 then ((some .int)) else ((some .int))))) else (bif Nat.blt i 8 then (bif Nat.blt i 6 then ((some .boolean)) else (bif Nat.blt i 7 then ((some .boolean)) else ((some .int)))) else (bif Nat.blt i 9 then ((some .int)) else (bif Nat.blt i 10 then ((some .int)) else ((some .int)))))) else (bif Nat.blt i 17 then (bif Nat.blt i 14 then (bif Nat.blt i 12 then ((some .int)) else (bif Nat.blt i 13 then ((none)) else ((none)))) else (bif Nat.blt i 15 then ((some .int)) else (bif Nat.blt i 16 then ((some .boolean)) else ((none))))) else (bif Nat.blt i 20 then (bif Nat.blt i 18 then ((some .int)) else (bif Nat.blt i 19 then ((some .int)) else ((some .int)))) else (bif Nat.blt i 21 then ((some .int)) else (bif Nat.blt i 22 then ((some .boolean)) else ((none))))))) else (bif Nat.blt i 34 then (bif Nat.blt i 28 then (bif Nat.blt i 25 then (bif Nat.blt i 24 then ((none)) else ((some .boolean))) else (bif Nat.blt i 26 then ((some .boolean)) else (bif Nat.blt i 27 then ((none)) else ((some .int))))) else (bif Nat.blt i 31 then (bif Nat.blt i 29 then ((some .int)) else (bif Nat.blt i 30 then ((some .int)) else ((some .int)))) else (bif Nat.blt i 32 then ((some .int)) else (bif Nat.blt i 33 then ((some .int)) else ((none)))))) else (bif Nat.blt i 40 then (bif Nat.blt i 37 then (bif Nat.blt i 35 then ((some .int)) else (bif Nat.blt i 36 then ((some .boolean)) else ((some .int)))) else (bif Nat.blt i 38 then ((none)) else (bif Nat.blt i 39 then ((none)) else ((none))))) else (bif Nat.blt i 43 then (bif Nat.blt i 41 then ((none)) else (bif Nat.blt i 42 then ((none)) else ((none)))) else (bif Nat.blt i 44 then ((some .int)) else (bif Nat.blt i 45 then ((some .int)) else ((some .int)))))))) else (bif Nat.blt i 69 then (bif Nat.blt i 57 then (bif Nat.blt i 51 then (bif Nat.blt i 48 then (bif Nat.blt i 47 then ((some .int)) else ((some .int))) else (bif Nat.blt i 49 then ((none)) else (bif Nat.blt i 50 then ((none)) else ((none))))) else (bif Nat.blt i 54 then (bif Nat.blt i 52 then ((some .int)) else (bif Nat.blt i 53 then ((some .int)) else ((none)))) else (bif Nat.blt i 55 then ((some .int)) else (bif Nat.blt i 56 then ((some .int)) else ((some .int)))))) else (bif Nat.blt i 63 then (bif Nat.blt i 60 then (bif Nat.blt i 58 then ((none)) else (bif Nat.blt i 59 then ((none)) else ((some .int)))) else (bif Nat.blt i 61 then ((some .int)) else (bif Nat.blt i 62 then ((some .int)) else ((some .int))))) else (bif Nat.blt i 66 then (bif Nat.blt i 64 then ((some .int)) else (bif Nat.blt i 65 then ((some .int)) else ((some .int)))) else (bif Nat.blt i 67 then ((some .int)) else (bif Nat.blt i 68 then ((some .int)) else ((some .int))))))) else (bif Nat.blt i 81 then (bif Nat.blt i 75 then (bif Nat.blt i 72 then (bif Nat.blt i 70 then ((some .int)) else (bif Nat.blt i 71 then ((some .int)) else ((some .int)))) else (bif Nat.blt i 73 then ((some .int)) else (bif Nat.blt i 74 then ((some .int)) else ((some .int))))) else (bif Nat.blt i 78 then (bif Nat.blt i 76 then ((some .int)) else (bif Nat.blt i 77 then ((some .int)) else ((some .int)))) else (bif Nat.blt i 79 then ((some .int)) else (bif Nat.blt i 80 then ((some .boolean)) else ((some .boolean)))))) else (bif Nat.blt i 87 then (bif Nat.blt i 84 then (bif Nat.blt i 82 then ((some .boolean)) else (bif Nat.blt i 83 then ((some .int)) else ((some .int)))) else (bif Nat.blt i 85 then ((some .boolean)) else (bif Nat.blt i 86 then ((some .int)) else ((some .int))))) else (bif Nat.blt i 90 then (bif Nat.blt i 88 then ((some .int)) else (bif Nat.blt i 89 then ((some .int)) else ((some .int)))) else (bif Nat.blt i 91 then ((some .int)) else (bif Nat.blt i 92 then ((some .boolean)) else ((some .boolean))))))))
/-- what a slot of a class holds: 0 an int, 1 a boolean, 2 a reference -/
def zft (c k : Nat) : Nat := bif Nat.blt c 4 then (bif Nat.blt c 2 then (bif Nat.blt c 1 then ((bif Nat.blt k 2 then (bif Nat.blt k 1 then (2) else (2)) else (bif Nat.blt k 3 then (2) else (0)))) else ((bif Nat.blt k 2 then (bif Nat.blt k 1 then (2) else (2)) else (bif Nat.blt k 3 then (2) else (bif Nat.blt k 4 then (2) else (0)))))) else (bif Nat.blt c 3 then ((bif Nat.blt k 1 then (2) else (bif Nat.blt k 2 then (2) else (0)))) else ((bif Nat.blt k 1 then (2) else (bif Nat.blt k 2 then (2) else (0)))))) else (bif Nat.blt c 6 then (bif Nat.blt c 5 then ((bif Nat.blt k 1 then (2) else (bif Nat.blt k 2 then (0) else (0)))) else ((bif Nat.blt k 1 then (2) else (bif Nat.blt k 2 then (2) else (0))))) else (bif Nat.blt c 7 then ((bif Nat.blt k 2 then (bif Nat.blt k 1 then (2) else (2)) else (bif Nat.blt k 3 then (2) else (0)))) else (bif Nat.blt c 8 then ((bif Nat.blt k 2 then (bif Nat.blt k 1 then (2) else (2)) else (bif Nat.blt k 3 then (0) else (bif Nat.blt k 4 then (0) else (1))))) else ((bif Nat.blt k 3 then (bif Nat.blt k 1 then (2) else (bif Nat.blt k 2 then (2) else (2))) else (bif Nat.blt k 5 then (bif Nat.blt k 4 then (2) else (2)) else (bif Nat.blt k 6 then (2) else (1))))))))
/-- whose constant pool a method uses -/
def zoc (i : Nat) : Nat := bif Nat.blt i 46 then (bif Nat.blt i 23 then (bif Nat.blt i 11 then (bif Nat.blt i 5 then (bif Nat.blt i 2 then (bif Nat.blt i 1 then (0) else (0)) else (bif Nat.blt i 3 then (0) else (bif Nat.blt i 4 then (0) else (0)))) else (bif Nat.blt i 8 then (bif Nat.blt i 6 then (0) else (bif Nat.blt i 7 then (0) else (0))) else (bif Nat.blt i 9 then (0) else (bif Nat.blt i 10 then (0) else (0))))) else (bif Nat.blt i 17 then (bif Nat.blt i 14 then (bif Nat.blt i 12 then (0) else (bif Nat.blt i 13 then (1) else (1))) else (bif Nat.blt i 15 then (1) else (bif Nat.blt i 16 then (1) else (1)))) else (bif Nat.blt i 20 then (bif Nat.blt i 18 then (1) else (bif Nat.blt i 19 then (1) else (1))) else (bif Nat.blt i 21 then (1) else (bif Nat.blt i 22 then (1) else (2)))))) else (bif Nat.blt i 34 then (bif Nat.blt i 28 then (bif Nat.blt i 25 then (bif Nat.blt i 24 then (2) else (2)) else (bif Nat.blt i 26 then (2) else (bif Nat.blt i 27 then (2) else (2)))) else (bif Nat.blt i 31 then (bif Nat.blt i 29 then (2) else (bif Nat.blt i 30 then (2) else (2))) else (bif Nat.blt i 32 then (2) else (bif Nat.blt i 33 then (2) else (3))))) else (bif Nat.blt i 40 then (bif Nat.blt i 37 then (bif Nat.blt i 35 then (3) else (bif Nat.blt i 36 then (3) else (3))) else (bif Nat.blt i 38 then (3) else (bif Nat.blt i 39 then (3) else (4)))) else (bif Nat.blt i 43 then (bif Nat.blt i 41 then (5) else (bif Nat.blt i 42 then (6) else (6))) else (bif Nat.blt i 44 then (6) else (bif Nat.blt i 45 then (6) else (6))))))) else (bif Nat.blt i 69 then (bif Nat.blt i 57 then (bif Nat.blt i 51 then (bif Nat.blt i 48 then (bif Nat.blt i 47 then (6) else (6)) else (bif Nat.blt i 49 then (7) else (bif Nat.blt i 50 then (7) else (7)))) else (bif Nat.blt i 54 then (bif Nat.blt i 52 then (7) else (bif Nat.blt i 53 then (7) else (7))) else (bif Nat.blt i 55 then (7) else (bif Nat.blt i 56 then (7) else (7))))) else (bif Nat.blt i 63 then (bif Nat.blt i 60 then (bif Nat.blt i 58 then (7) else (bif Nat.blt i 59 then (8) else (8))) else (bif Nat.blt i 61 then (8) else (bif Nat.blt i 62 then (8) else (8)))) else (bif Nat.blt i 66 then (bif Nat.blt i 64 then (8) else (bif Nat.blt i 65 then (8) else (8))) else (bif Nat.blt i 67 then (8) else (bif Nat.blt i 68 then (8) else (8)))))) else (bif Nat.blt i 81 then (bif Nat.blt i 75 then (bif Nat.blt i 72 then (bif Nat.blt i 70 then (8) else (bif Nat.blt i 71 then (8) else (8))) else (bif Nat.blt i 73 then (8) else (bif Nat.blt i 74 then (8) else (8)))) else (bif Nat.blt i 78 then (bif Nat.blt i 76 then (8) else (bif Nat.blt i 77 then (8) else (8))) else (bif Nat.blt i 79 then (8) else (bif Nat.blt i 80 then (8) else (8))))) else (bif Nat.blt i 87 then (bif Nat.blt i 84 then (bif Nat.blt i 82 then (8) else (bif Nat.blt i 83 then (8) else (8))) else (bif Nat.blt i 85 then (8) else (bif Nat.blt i 86 then (8) else (10)))) else (bif Nat.blt i 90 then (bif Nat.blt i 88 then (11) else (bif Nat.blt i 89 then (11) else (12))) else (bif Nat.blt i 91 then (12) else (bif Nat.blt i 92 then (12) else (12)))))))
/-- the word of an entry of a pool -/
def zlw0 (k : Nat) : Cond := bif Nat.blt k 28 then (bif Nat.blt k 15 then (bif Nat.blt k 9 then ((.methodLink RX0 3 objectInit : Cond)) else ((.fieldLink RX0 9 "SlipWheel$Cells" "kinds" "[I" : Cond))) else (bif Nat.blt k 19 then ((.fieldLink RX0 15 "SlipWheel$Cells" "isDead" "[Z" : Cond)) else (bif Nat.blt k 22 then ((.fieldLink RX0 19 "SlipWheel$Cells" "weights" "[I" : Cond)) else ((.methodLink RX0 22 arraycopyName : Cond))))) else (bif Nat.blt k 39 then (bif Nat.blt k 32 then ((.fieldLink RX0 28 "SlipWheel$Cells" "number" "I" : Cond)) else (bif Nat.blt k 36 then ((.methodLink RX0 32 yX0_has : Cond)) else ((.methodLink RX0 36 yX0_isAlive : Cond)))) else (bif Nat.blt k 42 then ((.methodLinkNest RX0 39 yX8_isWord "SlipWheel" : Cond)) else (bif Nat.blt k 46 then ((.methodLinkNest RX0 42 yX8_holds "SlipWheel" : Cond)) else ((.methodLink RX0 46 yX0_weightOf : Cond)))))
def zlw1 (k : Nat) : Cond := bif Nat.blt k 68 then (bif Nat.blt k 34 then (bif Nat.blt k 20 then (bif Nat.blt k 11 then (bif Nat.blt k 9 then ((.methodLink RX1 3 objectInit : Cond)) else ((.classLink RX1 9 "SlipWheel$Tongue" : Cond))) else (bif Nat.blt k 12 then ((.methodLinkNest RX1 11 yX6_init "SlipWheel" : Cond)) else (bif Nat.blt k 18 then ((.fieldLink RX1 12 "SlipWheel$Everything" "tongue" "LSlipWheel$Tongue;" : Cond)) else ((.classLink RX1 18 "SlipWheel$Cells" : Cond))))) else (bif Nat.blt k 25 then (bif Nat.blt k 21 then ((.methodLinkNest RX1 20 yX0_init "SlipWheel" : Cond)) else ((.fieldLink RX1 21 "SlipWheel$Everything" "cells" "LSlipWheel$Cells;" : Cond))) else (bif Nat.blt k 27 then ((.classLink RX1 25 "SlipWheel$Wheel" : Cond)) else (bif Nat.blt k 30 then ((.methodLinkNest RX1 27 yX7_init "SlipWheel" : Cond)) else ((.fieldLink RX1 30 "SlipWheel$Everything" "wheel" "LSlipWheel$Wheel;" : Cond)))))) else (bif Nat.blt k 49 then (bif Nat.blt k 37 then (bif Nat.blt k 36 then ((.classLink RX1 34 "SlipWheel$Pages" : Cond)) else ((.methodLinkNest RX1 36 yX2_init "SlipWheel" : Cond))) else (bif Nat.blt k 41 then ((.fieldLink RX1 37 "SlipWheel$Everything" "pages" "LSlipWheel$Pages;" : Cond)) else (bif Nat.blt k 45 then ((.fieldLink RX1 41 "SlipWheel$Everything" "lot" "I" : Cond)) else ((.methodLinkNest RX1 45 yX6_copyFrom "SlipWheel" : Cond))))) else (bif Nat.blt k 57 then (bif Nat.blt k 51 then ((.methodLinkNest RX1 49 yX0_copyFrom "SlipWheel" : Cond)) else (bif Nat.blt k 54 then ((.methodLinkNest RX1 51 yX7_copyFrom "SlipWheel" : Cond)) else ((.methodLinkNest RX1 54 yX2_copyFrom "SlipWheel" : Cond)))) else (bif Nat.blt k 61 then ((.methodLinkNest RX1 57 yX0_kindOf "SlipWheel" : Cond)) else (bif Nat.blt k 64 then ((.methodLinkNest RX1 61 yX0_weightedWords "SlipWheel" : Cond)) else ((.methodLinkNest RX1 64 yX6_mayCome "SlipWheel" : Cond))))))) else (bif Nat.blt k 102 then (bif Nat.blt k 86 then (bif Nat.blt k 75 then (bif Nat.blt k 71 then ((.methodLink RX1 68 yX1_canCome : Cond)) else ((.methodLinkNest RX1 71 yX8_holds "SlipWheel" : Cond))) else (bif Nat.blt k 79 then ((.methodLinkNest RX1 75 yX0_isAlive "SlipWheel" : Cond)) else (bif Nat.blt k 83 then ((.methodLinkNest RX1 79 yX7_seatOfTurn "SlipWheel" : Cond)) else ((.methodLinkNest RX1 83 yX7_cellOn "SlipWheel" : Cond))))) else (bif Nat.blt k 96 then (bif Nat.blt k 89 then ((.methodLinkNest RX1 86 yX2_slip "SlipWheel" : Cond)) else (bif Nat.blt k 93 then ((.methodLinkNest RX1 89 yX2_isFull "SlipWheel" : Cond)) else ((.methodLink RX1 93 yX1_drawnWord : Cond)))) else (bif Nat.blt k 100 then ((.methodLinkNest RX1 96 yX2_append "SlipWheel" : Cond)) else (bif Nat.blt k 101 then ((.constant RX1 100 (1103515245) : Cond)) else ((.constant RX1 101 (2147483647) : Cond)))))) else (bif Nat.blt k 128 then (bif Nat.blt k 117 then (bif Nat.blt k 105 then ((.methodLinkNest RX1 102 yX0_weightOfSet "SlipWheel" : Cond)) else ((.methodLinkNest RX1 105 yX0_weightOf "SlipWheel" : Cond))) else (bif Nat.blt k 122 then ((.methodLink RX1 117 yJ9_max_7cf53 : Cond)) else (bif Nat.blt k 125 then ((.methodLinkNest RX1 122 yX2_wordAt "SlipWheel" : Cond)) else ((.methodLinkNest RX1 125 yX6_lineAtEndOf "SlipWheel" : Cond))))) else (bif Nat.blt k 137 then (bif Nat.blt k 131 then ((.fieldLinkNest RX1 128 "SlipWheel$Pages" "length" "I" "SlipWheel" : Cond)) else (bif Nat.blt k 134 then ((.methodLink RX1 131 yX1_lineEndingAt : Cond)) else ((.methodLinkNest RX1 134 yX6_lengthOfLine "SlipWheel" : Cond)))) else (bif Nat.blt k 140 then ((.methodLinkNest RX1 137 yX2_writerAt "SlipWheel" : Cond)) else (bif Nat.blt k 143 then ((.methodLink RX1 140 yX1_couldHaveWrittenElse : Cond)) else ((.methodLinkNest RX1 143 yX2_slipAheadOf "SlipWheel" : Cond)))))))
def zlw2 (k : Nat) : Cond := bif Nat.blt k 28 then (bif Nat.blt k 15 then (bif Nat.blt k 9 then ((.methodLink RX2 3 objectInit : Cond)) else ((.fieldLink RX2 9 "SlipWheel$Pages" "words" "[I" : Cond))) else (bif Nat.blt k 18 then ((.fieldLink RX2 15 "SlipWheel$Pages" "writers" "[I" : Cond)) else (bif Nat.blt k 24 then ((.methodLink RX2 18 arraycopyName : Cond)) else ((.fieldLink RX2 24 "SlipWheel$Pages" "length" "I" : Cond))))) else (bif Nat.blt k 39 then (bif Nat.blt k 32 then ((.methodLink RX2 28 yX2_has : Cond)) else (bif Nat.blt k 36 then ((.methodLink RX2 32 yX2_writerAt : Cond)) else ((.methodLink RX2 36 yX2_wordAt : Cond)))) else (bif Nat.blt k 42 then ((.methodLink RX2 39 yX2_slipAheadOf : Cond)) else (bif Nat.blt k 48 then ((.methodLink RX2 42 yJ9_max_7cf53 : Cond)) else ((.methodLinkNest RX2 48 yX8_slipWith "SlipWheel" : Cond)))))
def zlw3 (k : Nat) : Cond := bif Nat.blt k 48 then (bif Nat.blt k 25 then (bif Nat.blt k 15 then (bif Nat.blt k 9 then ((.methodLink RX3 3 objectInit : Cond)) else ((.fieldLink RX3 9 "SlipWheel$Search" "slips" "[I" : Cond))) else (bif Nat.blt k 19 then ((.fieldLink RX3 15 "SlipWheel$Search" "seenOnSeats" "[B" : Cond)) else ((.fieldLinkNest RX3 19 "SlipWheel$Everything" "wheel" "LSlipWheel$Wheel;" "SlipWheel" : Cond)))) else (bif Nat.blt k 35 then (bif Nat.blt k 31 then ((.methodLinkNest RX3 25 yX7_seatOfTurn "SlipWheel" : Cond)) else ((.fieldLink RX3 31 "SlipWheel$Search" "found" "I" : Cond))) else (bif Nat.blt k 39 then ((.fieldLinkNest RX3 35 "SlipWheel$Everything" "pages" "LSlipWheel$Pages;" "SlipWheel" : Cond)) else (bif Nat.blt k 44 then ((.methodLinkNest RX3 39 yX2_slip "SlipWheel" : Cond)) else ((.methodLink RX3 44 yX3_note : Cond)))))) else (bif Nat.blt k 67 then (bif Nat.blt k 56 then (bif Nat.blt k 52 then ((.methodLink RX3 48 yX3_hasAim : Cond)) else ((.methodLinkNest RX3 52 yX7_seatBehind "SlipWheel" : Cond))) else (bif Nat.blt k 59 then ((.methodLink RX3 56 yX3_slipAt : Cond)) else (bif Nat.blt k 63 then ((.methodLink RX3 59 yX3_spread : Cond)) else ((.methodLinkNest RX3 63 yX1_hasEnded "SlipWheel" : Cond))))) else (bif Nat.blt k 74 then (bif Nat.blt k 71 then ((.methodLinkNest RX3 67 yX8_slipEndsWith "SlipWheel" : Cond)) else ((.methodLinkNest RX3 71 yX7_cellOn "SlipWheel" : Cond))) else (bif Nat.blt k 78 then ((.methodLinkNest RX3 74 yX1_canCome "SlipWheel" : Cond)) else (bif Nat.blt k 82 then ((.methodLinkNest RX3 78 yX8_holds "SlipWheel" : Cond)) else ((.methodLinkNest RX3 82 yX8_slipWith "SlipWheel" : Cond))))))
def zlw4 (k : Nat) : Cond := bif Nat.blt k 9 then ((.methodLink RX4 3 objectInit : Cond)) else (bif Nat.blt k 15 then ((.fieldLink RX4 9 "SlipWheel$Sheet" "items" "[I" : Cond)) else ((.fieldLink RX4 15 "SlipWheel$Sheet" "rowLane" "I" : Cond)))
def zlw5 (k : Nat) : Cond := bif Nat.blt k 9 then ((.methodLink RX5 3 objectInit : Cond)) else (bif Nat.blt k 15 then ((.fieldLink RX5 9 "SlipWheel$Tape" "bytes" "[I" : Cond)) else ((.fieldLink RX5 15 "SlipWheel$Tape" "parsed" "[I" : Cond)))
def zlw6 (k : Nat) : Cond := bif Nat.blt k 18 then (bif Nat.blt k 9 then ((.methodLink RX6 3 objectInit : Cond)) else (bif Nat.blt k 15 then ((.fieldLink RX6 9 "SlipWheel$Tongue" "following" "[I" : Cond)) else ((.fieldLink RX6 15 "SlipWheel$Tongue" "lineWords" "[I" : Cond)))) else (bif Nat.blt k 27 then (bif Nat.blt k 21 then ((.fieldLink RX6 18 "SlipWheel$Tongue" "lineLengths" "[I" : Cond)) else ((.methodLink RX6 21 arraycopyName : Cond))) else (bif Nat.blt k 31 then ((.fieldLink RX6 27 "SlipWheel$Tongue" "lines" "I" : Cond)) else ((.methodLinkNest RX6 31 yX8_slipEndsWith "SlipWheel" : Cond))))
def zlw7 (k : Nat) : Cond := bif Nat.blt k 42 then (bif Nat.blt k 25 then (bif Nat.blt k 15 then (bif Nat.blt k 9 then ((.methodLink RX7 3 objectInit : Cond)) else ((.fieldLink RX7 9 "SlipWheel$Wheel" "onSeat" "[I" : Cond))) else (bif Nat.blt k 19 then ((.fieldLink RX7 15 "SlipWheel$Wheel" "cells" "LSlipWheel$Cells;" : Cond)) else ((.methodLink RX7 19 arraycopyName : Cond)))) else (bif Nat.blt k 32 then (bif Nat.blt k 29 then ((.fieldLink RX7 25 "SlipWheel$Wheel" "standing" "I" : Cond)) else ((.fieldLink RX7 29 "SlipWheel$Wheel" "turns" "I" : Cond))) else (bif Nat.blt k 36 then ((.fieldLink RX7 32 "SlipWheel$Wheel" "backwards" "Z" : Cond)) else ((.methodLinkNest RX7 36 yX0_has "SlipWheel" : Cond))))) else (bif Nat.blt k 55 then (bif Nat.blt k 49 then (bif Nat.blt k 46 then ((.methodLink RX7 42 yX7_cellOn : Cond)) else ((.methodLink RX7 46 yX7_seatOf : Cond))) else (bif Nat.blt k 52 then ((.methodLinkNest RX7 49 yX0_isAlive "SlipWheel" : Cond)) else ((.methodLink RX7 52 yX7_seatBehind : Cond)))) else (bif Nat.blt k 62 then (bif Nat.blt k 59 then ((.methodLink RX7 55 yX7_livingSeatPast : Cond)) else ((.fieldLinkNest RX7 59 "SlipWheel$Cells" "number" "I" "SlipWheel" : Cond))) else (bif Nat.blt k 67 then ((.methodLink RX7 62 yJ9_floorMod_7cf53 : Cond)) else ((.methodLink RX7 67 yX7_seatOfTurn : Cond)))))
def zlw8 (k : Nat) : Cond := bif Nat.blt k 111 then (bif Nat.blt k 44 then (bif Nat.blt k 22 then (bif Nat.blt k 10 then (bif Nat.blt k 7 then ((.methodLink RX8 1 objectInit : Cond)) else (bif Nat.blt k 9 then ((.classLink RX8 7 "SlipWheel$Everything" : Cond)) else ((.methodLinkNest RX8 9 yX1_init "SlipWheel" : Cond)))) else (bif Nat.blt k 19 then (bif Nat.blt k 16 then ((.fieldLink RX8 10 "SlipWheel" "now" "LSlipWheel$Everything;" : Cond)) else ((.fieldLink RX8 16 "SlipWheel" "kept" "LSlipWheel$Everything;" : Cond))) else (bif Nat.blt k 21 then ((.classLink RX8 19 "SlipWheel$Tape" : Cond)) else ((.methodLinkNest RX8 21 yX5_init "SlipWheel" : Cond))))) else (bif Nat.blt k 34 then (bif Nat.blt k 28 then (bif Nat.blt k 26 then ((.fieldLink RX8 22 "SlipWheel" "tape" "LSlipWheel$Tape;" : Cond)) else ((.classLink RX8 26 "SlipWheel$Sheet" : Cond))) else (bif Nat.blt k 32 then ((.fieldLink RX8 28 "SlipWheel" "sheets" "[LSlipWheel$Sheet;" : Cond)) else ((.classLink RX8 32 "SlipWheel$Search" : Cond)))) else (bif Nat.blt k 39 then (bif Nat.blt k 35 then ((.methodLinkNest RX8 34 yX3_init "SlipWheel" : Cond)) else ((.fieldLink RX8 35 "SlipWheel" "search" "LSlipWheel$Search;" : Cond))) else (bif Nat.blt k 43 then ((.fieldLink RX8 39 "SlipWheel" "seatSets" "[I" : Cond)) else ((.methodLinkNest RX8 43 yX4_init "SlipWheel" : Cond)))))) else (bif Nat.blt k 79 then (bif Nat.blt k 62 then (bif Nat.blt k 52 then (bif Nat.blt k 48 then ((.methodLink RX8 44 yX8_isWord : Cond)) else ((.fieldLinkNest RX8 48 "SlipWheel$Everything" "tongue" "LSlipWheel$Tongue;" "SlipWheel" : Cond))) else (bif Nat.blt k 58 then ((.methodLinkNest RX8 52 yX6_changeFollowing "SlipWheel" : Cond)) else ((.methodLink RX8 58 yX8_isRowOfWords : Cond)))) else (bif Nat.blt k 69 then (bif Nat.blt k 65 then ((.methodLinkNest RX8 62 yX6_appendLine "SlipWheel" : Cond)) else ((.fieldLinkNest RX8 65 "SlipWheel$Everything" "cells" "LSlipWheel$Cells;" "SlipWheel" : Cond))) else (bif Nat.blt k 75 then ((.methodLinkNest RX8 69 yX0_append "SlipWheel" : Cond)) else ((.fieldLinkNest RX8 75 "SlipWheel$Everything" "wheel" "LSlipWheel$Wheel;" "SlipWheel" : Cond))))) else (bif Nat.blt k 96 then (bif Nat.blt k 88 then (bif Nat.blt k 85 then ((.methodLinkNest RX8 79 yX7_takeSeat "SlipWheel" : Cond)) else ((.methodLinkNest RX8 85 yX0_has "SlipWheel" : Cond))) else (bif Nat.blt k 92 then ((.methodLinkNest RX8 88 yX0_changeWeight "SlipWheel" : Cond)) else ((.methodLinkNest RX8 92 yX0_changeDead "SlipWheel" : Cond)))) else (bif Nat.blt k 104 then (bif Nat.blt k 100 then ((.methodLink RX8 96 yX8_bit : Cond)) else ((.methodLinkNest RX8 100 yX7_changeSeats "SlipWheel" : Cond))) else (bif Nat.blt k 107 then ((.methodLinkNest RX8 104 yX7_seatOf "SlipWheel" : Cond)) else ((.fieldLinkNest RX8 107 "SlipWheel$Wheel" "backwards" "Z" "SlipWheel" : Cond))))))) else (bif Nat.blt k 183 then (bif Nat.blt k 161 then (bif Nat.blt k 145 then (bif Nat.blt k 117 then (bif Nat.blt k 114 then ((.methodLinkNest RX8 111 yX0_kindOf "SlipWheel" : Cond)) else ((.methodLinkNest RX8 114 yX0_isAlive "SlipWheel" : Cond))) else (bif Nat.blt k 141 then ((.methodLinkNest RX8 117 yX0_weightOf "SlipWheel" : Cond)) else ((.fieldLinkNest RX8 141 "SlipWheel$Everything" "pages" "LSlipWheel$Pages;" "SlipWheel" : Cond)))) else (bif Nat.blt k 153 then (bif Nat.blt k 150 then ((.fieldLinkNest RX8 145 "SlipWheel$Pages" "length" "I" "SlipWheel" : Cond)) else ((.fieldLinkNest RX8 150 "SlipWheel$Cells" "number" "I" "SlipWheel" : Cond))) else (bif Nat.blt k 156 then ((.methodLinkNest RX8 153 yX0_living "SlipWheel" : Cond)) else ((.methodLink RX8 156 yJ6_bitCount_0f7a4 : Cond))))) else (bif Nat.blt k 173 then (bif Nat.blt k 167 then (bif Nat.blt k 164 then ((.fieldLinkNest RX8 161 "SlipWheel$Tongue" "lines" "I" "SlipWheel" : Cond)) else ((.methodLinkNest RX8 164 yX2_known "SlipWheel" : Cond))) else (bif Nat.blt k 170 then ((.methodLinkNest RX8 167 yX2_slip "SlipWheel" : Cond)) else ((.methodLinkNest RX8 170 yX6_mayCome "SlipWheel" : Cond)))) else (bif Nat.blt k 179 then (bif Nat.blt k 176 then ((.methodLinkNest RX8 173 yX7_seatOfTurn "SlipWheel" : Cond)) else ((.methodLinkNest RX8 176 yX7_cellOn "SlipWheel" : Cond))) else (bif Nat.blt k 182 then ((.fieldLinkNest RX8 179 "SlipWheel$Wheel" "turns" "I" "SlipWheel" : Cond)) else ((.methodLinkNest RX8 182 yX2_has "SlipWheel" : Cond)))))) else (bif Nat.blt k 219 then (bif Nat.blt k 206 then (bif Nat.blt k 189 then (bif Nat.blt k 186 then ((.methodLinkNest RX8 183 yX2_wordAt "SlipWheel" : Cond)) else ((.methodLinkNest RX8 186 yX2_writerAt "SlipWheel" : Cond))) else (bif Nat.blt k 192 then ((.methodLinkNest RX8 189 yX1_canCome "SlipWheel" : Cond)) else ((.methodLink RX8 192 yX8_holds : Cond)))) else (bif Nat.blt k 212 then (bif Nat.blt k 209 then ((.methodLinkNest RX8 206 yX7_goOn "SlipWheel" : Cond)) else ((.methodLinkNest RX8 209 yX1_addDrawnWord "SlipWheel" : Cond))) else (bif Nat.blt k 215 then ((.fieldLinkNest RX8 212 "SlipWheel$Everything" "lot" "I" "SlipWheel" : Cond)) else ((.methodLinkNest RX8 215 yX3_fewestTurns "SlipWheel" : Cond))))) else (bif Nat.blt k 249 then (bif Nat.blt k 232 then (bif Nat.blt k 226 then ((.methodLink RX8 219 yX8_soonWithin : Cond)) else ((.methodLinkNest RX8 226 yX2_habitOf "SlipWheel" : Cond))) else (bif Nat.blt k 235 then ((.methodLinkNest RX8 232 yX1_firstLineEnd "SlipWheel" : Cond)) else ((.methodLinkNest RX8 235 yX1_preventers "SlipWheel" : Cond)))) else (bif Nat.blt k 286 then (bif Nat.blt k 253 then ((.methodLinkNest RX8 249 yX1_copyFrom "SlipWheel" : Cond)) else ((.fieldLink RX8 253 "SlipWheel" "hasImage" "Z" : Cond))) else (bif Nat.blt k 289 then ((.methodLinkNest RX8 286 yX7_seatBehind "SlipWheel" : Cond)) else ((.methodLink RX8 289 yX8_slipWith : Cond)))))))
def zlw9 (k : Nat) : Cond := (.arrayClass .int : Cond)
def zlw10 (k : Nat) : Cond := bif Nat.blt k 266 then ((.constant RJ6 265 (1431655765) : Cond)) else (bif Nat.blt k 267 then ((.constant RJ6 266 (858993459) : Cond)) else ((.constant RJ6 267 (252645135) : Cond)))
def zlw11 (k : Nat) : Cond := (.arrayClass .int : Cond)
def zlw12 (k : Nat) : Cond := bif Nat.blt k 80 then (bif Nat.blt k 59 then (bif Nat.blt k 51 then (bif Nat.blt k 8 then ((.constant RL 7 (625341585) : Cond)) else (bif Nat.blt k 48 then ((.constant RL 8 (2147483647) : Cond)) else ((.methodLink RL 48 yL_cell : Cond)))) else (bif Nat.blt k 54 then ((.methodLink RL 51 yL_some : Cond)) else (bif Nat.blt k 55 then ((.methodLink RL 54 yX8_follow : Cond)) else ((.classLink RL 55 "SlipWheel" : Cond))))) else (bif Nat.blt k 69 then (bif Nat.blt k 62 then ((.methodLink RL 59 yX8_line : Cond)) else (bif Nat.blt k 65 then ((.methodLink RL 62 yX8_cell : Cond)) else ((.methodLink RL 65 yX8_weight : Cond)))) else (bif Nat.blt k 76 then (bif Nat.blt k 72 then ((.methodLink RL 69 yX8_swap : Cond)) else ((.methodLink RL 72 yX8_dead : Cond))) else (bif Nat.blt k 79 then ((.methodLink RL 76 yX8_turn : Cond)) else ((.methodLink RL 79 yX8_init : Cond)))))) else (bif Nat.blt k 101 then (bif Nat.blt k 89 then (bif Nat.blt k 84 then ((.methodLink RL 80 yL_build : Cond)) else (bif Nat.blt k 87 then ((.methodLink RL 84 yX8_count : Cond)) else ((.methodLink RL 87 yX8_come : Cond)))) else (bif Nat.blt k 95 then (bif Nat.blt k 92 then ((.methodLink RL 89 yX8_draw : Cond)) else ((.methodLink RL 92 yX8_read : Cond))) else (bif Nat.blt k 98 then ((.methodLink RL 95 yX8_told : Cond)) else ((.methodLink RL 98 yX8_prevented : Cond))))) else (bif Nat.blt k 110 then (bif Nat.blt k 104 then ((.methodLink RL 101 yX8_habit : Cond)) else (bif Nat.blt k 107 then ((.methodLink RL 104 yX8_reach : Cond)) else ((.methodLink RL 107 yX8_soon : Cond)))) else (bif Nat.blt k 117 then (bif Nat.blt k 114 then ((.methodLink RL 110 yX8_image : Cond)) else ((.methodLink RL 114 yX8_seed : Cond))) else (bif Nat.blt k 120 then ((.methodLink RL 117 yX8_restore : Cond)) else ((.methodLink RL 120 yX8_undo : Cond))))))
def zlw (c k : Nat) : Cond := bif Nat.blt c 6 then (bif Nat.blt c 3 then (bif Nat.blt c 1 then (zlw0 k) else (bif Nat.blt c 2 then (zlw1 k) else (zlw2 k))) else (bif Nat.blt c 4 then (zlw3 k) else (bif Nat.blt c 5 then (zlw4 k) else (zlw5 k)))) else (bif Nat.blt c 9 then (bif Nat.blt c 7 then (zlw6 k) else (bif Nat.blt c 8 then (zlw7 k) else (zlw8 k))) else (bif Nat.blt c 11 then (bif Nat.blt c 10 then (zlw9 k) else (zlw10 k)) else (bif Nat.blt c 12 then (zlw11 k) else (zlw12 k))))
/-- the pools' entries, with the words' places in lw_tbl -/
def zlks : List (Nat × Nat × Nat) := [(0, 3, 103), (0, 9, 104), (0, 15, 105), (0, 19, 106), (0, 22, 540), (0, 28, 107), (0, 32, 267), (0, 36, 299), (0, 39, 288), (0, 42, 407), (0, 46, 410), (1, 3, 76), (1, 9, 77), (1, 11, 79), (1, 12, 162), (1, 18, 98), (1, 20, 100), (1, 21, 164), (1, 25, 120), (1, 27, 122), (1, 30, 166), (1, 34, 144), (1, 36, 146), (1, 37, 169), (1, 41, 172), (1, 45, 529), (1, 49, 536), (1, 51, 541), (1, 54, 546), (1, 57, 375), (1, 61, 376), (1, 64, 380), (1, 68, 392), (1, 71, 411), (1, 75, 460), (1, 79, 389), (1, 83, 390), (1, 86, 391), (1, 89, 393), (1, 93, 397), (1, 96, 413), (1, 100, 401), (1, 101, 402), (1, 102, 403), (1, 105, 412), (1, 117, 501), (1, 122, 502), (1, 125, 503), (1, 128, 153), (1, 131, 497), (1, 134, 511), (1, 137, 515), (1, 140, 516), (1, 143, 520), (2, 3, 149), (2, 9, 150), (2, 15, 151), (2, 18, 550), (2, 24, 152), (2, 28, 314), (2, 32, 310), (2, 36, 329), (2, 39, 322), (2, 42, 326), (2, 48, 333), (3, 3, 207), (3, 9, 208), (3, 15, 209), (3, 19, 167), (3, 25, 441), (3, 31, 210), (3, 35, 170), (3, 39, 442), (3, 44, 443), (3, 48, 448), (3, 52, 462), (3, 56, 452), (3, 59, 463), (3, 63, 456), (3, 67, 461), (3, 71, 467), (3, 74, 468), (3, 78, 447), (3, 82, 469), (4, 3, 223), (4, 9, 224), (4, 15, 225), (5, 3, 190), (5, 9, 191), (5, 15, 192), (6, 3, 82), (6, 9, 83), (6, 15, 84), (6, 18, 85), (6, 21, 533), (6, 27, 86), (6, 31, 340), (7, 3, 125), (7, 9, 127), (7, 15, 126), (7, 19, 545), (7, 25, 128), (7, 29, 129), (7, 32, 131), (7, 36, 276), (7, 42, 272), (7, 46, 610), (7, 49, 347), (7, 52, 348), (7, 55, 352), (7, 59, 108), (7, 62, 356), (7, 67, 421), (8, 1, 68), (8, 7, 71), (8, 9, 73), (8, 10, 233), (8, 16, 234), (8, 19, 185), (8, 21, 187), (8, 22, 235), (8, 26, 200), (8, 28, 236), (8, 32, 202), (8, 34, 204), (8, 35, 237), (8, 39, 238), (8, 43, 220), (8, 44, 474), (8, 48, 163), (8, 52, 570), (8, 58, 434), (8, 62, 578), (8, 65, 165), (8, 69, 586), (8, 75, 168), (8, 79, 590), (8, 85, 259), (8, 88, 598), (8, 92, 615), (8, 96, 281), (8, 100, 606), (8, 104, 268), (8, 107, 132), (8, 111, 263), (8, 114, 277), (8, 117, 284), (8, 141, 171), (8, 145, 154), (8, 150, 109), (8, 153, 295), (8, 156, 300), (8, 161, 87), (8, 164, 306), (8, 167, 318), (8, 170, 336), (8, 173, 343), (8, 176, 359), (8, 179, 130), (8, 182, 364), (8, 183, 365), (8, 186, 366), (8, 189, 371), (8, 192, 479), (8, 206, 417), (8, 209, 385), (8, 212, 173), (8, 215, 437), (8, 219, 475), (8, 226, 485), (8, 232, 493), (8, 235, 507), (8, 249, 525), (8, 253, 239), (8, 286, 478), (8, 289, 480), (10, 265, 303), (10, 266, 304), (10, 267, 305), (12, 7, 558), (12, 8, 562), (12, 48, 555), (12, 51, 559), (12, 54, 566), (12, 55, 63), (12, 59, 574), (12, 62, 582), (12, 65, 594), (12, 69, 602), (12, 72, 611), (12, 76, 619), (12, 79, 65), (12, 80, 563), (12, 84, 291), (12, 87, 367), (12, 89, 381), (12, 92, 360), (12, 95, 255), (12, 98, 489), (12, 101, 481), (12, 104, 430), (12, 107, 470), (12, 110, 521), (12, 114, 422), (12, 117, 551), (12, 120, 426)]
def zini (c : Nat) : Nat := bif Nat.blt c 6 then (bif Nat.blt c 3 then (bif Nat.blt c 1 then (54) else (bif Nat.blt c 2 then (52) else (56))) else (bif Nat.blt c 4 then (58) else (bif Nat.blt c 5 then (59) else (57)))) else (bif Nat.blt c 9 then (bif Nat.blt c 7 then (53) else (bif Nat.blt c 8 then (55) else (51))) else (bif Nat.blt c 11 then (bif Nat.blt c 10 then (0) else (60)) else (bif Nat.blt c 12 then (61) else (50))))
/-- the places of a method's words: code, static or instance, selects -/
def zmx (i : Nat) : Nat × Nat × Nat := bif Nat.blt i 46 then (bif Nat.blt i 23 then (bif Nat.blt i 11 then (bif Nat.blt i 5 then (bif Nat.blt i 2 then (bif Nat.blt i 1 then ((102, 101, 0)) else ((539, 538, 40))) else (bif Nat.blt i 3 then ((262, 261, 0)) else (bif Nat.blt i 4 then ((589, 588, 45)) else ((266, 265, 1))))) else (bif Nat.blt i 8 then (bif Nat.blt i 6 then ((280, 279, 4)) else (bif Nat.blt i 7 then ((618, 617, 49)) else ((298, 297, 6)))) else (bif Nat.blt i 9 then ((287, 286, 5)) else (bif Nat.blt i 10 then ((601, 600, 47)) else ((406, 405, 22)))))) else (bif Nat.blt i 17 then (bif Nat.blt i 14 then (bif Nat.blt i 12 then ((379, 378, 18)) else (bif Nat.blt i 13 then ((75, 74, 0)) else ((528, 527, 38)))) else (bif Nat.blt i 15 then ((374, 373, 17)) else (bif Nat.blt i 16 then ((459, 458, 29)) else ((388, 387, 19))))) else (bif Nat.blt i 20 then (bif Nat.blt i 18 then ((400, 399, 21)) else (bif Nat.blt i 19 then ((500, 499, 33)) else ((496, 495, 32)))) else (bif Nat.blt i 21 then ((510, 509, 35)) else (bif Nat.blt i 22 then ((519, 518, 37)) else ((148, 147, 0))))))) else (bif Nat.blt i 34 then (bif Nat.blt i 28 then (bif Nat.blt i 25 then (bif Nat.blt i 24 then ((549, 548, 42)) else ((396, 395, 20))) else (bif Nat.blt i 26 then ((317, 316, 9)) else (bif Nat.blt i 27 then ((416, 415, 23)) else ((332, 331, 12))))) else (bif Nat.blt i 31 then (bif Nat.blt i 29 then ((313, 312, 8)) else (bif Nat.blt i 30 then ((309, 308, 7)) else ((488, 487, 31)))) else (bif Nat.blt i 32 then ((321, 320, 10)) else (bif Nat.blt i 33 then ((325, 324, 11)) else ((206, 205, 0)))))) else (bif Nat.blt i 40 then (bif Nat.blt i 37 then (bif Nat.blt i 35 then ((440, 439, 25)) else (bif Nat.blt i 36 then ((451, 450, 27)) else ((455, 454, 28)))) else (bif Nat.blt i 38 then ((466, 465, 30)) else (bif Nat.blt i 39 then ((446, 445, 26)) else ((222, 221, 0))))) else (bif Nat.blt i 43 then (bif Nat.blt i 41 then ((189, 188, 0)) else (bif Nat.blt i 42 then ((81, 80, 0)) else ((532, 531, 39)))) else (bif Nat.blt i 44 then ((573, 572, 43)) else (bif Nat.blt i 45 then ((581, 580, 44)) else ((339, 338, 13)))))))) else (bif Nat.blt i 69 then (bif Nat.blt i 57 then (bif Nat.blt i 51 then (bif Nat.blt i 48 then (bif Nat.blt i 47 then ((506, 505, 34)) else ((514, 513, 36))) else (bif Nat.blt i 49 then ((124, 123, 0)) else (bif Nat.blt i 50 then ((544, 543, 41)) else ((593, 592, 46))))) else (bif Nat.blt i 54 then (bif Nat.blt i 52 then ((275, 274, 3)) else (bif Nat.blt i 53 then ((271, 270, 2)) else ((609, 608, 48)))) else (bif Nat.blt i 55 then ((346, 345, 14)) else (bif Nat.blt i 56 then ((351, 350, 15)) else ((355, 354, 16)))))) else (bif Nat.blt i 63 then (bif Nat.blt i 60 then (bif Nat.blt i 58 then ((420, 419, 24)) else (bif Nat.blt i 59 then ((67, 66, 0)) else ((569, 567, 568)))) else (bif Nat.blt i 61 then ((577, 575, 576)) else (bif Nat.blt i 62 then ((585, 583, 584)) else ((597, 595, 596))))) else (bif Nat.blt i 66 then (bif Nat.blt i 64 then ((614, 612, 613)) else (bif Nat.blt i 65 then ((605, 603, 604)) else ((622, 620, 621)))) else (bif Nat.blt i 67 then ((258, 256, 257)) else (bif Nat.blt i 68 then ((294, 292, 293)) else ((363, 361, 362))))))) else (bif Nat.blt i 81 then (bif Nat.blt i 75 then (bif Nat.blt i 72 then (bif Nat.blt i 70 then ((370, 368, 369)) else (bif Nat.blt i 71 then ((384, 382, 383)) else ((425, 423, 424)))) else (bif Nat.blt i 73 then ((429, 427, 428)) else (bif Nat.blt i 74 then ((433, 431, 432)) else ((473, 471, 472))))) else (bif Nat.blt i 78 then (bif Nat.blt i 76 then ((484, 482, 483)) else (bif Nat.blt i 77 then ((492, 490, 491)) else ((524, 522, 523)))) else (bif Nat.blt i 79 then ((554, 552, 553)) else (bif Nat.blt i 80 then ((290, 289, 0)) else ((436, 435, 0)))))) else (bif Nat.blt i 87 then (bif Nat.blt i 84 then (bif Nat.blt i 82 then ((409, 408, 0)) else (bif Nat.blt i 83 then ((283, 282, 0)) else ((335, 334, 0)))) else (bif Nat.blt i 85 then ((342, 341, 0)) else (bif Nat.blt i 86 then ((477, 476, 0)) else ((302, 301, 0))))) else (bif Nat.blt i 90 then (bif Nat.blt i 88 then ((358, 357, 0)) else (bif Nat.blt i 89 then ((328, 327, 0)) else ((557, 556, 0)))) else (bif Nat.blt i 91 then ((561, 560, 0)) else (bif Nat.blt i 92 then ((565, 564, 0)) else ((0, 0, 0))))))))
/-- 0 an instance method, 1 a static one, 2 a constructor -/
def zmk (i : Nat) : Nat := bif Nat.blt i 46 then (bif Nat.blt i 23 then (bif Nat.blt i 11 then (bif Nat.blt i 5 then (bif Nat.blt i 2 then (bif Nat.blt i 1 then (2) else (0)) else (bif Nat.blt i 3 then (0) else (bif Nat.blt i 4 then (0) else (0)))) else (bif Nat.blt i 8 then (bif Nat.blt i 6 then (0) else (bif Nat.blt i 7 then (0) else (0))) else (bif Nat.blt i 9 then (0) else (bif Nat.blt i 10 then (0) else (0))))) else (bif Nat.blt i 17 then (bif Nat.blt i 14 then (bif Nat.blt i 12 then (0) else (bif Nat.blt i 13 then (2) else (0))) else (bif Nat.blt i 15 then (0) else (bif Nat.blt i 16 then (0) else (0)))) else (bif Nat.blt i 20 then (bif Nat.blt i 18 then (0) else (bif Nat.blt i 19 then (0) else (0))) else (bif Nat.blt i 21 then (0) else (bif Nat.blt i 22 then (0) else (2)))))) else (bif Nat.blt i 34 then (bif Nat.blt i 28 then (bif Nat.blt i 25 then (bif Nat.blt i 24 then (0) else (0)) else (bif Nat.blt i 26 then (0) else (bif Nat.blt i 27 then (0) else (0)))) else (bif Nat.blt i 31 then (bif Nat.blt i 29 then (0) else (bif Nat.blt i 30 then (0) else (0))) else (bif Nat.blt i 32 then (0) else (bif Nat.blt i 33 then (0) else (2))))) else (bif Nat.blt i 40 then (bif Nat.blt i 37 then (bif Nat.blt i 35 then (0) else (bif Nat.blt i 36 then (0) else (0))) else (bif Nat.blt i 38 then (0) else (bif Nat.blt i 39 then (0) else (2)))) else (bif Nat.blt i 43 then (bif Nat.blt i 41 then (2) else (bif Nat.blt i 42 then (2) else (0))) else (bif Nat.blt i 44 then (0) else (bif Nat.blt i 45 then (0) else (0))))))) else (bif Nat.blt i 69 then (bif Nat.blt i 57 then (bif Nat.blt i 51 then (bif Nat.blt i 48 then (bif Nat.blt i 47 then (0) else (0)) else (bif Nat.blt i 49 then (2) else (bif Nat.blt i 50 then (0) else (0)))) else (bif Nat.blt i 54 then (bif Nat.blt i 52 then (0) else (bif Nat.blt i 53 then (0) else (0))) else (bif Nat.blt i 55 then (0) else (bif Nat.blt i 56 then (0) else (0))))) else (bif Nat.blt i 63 then (bif Nat.blt i 60 then (bif Nat.blt i 58 then (0) else (bif Nat.blt i 59 then (2) else (0))) else (bif Nat.blt i 61 then (0) else (bif Nat.blt i 62 then (0) else (0)))) else (bif Nat.blt i 66 then (bif Nat.blt i 64 then (0) else (bif Nat.blt i 65 then (0) else (0))) else (bif Nat.blt i 67 then (0) else (bif Nat.blt i 68 then (0) else (0)))))) else (bif Nat.blt i 81 then (bif Nat.blt i 75 then (bif Nat.blt i 72 then (bif Nat.blt i 70 then (0) else (bif Nat.blt i 71 then (0) else (0))) else (bif Nat.blt i 73 then (0) else (bif Nat.blt i 74 then (0) else (0)))) else (bif Nat.blt i 78 then (bif Nat.blt i 76 then (0) else (bif Nat.blt i 77 then (0) else (0))) else (bif Nat.blt i 79 then (0) else (bif Nat.blt i 80 then (1) else (1))))) else (bif Nat.blt i 87 then (bif Nat.blt i 84 then (bif Nat.blt i 82 then (1) else (bif Nat.blt i 83 then (1) else (1))) else (bif Nat.blt i 85 then (1) else (bif Nat.blt i 86 then (1) else (1)))) else (bif Nat.blt i 90 then (bif Nat.blt i 88 then (1) else (bif Nat.blt i 89 then (1) else (1))) else (bif Nat.blt i 91 then (1) else (bif Nat.blt i 92 then (1) else (1)))))))
def zna (i : Nat) : Nat := bif Nat.blt i 46 then (bif Nat.blt i 23 then (bif Nat.blt i 11 then (bif Nat.blt i 5 then (bif Nat.blt i 2 then (bif Nat.blt i 1 then (0) else (1)) else (bif Nat.blt i 3 then (1) else (bif Nat.blt i 4 then (1) else (1)))) else (bif Nat.blt i 8 then (bif Nat.blt i 6 then (1) else (bif Nat.blt i 7 then (2) else (0))) else (bif Nat.blt i 9 then (2) else (bif Nat.blt i 10 then (3) else (2))))) else (bif Nat.blt i 17 then (bif Nat.blt i 14 then (bif Nat.blt i 12 then (1) else (bif Nat.blt i 13 then (0) else (1))) else (bif Nat.blt i 15 then (2) else (bif Nat.blt i 16 then (1) else (0)))) else (bif Nat.blt i 20 then (bif Nat.blt i 18 then (2) else (bif Nat.blt i 19 then (1) else (0))) else (bif Nat.blt i 21 then (1) else (bif Nat.blt i 22 then (2) else (0)))))) else (bif Nat.blt i 34 then (bif Nat.blt i 28 then (bif Nat.blt i 25 then (bif Nat.blt i 24 then (1) else (0)) else (bif Nat.blt i 26 then (1) else (bif Nat.blt i 27 then (2) else (1)))) else (bif Nat.blt i 31 then (bif Nat.blt i 29 then (1) else (bif Nat.blt i 30 then (0) else (2))) else (bif Nat.blt i 32 then (0) else (bif Nat.blt i 33 then (1) else (0))))) else (bif Nat.blt i 40 then (bif Nat.blt i 37 then (bif Nat.blt i 35 then (3) else (bif Nat.blt i 36 then (5) else (1))) else (bif Nat.blt i 38 then (4) else (bif Nat.blt i 39 then (2) else (0)))) else (bif Nat.blt i 43 then (bif Nat.blt i 41 then (0) else (bif Nat.blt i 42 then (0) else (1))) else (bif Nat.blt i 44 then (2) else (bif Nat.blt i 45 then (2) else (2))))))) else (bif Nat.blt i 69 then (bif Nat.blt i 57 then (bif Nat.blt i 51 then (bif Nat.blt i 48 then (bif Nat.blt i 47 then (2) else (1)) else (bif Nat.blt i 49 then (1) else (bif Nat.blt i 50 then (1) else (1)))) else (bif Nat.blt i 54 then (bif Nat.blt i 52 then (1) else (bif Nat.blt i 53 then (1) else (2))) else (bif Nat.blt i 55 then (0) else (bif Nat.blt i 56 then (1) else (2))))) else (bif Nat.blt i 63 then (bif Nat.blt i 60 then (bif Nat.blt i 58 then (0) else (bif Nat.blt i 59 then (0) else (2))) else (bif Nat.blt i 61 then (2) else (bif Nat.blt i 62 then (1) else (3)))) else (bif Nat.blt i 66 then (bif Nat.blt i 64 then (2) else (bif Nat.blt i 65 then (2) else (1))) else (bif Nat.blt i 67 then (2) else (bif Nat.blt i 68 then (1) else (2)))))) else (bif Nat.blt i 81 then (bif Nat.blt i 75 then (bif Nat.blt i 72 then (bif Nat.blt i 70 then (1) else (bif Nat.blt i 71 then (1) else (1))) else (bif Nat.blt i 73 then (1) else (bif Nat.blt i 74 then (2) else (2)))) else (bif Nat.blt i 78 then (bif Nat.blt i 76 then (2) else (bif Nat.blt i 77 then (1) else (0))) else (bif Nat.blt i 79 then (0) else (bif Nat.blt i 80 then (1) else (3))))) else (bif Nat.blt i 87 then (bif Nat.blt i 84 then (bif Nat.blt i 82 then (2) else (bif Nat.blt i 83 then (1) else (2))) else (bif Nat.blt i 85 then (3) else (bif Nat.blt i 86 then (5) else (1)))) else (bif Nat.blt i 90 then (bif Nat.blt i 88 then (2) else (bif Nat.blt i 89 then (2) else (2))) else (bif Nat.blt i 91 then (2) else (bif Nat.blt i 92 then (9) else (1)))))))
def zly (c k : Nat) : Nat := bif Nat.blt c 4 then (bif Nat.blt c 2 then (bif Nat.blt c 1 then ((bif Nat.blt k 2 then (bif Nat.blt k 1 then (110) else (112)) else (bif Nat.blt k 3 then (114) else (116)))) else ((bif Nat.blt k 2 then (bif Nat.blt k 1 then (174) else (176)) else (bif Nat.blt k 3 then (178) else (bif Nat.blt k 4 then (180) else (182)))))) else (bif Nat.blt c 3 then ((bif Nat.blt k 1 then (155) else (bif Nat.blt k 2 then (157) else (159)))) else ((bif Nat.blt k 1 then (211) else (bif Nat.blt k 2 then (213) else (215)))))) else (bif Nat.blt c 6 then (bif Nat.blt c 5 then ((bif Nat.blt k 1 then (226) else (bif Nat.blt k 2 then (228) else (230)))) else ((bif Nat.blt k 1 then (193) else (bif Nat.blt k 2 then (195) else (197))))) else (bif Nat.blt c 7 then ((bif Nat.blt k 2 then (bif Nat.blt k 1 then (88) else (90)) else (bif Nat.blt k 3 then (92) else (94)))) else (bif Nat.blt c 8 then ((bif Nat.blt k 2 then (bif Nat.blt k 1 then (133) else (135)) else (bif Nat.blt k 3 then (137) else (bif Nat.blt k 4 then (139) else (141))))) else ((bif Nat.blt k 3 then (bif Nat.blt k 1 then (240) else (bif Nat.blt k 2 then (242) else (244))) else (bif Nat.blt k 5 then (bif Nat.blt k 4 then (246) else (248)) else (bif Nat.blt k 6 then (250) else (252))))))))
def zin9 (c : Nat) : Nat := bif Nat.blt c 4 then (bif Nat.blt c 2 then (bif Nat.blt c 1 then (99) else (72)) else (bif Nat.blt c 3 then (145) else (203))) else (bif Nat.blt c 6 then (bif Nat.blt c 5 then (219) else (186)) else (bif Nat.blt c 7 then (78) else (bif Nat.blt c 8 then (121) else (64))))
def zac (t : ArrayType) : Nat := match t with
  | .int => 97
  | .boolean => 119
  | _ => 218
end
section
/-- the words that a callee may take over -/
def zWS : List Cond := lw_tbl.filter goodWord
def zisN (w : Cond) : Bool := match w with
  | .fieldLinkNest _ _ _ _ _ _ => true
  | .methodLinkNest _ _ _ _ => true
  | _ => false
def zNst : List Cond := lw_tbl.filter zisN
/-- a word at a place of the tables -/
def zAt (k : Nat) (w : Cond) : Bool := decide (lw_tbl[k]? = some w)
theorem zAt_ok {k : Nat} {w : Cond} (h : zAt k w = true) : w ∈ lw_tbl := List.mem_of_getElem? (of_decide_eq_true h)
theorem zWS_in {w : Cond} (h : w ∈ lw_tbl) (hg : goodWord w = true) : w ∈ zWS := List.mem_filter.mpr ⟨h, hg⟩
theorem zNst_in {w : Cond} (h : w ∈ lw_tbl) (hg : zisN w = true) : w ∈ zNst := List.mem_filter.mpr ⟨h, hg⟩
def zon (c : Nat) : String := match c with
  | 0 => RX0 | 1 => RX1 | 2 => RX2 | 3 => RX3 | 4 => RX4 | 5 => RX5 | 6 => RX6 | 7 => RX7 | 8 => RX8 | 10 => RJ6 | 11 => RJ9 | _ => RL
/-- the pools' words -/
def zlkb (q : Nat × Nat × Nat) : Bool := zAt q.2.2 (zlw q.1 q.2.1) && (goodWord (zlw q.1 q.2.1) || zisN (zlw q.1 q.2.1))
theorem zlk_all : zlks.all zlkb = true := by decide +kernel
/-- a pool's entry that is listed -/
def zlk (c k : Nat) : Bool := zlks.any (fun q => Nat.beq q.1 c && Nat.beq q.2.1 k)
theorem zlk_ok {c k : Nat} (h : zlk c k = true) : zlw c k ∈ lw_tbl ∧ (goodWord (zlw c k) || zisN (zlw c k)) = true := by
  obtain ⟨q, hq, h2⟩ := List.any_eq_true.mp h
  have h1 := List.all_eq_true.mp zlk_all q hq
  simp only [zlkb, Bool.and_eq_true] at h1 h2
  have e1 := Nat.eq_of_beq_eq_true h2.1
  have e2 := Nat.eq_of_beq_eq_true h2.2
  rw [e1, e2] at h1
  exact ⟨zAt_ok h1.1, h1.2⟩
def zcodes : List Cond := (List.range 92).map (fun j => Cond.code (zNm j) (zBy j) (zml j) (zRt j))
set_option maxRecDepth 100000 in
theorem zcodes_at : zcodes.map some = (List.range 92).map (fun j => lw_tbl[(zmx j).1]?) := rfl
theorem zcode_in {j : Nat} (h : j < 92) : Cond.code (zNm j) (zBy j) (zml j) (zRt j) ∈ lw_tbl := by
  have h1 := congrArg (fun z : List (Option Cond) => z[j]?) zcodes_at
  simp only [zcodes, List.map_map, List.getElem?_map, List.getElem?_range h, Option.map_some, Function.comp] at h1
  exact List.mem_of_getElem? (Option.some.inj h1).symm
/-- a method's own words -/
def zmb (j : Nat) : Bool := let y := zNm j
  zAt (zini (zoc j)) (.initialized y.cls) && decide (y.cls = zon (zoc j)) && decide (y.cls ≠ "java/lang/invoke/MethodHandle" ∧ y.cls ≠ "java/lang/invoke/VarHandle") && plainFor y &&
  decide ((parseMethodDescriptor y.desc).map (fun d => d.parameters.length) = some (zna j)) && (decide (zRt j = none) || decide (zRt j = some .int) || decide (zRt j = some .boolean)) && Nat.ble (zml j) 21 &&
  (match zmk j with
    | 0 => zAt (zmx j).2.1 (.instanceMethod y) && zAt (zmx j).2.2 (.selects y.cls y y) && Nat.blt (zoc j) 9 && Nat.beq (zci j) (zoc j)
    | 1 => zAt (zmx j).2.1 (.static y)
    | _ => zAt (zmx j).2.1 (.instanceMethod y) && decide (y.name = "<init>") && decide (zRt j = none))
theorem zmb_all : (List.range 92).all zmb = true := by decide +kernel
theorem zmb_ok {j : Nat} (h : j < 92) : zmb j = true := List.all_eq_true.mp zmb_all j (List.mem_range.mpr h)
/-- an instruction's link: its pool's entry is this word -/
def zLk (i idx : Nat) (w : Cond) : Bool := zlk (zoc i) idx && decide (zlw (zoc i) idx = w)
def zchk (i pc : Nat) (e : zEn) : Bool := match e with
  | (ins, len, p, r, q) => match ins with
    | .iload _ | .lload _ | .aload _ | .istore _ | .astore _ => Nat.beq len 2
    | .iload_n _ | .lload_n _ | .aload_n _ | .istore_n _ | .astore_n _ => Nat.beq len 1
    | .iinc _ _ => Nat.beq len 3
    | .bipush n => Nat.beq len 2 && decide ((Int8.ofInt n).toInt32 = Int32.ofInt q ∧ -2147483648 ≤ q ∧ q < 2147483648)
    | .sipush n => Nat.beq len 3 && decide ((Int16.ofInt n).toInt32 = Int32.ofInt q ∧ -2147483648 ≤ q ∧ q < 2147483648)
    | .iconst n => Nat.beq len 1 && decide (Int32.ofInt n = Int32.ofInt q ∧ -2147483648 ≤ q ∧ q < 2147483648)
    | .ldc idx => Nat.beq len 2 && zLk i idx (.constant (zon (zoc i)) idx (Int32.ofInt q)) && decide (-2147483648 ≤ q ∧ q < 2147483648)
    | .ldc_w idx => Nat.beq len 3 && zLk i idx (.constant (zon (zoc i)) idx (Int32.ofInt q)) && decide (-2147483648 ≤ q ∧ q < 2147483648)
    | .lconst n => Nat.beq len 1 && decide (Int64.ofNat n.val = Int64.ofInt q ∧ -9223372036854775808 ≤ q ∧ q < 9223372036854775808)
    | .ldc2_w idx => Nat.beq len 3 && zLk i idx (.constantLong (zon (zoc i)) idx (Int64.ofInt q)) && decide (-9223372036854775808 ≤ q ∧ q < 9223372036854775808)
    | .iadd | .isub | .imul | .idiv | .irem | .ishl | .ishr | .iushr | .iand | .ior | .ixor | .i2b | .i2s | .i2l | .l2i | .ladd | .lmul | .land | .lor | .lshl | .lshr | .lcmp | .dup | .dup2 | .pop => Nat.beq len 1
    | .goto off | .if_icmp _ off | .ifCond _ off => Nat.beq len 3 && decide ((pc : Int) + off = (p : Int))
    | .tableswitch d lo hi offs => decide (0 ≤ (pc : Int) + d) && offs.toList.all (fun o => decide (0 ≤ (pc : Int) + o)) && decide ((offs.size : Int) = hi - lo + 1)
    | .getfield idx => Nat.beq len 3 && (match zCl[r]? with
      | some (_, T, N) => Nat.blt p N && (if q = 1 then zLk i idx (.fieldLinkNest (zon (zoc i)) idx (T p).1 (T p).2.1 (T p).2.2.1 "SlipWheel") else zLk i idx (.fieldLink (zon (zoc i)) idx (T p).1 (T p).2.1 (T p).2.2.1))
      | none => false)
    | .putfield idx => Nat.beq len 3 && (match zCl[r]? with
      | some (_, T, N) => Nat.blt p N && (if q = 1 then zLk i idx (.fieldLinkNest (zon (zoc i)) idx (T p).1 (T p).2.1 (T p).2.2.1 "SlipWheel") && !(T p).2.2.2 else zLk i idx (.fieldLink (zon (zoc i)) idx (T p).1 (T p).2.1 (T p).2.2.1) && (!(T p).2.2.2 || (Nat.beq (zmk i) 2 && decide ((T p).1 = zon (zoc i)))))
      | none => false)
    | .iaload | .arraylength => Nat.beq len 1 && (Nat.beq p 0 || Nat.beq p 1)
    | .baload | .aaload | .iastore | .bastore | .aastore => Nat.beq len 1
    | .new idx => Nat.beq len 3 && (match zCl[r]? with
      | some (C, _, N) => Nat.beq p N && zLk i idx (.classLink (zon (zoc i)) idx C)
      | none => false)
    | .newarray t => Nat.beq len 2 && zAt (zac t) (.arrayClass (newarray.typeOf t))
    | .anewarray idx => Nat.beq len 3 && zLk i idx (.classLink (zon (zoc i)) idx "SlipWheel$Sheet")
    | .invokevirtual idx => Nat.beq len 3 && Nat.blt p 92 && Nat.beq r (zna p + 1) && decide (10 ≤ q ↔ zRt p ≠ none) && Nat.beq (zmk p) 0 &&
        (if q = 0 ∨ q = 10 then zLk i idx (.methodLink (zon (zoc i)) idx (zNm p)) else zLk i idx (.methodLinkNest (zon (zoc i)) idx (zNm p) "SlipWheel") && decide (q = 1 ∨ q = 11))
    | .invokestatic idx => Nat.beq len 3 && (if q = 7 then zLk i idx (.methodLink (zon (zoc i)) idx arraycopyName)
        else Nat.blt p 92 && Nat.beq r (zna p) && decide (10 ≤ q ↔ zRt p ≠ none) && Nat.beq (zmk p) 1 &&
        (if q = 2 ∨ q = 12 then zLk i idx (.methodLink (zon (zoc i)) idx (zNm p)) else zLk i idx (.methodLinkNest (zon (zoc i)) idx (zNm p) "SlipWheel") && decide (q = 3 ∨ q = 13)))
    | .invokespecial idx => Nat.beq len 3 && (if q = 6 then zLk i idx (.methodLink (zon (zoc i)) idx objectInit)
        else Nat.blt p 92 && Nat.beq r (zna p + 1) && Nat.beq (zmk p) 2 &&
        (if q = 4 then zLk i idx (.methodLink (zon (zoc i)) idx (zNm p)) else zLk i idx (.methodLinkNest (zon (zoc i)) idx (zNm p) "SlipWheel") && decide (q = 5)))
    | .ireturn => Nat.beq len 1 && (if q = 1 then decide (zRt i = some .boolean) else decide (zRt i = some .int))
    | .return_ => Nat.beq len 1 && decide (zRt i = none)
    | _ => false
def zcki (i : Nat) : Bool := (List.range (zsz i)).all (fun pc => match zC i pc with
  | none => true
  | some e => zchk i pc e)
def zckr (a n : Nat) : Bool := (List.range n).all (fun k => zcki (a + k))
end
section
theorem zck_0 : zckr 0 50 = true := by decide +kernel
theorem zck_50 : zckr 50 41 = true := by decide +kernel
theorem zck_l : zckr 91 2 = true := by decide +kernel
end
section
def zdk (i : Nat) : Bool := (List.range (zsz i)).all (fun pc => match zC i pc with
  | none => true
  | some (ins, len, _) => decide (decode (zBy i) pc = .ok (ins, len)))
def zdr (a n : Nat) : Bool := (List.range n).all (fun k => zdk (a + k))
theorem zdk_0 : zdr 0 30 = true := by decide +kernel
theorem zdk_30 : zdr 30 30 = true := by decide +kernel
theorem zdk_60 : zdr 60 31 = true := by decide +kernel
end
section
def zdq (i pc : Nat) : Bool := match zC i pc with
  | none => true
  | some (ins, len, _) => decide (decode (zBy i) pc = .ok (ins, len))
theorem zdq_91_0 : (List.range 300).all (fun k => zdq 91 (0 + k)) = true := by decide +kernel
theorem zdq_91_300 : (List.range 300).all (fun k => zdq 91 (300 + k)) = true := by decide +kernel
theorem zdq_91_600 : (List.range 300).all (fun k => zdq 91 (600 + k)) = true := by decide +kernel
theorem zdq_92_0 : (List.range 300).all (fun k => zdq 92 (0 + k)) = true := by decide +kernel
theorem zdq_92_300 : (List.range 300).all (fun k => zdq 92 (300 + k)) = true := by decide +kernel
theorem zdq_92_600 : (List.range 300).all (fun k => zdq 92 (600 + k)) = true := by decide +kernel
theorem zC_lt {i pc : Nat} {e : zEn} (h : zC i pc = some e) : i < 93 ∧ pc < zsz i := by
  unfold zC at h
  cases hc : (Nat.blt i 93 && Nat.blt pc (zsz i)) with
  | false => rw [hc] at h; cases h
  | true =>
    simp only [Bool.and_eq_true] at hc
    exact ⟨Nat.blt_eq.mp hc.1, Nat.blt_eq.mp hc.2⟩
theorem zrange {f : Nat → Bool} {a n i : Nat} (h : (List.range n).all (fun k => f (a + k)) = true) (h1 : a ≤ i) (h2 : i < a + n) : f i = true := by
  have h3 := List.all_eq_true.mp h (i - a) (List.mem_range.mpr (by omega))
  rwa [show a + (i - a) = i by omega] at h3
theorem zsz_91 : zsz 91 ≤ 793 := by decide +kernel
theorem zdk_91 : zdk 91 = true := by
  refine List.all_eq_true.mpr fun pc hpc => ?_
  have h := List.mem_range.mp hpc
  have h2 := zsz_91
  show zdq 91 pc = true
  by_cases h3 : pc < 300
  · exact zrange zdq_91_0 (by omega) (by omega)
  by_cases h303 : pc < 600
  · exact zrange zdq_91_300 (by omega) (by omega)
  exact zrange zdq_91_600 (by omega) (by omega)
theorem zsz_92 : zsz 92 ≤ 842 := by decide +kernel
theorem zdk_92 : zdk 92 = true := by
  refine List.all_eq_true.mpr fun pc hpc => ?_
  have h := List.mem_range.mp hpc
  have h2 := zsz_92
  show zdq 92 pc = true
  by_cases h3 : pc < 300
  · exact zrange zdq_92_0 (by omega) (by omega)
  by_cases h303 : pc < 600
  · exact zrange zdq_92_300 (by omega) (by omega)
  exact zrange zdq_92_600 (by omega) (by omega)
theorem zdk_all {i : Nat} (h : i < 93) : zdk i = true := by
  by_cases h0 : i < 30
  · exact zrange zdk_0 (by omega) (by omega)
  by_cases h1 : i < 60
  · exact zrange zdk_30 (by omega) (by omega)
  by_cases h2 : i < 91
  · exact zrange zdk_60 (by omega) (by omega)
  by_cases h3 : i < 92
  · obtain rfl : i = 91 := by omega
    exact zdk_91
  obtain rfl : i = 92 := by omega
  exact zdk_92
theorem zck_all {i : Nat} (h : i < 93) : zcki i = true := by
  by_cases h0 : i < 50
  · exact zrange zck_0 (by omega) (by omega)
  by_cases h1 : i < 91
  · exact zrange zck_50 (by omega) (by omega)
  exact zrange zck_l (by omega) (by omega)
theorem zC_dec {i pc : Nat} {e : zEn} (h : zC i pc = some e) : decode (zBy i) pc = .ok (e.1, e.2.1) := by
  obtain ⟨h1, h2⟩ := zC_lt h
  have h3 := List.all_eq_true.mp (zdk_all h1) pc (List.mem_range.mpr h2)
  rw [h] at h3
  exact of_decide_eq_true h3
theorem zC_chk {i pc : Nat} {e : zEn} (h : zC i pc = some e) : zchk i pc e = true := by
  obtain ⟨h1, h2⟩ := zC_lt h
  have h3 := List.all_eq_true.mp (zck_all h1) pc (List.mem_range.mpr h2)
  rw [h] at h3
  exact h3
end
section
abbrev zV : Type := Int ⊕ (Int ⊕ Nat)
abbrev zSh : Type := Nat × Nat × List Nat
abbrev zMm : Type := Nat → Nat → Int
abbrev zLs : Type := List (Option zV)
abbrev zRes : Type := Option (Option zV × List zSh × zMm)
def zw (x : Int) : Int := Int.bmod x 4294967296
def zwl (x : Int) : Int := Int.bmod x 18446744073709551616
def zu (m : zMm) (k j : Nat) (v : Int) : zMm := fun a b => if a = k ∧ b = j then v else m a b
/-- a new cell's row is all 0 -/
def zn (m : zMm) (k : Nat) : zMm := fun a b => if a = k then 0 else m a b
def zcp (m : zMm) (a sp b dp n : Nat) : zMm := fun k j => if k = b ∧ dp ≤ j ∧ j < dp + n then m a (sp + (j - dp)) else m k j
def zdiv (a b : Int) : Int := (Int32.ofInt a / Int32.ofInt b).toInt
def zrem (a b : Int) : Int := (Int32.ofInt a - Int32.ofInt a / Int32.ofInt b * Int32.ofInt b).toInt
def zshl (a b : Int) : Int := (Int32.ofInt a <<< (Int32.ofInt b &&& 31)).toInt
def zshr (a b : Int) : Int := (Int32.ofInt a >>> (Int32.ofInt b &&& 31)).toInt
def zush (a b : Int) : Int := (((Int32.ofInt a).toUInt32 >>> ((Int32.ofInt b).toUInt32 &&& Int32.toUInt32 31)).toInt32).toInt
def zand (a b : Int) : Int := (Int32.ofInt a &&& Int32.ofInt b).toInt
def zor (a b : Int) : Int := (Int32.ofInt a ||| Int32.ofInt b).toInt
def zxor (a b : Int) : Int := (Int32.ofInt a ^^^ Int32.ofInt b).toInt
def zi2b (a : Int) : Int := ((Int32.ofInt a).toInt8.toInt32).toInt
def zi2s (a : Int) : Int := ((Int32.ofInt a).toInt16.toInt32).toInt
def zlshl (a b : Int) : Int := (Int64.ofInt a <<< ((Int32.ofInt b).toInt64 &&& 63)).toInt
def zlshr (a b : Int) : Int := (Int64.ofInt a >>> ((Int32.ofInt b).toInt64 &&& 63)).toInt
def zland (a b : Int) : Int := (Int64.ofInt a &&& Int64.ofInt b).toInt
def zlor (a b : Int) : Int := (Int64.ofInt a ||| Int64.ofInt b).toInt
section ZS
variable {β : Type}
def zb1 (F : β) (st : List zV) (f : Int → List zV → β) : β := match st with
  | .inl x :: s => f x s
  | _ => F
def zb2 (F : β) (st : List zV) (f : Int → Int → List zV → β) : β := match st with
  | .inl y :: .inl x :: s => f x y s
  | _ => F
def zbl1 (F : β) (st : List zV) (f : Int → List zV → β) : β := match st with
  | .inr (.inl x) :: s => f x s
  | _ => F
def zbl2 (F : β) (st : List zV) (f : Int → Int → List zV → β) : β := match st with
  | .inr (.inl y) :: .inr (.inl x) :: s => f x y s
  | _ => F
def zbli (F : β) (st : List zV) (f : Int → Int → List zV → β) : β := match st with
  | .inl y :: .inr (.inl x) :: s => f x y s
  | _ => F
def zbr (F : β) (st : List zV) (f : Nat → List zV → β) : β := match st with
  | .inr (.inr a) :: s => f a s
  | _ => F
def zbir (F : β) (st : List zV) (f : Nat → Int → List zV → β) : β := match st with
  | .inl j :: .inr (.inr a) :: s => f a j s
  | _ => F
def zbiir (F : β) (st : List zV) (f : Nat → Int → Int → List zV → β) : β := match st with
  | .inl x :: .inl j :: .inr (.inr a) :: s => f a j x s
  | _ => F
def zcn (c : ClassFile.Cond) (x y : Int) (a b : β) : β := match c with
  | .eq => if x = y then a else b
  | .ne => if x = y then b else a
  | .lt => if x < y then a else b
  | .ge => if x < y then b else a
  | .gt => if y < x then a else b
  | .le => if y < x then b else a
def zsw (x : Int) (f : Nat → β) (d : Nat) : Int → List Nat → β
  | _, [] => f d
  | lo, t :: ts => if x = lo then f t else zsw x f d (lo + 1) ts
/-- the shape of a cell -/
def zsh (F : β) (sh : List zSh) (a : Nat) (f : Nat → Nat → List Nat → β) : β := match sh[a]? with
  | some (k, n, rs) => f k n rs
  | none => F
def zld (F : β) (ls : zLs) (i : Nat) (f : zV → β) : β := match ls[i]? with
  | some (some v) => f v
  | _ => F
end ZS
def zcat (v : zV) : Nat := match v with
  | .inr (.inl _) => 2
  | _ => 1
def zcs : List zV → Nat
  | [] => 0
  | v :: t => zcat v + zcs t
/-- a value of one slot comes to a local -/
def zst (ls : zLs) (i : Nat) (v : zV) : zLs := match i with
  | 0 => ls.set 0 (some v)
  | j + 1 => (match ls[j]? with
    | some (some (.inr (.inl _))) => (ls.set j none).set (j + 1) (some v)
    | _ => ls.set (j + 1) (some v))
def zin0 : List zV → zLs
  | [] => []
  | v :: t => match v with
    | .inr (.inl x) => some (.inr (.inl x)) :: none :: zin0 t
    | .inl x => some (.inl x) :: zin0 t
    | .inr (.inr a) => some (.inr (.inr a)) :: zin0 t
def zin (n : Nat) (vs : List zV) : zLs := zin0 vs ++ List.replicate (n - (zin0 vs).length) none
section ZS1
variable {β : Type} (F : β) (R : Option zV → List zSh → zMm → β) (G : Nat → zLs → List zV → List zSh → zMm → β) (K : Nat → Bool → List zV → Nat → zLs → List zV → List zSh → zMm → β)
def zinv (len p r : Nat) (q : Int) (pc : Nat) (ls : zLs) (st : List zV) (sh : List zSh) (mm : zMm) : β :=
  if q = 6 then zbr F st fun _ s => bif Nat.ble (zcs s) 8 then G (pc + len) ls s sh mm else F
  else if q = 7 then (match st with
    | .inl n :: .inl dp :: .inr (.inr b) :: .inl sp :: .inr (.inr a) :: s =>
      zsh F sh a fun ka na _ => zsh F sh b fun kb nb _ => if ka = 100 ∧ kb = 100 ∧ 0 ≤ sp ∧ 0 ≤ dp ∧ 0 ≤ n ∧ sp + n ≤ na ∧ dp + n ≤ nb ∧ zcs s ≤ 8 then G (pc + len) ls s sh (zcp mm a sp.toNat b dp.toNat n.toNat) else F
    | _ => F)
  else bif Nat.ble r st.length && Nat.ble (zcs (st.drop r)) 8 then
    (if q = 2 ∨ q = 3 ∨ q = 12 ∨ q = 13 then K p (decide (10 ≤ q)) (st.take r).reverse (pc + len) ls (st.drop r) sh mm
     else match (st.take r).reverse with
      | .inr (.inr a) :: _ => zsh F sh a fun k _ _ => bif Nat.beq k (zci p) then K p (decide (10 ≤ q)) (st.take r).reverse (pc + len) ls (st.drop r) sh mm else F
      | _ => F)
  else F
/-- one instruction: fail, come to the method's end, go on, or call -/
def zs1 (e : zEn) (pc : Nat) (ls : zLs) (st : List zV) (sh : List zSh) (mm : zMm) : β :=
  match e with
  | (ins, len, p, r, q) => match ins with
    | .iload i => zld F ls i fun v => match v with
      | .inl x => G (pc + len) ls (.inl x :: st) sh mm
      | _ => F
    | .iload_n i => zld F ls i.val fun v => match v with
      | .inl x => G (pc + len) ls (.inl x :: st) sh mm
      | _ => F
    | .lload i => zld F ls i fun v => match v with
      | .inr (.inl x) => G (pc + len) ls (.inr (.inl x) :: st) sh mm
      | _ => F
    | .lload_n i => zld F ls i.val fun v => match v with
      | .inr (.inl x) => G (pc + len) ls (.inr (.inl x) :: st) sh mm
      | _ => F
    | .aload i => zld F ls i fun v => match v with
      | .inr (.inr x) => G (pc + len) ls (.inr (.inr x) :: st) sh mm
      | _ => F
    | .aload_n i => zld F ls i.val fun v => match v with
      | .inr (.inr x) => G (pc + len) ls (.inr (.inr x) :: st) sh mm
      | _ => F
    | .istore i => bif Nat.blt i ls.length then zb1 F st fun x s => G (pc + len) (zst ls i (.inl x)) s sh mm else F
    | .istore_n i => bif Nat.blt i.val ls.length then zb1 F st fun x s => G (pc + len) (zst ls i.val (.inl x)) s sh mm else F
    | .astore i => bif Nat.blt i ls.length then zbr F st fun x s => G (pc + len) (zst ls i (.inr (.inr x))) s sh mm else F
    | .astore_n i => bif Nat.blt i.val ls.length then zbr F st fun x s => G (pc + len) (zst ls i.val (.inr (.inr x))) s sh mm else F
    | .iinc i c => zld F ls i fun v => match v with
      | .inl x => G (pc + len) (zst ls i (.inl (zw (x + c)))) st sh mm
      | _ => F
    | .bipush _ => G (pc + len) ls (.inl q :: st) sh mm
    | .sipush _ => G (pc + len) ls (.inl q :: st) sh mm
    | .iconst _ => G (pc + len) ls (.inl q :: st) sh mm
    | .ldc _ => G (pc + len) ls (.inl q :: st) sh mm
    | .ldc_w _ => G (pc + len) ls (.inl q :: st) sh mm
    | .lconst _ => G (pc + len) ls (.inr (.inl q) :: st) sh mm
    | .ldc2_w _ => G (pc + len) ls (.inr (.inl q) :: st) sh mm
    | .iadd => zb2 F st fun x y s => G (pc + len) ls (.inl (zw (x + y)) :: s) sh mm
    | .isub => zb2 F st fun x y s => G (pc + len) ls (.inl (zw (x - y)) :: s) sh mm
    | .imul => zb2 F st fun x y s => G (pc + len) ls (.inl (zw (x * y)) :: s) sh mm
    | .idiv => zb2 F st fun x y s => if y = 0 then F else G (pc + len) ls (.inl (zdiv x y) :: s) sh mm
    | .irem => zb2 F st fun x y s => if y = 0 then F else G (pc + len) ls (.inl (zrem x y) :: s) sh mm
    | .ishl => zb2 F st fun x y s => G (pc + len) ls (.inl (zshl x y) :: s) sh mm
    | .ishr => zb2 F st fun x y s => G (pc + len) ls (.inl (zshr x y) :: s) sh mm
    | .iushr => zb2 F st fun x y s => G (pc + len) ls (.inl (zush x y) :: s) sh mm
    | .iand => zb2 F st fun x y s => G (pc + len) ls (.inl (zand x y) :: s) sh mm
    | .ior => zb2 F st fun x y s => G (pc + len) ls (.inl (zor x y) :: s) sh mm
    | .ixor => zb2 F st fun x y s => G (pc + len) ls (.inl (zxor x y) :: s) sh mm
    | .i2b => zb1 F st fun x s => G (pc + len) ls (.inl (zi2b x) :: s) sh mm
    | .i2s => zb1 F st fun x s => G (pc + len) ls (.inl (zi2s x) :: s) sh mm
    | .i2l => zb1 F st fun x s => G (pc + len) ls (.inr (.inl x) :: s) sh mm
    | .l2i => zbl1 F st fun x s => G (pc + len) ls (.inl (zw x) :: s) sh mm
    | .ladd => zbl2 F st fun x y s => G (pc + len) ls (.inr (.inl (zwl (x + y))) :: s) sh mm
    | .lmul => zbl2 F st fun x y s => G (pc + len) ls (.inr (.inl (zwl (x * y))) :: s) sh mm
    | .land => zbl2 F st fun x y s => G (pc + len) ls (.inr (.inl (zland x y)) :: s) sh mm
    | .lor => zbl2 F st fun x y s => G (pc + len) ls (.inr (.inl (zlor x y)) :: s) sh mm
    | .lshl => zbli F st fun x y s => G (pc + len) ls (.inr (.inl (zlshl x y)) :: s) sh mm
    | .lshr => zbli F st fun x y s => G (pc + len) ls (.inr (.inl (zlshr x y)) :: s) sh mm
    | .lcmp => zbl2 F st fun x y s => if x < y then G (pc + len) ls (.inl (-1) :: s) sh mm else if x = y then G (pc + len) ls (.inl 0 :: s) sh mm else G (pc + len) ls (.inl 1 :: s) sh mm
    | .dup => (match st with
      | .inl x :: s => G (pc + len) ls (.inl x :: .inl x :: s) sh mm
      | .inr (.inr x) :: s => G (pc + len) ls (.inr (.inr x) :: .inr (.inr x) :: s) sh mm
      | _ => F)
    | .dup2 => zbir F st fun a j s => G (pc + len) ls (.inl j :: .inr (.inr a) :: .inl j :: .inr (.inr a) :: s) sh mm
    | .pop => zb1 F st fun _ s => G (pc + len) ls s sh mm
    | .goto _ => G p ls st sh mm
    | .if_icmp c _ => zb2 F st fun x y s => zcn c x y (G p ls s sh mm) (G (pc + len) ls s sh mm)
    | .ifCond c _ => zb1 F st fun x s => zcn c x 0 (G p ls s sh mm) (G (pc + len) ls s sh mm)
    | .tableswitch d lo _ offs => zb1 F st fun x s => zsw x (fun t => G t ls s sh mm) ((pc : Int) + d).toNat lo (offs.toList.map fun o => ((pc : Int) + o).toNat)
    | .getfield _ => zbr F st fun a s => zsh F sh a fun k n rs => bif Nat.beq k r && Nat.blt p n then
        (bif Nat.beq (zft k p) 2 then (match rs[p]? with
          | some (b + 1) => G (pc + len) ls (.inr (.inr b) :: s) sh mm
          | _ => F)
        else G (pc + len) ls (.inl (mm a p) :: s) sh mm) else F
    | .putfield _ => (match st with
      | .inl x :: .inr (.inr a) :: s => zsh F sh a fun k n _ => bif Nat.beq k r && Nat.blt p n then
          (bif Nat.beq (zft k p) 0 then G (pc + len) ls s sh (zu mm a p x)
           else bif Nat.beq (zft k p) 1 then (if x = 0 ∨ x = 1 then G (pc + len) ls s sh (zu mm a p x) else F) else F) else F
      | .inr (.inr b) :: .inr (.inr a) :: s => zsh F sh a fun k n rs => bif Nat.beq k r && Nat.blt p n && Nat.beq (zft k p) 2 && Nat.blt b sh.length then G (pc + len) ls s (sh.set a (k, n, rs.set p (b + 1))) mm else F
      | _ => F)
    | .iaload => bif Nat.beq p 1 then zbir F st fun a j s => bif Nat.beq a 999 then (if 0 ≤ j ∧ j < mm 998 0 then G (pc + len) ls (.inl (mm 999 j.toNat) :: s) sh mm else F) else F
        else zbir F st fun a j s => zsh F sh a fun k n _ => bif Nat.beq k 100 then (if 0 ≤ j ∧ j < n then G (pc + len) ls (.inl (mm a j.toNat) :: s) sh mm else F) else F
    | .baload => zbir F st fun a j s => zsh F sh a fun k n _ => bif Nat.beq k 101 || Nat.beq k 102 then (if 0 ≤ j ∧ j < n then G (pc + len) ls (.inl (mm a j.toNat) :: s) sh mm else F) else F
    | .aaload => zbir F st fun a j s => zsh F sh a fun k n rs => bif Nat.beq k 103 then (if 0 ≤ j ∧ j < n then (match rs[j.toNat]? with
          | some (b + 1) => G (pc + len) ls (.inr (.inr b) :: s) sh mm
          | _ => F) else F) else F
    | .iastore => zbiir F st fun a j x s => zsh F sh a fun k n _ => bif Nat.beq k 100 then (if 0 ≤ j ∧ j < n then G (pc + len) ls s sh (zu mm a j.toNat x) else F) else F
    | .bastore => zbiir F st fun a j x s => zsh F sh a fun k n _ => bif Nat.beq k 101 then (if (0 ≤ j ∧ j < n) ∧ (x = 0 ∨ x = 1) then G (pc + len) ls s sh (zu mm a j.toNat x) else F)
        else bif Nat.beq k 102 then (if 0 ≤ j ∧ j < n then G (pc + len) ls s sh (zu mm a j.toNat (zi2b x)) else F) else F
    | .aastore => (match st with
      | .inr (.inr b) :: .inl j :: .inr (.inr a) :: s => zsh F sh a fun k n rs => zsh F sh b fun kb _ _ => bif Nat.beq k 103 && Nat.beq kb 4 then (if 0 ≤ j ∧ j < n then G (pc + len) ls s (sh.set a (k, n, rs.set j.toNat (b + 1))) mm else F) else F
      | _ => F)
    | .arraylength => bif Nat.beq p 1 then zbr F st fun a s => bif Nat.beq a 999 then G (pc + len) ls (.inl (mm 998 0) :: s) sh mm else F
        else zbr F st fun a s => zsh F sh a fun k n _ => bif Nat.ble 100 k && Nat.ble k 103 then G (pc + len) ls (.inl n :: s) sh mm else F
    | .new _ => bif Nat.blt sh.length 900 then G (pc + len) ls (.inr (.inr sh.length) :: st) (sh ++ [(r, p, List.replicate p 0)]) (zn mm sh.length) else F
    | .newarray t => zb1 F st fun x s => bif Nat.blt sh.length 900 then (if 0 ≤ x ∧ x ≤ 4000 then
        (match t with
          | .int => G (pc + len) ls (.inr (.inr sh.length) :: s) (sh ++ [(100, x.toNat, [])]) (zn mm sh.length)
          | .boolean => G (pc + len) ls (.inr (.inr sh.length) :: s) (sh ++ [(101, x.toNat, [])]) (zn mm sh.length)
          | .byte => G (pc + len) ls (.inr (.inr sh.length) :: s) (sh ++ [(102, x.toNat, [])]) (zn mm sh.length)
          | _ => F) else F) else F
    | .anewarray _ => zb1 F st fun x s => bif Nat.blt sh.length 900 then (if 0 ≤ x ∧ x ≤ 4000 then G (pc + len) ls (.inr (.inr sh.length) :: s) (sh ++ [(103, x.toNat, List.replicate x.toNat 0)]) (zn mm sh.length) else F) else F
    | .invokevirtual _ => zinv F G K len p r q pc ls st sh mm
    | .invokestatic _ => zinv F G K len p r q pc ls st sh mm
    | .invokespecial _ => zinv F G K len p r q pc ls st sh mm
    | .ireturn => (match st with
      | [.inl x] => if q = 1 then (if x = 0 ∨ x = 1 then R (some (.inl x)) sh mm else F) else R (some (.inl x)) sh mm
      | _ => F)
    | .return_ => (match st with
      | [] => R none sh mm
      | _ => F)
    | _ => F
end ZS1
def zcI (r : zRes) (f : Int → List zSh → zMm → zRes) : zRes := match r with
  | some (some (.inl x), sh, mm) => f x sh mm
  | _ => none
def zcV (r : zRes) (f : List zSh → zMm → zRes) : zRes := match r with
  | some (none, sh, mm) => f sh mm
  | _ => none
def zstep (C : Nat → List zV → List zSh → zMm → zRes) (e : zEn) (pc : Nat) (ls : zLs) (st : List zV) (sh : List zSh) (mm : zMm) (k : Nat → zLs → List zV → List zSh → zMm → zRes) : zRes :=
  zs1 (β := zRes) none (fun v sh mm => some (v, sh, mm)) k (fun j b as pc ls rest sh mm => bif b then zcI (C j as sh mm) (fun x sh' mm' => k pc ls (.inl x :: rest) sh' mm') else zcV (C j as sh mm) (fun sh' mm' => k pc ls rest sh' mm')) e pc ls st sh mm
/-- so many steps of method i; a call, and a place of 'cuts', is left to k -/
def zunf (C : Nat → List zV → List zSh → zMm → zRes) (i : Nat) (k : Nat → zLs → List zV → List zSh → zMm → zRes) (cuts : List Nat) : Nat → Nat → zLs → List zV → List zSh → zMm → zRes
  | 0, pc, ls, st, sh, mm => k pc ls st sh mm
  | n + 1, pc, ls, st, sh, mm => match zC i pc with
    | none => none
    | some e => zs1 (β := zRes) none (fun v sh mm => some (v, sh, mm)) (fun pc' ls' st' sh' mm' => bif cuts.contains pc' then k pc' ls' st' sh' mm' else zunf C i k cuts n pc' ls' st' sh' mm')
      (fun j b as pc ls rest sh mm => bif b then zcI (C j as sh mm) (fun x sh' mm' => k pc ls (.inl x :: rest) sh' mm') else zcV (C j as sh mm) (fun sh' mm' => k pc ls rest sh' mm')) e pc ls st sh mm
def zrun (C : Nat → List zV → List zSh → zMm → zRes) (i : Nat) : Nat → Nat → zLs → List zV → List zSh → zMm → zRes
  | 0, _, _, _, _, _ => none
  | n + 1, pc, ls, st, sh, mm => match zC i pc with
    | none => none
    | some e => zstep C e pc ls st sh mm (zrun C i n)
def zcall (N : Nat) : Nat → Nat → List zV → List zSh → zMm → zRes
  | 0, _, _, _, _ => none
  | d + 1, j, as, sh, mm => bif Nat.ble (zin0 as).length (zml j) then zrun (zcall N d) j N 0 (zin (zml j) as) [] sh mm else none
noncomputable def zlim (f : Nat → zRes) : zRes := @dite _ (∃ r, ∃ N, f N = some r) (Classical.propDecidable _) (fun h => some (Classical.choose h)) (fun _ => none)
noncomputable def zR (d i pc : Nat) (ls : zLs) (st : List zV) (sh : List zSh) (mm : zMm) : zRes := zlim (fun N => zrun (zcall N d) i N pc ls st sh mm)
noncomputable def zL (d j : Nat) (as : List zV) (sh : List zSh) (mm : zMm) : zRes := zlim (fun N => zcall N d j as sh mm)
end
section
section ZQ
variable {γ β : Type} (φ : γ → β)
theorem zq_ite {c : Prop} [h : Decidable c] (a b : γ) : φ (if c then a else b) = if c then φ a else φ b := by split <;> rfl
theorem zq_cond (c : Bool) (a b : γ) : φ (bif c then a else b) = bif c then φ a else φ b := by cases c <;> rfl
theorem zq_b1 (F : γ) (st : List zV) (f : Int → List zV → γ) : φ (zb1 F st f) = zb1 (φ F) st (fun x s => φ (f x s)) := by unfold zb1; split <;> rfl
theorem zq_b2 (F : γ) (st : List zV) (f : Int → Int → List zV → γ) : φ (zb2 F st f) = zb2 (φ F) st (fun x y s => φ (f x y s)) := by unfold zb2; split <;> rfl
theorem zq_bl1 (F : γ) (st : List zV) (f : Int → List zV → γ) : φ (zbl1 F st f) = zbl1 (φ F) st (fun x s => φ (f x s)) := by unfold zbl1; split <;> rfl
theorem zq_bl2 (F : γ) (st : List zV) (f : Int → Int → List zV → γ) : φ (zbl2 F st f) = zbl2 (φ F) st (fun x y s => φ (f x y s)) := by unfold zbl2; split <;> rfl
theorem zq_bli (F : γ) (st : List zV) (f : Int → Int → List zV → γ) : φ (zbli F st f) = zbli (φ F) st (fun x y s => φ (f x y s)) := by unfold zbli; split <;> rfl
theorem zq_br (F : γ) (st : List zV) (f : Nat → List zV → γ) : φ (zbr F st f) = zbr (φ F) st (fun x s => φ (f x s)) := by unfold zbr; split <;> rfl
theorem zq_bir (F : γ) (st : List zV) (f : Nat → Int → List zV → γ) : φ (zbir F st f) = zbir (φ F) st (fun a x s => φ (f a x s)) := by unfold zbir; split <;> rfl
theorem zq_biir (F : γ) (st : List zV) (f : Nat → Int → Int → List zV → γ) : φ (zbiir F st f) = zbiir (φ F) st (fun a x y s => φ (f a x y s)) := by unfold zbiir; split <;> rfl
theorem zq_sh (F : γ) (sh : List zSh) (a : Nat) (f : Nat → Nat → List Nat → γ) : φ (zsh F sh a f) = zsh (φ F) sh a (fun x s t => φ (f x s t)) := by unfold zsh; split <;> rfl
theorem zq_ld (F : γ) (ls : zLs) (i : Nat) (f : zV → γ) : φ (zld F ls i f) = zld (φ F) ls i (fun v => φ (f v)) := by unfold zld; split <;> rfl
theorem zq_cn (c : ClassFile.Cond) (x y : Int) (a b : γ) : φ (zcn c x y a b) = zcn c x y (φ a) (φ b) := by unfold zcn; cases c <;> exact zq_ite φ _ _
theorem zq_sw (x : Int) (f : Nat → γ) (d : Nat) : ∀ (ts : List Nat) (lo : Int), φ (zsw x f d lo ts) = zsw x (fun t => φ (f t)) d lo ts
  | [], lo => rfl
  | t :: ts, lo => by
    unfold zsw
    rw [zq_ite φ, zq_sw x f d ts]
variable (F : γ) (R : Option zV → List zSh → zMm → γ) (G : Nat → zLs → List zV → List zSh → zMm → γ) (K : Nat → Bool → List zV → Nat → zLs → List zV → List zSh → zMm → γ)
theorem zq_inv (len p r : Nat) (q : Int) (pc : Nat) (ls : zLs) (st : List zV) (sh : List zSh) (mm : zMm) :
    φ (zinv F G K len p r q pc ls st sh mm) = zinv (φ F) (fun pc ls st sh mm => φ (G pc ls st sh mm)) (fun j b as pc ls rest sh mm => φ (K j b as pc ls rest sh mm)) len p r q pc ls st sh mm := by
  unfold zinv
  simp only [zq_ite φ, zq_cond φ, zq_br φ]
  congr 2
  · split
    · simp only [zq_ite φ, zq_sh φ]
    · rfl
  · congr 2
    split
    · simp only [zq_cond φ, zq_sh φ]
    · rfl
set_option maxHeartbeats 4000000 in
theorem zq_s1 (e : zEn) (pc : Nat) (ls : zLs) (st : List zV) (sh : List zSh) (mm : zMm) :
    φ (zs1 F R G K e pc ls st sh mm) = zs1 (φ F) (fun v sh mm => φ (R v sh mm)) (fun pc ls st sh mm => φ (G pc ls st sh mm)) (fun j b as pc ls rest sh mm => φ (K j b as pc ls rest sh mm)) e pc ls st sh mm := by
  obtain ⟨ins, len, p, r, q⟩ := e
  cases ins
  case iload i => simp only [zs1, zq_ld φ]; congr 1; funext v; split <;> rfl
  case iload_n i => simp only [zs1, zq_ld φ]; congr 1; funext v; split <;> rfl
  case lload i => simp only [zs1, zq_ld φ]; congr 1; funext v; split <;> rfl
  case lload_n i => simp only [zs1, zq_ld φ]; congr 1; funext v; split <;> rfl
  case aload i => simp only [zs1, zq_ld φ]; congr 1; funext v; split <;> rfl
  case aload_n i => simp only [zs1, zq_ld φ]; congr 1; funext v; split <;> rfl
  case iinc i c => simp only [zs1, zq_ld φ]; congr 1; funext v; split <;> rfl
  case istore i => simp only [zs1, zq_cond φ, zq_b1 φ]
  case istore_n i => simp only [zs1, zq_cond φ, zq_b1 φ]
  case astore i => simp only [zs1, zq_cond φ, zq_br φ]
  case astore_n i => simp only [zs1, zq_cond φ, zq_br φ]
  case dup => simp only [zs1]; split <;> rfl
  case getfield i =>
    simp only [zs1, zq_br φ, zq_sh φ, zq_cond φ]
    congr 1; funext a s; congr 1; funext k n rs; congr 1; congr 1; split <;> rfl
  case putfield i =>
    simp only [zs1]
    split
    · simp only [zq_sh φ, zq_cond φ, zq_ite φ]
    · simp only [zq_sh φ, zq_cond φ, zq_ite φ]
    · rfl
  case aaload =>
    simp only [zs1, zq_bir φ, zq_sh φ, zq_cond φ, zq_ite φ]
    congr 1; funext a x s; congr 1; funext k n rs; congr 1; congr 1; split <;> rfl
  case aastore =>
    simp only [zs1]
    split
    · simp only [zq_sh φ, zq_cond φ, zq_ite φ]
    · rfl
  case newarray t =>
    simp only [zs1, zq_b1 φ, zq_cond φ, zq_ite φ]
    congr 1; funext x s; congr 1; congr 1; split <;> rfl
  case ireturn =>
    simp only [zs1]
    split
    · simp only [zq_ite φ]
    · rfl
  case return_ => simp only [zs1]; split <;> rfl
  case invokevirtual i => exact zq_inv φ F G K len p r q pc ls st sh mm
  case invokestatic i => exact zq_inv φ F G K len p r q pc ls st sh mm
  case invokespecial i => exact zq_inv φ F G K len p r q pc ls st sh mm
  all_goals first | rfl | simp only [zs1, zq_b1 φ, zq_b2 φ, zq_bl1 φ, zq_bl2 φ, zq_bli φ, zq_br φ, zq_bir φ, zq_biir φ, zq_sh φ, zq_cond φ, zq_ite φ, zq_cn φ, zq_sw φ]
end ZQ
end
section
/-- what zs1 tells, as data -/
abbrev zNF : Type := Option ((Option zV × List zSh × zMm) ⊕ ((Nat × zLs × List zV × List zSh × zMm) ⊕ (Nat × Bool × List zV × Nat × zLs × List zV × List zSh × zMm)))
def znf (e : zEn) (pc : Nat) (ls : zLs) (st : List zV) (sh : List zSh) (mm : zMm) : zNF :=
  zs1 (β := zNF) none (fun v sh mm => some (.inl (v, sh, mm))) (fun pc ls st sh mm => some (.inr (.inl (pc, ls, st, sh, mm)))) (fun j b as pc ls rest sh mm => some (.inr (.inr (j, b, as, pc, ls, rest, sh, mm)))) e pc ls st sh mm
def zint {β : Type} (F : β) (R : Option zV → List zSh → zMm → β) (G : Nat → zLs → List zV → List zSh → zMm → β) (K : Nat → Bool → List zV → Nat → zLs → List zV → List zSh → zMm → β) : zNF → β
  | none => F
  | some (.inl (v, sh, mm)) => R v sh mm
  | some (.inr (.inl (pc, ls, st, sh, mm))) => G pc ls st sh mm
  | some (.inr (.inr (j, b, as, pc, ls, rest, sh, mm))) => K j b as pc ls rest sh mm
theorem zs1_nf {β : Type} (F : β) (R : Option zV → List zSh → zMm → β) (G : Nat → zLs → List zV → List zSh → zMm → β) (K : Nat → Bool → List zV → Nat → zLs → List zV → List zSh → zMm → β) (e : zEn) (pc : Nat) (ls : zLs) (st : List zV) (sh : List zSh) (mm : zMm) :
    zs1 F R G K e pc ls st sh mm = zint F R G K (znf e pc ls st sh mm) := (zq_s1 (γ := zNF) (zint F R G K) none (fun v sh mm => some (.inl (v, sh, mm))) (fun pc ls st sh mm => some (.inr (.inl (pc, ls, st, sh, mm)))) (fun j b as pc ls rest sh mm => some (.inr (.inr (j, b, as, pc, ls, rest, sh, mm)))) e pc ls st sh mm).symm
/-- a step's success, as a Prop -/
theorem zstep_p (C : Nat → List zV → List zSh → zMm → zRes) (e : zEn) (pc : Nat) (ls : zLs) (st : List zV) (sh : List zSh) (mm : zMm) (k : Nat → zLs → List zV → List zSh → zMm → zRes) (r : Option zV × List zSh × zMm) :
    (zstep C e pc ls st sh mm k = some r) = zs1 (β := Prop) False (fun v sh mm => (v, sh, mm) = r) (fun pc ls st sh mm => k pc ls st sh mm = some r)
      (fun j b as pc ls rest sh mm => (bif b then zcI (C j as sh mm) (fun x sh' mm' => k pc ls (.inl x :: rest) sh' mm') else zcV (C j as sh mm) (fun sh' mm' => k pc ls rest sh' mm')) = some r) e pc ls st sh mm := by
  have h := zq_s1 (fun z : zRes => z = some r) none (fun v sh mm => some (v, sh, mm)) k (fun j b as pc ls rest sh mm => bif b then zcI (C j as sh mm) (fun x sh' mm' => k pc ls (.inl x :: rest) sh' mm') else zcV (C j as sh mm) (fun sh' mm' => k pc ls rest sh' mm')) e pc ls st sh mm
  unfold zstep
  rw [h]
  simp
/-- fewer known locals -/
def zle (ls ls' : zLs) : Prop := ls.length = ls'.length ∧ ∀ (i : Nat) (v : zV), ls[i]? = some (some v) → ls'[i]? = some (some v)
theorem zle.rf (ls : zLs) : zle ls ls := ⟨rfl, fun _ _ h => h⟩
theorem zle.set {ls ls' : zLs} (h : zle ls ls') (i : Nat) (o : Option zV) : zle (ls.set i o) (ls'.set i o) := by
  refine ⟨by simp [h.1], fun j v hj => ?_⟩
  rw [List.getElem?_set] at hj ⊢
  split at hj
  · rename_i e
    rw [if_pos e, ← h.1]
    exact hj
  · rename_i e
    rw [if_neg e]
    exact h.2 j v hj
theorem zle.non {ls ls' : zLs} (h : zle ls ls') (i : Nat) (hi : ∀ v, ls[i]? ≠ some (some v)) : zle ls (ls'.set i none) := by
  refine ⟨by simp [h.1], fun j v hj => ?_⟩
  rw [List.getElem?_set]
  split
  · rename_i e
    subst e
    exact absurd hj (hi v)
  · exact h.2 j v hj
theorem zle.st {ls ls' : zLs} (h : zle ls ls') (i : Nat) (v : zV) : zle (zst ls i v) (zst ls' i v) := by
  cases i with
  | zero => exact h.set 0 _
  | succ j =>
    simp only [zst]
    cases h1 : ls[j]? with
    | none =>
      have h2 : ls'[j]? = none := by
        rw [List.getElem?_eq_none_iff] at h1 ⊢
        rw [← h.1]
        exact h1
      rw [h2]
      exact h.set _ _
    | some o => cases o with
      | some w =>
        rw [h.2 j w h1]
        cases w with
        | inl x => exact h.set _ _
        | inr w => cases w with
          | inl x => exact (h.set _ _).set _ _
          | inr x => exact h.set _ _
      | none =>
        simp only
        split
        · exact (h.non j (fun v hv => by rw [h1] at hv; cases hv)).set _ _
        · exact h.set _ _
section ZM
theorem zp_b1 {F F' : Prop} (hF : F → F') {st : List zV} {f g : Int → List zV → Prop} (h : ∀ x s, f x s → g x s) : zb1 F st f → zb1 F' st g := by unfold zb1; split <;> first | exact h _ _ | exact hF
theorem zp_b2 {F F' : Prop} (hF : F → F') {st : List zV} {f g : Int → Int → List zV → Prop} (h : ∀ x y s, f x y s → g x y s) : zb2 F st f → zb2 F' st g := by unfold zb2; split <;> first | exact h _ _ _ | exact hF
theorem zp_bl1 {F F' : Prop} (hF : F → F') {st : List zV} {f g : Int → List zV → Prop} (h : ∀ x s, f x s → g x s) : zbl1 F st f → zbl1 F' st g := by unfold zbl1; split <;> first | exact h _ _ | exact hF
theorem zp_bl2 {F F' : Prop} (hF : F → F') {st : List zV} {f g : Int → Int → List zV → Prop} (h : ∀ x y s, f x y s → g x y s) : zbl2 F st f → zbl2 F' st g := by unfold zbl2; split <;> first | exact h _ _ _ | exact hF
theorem zp_bli {F F' : Prop} (hF : F → F') {st : List zV} {f g : Int → Int → List zV → Prop} (h : ∀ x y s, f x y s → g x y s) : zbli F st f → zbli F' st g := by unfold zbli; split <;> first | exact h _ _ _ | exact hF
theorem zp_br {F F' : Prop} (hF : F → F') {st : List zV} {f g : Nat → List zV → Prop} (h : ∀ x s, f x s → g x s) : zbr F st f → zbr F' st g := by unfold zbr; split <;> first | exact h _ _ | exact hF
theorem zp_bir {F F' : Prop} (hF : F → F') {st : List zV} {f g : Nat → Int → List zV → Prop} (h : ∀ a x s, f a x s → g a x s) : zbir F st f → zbir F' st g := by unfold zbir; split <;> first | exact h _ _ _ | exact hF
theorem zp_biir {F F' : Prop} (hF : F → F') {st : List zV} {f g : Nat → Int → Int → List zV → Prop} (h : ∀ a x y s, f a x y s → g a x y s) : zbiir F st f → zbiir F' st g := by unfold zbiir; split <;> first | exact h _ _ _ _ | exact hF
theorem zp_sh {F F' : Prop} (hF : F → F') {sh : List zSh} {a : Nat} {f g : Nat → Nat → List Nat → Prop} (h : ∀ x y z, f x y z → g x y z) : zsh F sh a f → zsh F' sh a g := by unfold zsh; split <;> first | exact h _ _ _ | exact hF
theorem zp_ld {F F' : Prop} (hF : F → F') {ls ls' : zLs} (hl : zle ls ls') {i : Nat} {f g : zV → Prop} (h : ∀ v, f v → g v) (hF' : ¬ F) : zld F ls i f → zld F' ls' i g := by
  unfold zld
  split
  · rename_i v hv
    rw [hl.2 i v hv]
    exact h v
  · exact fun z => absurd z hF'
theorem zp_cn {c : ClassFile.Cond} {x y : Int} {a b a' b' : Prop} (h1 : a → a') (h2 : b → b') : zcn c x y a b → zcn c x y a' b' := by
  unfold zcn
  cases c <;> (dsimp only; split <;> assumption)
theorem zp_sw {x : Int} {f g : Nat → Prop} {d : Nat} (h : ∀ t, f t → g t) : ∀ (ts : List Nat) (lo : Int), zsw x f d lo ts → zsw x g d lo ts
  | [], lo => h d
  | t :: ts, lo => by
    unfold zsw
    split
    · exact h t
    · exact zp_sw h ts _
theorem zp_cond {c : Bool} {a b a' b' : Prop} (h1 : a → a') (h2 : b → b') : (bif c then a else b) → bif c then a' else b' := by cases c <;> assumption
theorem zp_ite {c : Prop} [Decidable c] {a b a' b' : Prop} (h1 : a → a') (h2 : b → b') : (if c then a else b) → if c then a' else b' := by split <;> assumption
end ZM
theorem zff {P : Prop} : False → P := False.elim
section ZW
variable {R R' : Option zV → List zSh → zMm → Prop} {G G' : Nat → zLs → List zV → List zSh → zMm → Prop} {K K' : Nat → Bool → List zV → Nat → zLs → List zV → List zSh → zMm → Prop}
theorem zm_inv {len p r : Nat} {q : Int} {pc : Nat} {ls ls' : zLs} {st : List zV} {sh : List zSh} {mm : zMm} (hl : zle ls ls')
    (hG : ∀ pc ls ls' st sh mm, zle ls ls' → G pc ls st sh mm → G' pc ls' st sh mm) (hK : ∀ j b as pc ls ls' st sh mm, zle ls ls' → K j b as pc ls st sh mm → K' j b as pc ls' st sh mm) :
    zinv False G K len p r q pc ls st sh mm → zinv False G' K' len p r q pc ls' st sh mm := by
  unfold zinv
  refine zp_ite (zp_br zff fun _ _ => zp_cond (hG _ _ _ _ _ _ hl) zff) (zp_ite ?_ (zp_cond (zp_ite (hK _ _ _ _ _ _ _ _ _ hl) ?_) zff))
  · split
    · exact zp_sh zff fun _ _ _ => zp_sh zff fun _ _ _ => zp_ite (hG _ _ _ _ _ _ hl) zff
    · exact zff
  · split
    · exact zp_sh zff fun _ _ _ => zp_cond (hK _ _ _ _ _ _ _ _ _ hl) zff
    · exact zff
set_option maxHeartbeats 4000000 in
/-- more locals known, more calls, more steps: what came out comes out -/
theorem zm_s1 {e : zEn} {pc : Nat} {ls ls' : zLs} {st : List zV} {sh : List zSh} {mm : zMm} (hl : zle ls ls') (hR : ∀ v sh mm, R v sh mm → R' v sh mm)
    (hG : ∀ pc ls ls' st sh mm, zle ls ls' → G pc ls st sh mm → G' pc ls' st sh mm) (hK : ∀ j b as pc ls ls' st sh mm, zle ls ls' → K j b as pc ls st sh mm → K' j b as pc ls' st sh mm) :
    zs1 (β := Prop) False R G K e pc ls st sh mm → zs1 (β := Prop) False R' G' K' e pc ls' st sh mm := by
  obtain ⟨ins, len, p, r, q⟩ := e
  have g0 : ∀ {pc st sh mm}, G pc ls st sh mm → G' pc ls' st sh mm := fun {pc st sh mm} => hG _ _ _ _ _ _ hl
  have g1 : ∀ {pc st sh mm} (i : Nat) (v : zV), G pc (zst ls i v) st sh mm → G' pc (zst ls' i v) st sh mm := fun {pc st sh mm} i v => hG _ _ _ _ _ _ (hl.st i v)
  have ge : ls.length = ls'.length := hl.1
  cases ins
  case iload i => exact zp_ld zff hl (fun v => by split <;> first | exact g0 | exact zff) id
  case iload_n i => exact zp_ld zff hl (fun v => by split <;> first | exact g0 | exact zff) id
  case lload i => exact zp_ld zff hl (fun v => by split <;> first | exact g0 | exact zff) id
  case lload_n i => exact zp_ld zff hl (fun v => by split <;> first | exact g0 | exact zff) id
  case aload i => exact zp_ld zff hl (fun v => by split <;> first | exact g0 | exact zff) id
  case aload_n i => exact zp_ld zff hl (fun v => by split <;> first | exact g0 | exact zff) id
  case iinc i c => exact zp_ld zff hl (fun v => by split <;> first | exact g1 _ _ | exact zff) id
  case istore i => simp only [zs1, ge]; exact zp_cond (zp_b1 zff fun _ _ => g1 _ _) zff
  case istore_n i => simp only [zs1, ge]; exact zp_cond (zp_b1 zff fun _ _ => g1 _ _) zff
  case astore i => simp only [zs1, ge]; exact zp_cond (zp_br zff fun _ _ => g1 _ _) zff
  case astore_n i => simp only [zs1, ge]; exact zp_cond (zp_br zff fun _ _ => g1 _ _) zff
  case bipush => exact g0
  case sipush => exact g0
  case iconst => exact g0
  case ldc => exact g0
  case ldc_w => exact g0
  case lconst => exact g0
  case ldc2_w => exact g0
  case iadd => exact zp_b2 zff fun _ _ _ => g0
  case isub => exact zp_b2 zff fun _ _ _ => g0
  case imul => exact zp_b2 zff fun _ _ _ => g0
  case idiv => exact zp_b2 zff fun _ _ _ => zp_ite zff g0
  case irem => exact zp_b2 zff fun _ _ _ => zp_ite zff g0
  case ishl => exact zp_b2 zff fun _ _ _ => g0
  case ishr => exact zp_b2 zff fun _ _ _ => g0
  case iushr => exact zp_b2 zff fun _ _ _ => g0
  case iand => exact zp_b2 zff fun _ _ _ => g0
  case ior => exact zp_b2 zff fun _ _ _ => g0
  case ixor => exact zp_b2 zff fun _ _ _ => g0
  case i2b => exact zp_b1 zff fun _ _ => g0
  case i2s => exact zp_b1 zff fun _ _ => g0
  case i2l => exact zp_b1 zff fun _ _ => g0
  case l2i => exact zp_bl1 zff fun _ _ => g0
  case ladd => exact zp_bl2 zff fun _ _ _ => g0
  case lmul => exact zp_bl2 zff fun _ _ _ => g0
  case land => exact zp_bl2 zff fun _ _ _ => g0
  case lor => exact zp_bl2 zff fun _ _ _ => g0
  case lshl => exact zp_bli zff fun _ _ _ => g0
  case lshr => exact zp_bli zff fun _ _ _ => g0
  case lcmp => exact zp_bl2 zff fun _ _ _ => zp_ite g0 (zp_ite g0 g0)
  case dup => simp only [zs1]; split <;> first | exact g0 | exact zff
  case dup2 => exact zp_bir zff fun _ _ _ => g0
  case pop => exact zp_b1 zff fun _ _ => g0
  case goto => exact g0
  case if_icmp c o => exact zp_b2 zff fun _ _ _ => zp_cn g0 g0
  case ifCond c o => exact zp_b1 zff fun _ _ => zp_cn g0 g0
  case tableswitch => exact zp_b1 zff fun _ _ => zp_sw (fun _ => g0) _ _
  case getfield i =>
    refine zp_br zff fun _ _ => zp_sh zff fun _ _ _ => zp_cond (zp_cond ?_ g0) zff
    split <;> first | exact g0 | exact zff
  case putfield i =>
    simp only [zs1]
    split
    · exact zp_sh zff fun _ _ _ => zp_cond (zp_cond g0 (zp_cond (zp_ite g0 zff) zff)) zff
    · exact zp_sh zff fun _ _ _ => zp_cond g0 zff
    · exact zff
  case iaload => exact zp_cond (zp_bir zff fun _ _ _ => zp_cond (zp_ite g0 zff) zff) (zp_bir zff fun _ _ _ => zp_sh zff fun _ _ _ => zp_cond (zp_ite g0 zff) zff)
  case baload => exact zp_bir zff fun _ _ _ => zp_sh zff fun _ _ _ => zp_cond (zp_ite g0 zff) zff
  case aaload =>
    refine zp_bir zff fun _ _ _ => zp_sh zff fun _ _ _ => zp_cond (zp_ite ?_ zff) zff
    split <;> first | exact g0 | exact zff
  case iastore => exact zp_biir zff fun _ _ _ _ => zp_sh zff fun _ _ _ => zp_cond (zp_ite g0 zff) zff
  case bastore => exact zp_biir zff fun _ _ _ _ => zp_sh zff fun _ _ _ => zp_cond (zp_ite g0 zff) (zp_cond (zp_ite g0 zff) zff)
  case aastore =>
    simp only [zs1]
    split
    · exact zp_sh zff fun _ _ _ => zp_sh zff fun _ _ _ => zp_cond (zp_ite g0 zff) zff
    · exact zff
  case arraylength => exact zp_cond (zp_br zff fun _ _ => zp_cond g0 zff) (zp_br zff fun _ _ => zp_sh zff fun _ _ _ => zp_cond g0 zff)
  case new => exact zp_cond g0 zff
  case newarray t =>
    refine zp_b1 zff fun _ _ => zp_cond (zp_ite ?_ zff) zff
    cases t <;> first | exact g0 | exact zff
  case anewarray => exact zp_b1 zff fun _ _ => zp_cond (zp_ite g0 zff) zff
  case invokevirtual => exact zm_inv hl hG hK
  case invokestatic => exact zm_inv hl hG hK
  case invokespecial => exact zm_inv hl hG hK
  case ireturn =>
    simp only [zs1]
    split
    · exact zp_ite (zp_ite (hR _ _ _) zff) (hR _ _ _)
    · exact zff
  case return_ => simp only [zs1]; split <;> first | exact hR _ _ _ | exact zff
  all_goals exact zff
end ZW
end
section
theorem zcI_mono {r r' : zRes} {f f' : Int → List zSh → zMm → zRes} {o : Option zV × List zSh × zMm} (hr : ∀ v, r = some v → r' = some v) (hf : ∀ x sh mm, f x sh mm = some o → f' x sh mm = some o) : zcI r f = some o → zcI r' f' = some o := by
  intro h
  cases hz : r with
  | none => rw [hz] at h; cases h
  | some v =>
    rw [hr v hz]
    rw [hz] at h
    obtain ⟨v, sh, mm⟩ := v
    cases v with
    | none => cases h
    | some v => cases v with
      | inl x => exact hf _ _ _ h
      | inr x => cases h
theorem zcV_mono {r r' : zRes} {f f' : List zSh → zMm → zRes} {o : Option zV × List zSh × zMm} (hr : ∀ v, r = some v → r' = some v) (hf : ∀ sh mm, f sh mm = some o → f' sh mm = some o) : zcV r f = some o → zcV r' f' = some o := by
  intro h
  cases hz : r with
  | none => rw [hz] at h; cases h
  | some v =>
    rw [hr v hz]
    rw [hz] at h
    obtain ⟨v, sh, mm⟩ := v
    cases v with
    | none => exact hf _ _ h
    | some v => cases h
abbrev zC0 : Type := Nat → List zV → List zSh → zMm → zRes
abbrev zK0 : Type := Nat → zLs → List zV → List zSh → zMm → zRes
def zCle (C C' : zC0) : Prop := ∀ j as sh mm r, C j as sh mm = some r → C' j as sh mm = some r
def zKle (k k' : zK0) : Prop := ∀ pc ls ls' st sh mm r, zle ls ls' → k pc ls st sh mm = some r → k' pc ls' st sh mm = some r
theorem zstep_mono {C C' : zC0} {k k' : zK0} (hC : zCle C C') (hk : zKle k k') {e : zEn} {pc : Nat} {ls ls' : zLs} {st : List zV} {sh : List zSh} {mm : zMm} (hl : zle ls ls') {r : Option zV × List zSh × zMm} :
    zstep C e pc ls st sh mm k = some r → zstep C' e pc ls' st sh mm k' = some r := by
  rw [zstep_p, zstep_p]
  refine zm_s1 hl (fun _ _ _ h => h) (fun pc ls ls' st sh mm h q => hk pc ls ls' st sh mm r h q) ?_
  intro j b as pc ls ls' st sh mm h q
  cases b
  · exact zcV_mono (fun v => hC j as sh mm v) (fun sh mm => hk _ _ _ _ _ _ _ h) q
  · exact zcI_mono (fun v => hC j as sh mm v) (fun x sh mm => hk _ _ _ _ _ _ _ h) q
theorem zrun_mono {C C' : zC0} (hC : zCle C C') (i : Nat) : ∀ (n n' : Nat), n ≤ n' → zKle (zrun C i n) (zrun C' i n')
  | 0, _, _ => fun pc ls ls' st sh mm r _ h => by cases h
  | n + 1, 0, h => absurd h (by omega)
  | n + 1, n' + 1, h => fun pc ls ls' st sh mm r hl q => by
    unfold zrun at q ⊢
    cases hc : zC i pc with
    | none => rw [hc] at q; cases q
    | some e =>
      rw [hc] at q
      exact zstep_mono hC (zrun_mono hC i n n' (by omega)) hl q
theorem zcall_mono {N N' : Nat} (hN : N ≤ N') : ∀ (d d' : Nat), d ≤ d' → zCle (zcall N d) (zcall N' d')
  | 0, _, _ => fun j as sh mm r h => by cases h
  | d + 1, 0, h => absurd h (by omega)
  | d + 1, d' + 1, h => fun j as sh mm r q => by
    unfold zcall at q ⊢
    cases hb : Nat.ble (zin0 as).length (zml j) with
    | false => rw [hb] at q; cases q
    | true =>
      rw [hb] at q
      exact zrun_mono (zcall_mono hN d d' (by omega)) j N N' hN 0 _ _ _ _ _ _ (zle.rf _) q
theorem zlim_iff {f : Nat → zRes} (hm : ∀ a b, a ≤ b → ∀ r, f a = some r → f b = some r) {r : Option zV × List zSh × zMm} : zlim f = some r ↔ ∃ N, f N = some r := by
  unfold zlim
  constructor
  · intro h
    split at h
    · rename_i hh
      obtain ⟨N, hN⟩ := Classical.choose_spec hh
      cases h
      exact ⟨N, hN⟩
    · cases h
  · rintro ⟨N, hN⟩
    have hh : ∃ r, ∃ N, f N = some r := ⟨r, N, hN⟩
    rw [dif_pos hh]
    obtain ⟨M, hM⟩ := Classical.choose_spec hh
    have h1 := hm N (max N M) (Nat.le_max_left _ _) _ hN
    have h2 := hm M (max N M) (Nat.le_max_right _ _) _ hM
    rw [h1] at h2
    exact h2.symm
theorem zR_iff {d i pc : Nat} {ls : zLs} {st : List zV} {sh : List zSh} {mm : zMm} {r : Option zV × List zSh × zMm} : zR d i pc ls st sh mm = some r ↔ ∃ N, zrun (zcall N d) i N pc ls st sh mm = some r :=
  zlim_iff fun a b h r q => zrun_mono (zcall_mono h d d (Nat.le_refl d)) i a b h _ _ _ _ _ _ _ (zle.rf _) q
theorem zL_iff {d j : Nat} {as : List zV} {sh : List zSh} {mm : zMm} {r : Option zV × List zSh × zMm} : zL d j as sh mm = some r ↔ ∃ N, zcall N d j as sh mm = some r :=
  zlim_iff fun _ _ h r q => zcall_mono h d d (Nat.le_refl d) _ _ _ _ r q
theorem zL_le (N d : Nat) : zCle (zcall N d) (zL d) := fun _ _ _ _ _ h => zL_iff.mpr ⟨N, h⟩
theorem zR_le (N d i : Nat) : zKle (zrun (zcall N d) i N) (zR d i) := fun _ _ _ _ _ _ _ hl h => zR_iff.mpr ⟨N, zrun_mono (zcall_mono (Nat.le_refl N) d d (Nat.le_refl d)) i N N (Nat.le_refl N) _ _ _ _ _ _ _ hl h⟩
theorem zR_weak {d i pc : Nat} {ls ls' : zLs} {st : List zV} {sh : List zSh} {mm : zMm} {r : Option zV × List zSh × zMm} (hl : zle ls ls') (h : zR d i pc ls st sh mm = some r) : zR d i pc ls' st sh mm = some r := by
  obtain ⟨N, hN⟩ := zR_iff.mp h
  exact zR_le N d i _ _ _ _ _ _ _ hl hN
theorem zL_mono {d d' : Nat} (h : d ≤ d') : zCle (zL d) (zL d') := fun j as sh mm r q => by
  obtain ⟨N, hN⟩ := zL_iff.mp q
  exact zL_iff.mpr ⟨N, zcall_mono (Nat.le_refl N) d d' h j as sh mm r hN⟩
/-- method j, so many calls deep -/
theorem zL_eq (d j : Nat) (as : List zV) (sh : List zSh) (mm : zMm) (h : Nat.ble (zin0 as).length (zml j) = true) : zL (d + 1) j as sh mm = zR d j 0 (zin (zml j) as) [] sh mm := by
  unfold zL zR
  congr 1
  funext N
  show (bif Nat.ble (zin0 as).length (zml j) then zrun (zcall N d) j N 0 (zin (zml j) as) [] sh mm else none) = _
  rw [h]
  rfl
theorem zopt {α : Type} {a b : Option α} (h : ∀ r, a = some r ↔ b = some r) : a = b := by
  cases a with
  | none => cases b with
    | none => rfl
    | some y => exact absurd ((h y).mpr rfl) (by simp)
  | some x => exact ((h x).mp rfl).symm
/-- the limit is a fixed point -/
theorem zR_step {d i pc : Nat} {e : zEn} (he : zC i pc = some e) (ls : zLs) (st : List zV) (sh : List zSh) (mm : zMm) : zR d i pc ls st sh mm = zstep (zL d) e pc ls st sh mm (zR d i) := by
  apply zopt
  intro r
  constructor
  · intro h
    obtain ⟨N, hN⟩ := zR_iff.mp h
    cases N with
    | zero => cases hN
    | succ N =>
      unfold zrun at hN
      rw [he] at hN
      refine zstep_mono (zL_le (N + 1) d) (fun pc ls ls' st sh mm r hl q => ?_) (zle.rf _) hN
      exact zR_le (N + 1) d i _ _ _ _ _ _ _ hl (zrun_mono (zcall_mono (Nat.le_refl (N + 1)) d d (Nat.le_refl d)) i N (N + 1) (by omega) _ _ _ _ _ _ _ (zle.rf _) q)
  · intro h
    rw [zstep_p, zs1_nf] at h
    have key : ∀ N, zstep (zcall N d) e pc ls st sh mm (zrun (zcall N d) i N) = some r → zR d i pc ls st sh mm = some r := fun N q => by
      refine zR_iff.mpr ⟨N + 1, ?_⟩
      unfold zrun
      rw [he]
      exact zstep_mono (zcall_mono (by omega) d d (Nat.le_refl d)) (zrun_mono (zcall_mono (by omega) d d (Nat.le_refl d)) i N N (Nat.le_refl N)) (zle.rf _) q
    have key2 : ∀ N, zint False (fun v sh mm => (v, sh, mm) = r) (fun pc ls st sh mm => zrun (zcall N d) i N pc ls st sh mm = some r)
      (fun j b as pc ls rest sh mm => (bif b then zcI (zcall N d j as sh mm) (fun x sh' mm' => zrun (zcall N d) i N pc ls (.inl x :: rest) sh' mm') else zcV (zcall N d j as sh mm) (fun sh' mm' => zrun (zcall N d) i N pc ls rest sh' mm')) = some r) (znf e pc ls st sh mm) → zR d i pc ls st sh mm = some r := fun N q => key N (by rw [zstep_p, zs1_nf]; exact q)
    cases hz : znf e pc ls st sh mm with
    | none => rw [hz] at h; exact h.elim
    | some z =>
      rw [hz] at h key2
      rcases z with ⟨v, sh', mm'⟩ | ⟨pc', ls', st', sh', mm'⟩ | ⟨j, b, as, pc', ls', st', sh', mm'⟩
      · exact key2 0 h
      · obtain ⟨N, hN⟩ := zR_iff.mp h
        exact key2 N hN
      · cases b
        · have h : zcV (zL d j as sh' mm') (fun sh' mm' => zR d i pc' ls' st' sh' mm') = some r := h
          cases hc : zL d j as sh' mm' with
          | none => rw [hc] at h; cases h
          | some v =>
            rw [hc] at h
            obtain ⟨v, sh2, mm2⟩ := v
            cases v with
            | some v => cases h
            | none =>
              obtain ⟨N1, h1⟩ := zL_iff.mp hc
              obtain ⟨N2, h2⟩ := zR_iff.mp h
              refine key2 (max N1 N2) ?_
              show zcV (zcall (max N1 N2) d j as sh' mm') _ = some r
              rw [zcall_mono (Nat.le_max_left N1 N2) d d (Nat.le_refl d) _ _ _ _ _ h1]
              exact zrun_mono (zcall_mono (Nat.le_max_right N1 N2) d d (Nat.le_refl d)) i _ _ (Nat.le_max_right N1 N2) _ _ _ _ _ _ _ (zle.rf _) h2
        · have h : zcI (zL d j as sh' mm') (fun x sh' mm' => zR d i pc' ls' (.inl x :: st') sh' mm') = some r := h
          cases hc : zL d j as sh' mm' with
          | none => rw [hc] at h; cases h
          | some v =>
            rw [hc] at h
            obtain ⟨v, sh2, mm2⟩ := v
            cases v with
            | none => cases h
            | some v => cases v with
              | inr v => cases h
              | inl x =>
                obtain ⟨N1, h1⟩ := zL_iff.mp hc
                obtain ⟨N2, h2⟩ := zR_iff.mp h
                refine key2 (max N1 N2) ?_
                show zcI (zcall (max N1 N2) d j as sh' mm') _ = some r
                rw [zcall_mono (Nat.le_max_left N1 N2) d d (Nat.le_refl d) _ _ _ _ _ h1]
                exact zrun_mono (zcall_mono (Nat.le_max_right N1 N2) d d (Nat.le_refl d)) i _ _ (Nat.le_max_right N1 N2) _ _ _ _ _ _ _ (zle.rf _) h2
theorem zR_no {d i pc : Nat} (he : zC i pc = none) (ls : zLs) (st : List zV) (sh : List zSh) (mm : zMm) : zR d i pc ls st sh mm = none := by
  cases h : zR d i pc ls st sh mm with
  | none => rfl
  | some r =>
    obtain ⟨N, hN⟩ := zR_iff.mp h
    cases N with
    | zero => cases hN
    | succ N =>
      unfold zrun at hN
      rw [he] at hN
      cases hN
/-- many steps at once, up to the cuts -/
theorem zR_unf (d i : Nat) (cuts : List Nat) : ∀ (m pc : Nat) (ls : zLs) (st : List zV) (sh : List zSh) (mm : zMm), zR d i pc ls st sh mm = zunf (zL d) i (zR d i) cuts m pc ls st sh mm
  | 0, pc, ls, st, sh, mm => rfl
  | m + 1, pc, ls, st, sh, mm => by
    unfold zunf
    cases he : zC i pc with
    | none => exact zR_no he ls st sh mm
    | some e =>
      rw [zR_step he]
      unfold zstep
      dsimp only
      congr 1
      funext pc' ls' st' sh' mm'
      cases cuts.contains pc'
      · exact zR_unf d i cuts m pc' ls' st' sh' mm'
      · rfl
end
section
def zr32 (x : Int) : Prop := -2147483648 ≤ x ∧ x < 2147483648
def zr64 (x : Int) : Prop := -9223372036854775808 ≤ x ∧ x < 9223372036854775808
theorem zr_i (x : Int32) : zr32 x.toInt := ⟨Int32.le_toInt x, Int32.toInt_lt x⟩
theorem zr_l (x : Int64) : zr64 x.toInt := ⟨Int64.le_toInt x, Int64.toInt_lt x⟩
theorem zw_eq (x : Int) : zw x = (Int32.ofInt x).toInt := by rw [Int32.toInt_ofInt]; rfl
theorem zwl_eq (x : Int) : zwl x = (Int64.ofInt x).toInt := by rw [Int64.toInt_ofInt]; rfl
theorem zw_r (x : Int) : zr32 (zw x) := by rw [zw_eq]; exact zr_i _
theorem zwl_r (x : Int) : zr64 (zwl x) := by rw [zwl_eq]; exact zr_l _
theorem zw_o (x : Int) : Int32.ofInt (zw x) = Int32.ofInt x := by rw [zw_eq, Int32.ofInt_toInt]
theorem zwl_o (x : Int) : Int64.ofInt (zwl x) = Int64.ofInt x := by rw [zwl_eq, Int64.ofInt_toInt]
theorem zo_i {x : Int} (h : zr32 x) : (Int32.ofInt x).toInt = x := Int32.toInt_ofInt_of_le h.1 h.2
theorem zo_l {x : Int} (h : zr64 x) : (Int64.ofInt x).toInt = x := Int64.toInt_ofInt_of_le h.1 h.2
theorem zo_le {x y : Int} (hx : zr32 x) (hy : zr32 y) : Int32.ofInt x ≤ Int32.ofInt y ↔ x ≤ y := by rw [Int32.le_iff_toInt_le, zo_i hx, zo_i hy]
theorem zo_lt {x y : Int} (hx : zr32 x) (hy : zr32 y) : Int32.ofInt x < Int32.ofInt y ↔ x < y := by rw [Int32.lt_iff_toInt_lt, zo_i hx, zo_i hy]
theorem zo_eq {x y : Int} (hx : zr32 x) (hy : zr32 y) : Int32.ofInt x = Int32.ofInt y ↔ x = y := by rw [← Int32.toInt_inj, zo_i hx, zo_i hy]
theorem zo_llt {x y : Int} (hx : zr64 x) (hy : zr64 y) : Int64.ofInt x < Int64.ofInt y ↔ x < y := by rw [Int64.lt_iff_toInt_lt, zo_l hx, zo_l hy]
theorem zo_leq {x y : Int} (hx : zr64 x) (hy : zr64 y) : Int64.ofInt x = Int64.ofInt y ↔ x = y := by rw [← Int64.toInt_inj, zo_l hx, zo_l hy]
theorem zo_0 : (0 : Int32) = Int32.ofInt 0 := rfl
theorem zr_0 : zr32 0 := ⟨by decide, by decide⟩
theorem zo_il {x : Int} (h : zr32 x) : (Int32.ofInt x).toInt64 = Int64.ofInt x := by
  rw [← Int64.toInt_inj, Int32.toInt_toInt64, zo_i h, zo_l ⟨by have := h.1; omega, by have := h.2; omega⟩]
theorem zr_il {x : Int} (h : zr32 x) : zr64 x := ⟨by have := h.1; omega, by have := h.2; omega⟩
theorem zo_nat {x : Int} (h : zr32 x) (h0 : 0 ≤ x) : (Int32.ofInt x).toNatClampNeg = x.toNat := by
  show (Int32.ofInt x).toInt.toNat = x.toNat
  rw [zo_i h]
theorem zo_in {x : Int} {n : Nat} (h : zr32 x) (h0 : 0 ≤ x) (h1 : x < n) : vp_in (Int32.ofInt x) n := vp_in_iff.mpr (by rw [zo_i h]; exact ⟨h0, h1⟩)
/-- values, as the machine has them -/
def zcv (ad : Nat → Nat × ClassId) (v : zV) : Value := match v with
  | .inl x => .int (Int32.ofInt x)
  | .inr (.inl x) => .long (Int64.ofInt x)
  | .inr (.inr k) => .ref (ad k).1
def zrg (n : Nat) (v : zV) : Prop := match v with
  | .inl x => zr32 x
  | .inr (.inl x) => zr64 x
  | .inr (.inr k) => k < n ∨ k = 999
def zro (ad : Nat → Nat × ClassId) (rs : List Nat) (j : Nat) : Option Nat := match rs.getD j 0 with
  | 0 => none
  | b + 1 => some (ad b).1
def zfv (ad : Nat → Nat × ClassId) (kd : Nat) (rs : List Nat) (f : Nat → Int) (j : Nat) : Value := if zft kd j = 2 then va_rf (zro ad rs j) else .int (Int32.ofInt (f j))
def zce (ad : Nat → Nat × ClassId) (k : Nat) (s : zSh) (f : Nat → Int) : va_E :=
  if s.1 < 100 then .inr (s.1, (List.range s.2.1).map (zfv ad s.1 s.2.2 f))
  else if s.1 = 103 then .inl ((ad k).2, s.2.1, .inr (.inr (.inr (.inr (zro ad s.2.2)))))
  else .inl ((ad k).2, s.2.1, .inl (fun j => Int32.ofInt (f j)))
def zws (ad : Nat → Nat × ClassId) (sh : List zSh) (mm : zMm) : va_W := sh.mapIdx (fun k s => ((ad k).1, zce ad k s (mm k)))
def ztot (sh : List zSh) : Nat := (sh.map (fun s => s.2.1)).sum
def zWf (sh : List zSh) (mm : zMm) : Prop :=
  (∀ (k : Nat) (s : zSh), sh[k]? = some s → (∀ b ∈ s.2.2, b ≤ sh.length) ∧ (s.1 < 100 → (zCl[s.1]?).map (fun z => z.2.2) = some s.2.1 ∧ s.2.2.length = s.2.1) ∧ (s.1 = 103 → s.2.2.length = s.2.1) ∧ s.1 ≤ 103 ∧ (100 ≤ s.1 → s.2.1 ≤ 4000)) ∧ (∀ k j, zr32 (mm k j)) ∧ sh.length ≤ 900
def zty (k : Nat) : FieldType := if k = 100 then .int else if k = 101 then .boolean else if k = 102 then .byte else .object "SlipWheel$Sheet"
def zTy (tys : List (ClassId × FieldType)) (ad : Nat → Nat × ClassId) (sh : List zSh) : Prop := ∀ (k : Nat) (s : zSh), sh[k]? = some s → 100 ≤ s.1 → ∃ t0 : Nat, tys[t0]? = some ((ad k).2, zty s.1)
def zInv (s : State) (D : va_G) (A : Nat → Prop) (tys : List (ClassId × FieldType)) (ad : Nat → Nat × ClassId) (sh : List zSh) (mm : zMm) (H : Heap) (locs : List Loc) : Prop :=
  va_P D zCl (zws ad sh mm) H ∧ va_D A (zws ad sh mm) ∧ va_K D zCl tys s ∧ va_S A s.heap H locs ∧ zWf sh mm ∧ zTy tys ad sh
def zPs (ad0 : Nat → Nat × ClassId) (sh0 : List zSh) (mm0 : zMm) (ad : Nat → Nat × ClassId) (sh : List zSh) (mm : zMm) : Prop :=
  sh0.length ≤ sh.length ∧ ztot sh0 ≤ ztot sh ∧ (∀ k, k < sh0.length ∨ 900 ≤ k → ad k = ad0 k) ∧ ∀ k, 900 ≤ k → mm k = mm0 k
def zLc (ad : Nat → Nat × ClassId) (n : Nat) (ls : zLs) (lsR : Array Slot) : Prop :=
  lsR.size = n ∧ ls.length = n ∧ lv_wf lsR ∧ ∀ (j : Nat) (v : zV), ls[j]? = some (some v) → lsR[j]? = some (.val (zcv ad v))
theorem zws_at {ad : Nat → Nat × ClassId} {sh : List zSh} {mm : zMm} {k : Nat} {s : zSh} (h : sh[k]? = some s) : (zws ad sh mm)[k]? = some ((ad k).1, zce ad k s (mm k)) := by
  unfold zws
  rw [List.getElem?_mapIdx, h]
  rfl
theorem zws_set {ad : Nat → Nat × ClassId} {sh sh' : List zSh} {mm mm' : zMm} {a : Nat} {s : zSh} (hs : sh' = sh.set a s) (ha : a < sh.length) (hm : ∀ k, k ≠ a → mm' k = mm k) :
    zws ad sh' mm' = (zws ad sh mm).set a ((ad a).1, zce ad a s (mm' a)) := by
  subst hs
  apply List.ext_getElem?
  intro k
  unfold zws
  rw [List.getElem?_mapIdx, List.getElem?_set, List.getElem?_set, List.getElem?_mapIdx, List.length_mapIdx]
  by_cases h : a = k
  · subst h
    simp [ha]
  · simp [h, hm k (fun e => h e.symm)]
theorem zro_cong {ad ad' : Nat → Nat × ClassId} {rs : List Nat} {n : Nat} (hr : ∀ b ∈ rs, b ≤ n) (hd : ∀ k, k < n → ad' k = ad k) : zro ad' rs = zro ad rs := by
  funext j
  unfold zro
  cases h : rs.getD j 0 with
  | zero => rfl
  | succ b =>
    have hb : b + 1 ∈ rs := by
      rw [List.getD_eq_getElem?_getD] at h
      cases h2 : rs[j]? with
      | none => rw [h2] at h; simp at h
      | some w =>
        rw [h2] at h
        simp at h
        subst h
        exact List.mem_of_getElem? h2
    simp only
    rw [hd b (by have := hr _ hb; omega)]
theorem zce_cong {ad ad' : Nat → Nat × ClassId} {k n : Nat} {s : zSh} {f : Nat → Int} (hr : ∀ b ∈ s.2.2, b ≤ n) (hk : k < n) (hd : ∀ k, k < n → ad' k = ad k) : zce ad' k s f = zce ad k s f := by
  unfold zce zfv
  rw [zro_cong hr hd, hd k hk]
theorem zws_app {ad ad' : Nat → Nat × ClassId} {sh : List zSh} {mm : zMm} {s : zSh} (hw : zWf sh mm) (hd : ∀ k, k < sh.length → ad' k = ad k) :
    zws ad' (sh ++ [s]) (zn mm sh.length) = zws ad sh mm ++ [((ad' sh.length).1, zce ad' sh.length s (fun _ => 0))] := by
  unfold zws
  rw [List.mapIdx_concat]
  congr 1
  · apply List.ext_getElem?
    intro k
    rw [List.getElem?_mapIdx, List.getElem?_mapIdx]
    cases h : sh[k]? with
    | none => rfl
    | some t =>
      have hk : k < sh.length := (List.getElem?_eq_some_iff.mp h).1
      have hz : zn mm sh.length k = mm k := by
        funext j
        exact if_neg (by omega)
      simp only [Option.map_some]
      rw [hd k hk, hz, zce_cong (hw.1 k t h).1 hk hd]
  · have hz : zn mm sh.length sh.length = fun _ => 0 := by
      funext j
      exact if_pos rfl
    rw [hz]
theorem zcv_cong {ad ad' : Nat → Nat × ClassId} {n : Nat} {v : zV} (h : zrg n v) (hd : ∀ k, k < n ∨ 900 ≤ k → ad' k = ad k) : zcv ad' v = zcv ad v := by
  rcases v with x | x | k
  · rfl
  · rfl
  · have h1 : k < n ∨ k = 999 := h
    show Value.ref (ad' k).1 = Value.ref (ad k).1
    rw [hd k (by omega)]
theorem zrg_mono {n n' : Nat} (h : n ≤ n') {v : zV} (hv : zrg n v) : zrg n' v := by
  rcases v with x | x | k
  · exact hv
  · exact hv
  · rcases hv with h1 | h1
    · exact Or.inl (by omega)
    · exact Or.inr h1
theorem zcat_cv (ad : Nat → Nat × ClassId) (v : zV) : (zcv ad v).category = zcat v := by rcases v with x | x | k <;> rfl
theorem zcs_cv (ad : Nat → Nat × ClassId) : ∀ st : List zV, ((st.map (zcv ad)).map fun v => v.category).sum = zcs st
  | [] => rfl
  | v :: t => by
    simp only [List.map_cons, List.sum_cons, zcs, zcat_cv]
    rw [← zcs_cv ad t]
/-- the listed locals, for the kit's rows -/
def zlp (ad : Nat → Nat × ClassId) (ls : zLs) : List (Nat × Value) := (List.range ls.length).filterMap (fun j => match ls[j]? with
  | some (some v) => some (j, zcv ad v)
  | _ => none)
theorem zlp_mem {ad : Nat → Nat × ClassId} {ls : zLs} {q : Nat × Value} : q ∈ zlp ad ls ↔ ∃ v, ls[q.1]? = some (some v) ∧ q.2 = zcv ad v := by
  unfold zlp
  rw [List.mem_filterMap]
  constructor
  · rintro ⟨j, hj, h⟩
    split at h
    · rename_i v hv
      cases h
      exact ⟨v, hv, rfl⟩
    · cases h
  · rintro ⟨v, hv, hq⟩
    have hlt : q.1 < ls.length := (List.getElem?_eq_some_iff.mp hv).1
    refine ⟨q.1, List.mem_range.mpr hlt, ?_⟩
    rw [hv]
    show some (q.1, zcv ad v) = some q
    rw [← hq]
theorem zLc.has {ad : Nat → Nat × ClassId} {n : Nat} {ls : zLs} {lsR : Array Slot} (h : zLc ad n ls lsR) : lv_has lsR n (zlp ad ls) :=
  ⟨h.1, h.2.2.1, fun q hq => by obtain ⟨v, hv, e⟩ := zlp_mem.mp hq; rw [e]; exact h.2.2.2 _ _ hv⟩
theorem zst_len (ls : zLs) (i : Nat) (v : zV) : (zst ls i v).length = ls.length := by
  cases i with
  | zero => simp [zst]
  | succ j =>
    simp only [zst]
    split <;> simp
theorem zst_at {ls : zLs} {i : Nat} {v : zV} {j : Nat} {w : zV} (hi : i < ls.length) (h : (zst ls i v)[j]? = some (some w)) : (j = i ∧ w = v) ∨ (j ≠ i ∧ ls[j]? = some (some w) ∧ ¬ (j + 1 = i ∧ zcat w = 2)) := by
  by_cases e : j = i
  · subst e
    refine Or.inl ⟨rfl, ?_⟩
    cases j with
    | zero =>
      simp only [zst, List.getElem?_set] at h
      simpa [hi, eq_comm] using h
    | succ j =>
      simp only [zst] at h
      split at h <;> simpa [List.getElem?_set, hi, eq_comm] using h
  · refine Or.inr ⟨e, ?_⟩
    cases i with
    | zero =>
      simp only [zst, List.getElem?_set] at h
      rw [if_neg (fun q => e q.symm)] at h
      exact ⟨h, fun q => by omega⟩
    | succ i =>
      simp only [zst] at h
      split at h
      · rename_i x hx
        rw [List.getElem?_set, if_neg (fun q => e q.symm), List.getElem?_set] at h
        split at h
        · split at h <;> cases h
        · rename_i hn
          exact ⟨h, fun q => hn (by omega)⟩
      · rename_i hn
        rw [List.getElem?_set, if_neg (fun q => e q.symm)] at h
        refine ⟨h, fun q => ?_⟩
        obtain ⟨q1, q2⟩ := q
        have : j = i := by omega
        subst this
        rcases w with x | x | x
        · cases q2
        · exact hn x h
        · cases q2
theorem zLc.st {ad : Nat → Nat × ClassId} {n : Nat} {ls : zLs} {i : Nat} {v : zV} {lsR : Array Slot} (hn : ls.length = n) (hi : i < n) (h : lv_has lsR n ((i, zcv ad v) :: (zlp ad ls).filter (fun q => !(q.1 == i) && !(q.1 + 1 == i && q.2.category == 2)))) : zLc ad n (zst ls i v) lsR := by
  refine ⟨h.1, (zst_len ls i v).trans hn, h.2.1, fun j w hj => ?_⟩
  rcases zst_at (by omega) hj with ⟨rfl, rfl⟩ | ⟨h1, h2, h3⟩
  · exact h.2.2 _ List.mem_cons_self
  · refine h.2.2 (j, zcv ad w) (List.mem_cons_of_mem _ (List.mem_filter.mpr ⟨zlp_mem.mpr ⟨w, h2, rfl⟩, ?_⟩))
    simp only [Bool.and_eq_true, Bool.not_eq_true', beq_eq_false_iff_ne, ne_eq, Bool.and_eq_false_iff]
    refine ⟨h1, ?_⟩
    by_cases q : j + 1 = i
    · right
      intro h4
      rw [zcat_cv] at h4
      exact h3 ⟨q, h4⟩
    · exact Or.inl q
theorem zLc.cong {ad ad' : Nat → Nat × ClassId} {n m : Nat} {ls : zLs} {lsR : Array Slot} (h : zLc ad n ls lsR) (hr : ∀ v, some v ∈ ls → zrg m v) (hd : ∀ k, k < m ∨ 900 ≤ k → ad' k = ad k) : zLc ad' n ls lsR :=
  ⟨h.1, h.2.1, h.2.2.1, fun j v hj => by rw [zcv_cong (hr v (List.mem_of_getElem? hj)) hd]; exact h.2.2.2 j v hj⟩
theorem zst_mem {ls : zLs} {i : Nat} {v w : zV} (hi : i < ls.length) (h : some w ∈ zst ls i v) : w = v ∨ some w ∈ ls := by
  obtain ⟨j, hj⟩ := List.mem_iff_getElem?.mp h
  rcases zst_at hi hj with ⟨-, e⟩ | ⟨-, e, -⟩
  · exact Or.inl e
  · exact Or.inr (List.mem_of_getElem? e)
end
section
/-- the script, as it lies there, away from the cells -/
def zScr (A : Nat → Prop) (ad0 : Nat → Nat × ClassId) (mm0 : zMm) (s : State) : Prop := ∃ (b L : Nat) (xs : Nat → Int32), va_X b L xs s s.heap ∧ b < s.heap.size ∧ ¬ A b ∧ (ad0 999).1 = b ∧ mm0 998 0 = L ∧ L < 2147483648 ∧ ∀ j, j < L → mm0 999 j = (xs j).toInt
def zCtx (p : Program) (R : Room) (s : State) (m : MethodId) (args : Array Value) (meth : Method) (c : Code) (i d : Nat) (D : va_G) (A : Nat → Prop) (ad0 : Nat → Nat × ClassId) (sh0 : List zSh) (mm0 : zMm) (shF : List zSh) : Prop :=
  p.tables.exec = Jvm.exec ∧ c.code = zBy i ∧ c.maxLocals = zml i ∧ s.vm.findClass (zon (zoc i)) = some m.cls ∧ (∀ w ∈ zWS, w.before args s = true) ∧ (∀ w ∈ zNst, va_Nw w s) ∧ va_AO "SlipWheel$Sheet" s ∧ (∀ q, s.heap.size ≤ q → A q) ∧ (zmk i = 2 → meth.name = "<init>") ∧ (d + 1 ≤ R.frames ∧ 40 * (d + 1) ≤ R.locals) ∧ (shF.length - sh0.length ≤ R.cells ∧ ztot shF - ztot sh0 ≤ R.slots) ∧
  zScr A ad0 mm0 s
def zGo (p : Program) (l : Launch) (e : Env) (R : Room) (s : State) (m : MethodId) (args : Array Value) (below : List Frame) (meth : Method) (c : Code) (Q : State → Prop) (i : Nat) (D : va_G) (A : Nat → Prop) (ad0 : Nat → Nat × ClassId) (sh0 : List zSh) (mm0 : zMm) (pc : Nat) (ls : zLs) (st : List zV) (sh : List zSh) (mm : zMm) : Prop :=
  ∀ (tys : List (ClassId × FieldType)) (ad : Nat → Nat × ClassId) (H : Heap) (locs : List Loc) (lsR : Array Slot), zInv s D A tys ad sh mm H locs → zPs ad0 sh0 mm0 ad sh mm → zLc ad (zml i) ls lsR → (∀ v, some v ∈ ls → zrg sh.length v) → (∀ v ∈ st, zrg sh.length v) →
    W p l e R s m args below meth c H locs (sh.length - sh0.length) (ztot sh - ztot sh0) Q (F0 m pc lsR (st.map (zcv ad)))
def zEnd (p : Program) (l : Launch) (e : Env) (R : Room) (s : State) (m : MethodId) (args : Array Value) (below : List Frame) (meth : Method) (c : Code) (Q : State → Prop) (i : Nat) (D : va_G) (A : Nat → Prop) (ad0 : Nat → Nat × ClassId) (sh0 : List zSh) (mm0 : zMm) (v : Option zV) (sh : List zSh) (mm : zMm) : Prop :=
  ∀ (pc : Nat) (tys : List (ClassId × FieldType)) (ad : Nat → Nat × ClassId) (H : Heap) (locs : List Loc) (lsR : Array Slot), zInv s D A tys ad sh mm H locs → zPs ad0 sh0 mm0 ad sh mm → (match v with
    | none => zRt i = none → decode (zBy i) pc = .ok (.return_, 1) → W p l e R s m args below meth c H locs (sh.length - sh0.length) (ztot sh - ztot sh0) Q (F0 m pc lsR [])
    | some (.inl x) => zr32 x → (zRt i = some .boolean ∧ (x = 0 ∨ x = 1) ∨ zRt i = some .int) → decode (zBy i) pc = .ok (.ireturn, 1) → W p l e R s m args below meth c H locs (sh.length - sh0.length) (ztot sh - ztot sh0) Q (F0 m pc lsR [.int (Int32.ofInt x)])
    | _ => True)
def zGG (p : Program) (l : Launch) (e : Env) (R : Room) (s : State) (m : MethodId) (args : Array Value) (below : List Frame) (meth : Method) (c : Code) (Q : State → Prop) (i : Nat) (D : va_G) (A : Nat → Prop) (ad0 : Nat → Nat × ClassId) (sh0 : List zSh) (mm0 : zMm) (shF : List zSh) (pc : Nat) (ls : zLs) (st : List zV) (sh : List zSh) (mm : zMm) : Prop :=
  zGo p l e R s m args below meth c Q i D A ad0 sh0 mm0 pc ls st sh mm ∧ sh.length ≤ shF.length ∧ ztot sh ≤ ztot shF
def zKK (C : zC0) (G : Nat → zLs → List zV → List zSh → zMm → Prop) (j : Nat) (b : Bool) (as : List zV) (pc : Nat) (ls : zLs) (rest : List zV) (sh : List zSh) (mm : zMm) : Prop :=
  bif b then ∃ x sh' mm', C j as sh mm = some (some (.inl x), sh', mm') ∧ G pc ls (.inl x :: rest) sh' mm' else ∃ sh' mm', C j as sh mm = some (none, sh', mm') ∧ G pc ls rest sh' mm'
/-- one instruction is sound -/
def zSd (p : Program) (l : Launch) (e : Env) (R : Room) (s : State) (m : MethodId) (args : Array Value) (below : List Frame) (meth : Method) (c : Code) (Q : State → Prop) (i : Nat) (D : va_G) (A : Nat → Prop) (ad0 : Nat → Nat × ClassId) (sh0 : List zSh) (mm0 : zMm) (shF : List zSh) (C : zC0) (e0 : zEn) : Prop :=
  ∀ pc ls st sh mm, zC i pc = some e0 → zs1 (β := Prop) False (zEnd p l e R s m args below meth c Q i D A ad0 sh0 mm0) (zGG p l e R s m args below meth c Q i D A ad0 sh0 mm0 shF) (zKK C (zGG p l e R s m args below meth c Q i D A ad0 sh0 mm0 shF)) e0 pc ls st sh mm → zGo p l e R s m args below meth c Q i D A ad0 sh0 mm0 pc ls st sh mm
theorem zx_b1 {st : List zV} {f : Int → List zV → Prop} (h : zb1 False st f) : ∃ x t, st = .inl x :: t ∧ f x t := by
  unfold zb1 at h
  split at h
  · exact ⟨_, _, rfl, h⟩
  · exact h.elim
theorem zx_b2 {st : List zV} {f : Int → Int → List zV → Prop} (h : zb2 False st f) : ∃ x y t, st = .inl y :: .inl x :: t ∧ f x y t := by
  unfold zb2 at h
  split at h
  · exact ⟨_, _, _, rfl, h⟩
  · exact h.elim
theorem zx_bl1 {st : List zV} {f : Int → List zV → Prop} (h : zbl1 False st f) : ∃ x t, st = .inr (.inl x) :: t ∧ f x t := by
  unfold zbl1 at h
  split at h
  · exact ⟨_, _, rfl, h⟩
  · exact h.elim
theorem zx_bl2 {st : List zV} {f : Int → Int → List zV → Prop} (h : zbl2 False st f) : ∃ x y t, st = .inr (.inl y) :: .inr (.inl x) :: t ∧ f x y t := by
  unfold zbl2 at h
  split at h
  · exact ⟨_, _, _, rfl, h⟩
  · exact h.elim
theorem zx_bli {st : List zV} {f : Int → Int → List zV → Prop} (h : zbli False st f) : ∃ x y t, st = .inl y :: .inr (.inl x) :: t ∧ f x y t := by
  unfold zbli at h
  split at h
  · exact ⟨_, _, _, rfl, h⟩
  · exact h.elim
theorem zx_br {st : List zV} {f : Nat → List zV → Prop} (h : zbr False st f) : ∃ x t, st = .inr (.inr x) :: t ∧ f x t := by
  unfold zbr at h
  split at h
  · exact ⟨_, _, rfl, h⟩
  · exact h.elim
theorem zx_bir {st : List zV} {f : Nat → Int → List zV → Prop} (h : zbir False st f) : ∃ a j t, st = .inl j :: .inr (.inr a) :: t ∧ f a j t := by
  unfold zbir at h
  split at h
  · exact ⟨_, _, _, rfl, h⟩
  · exact h.elim
theorem zx_biir {st : List zV} {f : Nat → Int → Int → List zV → Prop} (h : zbiir False st f) : ∃ a j x t, st = .inl x :: .inl j :: .inr (.inr a) :: t ∧ f a j x t := by
  unfold zbiir at h
  split at h
  · exact ⟨_, _, _, _, rfl, h⟩
  · exact h.elim
theorem zx_sh {sh : List zSh} {a : Nat} {f : Nat → Nat → List Nat → Prop} (h : zsh False sh a f) : ∃ k n rs, sh[a]? = some (k, n, rs) ∧ f k n rs := by
  unfold zsh at h
  split at h
  · rename_i hh
    exact ⟨_, _, _, hh, h⟩
  · exact h.elim
theorem zx_ld {ls : zLs} {j : Nat} {f : zV → Prop} (h : zld False ls j f) : ∃ v, ls[j]? = some (some v) ∧ f v := by
  unfold zld at h
  split at h
  · rename_i hh
    exact ⟨_, hh, h⟩
  · exact h.elim
theorem zx_cond {b : Bool} {P : Prop} (h : bif b then P else False) : b = true ∧ P := by
  cases b
  · exact h.elim
  · exact ⟨rfl, h⟩
theorem zx_ite {b : Prop} [Decidable b] {P : Prop} (h : if b then P else False) : b ∧ P := by
  split at h
  · rename_i hh
    exact ⟨hh, h⟩
  · exact h.elim
theorem zx_ite2 {b : Prop} [Decidable b] {P : Prop} (h : if b then False else P) : ¬ b ∧ P := by
  split at h
  · exact h.elim
  · rename_i hh
    exact ⟨hh, h⟩
theorem zx_sw {x : Int} {f : Nat → Prop} {dd : Nat} : ∀ {ts : List Nat} {lo : Int}, zsw x f dd lo ts → (∃ (k : Nat) (t : Nat), x = lo + k ∧ ts[k]? = some t ∧ f t) ∨ ((x < lo ∨ lo + ts.length ≤ x) ∧ f dd)
  | [], lo, h => Or.inr ⟨by simp only [List.length_nil]; omega, h⟩
  | t :: ts, lo, h => by
    unfold zsw at h
    split at h
    · rename_i hx
      exact Or.inl ⟨0, t, by omega, rfl, h⟩
    · rename_i hx
      rcases zx_sw h with ⟨k, u, h1, h2, h3⟩ | ⟨h1, h2⟩
      · exact Or.inl ⟨k + 1, u, by omega, h2, h3⟩
      · refine Or.inr ⟨?_, h2⟩
        simp only [List.length_cons]
        omega
section ZSD
variable {p : Program} {l : Launch} {e : Env} {R : Room} {s : State} {m : MethodId} {args : Array Value} {below : List Frame} {meth : Method} {c : Code} {Q : State → Prop}
variable {i d : Nat} {D : va_G} {A : Nat → Prop} {ad0 : Nat → Nat × ClassId} {sh0 : List zSh} {mm0 : zMm} {shF : List zSh}
theorem zsd_iadd {C : zC0} {len pp r : Nat} {q : Int} (C0 : zCtx p R s m args meth c i d D A ad0 sh0 mm0 shF) : zSd p l e R s m args below meth c Q i D A ad0 sh0 mm0 shF C (.iadd, len, pp, r, q) := by
  intro pc ls st sh mm hc hz tys ad H locs lsR hI hP hL hls hst
  obtain ⟨hx, hb, hml, hown, hts, hnw, hao, hA, hin, hR, hRc, hscr⟩ := C0
  have hk := zC_chk hc
  obtain rfl : len = 1 := Nat.eq_of_beq_eq_true hk
  have hd : decode (zBy i) pc = .ok (.iadd, 1) := zC_dec hc
  obtain ⟨x, y, t, rfl, hz⟩ := zx_b2 hz
  obtain ⟨ry, hst⟩ := List.forall_mem_cons.mp hst
  obtain ⟨rx, hst⟩ := List.forall_mem_cons.mp hst
  refine lv_iadd (x := Int32.ofInt x) (y := Int32.ofInt y) hx hb hd ?_
  rw [show Int32.ofInt x + Int32.ofInt y = Int32.ofInt (zw (x + y)) from by rw [zw_o, Int32.ofInt_add]]
  exact hz.1 tys ad H locs lsR hI hP hL hls (List.forall_mem_cons.mpr ⟨zw_r _, hst⟩)
theorem zsd_isub {C : zC0} {len pp r : Nat} {q : Int} (C0 : zCtx p R s m args meth c i d D A ad0 sh0 mm0 shF) : zSd p l e R s m args below meth c Q i D A ad0 sh0 mm0 shF C (.isub, len, pp, r, q) := by
  intro pc ls st sh mm hc hz tys ad H locs lsR hI hP hL hls hst
  obtain ⟨hx, hb, hml, hown, hts, hnw, hao, hA, hin, hR, hRc, hscr⟩ := C0
  have hk := zC_chk hc
  obtain rfl : len = 1 := Nat.eq_of_beq_eq_true hk
  have hd : decode (zBy i) pc = .ok (.isub, 1) := zC_dec hc
  obtain ⟨x, y, t, rfl, hz⟩ := zx_b2 hz
  obtain ⟨ry, hst⟩ := List.forall_mem_cons.mp hst
  obtain ⟨rx, hst⟩ := List.forall_mem_cons.mp hst
  refine lv_isub (x := Int32.ofInt x) (y := Int32.ofInt y) hx hb hd ?_
  rw [show Int32.ofInt x - Int32.ofInt y = Int32.ofInt (zw (x - y)) from by rw [zw_o, Int32.ofInt_sub]]
  exact hz.1 tys ad H locs lsR hI hP hL hls (List.forall_mem_cons.mpr ⟨zw_r _, hst⟩)
theorem zsd_imul {C : zC0} {len pp r : Nat} {q : Int} (C0 : zCtx p R s m args meth c i d D A ad0 sh0 mm0 shF) : zSd p l e R s m args below meth c Q i D A ad0 sh0 mm0 shF C (.imul, len, pp, r, q) := by
  intro pc ls st sh mm hc hz tys ad H locs lsR hI hP hL hls hst
  obtain ⟨hx, hb, hml, hown, hts, hnw, hao, hA, hin, hR, hRc, hscr⟩ := C0
  have hk := zC_chk hc
  obtain rfl : len = 1 := Nat.eq_of_beq_eq_true hk
  have hd : decode (zBy i) pc = .ok (.imul, 1) := zC_dec hc
  obtain ⟨x, y, t, rfl, hz⟩ := zx_b2 hz
  obtain ⟨ry, hst⟩ := List.forall_mem_cons.mp hst
  obtain ⟨rx, hst⟩ := List.forall_mem_cons.mp hst
  refine lv_imul (x := Int32.ofInt x) (y := Int32.ofInt y) hx hb hd ?_
  rw [show Int32.ofInt x * Int32.ofInt y = Int32.ofInt (zw (x * y)) from by rw [zw_o, Int32.ofInt_mul]]
  exact hz.1 tys ad H locs lsR hI hP hL hls (List.forall_mem_cons.mpr ⟨zw_r _, hst⟩)
theorem zsd_ishl {C : zC0} {len pp r : Nat} {q : Int} (C0 : zCtx p R s m args meth c i d D A ad0 sh0 mm0 shF) : zSd p l e R s m args below meth c Q i D A ad0 sh0 mm0 shF C (.ishl, len, pp, r, q) := by
  intro pc ls st sh mm hc hz tys ad H locs lsR hI hP hL hls hst
  obtain ⟨hx, hb, hml, hown, hts, hnw, hao, hA, hin, hR, hRc, hscr⟩ := C0
  have hk := zC_chk hc
  obtain rfl : len = 1 := Nat.eq_of_beq_eq_true hk
  have hd : decode (zBy i) pc = .ok (.ishl, 1) := zC_dec hc
  obtain ⟨x, y, t, rfl, hz⟩ := zx_b2 hz
  obtain ⟨ry, hst⟩ := List.forall_mem_cons.mp hst
  obtain ⟨rx, hst⟩ := List.forall_mem_cons.mp hst
  refine lv_ishl (x := Int32.ofInt x) (y := Int32.ofInt y) hx hb hd ?_
  have h := hz.1 tys ad H locs lsR hI hP hL hls (List.forall_mem_cons.mpr ⟨zr_i _, hst⟩)
  simp only [List.map_cons, zcv, zshl, Int32.ofInt_toInt] at h
  exact h
theorem zsd_ishr {C : zC0} {len pp r : Nat} {q : Int} (C0 : zCtx p R s m args meth c i d D A ad0 sh0 mm0 shF) : zSd p l e R s m args below meth c Q i D A ad0 sh0 mm0 shF C (.ishr, len, pp, r, q) := by
  intro pc ls st sh mm hc hz tys ad H locs lsR hI hP hL hls hst
  obtain ⟨hx, hb, hml, hown, hts, hnw, hao, hA, hin, hR, hRc, hscr⟩ := C0
  have hk := zC_chk hc
  obtain rfl : len = 1 := Nat.eq_of_beq_eq_true hk
  have hd : decode (zBy i) pc = .ok (.ishr, 1) := zC_dec hc
  obtain ⟨x, y, t, rfl, hz⟩ := zx_b2 hz
  obtain ⟨ry, hst⟩ := List.forall_mem_cons.mp hst
  obtain ⟨rx, hst⟩ := List.forall_mem_cons.mp hst
  refine lv_ishr (x := Int32.ofInt x) (y := Int32.ofInt y) hx hb hd ?_
  have h := hz.1 tys ad H locs lsR hI hP hL hls (List.forall_mem_cons.mpr ⟨zr_i _, hst⟩)
  simp only [List.map_cons, zcv, zshr, Int32.ofInt_toInt] at h
  exact h
theorem zsd_iand {C : zC0} {len pp r : Nat} {q : Int} (C0 : zCtx p R s m args meth c i d D A ad0 sh0 mm0 shF) : zSd p l e R s m args below meth c Q i D A ad0 sh0 mm0 shF C (.iand, len, pp, r, q) := by
  intro pc ls st sh mm hc hz tys ad H locs lsR hI hP hL hls hst
  obtain ⟨hx, hb, hml, hown, hts, hnw, hao, hA, hin, hR, hRc, hscr⟩ := C0
  have hk := zC_chk hc
  obtain rfl : len = 1 := Nat.eq_of_beq_eq_true hk
  have hd : decode (zBy i) pc = .ok (.iand, 1) := zC_dec hc
  obtain ⟨x, y, t, rfl, hz⟩ := zx_b2 hz
  obtain ⟨ry, hst⟩ := List.forall_mem_cons.mp hst
  obtain ⟨rx, hst⟩ := List.forall_mem_cons.mp hst
  refine lv_iand (x := Int32.ofInt x) (y := Int32.ofInt y) hx hb hd ?_
  have h := hz.1 tys ad H locs lsR hI hP hL hls (List.forall_mem_cons.mpr ⟨zr_i _, hst⟩)
  simp only [List.map_cons, zcv, zand, Int32.ofInt_toInt] at h
  exact h
theorem zsd_ior {C : zC0} {len pp r : Nat} {q : Int} (C0 : zCtx p R s m args meth c i d D A ad0 sh0 mm0 shF) : zSd p l e R s m args below meth c Q i D A ad0 sh0 mm0 shF C (.ior, len, pp, r, q) := by
  intro pc ls st sh mm hc hz tys ad H locs lsR hI hP hL hls hst
  obtain ⟨hx, hb, hml, hown, hts, hnw, hao, hA, hin, hR, hRc, hscr⟩ := C0
  have hk := zC_chk hc
  obtain rfl : len = 1 := Nat.eq_of_beq_eq_true hk
  have hd : decode (zBy i) pc = .ok (.ior, 1) := zC_dec hc
  obtain ⟨x, y, t, rfl, hz⟩ := zx_b2 hz
  obtain ⟨ry, hst⟩ := List.forall_mem_cons.mp hst
  obtain ⟨rx, hst⟩ := List.forall_mem_cons.mp hst
  refine lv_ior (x := Int32.ofInt x) (y := Int32.ofInt y) hx hb hd ?_
  have h := hz.1 tys ad H locs lsR hI hP hL hls (List.forall_mem_cons.mpr ⟨zr_i _, hst⟩)
  simp only [List.map_cons, zcv, zor, Int32.ofInt_toInt] at h
  exact h
theorem zsd_ixor {C : zC0} {len pp r : Nat} {q : Int} (C0 : zCtx p R s m args meth c i d D A ad0 sh0 mm0 shF) : zSd p l e R s m args below meth c Q i D A ad0 sh0 mm0 shF C (.ixor, len, pp, r, q) := by
  intro pc ls st sh mm hc hz tys ad H locs lsR hI hP hL hls hst
  obtain ⟨hx, hb, hml, hown, hts, hnw, hao, hA, hin, hR, hRc, hscr⟩ := C0
  have hk := zC_chk hc
  obtain rfl : len = 1 := Nat.eq_of_beq_eq_true hk
  have hd : decode (zBy i) pc = .ok (.ixor, 1) := zC_dec hc
  obtain ⟨x, y, t, rfl, hz⟩ := zx_b2 hz
  obtain ⟨ry, hst⟩ := List.forall_mem_cons.mp hst
  obtain ⟨rx, hst⟩ := List.forall_mem_cons.mp hst
  refine lv_ixor (x := Int32.ofInt x) (y := Int32.ofInt y) hx hb hd ?_
  have h := hz.1 tys ad H locs lsR hI hP hL hls (List.forall_mem_cons.mpr ⟨zr_i _, hst⟩)
  simp only [List.map_cons, zcv, zxor, Int32.ofInt_toInt] at h
  exact h
theorem zsd_iushr {C : zC0} {len pp r : Nat} {q : Int} (C0 : zCtx p R s m args meth c i d D A ad0 sh0 mm0 shF) : zSd p l e R s m args below meth c Q i D A ad0 sh0 mm0 shF C (.iushr, len, pp, r, q) := by
  intro pc ls st sh mm hc hz tys ad H locs lsR hI hP hL hls hst
  obtain ⟨hx, hb, hml, hown, hts, hnw, hao, hA, hin, hR, hRc, hscr⟩ := C0
  have hk := zC_chk hc
  obtain rfl : len = 1 := Nat.eq_of_beq_eq_true hk
  have hd : decode (zBy i) pc = .ok (.iushr, 1) := zC_dec hc
  obtain ⟨x, y, t, rfl, hz⟩ := zx_b2 hz
  obtain ⟨ry, hst⟩ := List.forall_mem_cons.mp hst
  obtain ⟨rx, hst⟩ := List.forall_mem_cons.mp hst
  refine lv_iushr (x := Int32.ofInt x) (y := Int32.ofInt y) (v := Int32.ofInt (zush x y)) hx hb hd (Int32.ofInt_toInt _).symm ?_
  exact hz.1 tys ad H locs lsR hI hP hL hls (List.forall_mem_cons.mpr ⟨zr_i _, hst⟩)
theorem zsd_idiv {C : zC0} {len pp r : Nat} {q : Int} (C0 : zCtx p R s m args meth c i d D A ad0 sh0 mm0 shF) : zSd p l e R s m args below meth c Q i D A ad0 sh0 mm0 shF C (.idiv, len, pp, r, q) := by
  intro pc ls st sh mm hc hz tys ad H locs lsR hI hP hL hls hst
  obtain ⟨hx, hb, hml, hown, hts, hnw, hao, hA, hin, hR, hRc, hscr⟩ := C0
  have hk := zC_chk hc
  obtain rfl : len = 1 := Nat.eq_of_beq_eq_true hk
  have hd : decode (zBy i) pc = .ok (.idiv, 1) := zC_dec hc
  obtain ⟨x, y, t, rfl, hz⟩ := zx_b2 hz
  obtain ⟨hy, hz⟩ := zx_ite2 hz
  obtain ⟨ry, hst⟩ := List.forall_mem_cons.mp hst
  obtain ⟨rx, hst⟩ := List.forall_mem_cons.mp hst
  refine lv_idiv (x := Int32.ofInt x) (y := Int32.ofInt y) hx hb hd (fun q0 => hy ((zo_eq ry zr_0).mp q0)) ?_
  have h := hz.1 tys ad H locs lsR hI hP hL hls (List.forall_mem_cons.mpr ⟨zr_i _, hst⟩)
  simp only [List.map_cons, zcv, zdiv, Int32.ofInt_toInt] at h
  exact h
theorem zsd_irem {C : zC0} {len pp r : Nat} {q : Int} (C0 : zCtx p R s m args meth c i d D A ad0 sh0 mm0 shF) : zSd p l e R s m args below meth c Q i D A ad0 sh0 mm0 shF C (.irem, len, pp, r, q) := by
  intro pc ls st sh mm hc hz tys ad H locs lsR hI hP hL hls hst
  obtain ⟨hx, hb, hml, hown, hts, hnw, hao, hA, hin, hR, hRc, hscr⟩ := C0
  have hk := zC_chk hc
  obtain rfl : len = 1 := Nat.eq_of_beq_eq_true hk
  have hd : decode (zBy i) pc = .ok (.irem, 1) := zC_dec hc
  obtain ⟨x, y, t, rfl, hz⟩ := zx_b2 hz
  obtain ⟨hy, hz⟩ := zx_ite2 hz
  obtain ⟨ry, hst⟩ := List.forall_mem_cons.mp hst
  obtain ⟨rx, hst⟩ := List.forall_mem_cons.mp hst
  refine lv_irem (x := Int32.ofInt x) (y := Int32.ofInt y) hx hb hd (fun q0 => hy ((zo_eq ry zr_0).mp q0)) ?_
  have h := hz.1 tys ad H locs lsR hI hP hL hls (List.forall_mem_cons.mpr ⟨zr_i _, hst⟩)
  simp only [List.map_cons, zcv, zrem, Int32.ofInt_toInt] at h
  exact h
theorem zsd_i2b {C : zC0} {len pp r : Nat} {q : Int} (C0 : zCtx p R s m args meth c i d D A ad0 sh0 mm0 shF) : zSd p l e R s m args below meth c Q i D A ad0 sh0 mm0 shF C (.i2b, len, pp, r, q) := by
  intro pc ls st sh mm hc hz tys ad H locs lsR hI hP hL hls hst
  obtain ⟨hx, hb, hml, hown, hts, hnw, hao, hA, hin, hR, hRc, hscr⟩ := C0
  have hk := zC_chk hc
  obtain rfl : len = 1 := Nat.eq_of_beq_eq_true hk
  have hd : decode (zBy i) pc = .ok (.i2b, 1) := zC_dec hc
  obtain ⟨x, t, rfl, hz⟩ := zx_b1 hz
  obtain ⟨rx, hst⟩ := List.forall_mem_cons.mp hst
  refine lv_i2b (x := Int32.ofInt x) (v := Int32.ofInt (zi2b x)) hx hb hd (Int32.ofInt_toInt _).symm ?_
  exact hz.1 tys ad H locs lsR hI hP hL hls (List.forall_mem_cons.mpr ⟨zr_i _, hst⟩)
theorem zsd_i2s {C : zC0} {len pp r : Nat} {q : Int} (C0 : zCtx p R s m args meth c i d D A ad0 sh0 mm0 shF) : zSd p l e R s m args below meth c Q i D A ad0 sh0 mm0 shF C (.i2s, len, pp, r, q) := by
  intro pc ls st sh mm hc hz tys ad H locs lsR hI hP hL hls hst
  obtain ⟨hx, hb, hml, hown, hts, hnw, hao, hA, hin, hR, hRc, hscr⟩ := C0
  have hk := zC_chk hc
  obtain rfl : len = 1 := Nat.eq_of_beq_eq_true hk
  have hd : decode (zBy i) pc = .ok (.i2s, 1) := zC_dec hc
  obtain ⟨x, t, rfl, hz⟩ := zx_b1 hz
  obtain ⟨rx, hst⟩ := List.forall_mem_cons.mp hst
  refine lv_i2s (x := Int32.ofInt x) (v := Int32.ofInt (zi2s x)) hx hb hd (Int32.ofInt_toInt _).symm ?_
  exact hz.1 tys ad H locs lsR hI hP hL hls (List.forall_mem_cons.mpr ⟨zr_i _, hst⟩)
theorem zsd_i2l {C : zC0} {len pp r : Nat} {q : Int} (C0 : zCtx p R s m args meth c i d D A ad0 sh0 mm0 shF) : zSd p l e R s m args below meth c Q i D A ad0 sh0 mm0 shF C (.i2l, len, pp, r, q) := by
  intro pc ls st sh mm hc hz tys ad H locs lsR hI hP hL hls hst
  obtain ⟨hx, hb, hml, hown, hts, hnw, hao, hA, hin, hR, hRc, hscr⟩ := C0
  have hk := zC_chk hc
  obtain rfl : len = 1 := Nat.eq_of_beq_eq_true hk
  have hd : decode (zBy i) pc = .ok (.i2l, 1) := zC_dec hc
  obtain ⟨x, t, rfl, hz⟩ := zx_b1 hz
  obtain ⟨rx, hst⟩ := List.forall_mem_cons.mp hst
  refine lv_i2l (x := Int32.ofInt x) (v := Int64.ofInt x) hx hb hd (zo_il rx) ?_
  exact hz.1 tys ad H locs lsR hI hP hL hls (List.forall_mem_cons.mpr ⟨zr_il rx, hst⟩)
theorem zsd_l2i {C : zC0} {len pp r : Nat} {q : Int} (C0 : zCtx p R s m args meth c i d D A ad0 sh0 mm0 shF) : zSd p l e R s m args below meth c Q i D A ad0 sh0 mm0 shF C (.l2i, len, pp, r, q) := by
  intro pc ls st sh mm hc hz tys ad H locs lsR hI hP hL hls hst
  obtain ⟨hx, hb, hml, hown, hts, hnw, hao, hA, hin, hR, hRc, hscr⟩ := C0
  have hk := zC_chk hc
  obtain rfl : len = 1 := Nat.eq_of_beq_eq_true hk
  have hd : decode (zBy i) pc = .ok (.l2i, 1) := zC_dec hc
  obtain ⟨x, t, rfl, hz⟩ := zx_bl1 hz
  obtain ⟨rx, hst⟩ := List.forall_mem_cons.mp hst
  refine lv_l2i (x := Int64.ofInt x) (v := Int32.ofInt (zw x)) hx hb hd (by rw [zw_o, Int64.toInt32_ofInt]) ?_
  exact hz.1 tys ad H locs lsR hI hP hL hls (List.forall_mem_cons.mpr ⟨zw_r _, hst⟩)
theorem zsd_ladd {C : zC0} {len pp r : Nat} {q : Int} (C0 : zCtx p R s m args meth c i d D A ad0 sh0 mm0 shF) : zSd p l e R s m args below meth c Q i D A ad0 sh0 mm0 shF C (.ladd, len, pp, r, q) := by
  intro pc ls st sh mm hc hz tys ad H locs lsR hI hP hL hls hst
  obtain ⟨hx, hb, hml, hown, hts, hnw, hao, hA, hin, hR, hRc, hscr⟩ := C0
  have hk := zC_chk hc
  obtain rfl : len = 1 := Nat.eq_of_beq_eq_true hk
  have hd : decode (zBy i) pc = .ok (.ladd, 1) := zC_dec hc
  obtain ⟨x, y, t, rfl, hz⟩ := zx_bl2 hz
  obtain ⟨ry, hst⟩ := List.forall_mem_cons.mp hst
  obtain ⟨rx, hst⟩ := List.forall_mem_cons.mp hst
  refine lv_ladd (x := Int64.ofInt x) (y := Int64.ofInt y) hx hb hd ?_
  rw [show Int64.ofInt x + Int64.ofInt y = Int64.ofInt (zwl (x + y)) by rw [zwl_o, Int64.ofInt_add]]
  exact hz.1 tys ad H locs lsR hI hP hL hls (List.forall_mem_cons.mpr ⟨zwl_r _, hst⟩)
theorem zsd_lmul {C : zC0} {len pp r : Nat} {q : Int} (C0 : zCtx p R s m args meth c i d D A ad0 sh0 mm0 shF) : zSd p l e R s m args below meth c Q i D A ad0 sh0 mm0 shF C (.lmul, len, pp, r, q) := by
  intro pc ls st sh mm hc hz tys ad H locs lsR hI hP hL hls hst
  obtain ⟨hx, hb, hml, hown, hts, hnw, hao, hA, hin, hR, hRc, hscr⟩ := C0
  have hk := zC_chk hc
  obtain rfl : len = 1 := Nat.eq_of_beq_eq_true hk
  have hd : decode (zBy i) pc = .ok (.lmul, 1) := zC_dec hc
  obtain ⟨x, y, t, rfl, hz⟩ := zx_bl2 hz
  obtain ⟨ry, hst⟩ := List.forall_mem_cons.mp hst
  obtain ⟨rx, hst⟩ := List.forall_mem_cons.mp hst
  refine lv_lmul (x := Int64.ofInt x) (y := Int64.ofInt y) hx hb hd ?_
  rw [show Int64.ofInt x * Int64.ofInt y = Int64.ofInt (zwl (x * y)) by rw [zwl_o, Int64.ofInt_mul]]
  exact hz.1 tys ad H locs lsR hI hP hL hls (List.forall_mem_cons.mpr ⟨zwl_r _, hst⟩)
theorem zsd_land {C : zC0} {len pp r : Nat} {q : Int} (C0 : zCtx p R s m args meth c i d D A ad0 sh0 mm0 shF) : zSd p l e R s m args below meth c Q i D A ad0 sh0 mm0 shF C (.land, len, pp, r, q) := by
  intro pc ls st sh mm hc hz tys ad H locs lsR hI hP hL hls hst
  obtain ⟨hx, hb, hml, hown, hts, hnw, hao, hA, hin, hR, hRc, hscr⟩ := C0
  have hk := zC_chk hc
  obtain rfl : len = 1 := Nat.eq_of_beq_eq_true hk
  have hd : decode (zBy i) pc = .ok (.land, 1) := zC_dec hc
  obtain ⟨x, y, t, rfl, hz⟩ := zx_bl2 hz
  obtain ⟨ry, hst⟩ := List.forall_mem_cons.mp hst
  obtain ⟨rx, hst⟩ := List.forall_mem_cons.mp hst
  refine lv_land (x := Int64.ofInt x) (y := Int64.ofInt y) hx hb hd ?_
  have h := hz.1 tys ad H locs lsR hI hP hL hls (List.forall_mem_cons.mpr ⟨zr_l _, hst⟩)
  simp only [List.map_cons, zcv, zland, Int64.ofInt_toInt] at h
  exact h
theorem zsd_lor {C : zC0} {len pp r : Nat} {q : Int} (C0 : zCtx p R s m args meth c i d D A ad0 sh0 mm0 shF) : zSd p l e R s m args below meth c Q i D A ad0 sh0 mm0 shF C (.lor, len, pp, r, q) := by
  intro pc ls st sh mm hc hz tys ad H locs lsR hI hP hL hls hst
  obtain ⟨hx, hb, hml, hown, hts, hnw, hao, hA, hin, hR, hRc, hscr⟩ := C0
  have hk := zC_chk hc
  obtain rfl : len = 1 := Nat.eq_of_beq_eq_true hk
  have hd : decode (zBy i) pc = .ok (.lor, 1) := zC_dec hc
  obtain ⟨x, y, t, rfl, hz⟩ := zx_bl2 hz
  obtain ⟨ry, hst⟩ := List.forall_mem_cons.mp hst
  obtain ⟨rx, hst⟩ := List.forall_mem_cons.mp hst
  refine lv_lor (x := Int64.ofInt x) (y := Int64.ofInt y) hx hb hd ?_
  have h := hz.1 tys ad H locs lsR hI hP hL hls (List.forall_mem_cons.mpr ⟨zr_l _, hst⟩)
  simp only [List.map_cons, zcv, zlor, Int64.ofInt_toInt] at h
  exact h
theorem zsd_lshl {C : zC0} {len pp r : Nat} {q : Int} (C0 : zCtx p R s m args meth c i d D A ad0 sh0 mm0 shF) : zSd p l e R s m args below meth c Q i D A ad0 sh0 mm0 shF C (.lshl, len, pp, r, q) := by
  intro pc ls st sh mm hc hz tys ad H locs lsR hI hP hL hls hst
  obtain ⟨hx, hb, hml, hown, hts, hnw, hao, hA, hin, hR, hRc, hscr⟩ := C0
  have hk := zC_chk hc
  obtain rfl : len = 1 := Nat.eq_of_beq_eq_true hk
  have hd : decode (zBy i) pc = .ok (.lshl, 1) := zC_dec hc
  obtain ⟨x, y, t, rfl, hz⟩ := zx_bli hz
  obtain ⟨ry, hst⟩ := List.forall_mem_cons.mp hst
  obtain ⟨rx, hst⟩ := List.forall_mem_cons.mp hst
  refine lv_lshl (x := Int64.ofInt x) (y := Int32.ofInt y) (v := Int64.ofInt (zlshl x y)) hx hb hd (Int64.ofInt_toInt _).symm ?_
  exact hz.1 tys ad H locs lsR hI hP hL hls (List.forall_mem_cons.mpr ⟨zr_l _, hst⟩)
theorem zsd_lshr {C : zC0} {len pp r : Nat} {q : Int} (C0 : zCtx p R s m args meth c i d D A ad0 sh0 mm0 shF) : zSd p l e R s m args below meth c Q i D A ad0 sh0 mm0 shF C (.lshr, len, pp, r, q) := by
  intro pc ls st sh mm hc hz tys ad H locs lsR hI hP hL hls hst
  obtain ⟨hx, hb, hml, hown, hts, hnw, hao, hA, hin, hR, hRc, hscr⟩ := C0
  have hk := zC_chk hc
  obtain rfl : len = 1 := Nat.eq_of_beq_eq_true hk
  have hd : decode (zBy i) pc = .ok (.lshr, 1) := zC_dec hc
  obtain ⟨x, y, t, rfl, hz⟩ := zx_bli hz
  obtain ⟨ry, hst⟩ := List.forall_mem_cons.mp hst
  obtain ⟨rx, hst⟩ := List.forall_mem_cons.mp hst
  refine lv_lshr (x := Int64.ofInt x) (y := Int32.ofInt y) (v := Int64.ofInt (zlshr x y)) hx hb hd (Int64.ofInt_toInt _).symm ?_
  exact hz.1 tys ad H locs lsR hI hP hL hls (List.forall_mem_cons.mpr ⟨zr_l _, hst⟩)
theorem zsd_lcmp {C : zC0} {len pp r : Nat} {q : Int} (C0 : zCtx p R s m args meth c i d D A ad0 sh0 mm0 shF) : zSd p l e R s m args below meth c Q i D A ad0 sh0 mm0 shF C (.lcmp, len, pp, r, q) := by
  intro pc ls st sh mm hc hz tys ad H locs lsR hI hP hL hls hst
  obtain ⟨hx, hb, hml, hown, hts, hnw, hao, hA, hin, hR, hRc, hscr⟩ := C0
  have hk := zC_chk hc
  obtain rfl : len = 1 := Nat.eq_of_beq_eq_true hk
  have hd : decode (zBy i) pc = .ok (.lcmp, 1) := zC_dec hc
  obtain ⟨x, y, t, rfl, hz⟩ := zx_bl2 hz
  obtain ⟨ry, hst⟩ := List.forall_mem_cons.mp hst
  obtain ⟨rx, hst⟩ := List.forall_mem_cons.mp hst
  simp only [zs1, zbl2] at hz
  refine W.lcmp (x := Int64.ofInt x) (y := Int64.ofInt y) hx hb hd ?_
  have e1 : (Int64.ofInt x > Int64.ofInt y) = (y < x) := propext (zo_llt ry rx)
  have e2 : (Int64.ofInt x = Int64.ofInt y) = (x = y) := propext (zo_leq rx ry)
  unfold lg_cmp
  by_cases h1 : x < y
  · rw [if_pos h1] at hz
    simp only [e1, e2]
    rw [if_neg (show ¬ y < x by omega), if_neg (show ¬ x = y by omega)]
    exact hz.1 tys ad H locs lsR hI hP hL hls (List.forall_mem_cons.mpr ⟨⟨by decide, by decide⟩, hst⟩)
  · rw [if_neg h1] at hz
    by_cases h2 : x = y
    · rw [if_pos h2] at hz
      simp only [e1, e2]
      rw [if_neg (show ¬ y < x by omega), if_pos h2]
      exact hz.1 tys ad H locs lsR hI hP hL hls (List.forall_mem_cons.mpr ⟨zr_0, hst⟩)
    · rw [if_neg h2] at hz
      simp only [e1, e2]
      rw [if_pos (show y < x by omega)]
      exact hz.1 tys ad H locs lsR hI hP hL hls (List.forall_mem_cons.mpr ⟨⟨by decide, by decide⟩, hst⟩)
theorem zsd_dup {C : zC0} {len pp r : Nat} {q : Int} (C0 : zCtx p R s m args meth c i d D A ad0 sh0 mm0 shF) : zSd p l e R s m args below meth c Q i D A ad0 sh0 mm0 shF C (.dup, len, pp, r, q) := by
  intro pc ls st sh mm hc hz tys ad H locs lsR hI hP hL hls hst
  obtain ⟨hx, hb, hml, hown, hts, hnw, hao, hA, hin, hR, hRc, hscr⟩ := C0
  have hk := zC_chk hc
  obtain rfl : len = 1 := Nat.eq_of_beq_eq_true hk
  have hd : decode (zBy i) pc = .ok (.dup, 1) := zC_dec hc
  simp only [zs1] at hz
  split at hz
  · rename_i x t
    obtain ⟨rx, hst⟩ := List.forall_mem_cons.mp hst
    refine lv_dup (va := .int (Int32.ofInt x)) hx hb hd rfl ?_
    exact hz.1 tys ad H locs lsR hI hP hL hls (List.forall_mem_cons.mpr ⟨rx, List.forall_mem_cons.mpr ⟨rx, hst⟩⟩)
  · rename_i x t
    obtain ⟨rx, hst⟩ := List.forall_mem_cons.mp hst
    refine lv_dup (va := .ref (ad x).1) hx hb hd rfl ?_
    exact hz.1 tys ad H locs lsR hI hP hL hls (List.forall_mem_cons.mpr ⟨rx, List.forall_mem_cons.mpr ⟨rx, hst⟩⟩)
  · exact hz.elim
theorem zsd_dup2 {C : zC0} {len pp r : Nat} {q : Int} (C0 : zCtx p R s m args meth c i d D A ad0 sh0 mm0 shF) : zSd p l e R s m args below meth c Q i D A ad0 sh0 mm0 shF C (.dup2, len, pp, r, q) := by
  intro pc ls st sh mm hc hz tys ad H locs lsR hI hP hL hls hst
  obtain ⟨hx, hb, hml, hown, hts, hnw, hao, hA, hin, hR, hRc, hscr⟩ := C0
  have hk := zC_chk hc
  obtain rfl : len = 1 := Nat.eq_of_beq_eq_true hk
  have hd : decode (zBy i) pc = .ok (.dup2, 1) := zC_dec hc
  obtain ⟨a, j, t, rfl, hz⟩ := zx_bir hz
  obtain ⟨rj, hst⟩ := List.forall_mem_cons.mp hst
  obtain ⟨ra, hst⟩ := List.forall_mem_cons.mp hst
  refine lv_dup2_11 (va := .int (Int32.ofInt j)) (vb := .ref (ad a).1) hx hb hd rfl rfl ?_
  exact hz.1 tys ad H locs lsR hI hP hL hls (List.forall_mem_cons.mpr ⟨rj, List.forall_mem_cons.mpr ⟨ra, List.forall_mem_cons.mpr ⟨rj, List.forall_mem_cons.mpr ⟨ra, hst⟩⟩⟩⟩)
theorem zsd_pop {C : zC0} {len pp r : Nat} {q : Int} (C0 : zCtx p R s m args meth c i d D A ad0 sh0 mm0 shF) : zSd p l e R s m args below meth c Q i D A ad0 sh0 mm0 shF C (.pop, len, pp, r, q) := by
  intro pc ls st sh mm hc hz tys ad H locs lsR hI hP hL hls hst
  obtain ⟨hx, hb, hml, hown, hts, hnw, hao, hA, hin, hR, hRc, hscr⟩ := C0
  have hk := zC_chk hc
  obtain rfl : len = 1 := Nat.eq_of_beq_eq_true hk
  have hd : decode (zBy i) pc = .ok (.pop, 1) := zC_dec hc
  obtain ⟨x, t, rfl, hz⟩ := zx_b1 hz
  obtain ⟨rx, hst⟩ := List.forall_mem_cons.mp hst
  refine lv_pop (va := .int (Int32.ofInt x)) hx hb hd rfl ?_
  exact hz.1 tys ad H locs lsR hI hP hL hls hst
theorem zsd_bipush {C : zC0} {len pp r : Nat} {q : Int} {n : Int} (C0 : zCtx p R s m args meth c i d D A ad0 sh0 mm0 shF) : zSd p l e R s m args below meth c Q i D A ad0 sh0 mm0 shF C (.bipush n, len, pp, r, q) := by
  intro pc ls st sh mm hc hz tys ad H locs lsR hI hP hL hls hst
  obtain ⟨hx, hb, hml, hown, hts, hnw, hao, hA, hin, hR, hRc, hscr⟩ := C0
  have hk := zC_chk hc
  simp only [zchk, Bool.and_eq_true, decide_eq_true_eq] at hk
  obtain ⟨h1, k⟩ := hk
  obtain rfl : len = 2 := Nat.eq_of_beq_eq_true h1
  have hd : decode (zBy i) pc = .ok (.bipush n, 2) := zC_dec hc
  refine lv_bipush (v := Int32.ofInt q) hx hb hd k.1 ?_
  exact hz.1 tys ad H locs lsR hI hP hL hls (List.forall_mem_cons.mpr ⟨k.2, hst⟩)
theorem zsd_sipush {C : zC0} {len pp r : Nat} {q : Int} {n : Int} (C0 : zCtx p R s m args meth c i d D A ad0 sh0 mm0 shF) : zSd p l e R s m args below meth c Q i D A ad0 sh0 mm0 shF C (.sipush n, len, pp, r, q) := by
  intro pc ls st sh mm hc hz tys ad H locs lsR hI hP hL hls hst
  obtain ⟨hx, hb, hml, hown, hts, hnw, hao, hA, hin, hR, hRc, hscr⟩ := C0
  have hk := zC_chk hc
  simp only [zchk, Bool.and_eq_true, decide_eq_true_eq] at hk
  obtain ⟨h1, k⟩ := hk
  obtain rfl : len = 3 := Nat.eq_of_beq_eq_true h1
  have hd : decode (zBy i) pc = .ok (.sipush n, 3) := zC_dec hc
  refine lv_sipush (v := Int32.ofInt q) hx hb hd k.1 ?_
  exact hz.1 tys ad H locs lsR hI hP hL hls (List.forall_mem_cons.mpr ⟨k.2, hst⟩)
theorem zsd_iconst {C : zC0} {len pp r : Nat} {q : Int} {n : Int} (C0 : zCtx p R s m args meth c i d D A ad0 sh0 mm0 shF) : zSd p l e R s m args below meth c Q i D A ad0 sh0 mm0 shF C (.iconst n, len, pp, r, q) := by
  intro pc ls st sh mm hc hz tys ad H locs lsR hI hP hL hls hst
  obtain ⟨hx, hb, hml, hown, hts, hnw, hao, hA, hin, hR, hRc, hscr⟩ := C0
  have hk := zC_chk hc
  simp only [zchk, Bool.and_eq_true, decide_eq_true_eq] at hk
  obtain ⟨h1, k⟩ := hk
  obtain rfl : len = 1 := Nat.eq_of_beq_eq_true h1
  have hd : decode (zBy i) pc = .ok (.iconst n, 1) := zC_dec hc
  refine lv_iconst (v := Int32.ofInt q) hx hb hd k.1 ?_
  exact hz.1 tys ad H locs lsR hI hP hL hls (List.forall_mem_cons.mpr ⟨k.2, hst⟩)
theorem zsd_lconst {C : zC0} {len pp r : Nat} {q : Int} {n : Fin 2} (C0 : zCtx p R s m args meth c i d D A ad0 sh0 mm0 shF) : zSd p l e R s m args below meth c Q i D A ad0 sh0 mm0 shF C (.lconst n, len, pp, r, q) := by
  intro pc ls st sh mm hc hz tys ad H locs lsR hI hP hL hls hst
  obtain ⟨hx, hb, hml, hown, hts, hnw, hao, hA, hin, hR, hRc, hscr⟩ := C0
  have hk := zC_chk hc
  simp only [zchk, Bool.and_eq_true, decide_eq_true_eq] at hk
  obtain ⟨h1, k⟩ := hk
  obtain rfl : len = 1 := Nat.eq_of_beq_eq_true h1
  have hd : decode (zBy i) pc = .ok (.lconst n, 1) := zC_dec hc
  refine lv_lconst (v := Int64.ofInt q) hx hb hd k.1 ?_
  exact hz.1 tys ad H locs lsR hI hP hL hls (List.forall_mem_cons.mpr ⟨k.2, hst⟩)
theorem zLk_ok {i idx : Nat} {w : Cond} (h : zLk i idx w = true) (hg : goodWord w = true) : w ∈ zWS := by
  simp only [zLk, Bool.and_eq_true, decide_eq_true_eq] at h
  have h1 := zlk_ok h.1
  rw [h.2] at h1
  exact zWS_in h1.1 hg
theorem zLk_okN {i idx : Nat} {w : Cond} (h : zLk i idx w = true) (hg : zisN w = true) : w ∈ zNst := by
  simp only [zLk, Bool.and_eq_true, decide_eq_true_eq] at h
  have h1 := zlk_ok h.1
  rw [h.2] at h1
  exact zNst_in h1.1 hg
theorem zsd_ldc {C : zC0} {len pp r : Nat} {q : Int} {n : Nat} (C0 : zCtx p R s m args meth c i d D A ad0 sh0 mm0 shF) : zSd p l e R s m args below meth c Q i D A ad0 sh0 mm0 shF C (.ldc n, len, pp, r, q) := by
  intro pc ls st sh mm hc hz tys ad H locs lsR hI hP hL hls hst
  obtain ⟨hx, hb, hml, hown, hts, hnw, hao, hA, hin, hR, hRc, hscr⟩ := C0
  have hk := zC_chk hc
  simp only [zchk, Bool.and_eq_true, decide_eq_true_eq] at hk
  obtain ⟨⟨h1, k1⟩, k⟩ := hk
  obtain rfl : len = 2 := Nat.eq_of_beq_eq_true h1
  have hd : decode (zBy i) pc = .ok (.ldc n, 2) := zC_dec hc
  refine lv_ldc (v := Int32.ofInt q) hx hb hown (hts _ (zLk_ok k1 rfl)) hd ?_
  exact hz.1 tys ad H locs lsR hI hP hL hls (List.forall_mem_cons.mpr ⟨k, hst⟩)
theorem zsd_ldcw {C : zC0} {len pp r : Nat} {q : Int} {n : Nat} (C0 : zCtx p R s m args meth c i d D A ad0 sh0 mm0 shF) : zSd p l e R s m args below meth c Q i D A ad0 sh0 mm0 shF C (.ldc_w n, len, pp, r, q) := by
  intro pc ls st sh mm hc hz tys ad H locs lsR hI hP hL hls hst
  obtain ⟨hx, hb, hml, hown, hts, hnw, hao, hA, hin, hR, hRc, hscr⟩ := C0
  have hk := zC_chk hc
  simp only [zchk, Bool.and_eq_true, decide_eq_true_eq] at hk
  obtain ⟨⟨h1, k1⟩, k⟩ := hk
  obtain rfl : len = 3 := Nat.eq_of_beq_eq_true h1
  have hd : decode (zBy i) pc = .ok (.ldc_w n, 3) := zC_dec hc
  refine lv_ldcw (v := Int32.ofInt q) hx hb hown (hts _ (zLk_ok k1 rfl)) hd ?_
  exact hz.1 tys ad H locs lsR hI hP hL hls (List.forall_mem_cons.mpr ⟨k, hst⟩)
theorem zsd_ldc2 {C : zC0} {len pp r : Nat} {q : Int} {n : Nat} (C0 : zCtx p R s m args meth c i d D A ad0 sh0 mm0 shF) : zSd p l e R s m args below meth c Q i D A ad0 sh0 mm0 shF C (.ldc2_w n, len, pp, r, q) := by
  intro pc ls st sh mm hc hz tys ad H locs lsR hI hP hL hls hst
  obtain ⟨hx, hb, hml, hown, hts, hnw, hao, hA, hin, hR, hRc, hscr⟩ := C0
  have hk := zC_chk hc
  simp only [zchk, Bool.and_eq_true, decide_eq_true_eq] at hk
  obtain ⟨⟨h1, k1⟩, k⟩ := hk
  obtain rfl : len = 3 := Nat.eq_of_beq_eq_true h1
  have hd : decode (zBy i) pc = .ok (.ldc2_w n, 3) := zC_dec hc
  refine lv_ldc2 (v := Int64.ofInt q) hx hb hown (hts _ (zLk_ok k1 rfl)) hd ?_
  exact hz.1 tys ad H locs lsR hI hP hL hls (List.forall_mem_cons.mpr ⟨k, hst⟩)
theorem zsd_iload {C : zC0} {len pp r : Nat} {q : Int} {n : Nat} (C0 : zCtx p R s m args meth c i d D A ad0 sh0 mm0 shF) : zSd p l e R s m args below meth c Q i D A ad0 sh0 mm0 shF C (.iload n, len, pp, r, q) := by
  intro pc ls st sh mm hc hz tys ad H locs lsR hI hP hL hls hst
  obtain ⟨hx, hb, hml, hown, hts, hnw, hao, hA, hin, hR, hRc, hscr⟩ := C0
  have hk := zC_chk hc
  obtain rfl : len = 2 := Nat.eq_of_beq_eq_true hk
  have hd : decode (zBy i) pc = .ok (.iload n, 2) := zC_dec hc
  obtain ⟨v, hv, hz⟩ := zx_ld hz
  have hr := hls v (List.mem_of_getElem? hv)
  have hv2 := hL.2.2.2 _ _ hv
  rcases v with x | x | x
  · refine lv_iload hx hb hd (x := Int32.ofInt x) hv2 ?_
    exact hz.1 tys ad H locs lsR hI hP hL hls (List.forall_mem_cons.mpr ⟨hr, hst⟩)
  · exact hz.elim
  · exact hz.elim
theorem zsd_iload_n {C : zC0} {len pp r : Nat} {q : Int} {n : Fin 4} (C0 : zCtx p R s m args meth c i d D A ad0 sh0 mm0 shF) : zSd p l e R s m args below meth c Q i D A ad0 sh0 mm0 shF C (.iload_n n, len, pp, r, q) := by
  intro pc ls st sh mm hc hz tys ad H locs lsR hI hP hL hls hst
  obtain ⟨hx, hb, hml, hown, hts, hnw, hao, hA, hin, hR, hRc, hscr⟩ := C0
  have hk := zC_chk hc
  obtain rfl : len = 1 := Nat.eq_of_beq_eq_true hk
  have hd : decode (zBy i) pc = .ok (.iload_n n, 1) := zC_dec hc
  obtain ⟨v, hv, hz⟩ := zx_ld hz
  have hr := hls v (List.mem_of_getElem? hv)
  have hv2 := hL.2.2.2 _ _ hv
  rcases v with x | x | x
  · refine lv_iload_n hx hb hd rfl (x := Int32.ofInt x) hv2 ?_
    exact hz.1 tys ad H locs lsR hI hP hL hls (List.forall_mem_cons.mpr ⟨hr, hst⟩)
  · exact hz.elim
  · exact hz.elim
theorem zsd_lload {C : zC0} {len pp r : Nat} {q : Int} {n : Nat} (C0 : zCtx p R s m args meth c i d D A ad0 sh0 mm0 shF) : zSd p l e R s m args below meth c Q i D A ad0 sh0 mm0 shF C (.lload n, len, pp, r, q) := by
  intro pc ls st sh mm hc hz tys ad H locs lsR hI hP hL hls hst
  obtain ⟨hx, hb, hml, hown, hts, hnw, hao, hA, hin, hR, hRc, hscr⟩ := C0
  have hk := zC_chk hc
  obtain rfl : len = 2 := Nat.eq_of_beq_eq_true hk
  have hd : decode (zBy i) pc = .ok (.lload n, 2) := zC_dec hc
  obtain ⟨v, hv, hz⟩ := zx_ld hz
  have hr := hls v (List.mem_of_getElem? hv)
  have hv2 := hL.2.2.2 _ _ hv
  rcases v with x | x | x
  · exact hz.elim
  · refine lv_lload hx hb hd (x := Int64.ofInt x) hv2 ?_
    exact hz.1 tys ad H locs lsR hI hP hL hls (List.forall_mem_cons.mpr ⟨hr, hst⟩)
  · exact hz.elim
theorem zsd_lload_n {C : zC0} {len pp r : Nat} {q : Int} {n : Fin 4} (C0 : zCtx p R s m args meth c i d D A ad0 sh0 mm0 shF) : zSd p l e R s m args below meth c Q i D A ad0 sh0 mm0 shF C (.lload_n n, len, pp, r, q) := by
  intro pc ls st sh mm hc hz tys ad H locs lsR hI hP hL hls hst
  obtain ⟨hx, hb, hml, hown, hts, hnw, hao, hA, hin, hR, hRc, hscr⟩ := C0
  have hk := zC_chk hc
  obtain rfl : len = 1 := Nat.eq_of_beq_eq_true hk
  have hd : decode (zBy i) pc = .ok (.lload_n n, 1) := zC_dec hc
  obtain ⟨v, hv, hz⟩ := zx_ld hz
  have hr := hls v (List.mem_of_getElem? hv)
  have hv2 := hL.2.2.2 _ _ hv
  rcases v with x | x | x
  · exact hz.elim
  · refine lv_lload_n hx hb hd rfl (x := Int64.ofInt x) hv2 ?_
    exact hz.1 tys ad H locs lsR hI hP hL hls (List.forall_mem_cons.mpr ⟨hr, hst⟩)
  · exact hz.elim
theorem zsd_aload {C : zC0} {len pp r : Nat} {q : Int} {n : Nat} (C0 : zCtx p R s m args meth c i d D A ad0 sh0 mm0 shF) : zSd p l e R s m args below meth c Q i D A ad0 sh0 mm0 shF C (.aload n, len, pp, r, q) := by
  intro pc ls st sh mm hc hz tys ad H locs lsR hI hP hL hls hst
  obtain ⟨hx, hb, hml, hown, hts, hnw, hao, hA, hin, hR, hRc, hscr⟩ := C0
  have hk := zC_chk hc
  obtain rfl : len = 2 := Nat.eq_of_beq_eq_true hk
  have hd : decode (zBy i) pc = .ok (.aload n, 2) := zC_dec hc
  obtain ⟨v, hv, hz⟩ := zx_ld hz
  have hr := hls v (List.mem_of_getElem? hv)
  have hv2 := hL.2.2.2 _ _ hv
  rcases v with x | x | x
  · exact hz.elim
  · exact hz.elim
  · refine lv_aload hx hb hd (x := (ad x).1) hv2 ?_
    exact hz.1 tys ad H locs lsR hI hP hL hls (List.forall_mem_cons.mpr ⟨hr, hst⟩)
theorem zsd_aload_n {C : zC0} {len pp r : Nat} {q : Int} {n : Fin 4} (C0 : zCtx p R s m args meth c i d D A ad0 sh0 mm0 shF) : zSd p l e R s m args below meth c Q i D A ad0 sh0 mm0 shF C (.aload_n n, len, pp, r, q) := by
  intro pc ls st sh mm hc hz tys ad H locs lsR hI hP hL hls hst
  obtain ⟨hx, hb, hml, hown, hts, hnw, hao, hA, hin, hR, hRc, hscr⟩ := C0
  have hk := zC_chk hc
  obtain rfl : len = 1 := Nat.eq_of_beq_eq_true hk
  have hd : decode (zBy i) pc = .ok (.aload_n n, 1) := zC_dec hc
  obtain ⟨v, hv, hz⟩ := zx_ld hz
  have hr := hls v (List.mem_of_getElem? hv)
  have hv2 := hL.2.2.2 _ _ hv
  rcases v with x | x | x
  · exact hz.elim
  · exact hz.elim
  · refine lv_aload_n hx hb hd rfl (x := (ad x).1) hv2 ?_
    exact hz.1 tys ad H locs lsR hI hP hL hls (List.forall_mem_cons.mpr ⟨hr, hst⟩)
theorem zsd_istore {C : zC0} {len pp r : Nat} {q : Int} {n : Nat} (C0 : zCtx p R s m args meth c i d D A ad0 sh0 mm0 shF) : zSd p l e R s m args below meth c Q i D A ad0 sh0 mm0 shF C (.istore n, len, pp, r, q) := by
  intro pc ls st sh mm hc hz tys ad H locs lsR hI hP hL hls hst
  obtain ⟨hx, hb, hml, hown, hts, hnw, hao, hA, hin, hR, hRc, hscr⟩ := C0
  have hk := zC_chk hc
  obtain rfl : len = 2 := Nat.eq_of_beq_eq_true hk
  have hd : decode (zBy i) pc = .ok (.istore n, 2) := zC_dec hc
  obtain ⟨hn, hz⟩ := zx_cond hz
  have hn := Nat.blt_eq.mp hn
  obtain ⟨x, t, rfl, hz⟩ := zx_b1 hz
  obtain ⟨rx, hst⟩ := List.forall_mem_cons.mp hst
  have hn2 : n < zml i := by rw [← hL.2.1]; exact hn
  refine lv_istore hx hb hd hL.has hn2 rfl (fun ls' hl => ?_)
  exact hz.1 tys ad H locs ls' hI hP (zLc.st hL.2.1 hn2 hl) (fun v hv => by
    rcases zst_mem hn hv with rfl | hv
    · exact rx
    · exact hls v hv) hst
theorem zsd_istore_n {C : zC0} {len pp r : Nat} {q : Int} {n : Fin 4} (C0 : zCtx p R s m args meth c i d D A ad0 sh0 mm0 shF) : zSd p l e R s m args below meth c Q i D A ad0 sh0 mm0 shF C (.istore_n n, len, pp, r, q) := by
  intro pc ls st sh mm hc hz tys ad H locs lsR hI hP hL hls hst
  obtain ⟨hx, hb, hml, hown, hts, hnw, hao, hA, hin, hR, hRc, hscr⟩ := C0
  have hk := zC_chk hc
  obtain rfl : len = 1 := Nat.eq_of_beq_eq_true hk
  have hd : decode (zBy i) pc = .ok (.istore_n n, 1) := zC_dec hc
  obtain ⟨hn, hz⟩ := zx_cond hz
  have hn := Nat.blt_eq.mp hn
  obtain ⟨x, t, rfl, hz⟩ := zx_b1 hz
  obtain ⟨rx, hst⟩ := List.forall_mem_cons.mp hst
  have hn2 : n.val < zml i := by rw [← hL.2.1]; exact hn
  refine lv_istore_n hx hb hd rfl hL.has hn2 rfl (fun ls' hl => ?_)
  exact hz.1 tys ad H locs ls' hI hP (zLc.st hL.2.1 hn2 hl) (fun v hv => by
    rcases zst_mem hn hv with rfl | hv
    · exact rx
    · exact hls v hv) hst
theorem zsd_astore {C : zC0} {len pp r : Nat} {q : Int} {n : Nat} (C0 : zCtx p R s m args meth c i d D A ad0 sh0 mm0 shF) : zSd p l e R s m args below meth c Q i D A ad0 sh0 mm0 shF C (.astore n, len, pp, r, q) := by
  intro pc ls st sh mm hc hz tys ad H locs lsR hI hP hL hls hst
  obtain ⟨hx, hb, hml, hown, hts, hnw, hao, hA, hin, hR, hRc, hscr⟩ := C0
  have hk := zC_chk hc
  obtain rfl : len = 2 := Nat.eq_of_beq_eq_true hk
  have hd : decode (zBy i) pc = .ok (.astore n, 2) := zC_dec hc
  obtain ⟨hn, hz⟩ := zx_cond hz
  have hn := Nat.blt_eq.mp hn
  obtain ⟨x, t, rfl, hz⟩ := zx_br hz
  obtain ⟨rx, hst⟩ := List.forall_mem_cons.mp hst
  have hn2 : n < zml i := by rw [← hL.2.1]; exact hn
  refine lv_astore hx hb hd hL.has hn2 rfl (fun ls' hl => ?_)
  exact hz.1 tys ad H locs ls' hI hP (zLc.st hL.2.1 hn2 hl) (fun v hv => by
    rcases zst_mem hn hv with rfl | hv
    · exact rx
    · exact hls v hv) hst
theorem zsd_astore_n {C : zC0} {len pp r : Nat} {q : Int} {n : Fin 4} (C0 : zCtx p R s m args meth c i d D A ad0 sh0 mm0 shF) : zSd p l e R s m args below meth c Q i D A ad0 sh0 mm0 shF C (.astore_n n, len, pp, r, q) := by
  intro pc ls st sh mm hc hz tys ad H locs lsR hI hP hL hls hst
  obtain ⟨hx, hb, hml, hown, hts, hnw, hao, hA, hin, hR, hRc, hscr⟩ := C0
  have hk := zC_chk hc
  obtain rfl : len = 1 := Nat.eq_of_beq_eq_true hk
  have hd : decode (zBy i) pc = .ok (.astore_n n, 1) := zC_dec hc
  obtain ⟨hn, hz⟩ := zx_cond hz
  have hn := Nat.blt_eq.mp hn
  obtain ⟨x, t, rfl, hz⟩ := zx_br hz
  obtain ⟨rx, hst⟩ := List.forall_mem_cons.mp hst
  have hn2 : n.val < zml i := by rw [← hL.2.1]; exact hn
  refine lv_astore_n hx hb hd rfl hL.has hn2 rfl (fun ls' hl => ?_)
  exact hz.1 tys ad H locs ls' hI hP (zLc.st hL.2.1 hn2 hl) (fun v hv => by
    rcases zst_mem hn hv with rfl | hv
    · exact rx
    · exact hls v hv) hst
theorem zsd_iinc {C : zC0} {len pp r : Nat} {q : Int} {n : Nat} {k : Int} (C0 : zCtx p R s m args meth c i d D A ad0 sh0 mm0 shF) : zSd p l e R s m args below meth c Q i D A ad0 sh0 mm0 shF C (.iinc n k, len, pp, r, q) := by
  intro pc ls st sh mm hc hz tys ad H locs lsR hI hP hL hls hst
  obtain ⟨hx, hb, hml, hown, hts, hnw, hao, hA, hin, hR, hRc, hscr⟩ := C0
  have hk := zC_chk hc
  obtain rfl : len = 3 := Nat.eq_of_beq_eq_true hk
  have hd : decode (zBy i) pc = .ok (.iinc n k, 3) := zC_dec hc
  obtain ⟨v, hv, hz⟩ := zx_ld hz
  have hn : n < ls.length := (List.getElem?_eq_some_iff.mp hv).1
  have hn2 : n < zml i := by rw [← hL.2.1]; exact hn
  rcases v with x | x | x
  · obtain ⟨z, hz1⟩ := List.mem_iff_getElem?.mp ((zlp_mem (ad := ad) (ls := ls) (q := (n, zcv ad (.inl x)))).mpr ⟨_, hv, rfl⟩)
    refine lv_iinc (x := Int32.ofInt x) (v := Int32.ofInt (zw (x + k))) (k := z) hx hb hd hL.has hz1 (by rw [zw_o, Int32.ofInt_add]) hn2 rfl (fun ls' hl => ?_)
    exact hz.1 tys ad H locs ls' hI hP (zLc.st hL.2.1 hn2 hl) (fun v hv => by
      rcases zst_mem hn hv with rfl | hv
      · exact zw_r _
      · exact hls v hv) hst
  · exact hz.elim
  · exact hz.elim
theorem zsd_goto {C : zC0} {len pp r : Nat} {q : Int} {n : Int} (C0 : zCtx p R s m args meth c i d D A ad0 sh0 mm0 shF) : zSd p l e R s m args below meth c Q i D A ad0 sh0 mm0 shF C (.goto n, len, pp, r, q) := by
  intro pc ls st sh mm hc hz tys ad H locs lsR hI hP hL hls hst
  obtain ⟨hx, hb, hml, hown, hts, hnw, hao, hA, hin, hR, hRc, hscr⟩ := C0
  have hk := zC_chk hc
  simp only [zchk, Bool.and_eq_true, decide_eq_true_eq] at hk
  obtain ⟨h1, k⟩ := hk
  obtain rfl : len = 3 := Nat.eq_of_beq_eq_true h1
  have hd : decode (zBy i) pc = .ok (.goto n, 3) := zC_dec hc
  exact lv_goto hx hb hd k (hz.1 tys ad H locs lsR hI hP hL hls hst)
theorem zsd_ificmp {C : zC0} {len pp r : Nat} {q : Int} {k : ClassFile.Cond} {n : Int} (C0 : zCtx p R s m args meth c i d D A ad0 sh0 mm0 shF) : zSd p l e R s m args below meth c Q i D A ad0 sh0 mm0 shF C (.if_icmp k n, len, pp, r, q) := by
  intro pc ls st sh mm hc hz tys ad H locs lsR hI hP hL hls hst
  obtain ⟨hx, hb, hml, hown, hts, hnw, hao, hA, hin, hR, hRc, hscr⟩ := C0
  have hk := zC_chk hc
  simp only [zchk, Bool.and_eq_true, decide_eq_true_eq] at hk
  obtain ⟨h1, kk⟩ := hk
  obtain rfl : len = 3 := Nat.eq_of_beq_eq_true h1
  have hd : decode (zBy i) pc = .ok (.if_icmp k n, 3) := zC_dec hc
  obtain ⟨x, y, t, rfl, hz⟩ := zx_b2 hz
  obtain ⟨ry, hst⟩ := List.forall_mem_cons.mp hst
  obtain ⟨rx, hst⟩ := List.forall_mem_cons.mp hst
  have ry : zr32 y := ry
  have rx : zr32 x := rx
  cases k
  · simp only [zs1, zb2, zcn] at hz
    refine lv_icmp_eq hx hb hd kk (fun q0 => ?_) (fun q0 => ?_)
    · rw [if_pos (show x = y from (zo_eq rx ry).mp q0)] at hz
      exact hz.1 tys ad H locs lsR hI hP hL hls hst
    · rw [if_neg (show ¬ x = y from fun z => q0 ((zo_eq rx ry).mpr z))] at hz
      exact hz.1 tys ad H locs lsR hI hP hL hls hst
  · simp only [zs1, zb2, zcn] at hz
    refine lv_icmp_ne hx hb hd kk (fun q0 => ?_) (fun q0 => ?_)
    · rw [if_neg (show ¬ x = y from fun z => q0 ((zo_eq rx ry).mpr z))] at hz
      exact hz.1 tys ad H locs lsR hI hP hL hls hst
    · rw [if_pos (show x = y from (zo_eq rx ry).mp q0)] at hz
      exact hz.1 tys ad H locs lsR hI hP hL hls hst
  · simp only [zs1, zb2, zcn] at hz
    refine lv_icmp_lt hx hb hd kk (fun q0 => ?_) (fun q0 => ?_)
    · rw [if_pos (show x < y from (zo_lt rx ry).mp q0)] at hz
      exact hz.1 tys ad H locs lsR hI hP hL hls hst
    · rw [if_neg (show ¬ x < y from fun z => q0 ((zo_lt rx ry).mpr z))] at hz
      exact hz.1 tys ad H locs lsR hI hP hL hls hst
  · simp only [zs1, zb2, zcn] at hz
    refine lv_icmp_ge hx hb hd kk (fun q0 => ?_) (fun q0 => ?_)
    · rw [if_neg (show ¬ x < y from by have := (zo_le ry rx).mp q0; omega)] at hz
      exact hz.1 tys ad H locs lsR hI hP hL hls hst
    · rw [if_pos (show x < y from by have := mt (zo_le ry rx).mpr q0; omega)] at hz
      exact hz.1 tys ad H locs lsR hI hP hL hls hst
  · simp only [zs1, zb2, zcn] at hz
    refine lv_icmp_gt hx hb hd kk (fun q0 => ?_) (fun q0 => ?_)
    · rw [if_pos (show y < x from (zo_lt ry rx).mp q0)] at hz
      exact hz.1 tys ad H locs lsR hI hP hL hls hst
    · rw [if_neg (show ¬ y < x from fun z => q0 ((zo_lt ry rx).mpr z))] at hz
      exact hz.1 tys ad H locs lsR hI hP hL hls hst
  · simp only [zs1, zb2, zcn] at hz
    refine lv_icmp_le hx hb hd kk (fun q0 => ?_) (fun q0 => ?_)
    · rw [if_neg (show ¬ y < x from by have := (zo_le rx ry).mp q0; omega)] at hz
      exact hz.1 tys ad H locs lsR hI hP hL hls hst
    · rw [if_pos (show y < x from by have := mt (zo_le rx ry).mpr q0; omega)] at hz
      exact hz.1 tys ad H locs lsR hI hP hL hls hst
theorem zsd_ifc {C : zC0} {len pp r : Nat} {q : Int} {k : ClassFile.Cond} {n : Int} (C0 : zCtx p R s m args meth c i d D A ad0 sh0 mm0 shF) : zSd p l e R s m args below meth c Q i D A ad0 sh0 mm0 shF C (.ifCond k n, len, pp, r, q) := by
  intro pc ls st sh mm hc hz tys ad H locs lsR hI hP hL hls hst
  obtain ⟨hx, hb, hml, hown, hts, hnw, hao, hA, hin, hR, hRc, hscr⟩ := C0
  have hk := zC_chk hc
  simp only [zchk, Bool.and_eq_true, decide_eq_true_eq] at hk
  obtain ⟨h1, kk⟩ := hk
  obtain rfl : len = 3 := Nat.eq_of_beq_eq_true h1
  have hd : decode (zBy i) pc = .ok (.ifCond k n, 3) := zC_dec hc
  obtain ⟨x, t, rfl, hz⟩ := zx_b1 hz
  obtain ⟨rx, hst⟩ := List.forall_mem_cons.mp hst
  have rx : zr32 x := rx
  cases k
  · simp only [zs1, zb1, zcn] at hz
    refine lv_if_eq hx hb hd kk (fun q0 => ?_) (fun q0 => ?_)
    · rw [if_pos (show x = 0 from (zo_eq rx zr_0).mp q0)] at hz
      exact hz.1 tys ad H locs lsR hI hP hL hls hst
    · rw [if_neg (show ¬ x = 0 from fun z => q0 ((zo_eq rx zr_0).mpr z))] at hz
      exact hz.1 tys ad H locs lsR hI hP hL hls hst
  · simp only [zs1, zb1, zcn] at hz
    refine lv_if_ne hx hb hd kk (fun q0 => ?_) (fun q0 => ?_)
    · rw [if_neg (show ¬ x = 0 from fun z => q0 ((zo_eq rx zr_0).mpr z))] at hz
      exact hz.1 tys ad H locs lsR hI hP hL hls hst
    · rw [if_pos (show x = 0 from (zo_eq rx zr_0).mp q0)] at hz
      exact hz.1 tys ad H locs lsR hI hP hL hls hst
  · simp only [zs1, zb1, zcn] at hz
    refine lv_if_lt hx hb hd kk (fun q0 => ?_) (fun q0 => ?_)
    · rw [if_pos (show x < 0 from (zo_lt rx zr_0).mp q0)] at hz
      exact hz.1 tys ad H locs lsR hI hP hL hls hst
    · rw [if_neg (show ¬ x < 0 from fun z => q0 ((zo_lt rx zr_0).mpr z))] at hz
      exact hz.1 tys ad H locs lsR hI hP hL hls hst
  · simp only [zs1, zb1, zcn] at hz
    refine lv_if_ge hx hb hd kk (fun q0 => ?_) (fun q0 => ?_)
    · rw [if_neg (show ¬ x < 0 from by have := (zo_le zr_0 rx).mp q0; omega)] at hz
      exact hz.1 tys ad H locs lsR hI hP hL hls hst
    · rw [if_pos (show x < 0 from by have := mt (zo_le zr_0 rx).mpr q0; omega)] at hz
      exact hz.1 tys ad H locs lsR hI hP hL hls hst
  · simp only [zs1, zb1, zcn] at hz
    refine lv_if_gt hx hb hd kk (fun q0 => ?_) (fun q0 => ?_)
    · rw [if_pos (show 0 < x from (zo_lt zr_0 rx).mp q0)] at hz
      exact hz.1 tys ad H locs lsR hI hP hL hls hst
    · rw [if_neg (show ¬ 0 < x from fun z => q0 ((zo_lt zr_0 rx).mpr z))] at hz
      exact hz.1 tys ad H locs lsR hI hP hL hls hst
  · simp only [zs1, zb1, zcn] at hz
    refine lv_if_le hx hb hd kk (fun q0 => ?_) (fun q0 => ?_)
    · rw [if_neg (show ¬ 0 < x from by have := (zo_le rx zr_0).mp q0; omega)] at hz
      exact hz.1 tys ad H locs lsR hI hP hL hls hst
    · rw [if_pos (show 0 < x from by have := mt (zo_le rx zr_0).mpr q0; omega)] at hz
      exact hz.1 tys ad H locs lsR hI hP hL hls hst
theorem zsd_tsw {C : zC0} {len pp r : Nat} {q : Int} {dd lo hi : Int} {offs : Array Int} (C0 : zCtx p R s m args meth c i d D A ad0 sh0 mm0 shF) : zSd p l e R s m args below meth c Q i D A ad0 sh0 mm0 shF C (.tableswitch dd lo hi offs, len, pp, r, q) := by
  intro pc ls st sh mm hc hz tys ad H locs lsR hI hP hL hls hst
  obtain ⟨hx, hb, hml, hown, hts, hnw, hao, hA, hin, hR, hRc, hscr⟩ := C0
  have hk := zC_chk hc
  simp only [zchk, Bool.and_eq_true, decide_eq_true_eq, List.all_eq_true] at hk
  obtain ⟨⟨k1, k2⟩, k3⟩ := hk
  have hd : decode (zBy i) pc = .ok (.tableswitch dd lo hi offs, len) := zC_dec hc
  obtain ⟨x, t, rfl, hz⟩ := zx_b1 hz
  obtain ⟨rx, hst⟩ := List.forall_mem_cons.mp hst
  have rx : zr32 x := rx
  rcases zx_sw hz with ⟨k, tg, hxk, htk, hz⟩ | ⟨hout, hz⟩
  · rw [List.getElem?_map] at htk
    cases ho : offs.toList[k]? with
    | none => rw [ho] at htk; cases htk
    | some o =>
      rw [ho] at htk
      have htg : ((pc : Int) + o).toNat = tg := Option.some.inj htk
      have hk : k < offs.size := by
        have := (List.getElem?_eq_some_iff.mp ho).1
        simpa using this
      have h2 := k2 o (List.mem_of_getElem? ho)
      refine lv_tableIn (x := Int32.ofInt x) (off := o) (tgt := tg) hx hb hd (by rw [zo_i rx]; omega) (by rw [zo_i rx]; omega) ?_ (by omega) ?_
      · rw [zo_i rx, ← Array.getElem?_toList, show (x - lo).toNat = k by omega]
        exact ho
      · exact hz.1 tys ad H locs lsR hI hP hL hls hst
  · refine lv_tableOut (x := Int32.ofInt x) (tgt := ((pc : Int) + dd).toNat) hx hb hd ?_ (by omega) ?_
    · rw [zo_i rx]
      have : (offs.toList.map fun o => ((pc : Int) + o).toNat).length = offs.size := by simp
      rw [this] at hout
      omega
    · exact hz.1 tys ad H locs lsR hI hP hL hls hst
theorem zsd_ireturn {C : zC0} {len pp r : Nat} {q : Int} (C0 : zCtx p R s m args meth c i d D A ad0 sh0 mm0 shF) : zSd p l e R s m args below meth c Q i D A ad0 sh0 mm0 shF C (.ireturn, len, pp, r, q) := by
  intro pc ls st sh mm hc hz tys ad H locs lsR hI hP hL hls hst
  obtain ⟨hx, hb, hml, hown, hts, hnw, hao, hA, hin, hR, hRc, hscr⟩ := C0
  have hk := zC_chk hc
  simp only [zchk, Bool.and_eq_true] at hk
  obtain ⟨h1, kk⟩ := hk
  obtain rfl : len = 1 := Nat.eq_of_beq_eq_true h1
  have hd : decode (zBy i) pc = .ok (.ireturn, 1) := zC_dec hc
  simp only [zs1] at hz
  split at hz
  · rename_i x
    have rx : zr32 x := hst (.inl x) List.mem_cons_self
    by_cases hq : q = 1
    · rw [if_pos hq] at hz kk
      obtain ⟨h01, hz⟩ := zx_ite hz
      exact hz pc tys ad H locs lsR hI hP rx (Or.inl ⟨of_decide_eq_true kk, h01⟩) hd
    · rw [if_neg hq] at hz kk
      exact hz pc tys ad H locs lsR hI hP rx (Or.inr (of_decide_eq_true kk)) hd
  · exact hz.elim
theorem zsd_vreturn {C : zC0} {len pp r : Nat} {q : Int} (C0 : zCtx p R s m args meth c i d D A ad0 sh0 mm0 shF) : zSd p l e R s m args below meth c Q i D A ad0 sh0 mm0 shF C (.return_, len, pp, r, q) := by
  intro pc ls st sh mm hc hz tys ad H locs lsR hI hP hL hls hst
  obtain ⟨hx, hb, hml, hown, hts, hnw, hao, hA, hin, hR, hRc, hscr⟩ := C0
  have hk := zC_chk hc
  simp only [zchk, Bool.and_eq_true] at hk
  obtain ⟨h1, kk⟩ := hk
  obtain rfl : len = 1 := Nat.eq_of_beq_eq_true h1
  have hd : decode (zBy i) pc = .ok (.return_, 1) := zC_dec hc
  simp only [zs1] at hz
  split at hz
  · exact hz pc tys ad H locs lsR hI hP (of_decide_eq_true kk) hd
  · exact hz.elim
end ZSD
end
section
/-- the layout's words of the classes -/
theorem zly_all : (List.range 9).all (fun c => match zCl[c]? with
  | some (C, T, N) => (List.range N).all (fun k => zAt (zly c k) (u_lay C T k) && goodWord (u_lay C T k)) && zAt (zin9 c) (.instantiable C N) && zAt (zini c) (.initialized C) && goodWord (.instantiable C N) && goodWord (.initialized C) && decide (C = zon c)
  | none => false) = true := by decide +kernel
def zft0 (c : Nat) (t : FieldType) (k : Nat) : Bool := if zft c k = 0 then decide (t = .int) else if zft c k = 1 then decide (t = .boolean) else Nat.beq (zft c k) 2 && (match t with
  | .object _ => true
  | .array _ => true
  | _ => false)
theorem zcl_cases {k : Nat} {P : Nat → vw_C → Prop} (h : ∀ z, zCl[k]? = some z → k < 9) (h0 : P 0 (RX0, TX0, 4)) (h1 : P 1 (RX1, TX1, 5)) (h2 : P 2 (RX2, TX2, 3)) (h3 : P 3 (RX3, TX3, 3)) (h4 : P 4 (RX4, TX4, 3)) (h5 : P 5 (RX5, TX5, 3)) (h6 : P 6 (RX6, TX6, 4)) (h7 : P 7 (RX7, TX7, 5)) (h8 : P 8 (RX8, TX8, 7)) {z : vw_C} (hz : zCl[k]? = some z) : P k z := by
  have hk := h z hz
  match k, hk, hz with
  | 0, _, hz => cases hz; exact h0
  | 1, _, hz => cases hz; exact h1
  | 2, _, hz => cases hz; exact h2
  | 3, _, hz => cases hz; exact h3
  | 4, _, hz => cases hz; exact h4
  | 5, _, hz => cases hz; exact h5
  | 6, _, hz => cases hz; exact h6
  | 7, _, hz => cases hz; exact h7
  | 8, _, hz => cases hz; exact h8
theorem zcl_lt {k : Nat} {z : vw_C} (h : zCl[k]? = some z) : k < 9 := (List.getElem?_eq_some_iff.mp h).1
def zClF (k : Nat) (z : vw_C) : Prop := ∃ ty0 : Nat → FieldType, (∀ j, j < z.2.2 → parseFieldDescriptor (z.2.1 j).2.2.1 = some (ty0 j)) ∧ (∀ a, a < z.2.2 → ∀ b, b < z.2.2 → a ≠ b → (z.2.1 a).2.1 ≠ (z.2.1 b).2.1) ∧ ∀ j, j < z.2.2 → zft0 k (ty0 j) j = true
theorem zcl_f {k : Nat} {z : vw_C} (hz : zCl[k]? = some z) : zClF k z :=
  zcl_cases (P := zClF) (fun _ h => zcl_lt h)
    ⟨tyX0, tyX0_ok, nmX0, by decide +kernel⟩
    ⟨tyX1, tyX1_ok, nmX1, by decide +kernel⟩
    ⟨tyX2, tyX2_ok, nmX2, by decide +kernel⟩
    ⟨tyX3, tyX3_ok, nmX3, by decide +kernel⟩
    ⟨tyX4, tyX4_ok, nmX4, by decide +kernel⟩
    ⟨tyX5, tyX5_ok, nmX5, by decide +kernel⟩
    ⟨tyX6, tyX6_ok, nmX6, by decide +kernel⟩
    ⟨tyX7, tyX7_ok, nmX7, by decide +kernel⟩
    ⟨tyX8, tyX8_ok, nmX8, by decide +kernel⟩
    hz
theorem zcl_w {k : Nat} {C : String} {T : u_T} {N : Nat} (hz : zCl[k]? = some (C, T, N)) : (∀ w ∈ u_ws C T N, w ∈ zWS) ∧ Cond.instantiable C N ∈ zWS ∧ Cond.initialized C ∈ zWS ∧ C = zon k := by
  have h := List.all_eq_true.mp zly_all k (List.mem_range.mpr (zcl_lt hz))
  rw [hz] at h
  simp only [Bool.and_eq_true, decide_eq_true_eq] at h
  obtain ⟨⟨⟨⟨⟨h1, h2⟩, h3⟩, h4⟩, h5⟩, h6⟩ := h
  refine ⟨fun w hw => ?_, zWS_in (zAt_ok h2) h4, zWS_in (zAt_ok h3) h5, h6⟩
  obtain ⟨j, hj, rfl⟩ := List.mem_map.mp hw
  have h7 := List.all_eq_true.mp h1 j hj
  simp only [Bool.and_eq_true] at h7
  exact zWS_in (zAt_ok h7.1) h7.2
theorem zce_o {ad : Nat → Nat × ClassId} {a k n : Nat} {rs : List Nat} {f : Nat → Int} (h : k < 100) : zce ad a (k, n, rs) f = .inr (k, (List.range n).map (zfv ad k rs f)) := if_pos h
theorem zce_i {ad : Nat → Nat × ClassId} {a k n : Nat} {rs : List Nat} {f : Nat → Int} (h : k = 100 ∨ k = 101 ∨ k = 102) : zce ad a (k, n, rs) f = .inl ((ad a).2, n, .inl (fun j => Int32.ofInt (f j))) := by
  unfold zce
  rw [if_neg (show ¬ k < 100 by omega), if_neg (show ¬ k = 103 by omega)]
theorem zce_q {ad : Nat → Nat × ClassId} {a n : Nat} {rs : List Nat} {f : Nat → Int} : zce ad a (103, n, rs) f = .inl ((ad a).2, n, .inr (.inr (.inr (.inr (zro ad rs))))) := rfl
theorem zfs_at {n p : Nat} {g : Nat → Value} (h : p < n) : ((List.range n).map g)[p]? = some (g p) := by rw [List.getElem?_map, List.getElem?_range h]; rfl
theorem zfs_set {n p : Nat} {g g' : Nat → Value} {v : Value} (hv : g' p = v) (hg : ∀ j, j ≠ p → g' j = g j) : ((List.range n).map g).set p v = (List.range n).map g' := by
  apply List.ext_getElem?
  intro j
  rw [List.getElem?_set, List.length_map, List.length_range]
  by_cases h : p = j
  · subst h
    rw [if_pos rfl]
    by_cases hn : p < n
    · rw [if_pos hn, zfs_at hn, hv]
    · rw [if_neg hn]
      rw [List.getElem?_eq_none]
      simpa using hn
  · rw [if_neg h]
    by_cases hj : j < n
    · rw [zfs_at hj, zfs_at hj, hg j (fun e => h e.symm)]
    · rw [List.getElem?_eq_none (by simpa using hj), List.getElem?_eq_none (by simpa using hj)]
theorem zWf.mm {sh : List zSh} {mm : zMm} (h : zWf sh mm) {a j : Nat} {x : Int} (hx : zr32 x) : zWf sh (zu mm a j x) := by
  refine ⟨h.1, fun k j' => ?_, h.2.2⟩
  unfold zu
  split
  · exact hx
  · exact h.2.1 k j'
theorem zPs.mm {ad0 ad : Nat → Nat × ClassId} {sh0 sh : List zSh} {mm0 mm : zMm} (h : zPs ad0 sh0 mm0 ad sh mm) {a j : Nat} {x : Int} (ha : a < 900) : zPs ad0 sh0 mm0 ad sh (zu mm a j x) := by
  refine ⟨h.1, h.2.1, h.2.2.1, fun k hk => ?_⟩
  rw [← h.2.2.2 k hk]
  funext j'
  unfold zu
  rw [if_neg (fun q => by omega)]
theorem zu_ne {mm : zMm} {a j : Nat} {x : Int} {k : Nat} (h : k ≠ a) : zu mm a j x k = mm k := by
  funext j'
  unfold zu
  rw [if_neg (fun q => h q.1)]
theorem ztot_set {sh : List zSh} {a k n : Nat} {rs rs' : List Nat} (hs : sh[a]? = some (k, n, rs)) : ztot (sh.set a (k, n, rs')) = ztot sh := by
  unfold ztot
  rw [List.map_set]
  congr 1
  have hla : a < sh.length := (List.getElem?_eq_some_iff.mp hs).1
  apply List.ext_getElem?
  intro j
  rw [List.getElem?_set]
  split
  · rename_i ej
    subst ej
    rw [List.length_map, if_pos hla, List.getElem?_map, hs]
    rfl
  · rfl
theorem zWf.sq {sh : List zSh} {mm : zMm} (h : zWf sh mm) {a k n p b : Nat} {rs : List Nat} (hs : sh[a]? = some (k, n, rs)) (hb : b < sh.length) : zWf (sh.set a (k, n, rs.set p (b + 1))) mm := by
  refine ⟨fun k' s' hs' => ?_, h.2.1, by rw [List.length_set]; exact h.2.2⟩
  rw [List.length_set]
  rw [List.getElem?_set] at hs'
  split at hs'
  · rename_i e
    subst e
    have h1 := h.1 a _ hs
    split at hs'
    · cases hs'
      refine ⟨fun z hz => ?_, fun q0 => ⟨(h1.2.1 q0).1, by simpa using (h1.2.1 q0).2⟩, fun q0 => by simpa using h1.2.2.1 q0, h1.2.2.2.1, h1.2.2.2.2⟩
      rcases List.mem_or_eq_of_mem_set hz with hz | hz
      · exact h1.1 z hz
      · omega
    · cases hs'
  · exact h.1 k' s' hs'
theorem zset_self {sh : List zSh} {a : Nat} {s : zSh} (h : sh[a]? = some s) : sh.set a s = sh := by
  apply List.ext_getElem?
  intro k
  rw [List.getElem?_set]
  split
  · rename_i e
    subst e
    rw [if_pos (List.getElem?_eq_some_iff.mp h).1, h]
  · rfl
section ZSD
variable {p : Program} {l : Launch} {e : Env} {R : Room} {s : State} {m : MethodId} {args : Array Value} {below : List Frame} {meth : Method} {c : Code} {Q : State → Prop}
variable {i d : Nat} {D : va_G} {A : Nat → Prop} {ad0 : Nat → Nat × ClassId} {sh0 : List zSh} {mm0 : zMm} {shF : List zSh}
theorem zsd_getfield {C : zC0} {len pp r : Nat} {q : Int} {n : Nat} (C0 : zCtx p R s m args meth c i d D A ad0 sh0 mm0 shF) : zSd p l e R s m args below meth c Q i D A ad0 sh0 mm0 shF C (.getfield n, len, pp, r, q) := by
  intro pc ls st sh mm hc hz tys ad H locs lsR hI hP hL hls hst
  obtain ⟨hx, hb, hml, hown, hts, hnw, hao, hA, hin, hR, hRc, hscr⟩ := C0
  have hk := zC_chk hc
  obtain ⟨a, t, rfl, hzA⟩ := zx_br hz
  obtain ⟨k, n', rs, hs, hzB⟩ := zx_sh hzA
  obtain ⟨hc1, hzC⟩ := zx_cond hzB
  clear hz hzA hzB
  simp only [Bool.and_eq_true] at hc1
  obtain rfl := Nat.eq_of_beq_eq_true hc1.1
  have hpn := Nat.blt_eq.mp hc1.2
  simp only [zchk, Bool.and_eq_true] at hk
  obtain ⟨h1, hk⟩ := hk
  obtain rfl : len = 3 := Nat.eq_of_beq_eq_true h1
  have hd : decode (zBy i) pc = .ok (.getfield n, 3) := zC_dec hc
  cases hcl : zCl[k]? with
  | none => rw [hcl] at hk; exact absurd hk (by simp)
  | some z =>
    obtain ⟨CC, TT, NN⟩ := z
    rw [hcl] at hk
    simp only [Bool.and_eq_true] at hk
    have hpN := Nat.blt_eq.mp hk.1
    have hk10 := zcl_lt hcl
    have hat := zws_at (ad := ad) (mm := mm) hs
    rw [zce_o (by omega)] at hat
    have hw := zcl_w hcl
    have hra : zrg sh.length (.inr (.inr a)) := hst _ List.mem_cons_self
    have hst2 : ∀ v ∈ t, zrg sh.length v := fun v hv => hst v (List.mem_cons_of_mem _ hv)
    have key : ∀ v' : zV, zfv ad k rs (mm a) pp = zcv ad v' → zrg sh.length v' → zGG p l e R s m args below meth c Q i D A ad0 sh0 mm0 shF (pc + 3) ls (v' :: t) sh mm → W p l e R s m args below meth c H locs (sh.length - sh0.length) (ztot sh - ztot sh0) Q (F0 m pc lsR ((.inr (.inr a) :: t : List zV).map (zcv ad))) := by
      intro v' hv' hr' hg
      have hfin := hg.1 tys ad H locs lsR hI hP hL hls (List.forall_mem_cons.mpr ⟨hr', hst2⟩)
      by_cases hq : q = 1
      · rw [if_pos hq] at hk
        refine va_getN (D := D) (ci := k) (v := zcv ad v') (C := CC) (T := TT) (N := NN) (tys := tys) (ws := zws ad sh mm) hx hb hts hw.1 hown hI.2.2.1 hI.1 a hat hcl pp hpN (va_Nw.use rfl (hnw _ (zLk_okN hk.2 rfl))) (fun _ h => h) ?_ hd hfin
        rw [zfs_at hpn, hv']
      · rw [if_neg hq] at hk
        refine va_get (D := D) (ci := k) (v := zcv ad v') (C := CC) (T := TT) (N := NN) (tys := tys) (ws := zws ad sh mm) hx hb hts hw.1 hown hI.2.2.1 hI.1 a hat hcl pp hpN (hts _ (zLk_ok hk.2 rfl)) (fun _ h => h) ?_ hd hfin
        rw [zfs_at hpn, hv']
    cases hz2 : Nat.beq (zft k pp) 2 with
    | true =>
      rw [hz2] at hzC
      have e2 := Nat.eq_of_beq_eq_true hz2
      simp only [cond_true] at hzC
      split at hzC
      · rename_i b hb2
        have hbm := (hI.2.2.2.2.1.1 a _ hs).1 (b + 1) (List.mem_of_getElem? hb2)
        refine key (.inr (.inr b)) ?_ (Or.inl (by omega)) hzC
        unfold zfv zro
        rw [if_pos e2, List.getD_eq_getElem?_getD, hb2]
        rfl
      · exact hzC.elim
    | false =>
      rw [hz2] at hzC
      refine key (.inl (mm a pp)) ?_ (hI.2.2.2.2.1.2.1 a pp) hzC
      unfold zfv
      rw [if_neg (fun q0 => by rw [q0] at hz2; cases hz2)]
      rfl
theorem zbool_n {x : Int} (h : x = 0 ∨ x = 1) : narrow .boolean (.int (Int32.ofInt x)) = .int (Int32.ofInt x) ∧ fits .boolean (.int (Int32.ofInt x)) = true := by
  rcases h with rfl | rfl
  · exact ⟨rfl, rfl⟩
  · exact ⟨rfl, rfl⟩
theorem zsd_putfield {C : zC0} {len pp r : Nat} {q : Int} {n : Nat} (C0 : zCtx p R s m args meth c i d D A ad0 sh0 mm0 shF) : zSd p l e R s m args below meth c Q i D A ad0 sh0 mm0 shF C (.putfield n, len, pp, r, q) := by
  intro pc ls st sh mm hc hz tys ad H locs lsR hI hP hL hls hst
  obtain ⟨hx, hb, hml, hown, hts, hnw, hao, hA, hin, hR, hRc, hscr⟩ := C0
  have hk := zC_chk hc
  simp only [zchk, Bool.and_eq_true] at hk
  obtain ⟨h1, hk⟩ := hk
  obtain rfl : len = 3 := Nat.eq_of_beq_eq_true h1
  have hd : decode (zBy i) pc = .ok (.putfield n, 3) := zC_dec hc
  have key : ∀ (a k n' : Nat) (rs rs' : List Nat) (t : List zV) (v' : zV) (mm' : zMm), sh[a]? = some (k, n', rs) → k = r → pp < n' → (∀ z ∈ t, zrg sh.length z) →
      (∀ TT CC NN, zCl[k]? = some (CC, TT, NN) → ∀ ty0, parseFieldDescriptor (TT pp).2.2.1 = some ty0 → zft0 k ty0 pp = true → narrow ty0 (zcv ad v') = zcv ad v' ∧ fits ty0 (zcv ad v') = true) →
      zfv ad k rs' (mm' a) pp = zcv ad v' → (∀ j, j ≠ pp → zfv ad k rs' (mm' a) j = zfv ad k rs (mm a) j) → (∀ k', k' ≠ a → mm' k' = mm k') → zWf (sh.set a (k, n', rs')) mm' → zPs ad0 sh0 mm0 ad (sh.set a (k, n', rs')) mm' →
      zGG p l e R s m args below meth c Q i D A ad0 sh0 mm0 shF (pc + 3) ls t (sh.set a (k, n', rs')) mm' →
      W p l e R s m args below meth c H locs (sh.length - sh0.length) (ztot sh - ztot sh0) Q (F0 m pc lsR (zcv ad v' :: .ref (ad a).1 :: t.map (zcv ad))) := by
    intro a k n' rs rs' t v' mm' hs hkr hpn hst2 hfit hv1 hv2 hmm hwf hps hg
    subst hkr
    have hla : a < sh.length := (List.getElem?_eq_some_iff.mp hs).1
    cases hcl : zCl[k]? with
    | none => rw [hcl] at hk; exact absurd hk (by simp)
    | some z =>
      obtain ⟨CC, TT, NN⟩ := z
      rw [hcl] at hk
      simp only [Bool.and_eq_true] at hk
      obtain ⟨hk1, hk⟩ := hk
      have hpN := Nat.blt_eq.mp hk1
      have hk10 := zcl_lt hcl
      have hat := zws_at (ad := ad) (mm := mm) hs
      rw [zce_o (by omega)] at hat
      have hw := zcl_w hcl
      obtain ⟨ty0, hty, hnm, hty3⟩ := zcl_f hcl
      have hf := hfit TT CC NN hcl (ty0 pp) (hty pp hpN) (hty3 pp hpN)
      have hlen : (sh.set a (k, n', rs')).length = sh.length := List.length_set
      have htot : ztot (sh.set a (k, n', rs')) = ztot sh := by
        exact ztot_set hs
      have hset : ((a, (n' : Nat)) = (a, n')) := rfl
      have hfin : ∀ (H1 : Heap) (locs1 : List Loc), va_P D zCl ((zws ad sh mm).set a ((ad a).1, .inr (k, ((List.range n').map (zfv ad k rs (mm a))).set pp (zcv ad v')))) H1 → va_D A ((zws ad sh mm).set a ((ad a).1, .inr (k, ((List.range n').map (zfv ad k rs (mm a))).set pp (zcv ad v')))) → va_S A s.heap H1 locs1 → W p l e R s m args below meth c H1 locs1 (sh.length - sh0.length) (ztot sh - ztot sh0) Q (F0 m (pc + 3) lsR (t.map (zcv ad))) := by
        intro H1 locs1 e1 e2 e3
        have ez : (zws ad sh mm).set a ((ad a).1, .inr (k, ((List.range n').map (zfv ad k rs (mm a))).set pp (zcv ad v'))) = zws ad (sh.set a (k, n', rs')) mm' := by
          rw [zws_set rfl hla hmm, zce_o (by omega), zfs_set hv1 hv2]
        rw [ez] at e1 e2
        have hgo := hg.1 tys ad H1 locs1 lsR ⟨e1, e2, hI.2.2.1, e3, hwf, fun k' s' hk' h100 => ?_⟩ hps hL (fun v hv => by rw [hlen]; exact hls v hv) (fun v hv => by rw [hlen]; exact hst2 v hv)
        · rw [hlen, htot] at hgo
          exact hgo
        · rw [List.getElem?_set] at hk'
          split at hk'
          · rename_i ek
            subst ek
            cases hk'
            exact absurd h100 (by simp only; omega)
          · exact hI.2.2.2.2.2 k' s' hk' h100
      by_cases hq : q = 1
      · rw [if_pos hq] at hk
        simp only [Bool.and_eq_true, Bool.not_eq_true'] at hk
        exact va_putN (D := D) (ci := k) (v := zcv ad v') (ty := ty0 pp) (C := CC) (T := TT) (N := NN) (tys := tys) (ws := zws ad sh mm) hx hb hts hw.1 ty0 hty hnm hown hI.2.2.1 hI.1 hI.2.1 hI.2.2.2.1 a hat hcl pp hpN (va_Nw.use rfl (hnw _ (zLk_okN hk.1 rfl))) (fun _ h => h) hk.2 (hty pp hpN) hf.1 hf.2 (by simpa using hpn) hd hfin
      · rw [if_neg hq] at hk
        simp only [Bool.and_eq_true, Bool.or_eq_true, Bool.not_eq_true', decide_eq_true_eq] at hk
        cases hfi : (TT pp).2.2.2 with
        | false => exact va_put (D := D) (ci := k) (v := zcv ad v') (ty := ty0 pp) (C := CC) (T := TT) (N := NN) (tys := tys) (ws := zws ad sh mm) hx hb hts hw.1 ty0 hty hnm hown hI.2.2.1 hI.1 hI.2.1 hI.2.2.2.1 a hat hcl pp hpN (hts _ (zLk_ok hk.1 rfl)) (fun _ h => h) hfi (hty pp hpN) hf.1 hf.2 (by simpa using hpn) hd hfin
        | true =>
          rcases hk.2 with h0 | ⟨h0, h0'⟩
          · rw [hfi] at h0; cases h0
          · exact va_putF (D := D) (ci := k) (v := zcv ad v') (ty := ty0 pp) (C := CC) (T := TT) (N := NN) (tys := tys) (ws := zws ad sh mm) hx hb hts hw.1 ty0 hty hnm hown hI.2.2.1 hI.1 hI.2.1 hI.2.2.2.1 a hat hcl pp hpN (hts _ (zLk_ok hk.1 rfl)) (fun _ h => h) hfi (hin (Nat.eq_of_beq_eq_true h0)) h0' (hty pp hpN) hf.1 hf.2 (by simpa using hpn) hd hfin
  simp only [zs1] at hz
  split at hz
  · rename_i x a t
    obtain ⟨rx, hst⟩ := List.forall_mem_cons.mp hst
    obtain ⟨ra, hst⟩ := List.forall_mem_cons.mp hst
    obtain ⟨k, n', rs, hs, hz⟩ := zx_sh hz
    obtain ⟨hc1, hz⟩ := zx_cond hz
    simp only [Bool.and_eq_true] at hc1
    have hkr := Nat.eq_of_beq_eq_true hc1.1
    have hpn := Nat.blt_eq.mp hc1.2
    have hla : a < sh.length := (List.getElem?_eq_some_iff.mp hs).1
    have hgg : ¬ zft k pp = 2 → (zft k pp = 0 ∨ (zft k pp = 1 ∧ (x = 0 ∨ x = 1))) → zGG p l e R s m args below meth c Q i D A ad0 sh0 mm0 shF (pc + 3) ls t sh (zu mm a pp x) → W p l e R s m args below meth c H locs (sh.length - sh0.length) (ztot sh - ztot sh0) Q (F0 m pc lsR (zcv ad (.inl x) :: .ref (ad a).1 :: t.map (zcv ad))) := by
      intro h2 h01 hg
      have hself := zset_self hs
      refine key a k n' rs rs t (.inl x) (zu mm a pp x) hs hkr hpn hst ?_ ?_ ?_ (fun k' hk' => zu_ne hk') (by rw [hself]; exact hI.2.2.2.2.1.mm rx) (by rw [hself]; exact hP.mm (by have := hI.2.2.2.2.1.2.2; omega)) (by rw [hself]; exact hg)
      · intro TT CC NN hcl ty0 hp0 hf0
        unfold zft0 at hf0
        rcases h01 with h0 | ⟨h0, hx01⟩
        · rw [if_pos h0] at hf0
          rw [of_decide_eq_true hf0]
          exact ⟨rfl, rfl⟩
        · rw [if_neg (by omega), if_pos h0] at hf0
          rw [of_decide_eq_true hf0]
          exact zbool_n hx01
      · unfold zfv
        rw [if_neg h2]
        show Value.int (Int32.ofInt (zu mm a pp x a pp)) = _
        unfold zu
        rw [if_pos ⟨rfl, rfl⟩]
        rfl
      · intro j hj
        unfold zfv
        have : zu mm a pp x a j = mm a j := by
          unfold zu
          rw [if_neg (fun z => hj z.2)]
        rw [this]
    cases hz0 : Nat.beq (zft k pp) 0 with
    | true =>
      rw [hz0] at hz
      have e0 := Nat.eq_of_beq_eq_true hz0
      exact hgg (by omega) (Or.inl e0) hz
    | false =>
      rw [hz0] at hz
      obtain ⟨hz1, hz⟩ := zx_cond hz
      obtain ⟨h01, hz⟩ := zx_ite hz
      have e1 := Nat.eq_of_beq_eq_true hz1
      exact hgg (by omega) (Or.inr ⟨e1, h01⟩) hz
  · rename_i b a t
    obtain ⟨rb, hst⟩ := List.forall_mem_cons.mp hst
    obtain ⟨ra, hst⟩ := List.forall_mem_cons.mp hst
    obtain ⟨k, n', rs, hs, hz⟩ := zx_sh hz
    obtain ⟨hc1, hz⟩ := zx_cond hz
    simp only [Bool.and_eq_true] at hc1
    obtain ⟨⟨⟨hc1, hc2⟩, hc3⟩, hc4⟩ := hc1
    have rb2 := Nat.blt_eq.mp hc4
    have hkr := Nat.eq_of_beq_eq_true hc1
    have hpn := Nat.blt_eq.mp hc2
    have e2 := Nat.eq_of_beq_eq_true hc3
    have hla : a < sh.length := (List.getElem?_eq_some_iff.mp hs).1
    have hw1 := hI.2.2.2.2.1.1 a _ hs
    have hk10 : k < 100 := by
      subst hkr
      cases hcl : zCl[k]? with
      | none => rw [hcl] at hk; exact absurd hk (by simp)
      | some z => have := zcl_lt hcl; omega
    have hrl : rs.length = n' := (hw1.2.1 hk10).2
    refine key a k n' rs (rs.set pp (b + 1)) t (.inr (.inr b)) mm hs hkr hpn hst ?_ ?_ ?_ (fun _ _ => rfl) ?_ ?_ hz
    · intro TT CC NN hcl ty0 hp0 hf0
      unfold zft0 at hf0
      rw [if_neg (by omega), if_neg (by omega)] at hf0
      simp only [Bool.and_eq_true] at hf0
      cases ty0 <;> first | exact ⟨rfl, rfl⟩ | exact absurd hf0.2 (by simp)
    · unfold zfv zro
      rw [if_pos e2, List.getD_eq_getElem?_getD, List.getElem?_set, if_pos rfl, if_pos (by omega)]
      rfl
    · intro j hj
      have hgd : (rs.set pp (b + 1)).getD j 0 = rs.getD j 0 := by rw [List.getD_eq_getElem?_getD, List.getElem?_set, if_neg (fun z => hj z.symm), ← List.getD_eq_getElem?_getD]
      unfold zfv zro
      rw [hgd]
    · exact zWf.sq hI.2.2.2.2.1 hs rb2
    · exact ⟨by rw [List.length_set]; exact hP.1, by rw [ztot_set hs]; exact hP.2.1, hP.2.2.1, hP.2.2.2⟩
  · exact hz.elim
end ZSD
end
section
section ZSD
variable {p : Program} {l : Launch} {e : Env} {R : Room} {s : State} {m : MethodId} {args : Array Value} {below : List Frame} {meth : Method} {c : Code} {Q : State → Prop}
variable {i d : Nat} {D : va_G} {A : Nat → Prop} {ad0 : Nat → Nat × ClassId} {sh0 : List zSh} {mm0 : zMm} {shF : List zSh}
theorem zws_upd {ad : Nat → Nat × ClassId} {sh : List zSh} {mm : zMm} {a k n : Nat} {rs : List Nat} {j : Nat} {x : Int} (hs : sh[a]? = some (k, n, rs)) (hk : k = 100 ∨ k = 101 ∨ k = 102) :
    (zws ad sh mm).set a ((ad a).1, .inl ((ad a).2, n, .inl (upd (fun j => Int32.ofInt (mm a j)) j (Int32.ofInt x)))) = zws ad sh (zu mm a j x) := by
  rw [zws_set (sh := sh) (mm := mm) (zset_self hs).symm (List.getElem?_eq_some_iff.mp hs).1 (fun k' hk' => zu_ne hk'), zce_i hk]
  congr 4
  congr 1
  congr 1
  funext j'
  unfold upd zu
  by_cases h : j' = j
  · rw [if_pos h, if_pos ⟨rfl, h⟩]
  · rw [if_neg h, if_neg (fun z => h z.2)]
theorem zInv.upd {sh : List zSh} {mm : zMm} {tys : List (ClassId × FieldType)} {ad : Nat → Nat × ClassId} {H H1 : Heap} {locs locs1 : List Loc} (hI : zInv s D A tys ad sh mm H locs) {a k n j : Nat} {rs : List Nat} {x : Int} (hs : sh[a]? = some (k, n, rs)) (hk : k = 100 ∨ k = 101 ∨ k = 102) (hx : zr32 x)
    (e1 : va_P D zCl ((zws ad sh mm).set a ((ad a).1, .inl ((ad a).2, n, .inl (upd (fun j => Int32.ofInt (mm a j)) j (Int32.ofInt x))))) H1) (e2 : va_D A ((zws ad sh mm).set a ((ad a).1, .inl ((ad a).2, n, .inl (upd (fun j => Int32.ofInt (mm a j)) j (Int32.ofInt x)))))) (e3 : va_S A s.heap H1 locs1) : zInv s D A tys ad sh (zu mm a j x) H1 locs1 := by
  rw [zws_upd hs hk] at e1 e2
  exact ⟨e1, e2, hI.2.2.1, e3, hI.2.2.2.2.1.mm hx, hI.2.2.2.2.2⟩
theorem zWf_n {sh : List zSh} {mm : zMm} (h : zWf sh mm) {a k n : Nat} {rs : List Nat} (hs : sh[a]? = some (k, n, rs)) (hk : 100 ≤ k) : n ≤ 4000 := (h.1 a _ hs).2.2.2.2 hk
theorem zext {sh : List zSh} {mm : zMm} {tys tys' : List (ClassId × FieldType)} {ad : Nat → Nat × ClassId} {H H1 : Heap} {locs : List Loc} (hI : zInv s D A tys ad sh mm H locs) (hP : zPs ad0 sh0 mm0 ad sh mm) {s0 : zSh} {q : Nat} {cA : ClassId} (hlt : sh.length < 900)
    (h0 : ∀ b ∈ s0.2.2, b = 0) (h1 : s0.1 < 100 → (zCl[s0.1]?).map (fun z => z.2.2) = some s0.2.1 ∧ s0.2.2.length = s0.2.1) (h2 : s0.1 = 103 → s0.2.2.length = s0.2.1) (h3 : s0.1 ≤ 103) (h4 : 100 ≤ s0.1 → s0.2.1 ≤ 4000)
    (hK' : va_K D zCl tys' s) (ht : ∀ (t0 : Nat) (z : ClassId × FieldType), tys[t0]? = some z → tys'[t0]? = some z) (ht0 : 100 ≤ s0.1 → ∃ t0 : Nat, tys'[t0]? = some (cA, zty s0.1)) {en : va_E} (hen : zce (fun k => if k = sh.length then (q, cA) else ad k) sh.length s0 (fun _ => 0) = en)
    (e1 : va_P D zCl (zws ad sh mm ++ [(q, en)]) H1) (e2 : va_D A (zws ad sh mm ++ [(q, en)])) (e3 : va_S A s.heap H1 locs) :
    zInv s D A tys' (fun k => if k = sh.length then (q, cA) else ad k) (sh ++ [s0]) (zn mm sh.length) H1 locs ∧ zPs ad0 sh0 mm0 (fun k => if k = sh.length then (q, cA) else ad k) (sh ++ [s0]) (zn mm sh.length) := by
  obtain ⟨i1, i2, i3, i4, i5, i6⟩ := hI
  have hz : zws (fun k => if k = sh.length then (q, cA) else ad k) (sh ++ [s0]) (zn mm sh.length) = zws ad sh mm ++ [(q, en)] := by
    rw [zws_app i5 (fun k hk => if_neg (by omega)), hen]
    simp
  refine ⟨⟨by rw [hz]; exact e1, by rw [hz]; exact e2, hK', e3, ⟨fun k s' hs' => ?_, fun k j => ?_, by simp; omega⟩, fun k s' hs' h100 => ?_⟩, ?_, ?_, fun k hk => ?_, fun k hk => ?_⟩
  · rw [List.getElem?_append] at hs'
    split at hs'
    · have := i5.1 k s' hs'
      exact ⟨fun b hb => by have := this.1 b hb; simp; omega, this.2⟩
    · obtain ⟨hk1, hk2⟩ := List.getElem?_eq_some_iff.mp hs'
      simp only [List.length_singleton] at hk1
      have : k - sh.length = 0 := by omega
      simp only [this, List.getElem_cons_zero] at hk2
      subst hk2
      exact ⟨fun b hb => by rw [h0 b hb]; exact Nat.zero_le _, h1, h2, h3, h4⟩
  · unfold zn
    split
    · exact zr_0
    · exact i5.2.1 k j
  · rw [List.getElem?_append] at hs'
    split at hs'
    · rename_i hk
      obtain ⟨t0, h⟩ := i6 k s' hs' h100
      exact ⟨t0, by dsimp only; rw [if_neg (by omega)]; exact ht _ _ h⟩
    · obtain ⟨hk1, hk2⟩ := List.getElem?_eq_some_iff.mp hs'
      simp only [List.length_singleton] at hk1
      have h44 : k - sh.length = 0 := by omega
      simp only [h44, List.getElem_cons_zero] at hk2
      subst hk2
      have h5 : k = sh.length := by omega
      obtain ⟨t0, h⟩ := ht0 h100
      exact ⟨t0, by dsimp only; rw [if_pos h5]; exact h⟩
  · have := hP.1
    simp
    omega
  · have := hP.2.1
    unfold ztot at this ⊢
    simp
    omega
  · have := hP.1
    dsimp only
    rw [if_neg (by omega)]
    exact hP.2.2.1 k hk
  · rw [← hP.2.2.2 k hk]
    funext j
    unfold zn
    rw [if_neg (by omega)]
theorem zsd_iaload {C : zC0} {len pp r : Nat} {q : Int} (C0 : zCtx p R s m args meth c i d D A ad0 sh0 mm0 shF) : zSd p l e R s m args below meth c Q i D A ad0 sh0 mm0 shF C (.iaload, len, pp, r, q) := by
  intro pc ls st sh mm hc hz tys ad H locs lsR hI hP hL hls hst
  obtain ⟨hx, hb, hml, hown, hts, hnw, hao, hA, hin, hR, hRc, hscr⟩ := C0
  have hk := zC_chk hc
  simp only [zchk, Bool.and_eq_true, Bool.or_eq_true] at hk
  obtain ⟨h1, hk⟩ := hk
  obtain rfl : len = 1 := Nat.eq_of_beq_eq_true h1
  have hd : decode (zBy i) pc = .ok (.iaload, 1) := zC_dec hc
  simp only [zs1] at hz
  cases hp1 : Nat.beq pp 1 with
  | true =>
    rw [hp1] at hz
    have e1 := Nat.eq_of_beq_eq_true hp1
    obtain ⟨b, L, xs, hX, hbl, hbA, hb1, hL0, hL1, hxs⟩ := hscr
    obtain ⟨a, j, t, rfl, hzA⟩ := zx_bir hz
    obtain ⟨hc1, hzB⟩ := zx_cond hzA
    obtain ⟨hj, hzC⟩ := zx_ite hzB
    have ea := Nat.eq_of_beq_eq_true hc1
    subst ea
    obtain ⟨rj, hst1⟩ := List.forall_mem_cons.mp hst
    obtain ⟨ra, hst2⟩ := List.forall_mem_cons.mp hst1
    have rj : zr32 j := rj
    have m8 : mm 998 0 = L := by rw [hP.2.2.2 998 (by decide)]; exact hL0
    have m9 : mm 999 = mm0 999 := hP.2.2.2 999 (by decide)
    have hjL : j.toNat < L := by have := hj.2; omega
    have eb : (ad 999).1 = b := by rw [hP.2.2.1 999 (Or.inr (by decide))]; exact hb1
    have hg := hzC.1 tys ad H locs lsR hI hP hL hls (List.forall_mem_cons.mpr ⟨hI.2.2.2.2.1.2.1 999 j.toNat, hst2⟩)
    show W p l e R s m args below meth c H locs _ _ Q (F0 m pc lsR (.int (Int32.ofInt j) :: .ref (ad 999).1 :: t.map (zcv ad)))
    rw [eb]
    refine va_sld (i := Int32.ofInt j) hx hb hX hbl hbA hI.2.2.2.1 (zo_in rj hj.1 (by have := hj.2; omega)) hd ?_
    rw [zo_nat rj hj.1]
    have : Int32.ofInt (mm 999 j.toNat) = xs j.toNat := by rw [m9, hxs _ hjL, Int32.ofInt_toInt]
    rw [← this]
    exact hg
  | false =>
    rw [hp1] at hz
    obtain ⟨a, j, t, rfl, hzA⟩ := zx_bir hz
    obtain ⟨k, n, rs, hs, hzB⟩ := zx_sh hzA
    obtain ⟨hc1, hzC⟩ := zx_cond hzB
    obtain ⟨hj, hzD⟩ := zx_ite hzC
    have ek := Nat.eq_of_beq_eq_true hc1
    subst ek
    clear hz hzA hzB hzC
    obtain ⟨rj, hst1⟩ := List.forall_mem_cons.mp hst
    obtain ⟨ra, hst2⟩ := List.forall_mem_cons.mp hst1
    have rj : zr32 j := rj
    obtain ⟨t0, ht0⟩ := hI.2.2.2.2.2 a _ hs (Nat.le_of_ble_eq_true rfl)
    have hat := zws_at (ad := ad) (mm := mm) hs
    rw [zce_i (Or.inl rfl)] at hat
    have hg := hzD.1 tys ad H locs lsR hI hP hL hls (List.forall_mem_cons.mpr ⟨hI.2.2.2.2.1.2.1 a j.toNat, hst2⟩)
    refine va_iald (D := D) (i := Int32.ofInt j) (ws := zws ad sh mm) hx hb hI.2.2.1 hI.1 a t0 hat ht0 (zo_in rj hj.1 hj.2) hd ?_
    rw [zo_nat rj hj.1]
    exact hg
theorem zsd_baload {C : zC0} {len pp r : Nat} {q : Int} (C0 : zCtx p R s m args meth c i d D A ad0 sh0 mm0 shF) : zSd p l e R s m args below meth c Q i D A ad0 sh0 mm0 shF C (.baload, len, pp, r, q) := by
  intro pc ls st sh mm hc hz tys ad H locs lsR hI hP hL hls hst
  obtain ⟨hx, hb, hml, hown, hts, hnw, hao, hA, hin, hR, hRc, hscr⟩ := C0
  have hk := zC_chk hc
  obtain rfl : len = 1 := Nat.eq_of_beq_eq_true hk
  have hd : decode (zBy i) pc = .ok (.baload, 1) := zC_dec hc
  obtain ⟨a, j, t, rfl, hzA⟩ := zx_bir hz
  obtain ⟨k, n, rs, hs, hzB⟩ := zx_sh hzA
  obtain ⟨hc1, hzC⟩ := zx_cond hzB
  obtain ⟨hj, hzD⟩ := zx_ite hzC
  simp only [Bool.or_eq_true] at hc1
  obtain ⟨rj, hst1⟩ := List.forall_mem_cons.mp hst
  obtain ⟨ra, hst2⟩ := List.forall_mem_cons.mp hst1
  have rj : zr32 j := rj
  have hat := zws_at (ad := ad) (mm := mm) hs
  have hg := hzD.1 tys ad H locs lsR hI hP hL hls (List.forall_mem_cons.mpr ⟨hI.2.2.2.2.1.2.1 a j.toNat, hst2⟩)
  rcases hc1 with h | h
  · have ek := Nat.eq_of_beq_eq_true h
    obtain ⟨t0, ht0⟩ := hI.2.2.2.2.2 a _ hs (by simp only; omega)
    rw [zce_i (Or.inr (Or.inl ek))] at hat
    simp only [ek, zty] at ht0
    refine va_zald (D := D) (i := Int32.ofInt j) (ws := zws ad sh mm) hx hb hI.2.2.1 hI.1 a t0 hat ht0 (zo_in rj hj.1 hj.2) hd ?_
    rw [zo_nat rj hj.1]
    exact hg
  · have ek := Nat.eq_of_beq_eq_true h
    obtain ⟨t0, ht0⟩ := hI.2.2.2.2.2 a _ hs (by simp only; omega)
    rw [zce_i (Or.inr (Or.inr ek))] at hat
    simp only [ek, zty] at ht0
    refine va_bald (D := D) (i := Int32.ofInt j) (ws := zws ad sh mm) hx hb hI.2.2.1 hI.1 a t0 hat ht0 (zo_in rj hj.1 hj.2) hd ?_
    rw [zo_nat rj hj.1]
    exact hg
theorem zsd_aaload {C : zC0} {len pp r : Nat} {q : Int} (C0 : zCtx p R s m args meth c i d D A ad0 sh0 mm0 shF) : zSd p l e R s m args below meth c Q i D A ad0 sh0 mm0 shF C (.aaload, len, pp, r, q) := by
  intro pc ls st sh mm hc hz tys ad H locs lsR hI hP hL hls hst
  obtain ⟨hx, hb, hml, hown, hts, hnw, hao, hA, hin, hR, hRc, hscr⟩ := C0
  have hk := zC_chk hc
  obtain rfl : len = 1 := Nat.eq_of_beq_eq_true hk
  have hd : decode (zBy i) pc = .ok (.aaload, 1) := zC_dec hc
  obtain ⟨a, j, t, rfl, hzA⟩ := zx_bir hz
  obtain ⟨k, n, rs, hs, hzB⟩ := zx_sh hzA
  obtain ⟨hc1, hzC⟩ := zx_cond hzB
  obtain ⟨hj, hzD⟩ := zx_ite hzC
  have ek := Nat.eq_of_beq_eq_true hc1
  subst ek
  clear hz hzA hzB hzC
  obtain ⟨rj, hst1⟩ := List.forall_mem_cons.mp hst
  obtain ⟨ra, hst2⟩ := List.forall_mem_cons.mp hst1
  have rj : zr32 j := rj
  split at hzD
  · rename_i b hb2
    have hbm := (hI.2.2.2.2.1.1 a _ hs).1 (b + 1) (List.mem_of_getElem? hb2)
    have hat := zws_at (ad := ad) (mm := mm) hs
    rw [zce_q] at hat
    obtain ⟨t0, ht0⟩ := hI.2.2.2.2.2 a _ hs (Nat.le_of_ble_eq_true rfl)
    have hg := hzD.1 tys ad H locs lsR hI hP hL hls (List.forall_mem_cons.mpr ⟨Or.inl (by omega), hst2⟩)
    refine va_aldq (D := D) (i := Int32.ofInt j) (C := "SlipWheel$Sheet") (ws := zws ad sh mm) hx hb hI.2.2.1 hI.1 a t0 hat ht0 (zo_in rj hj.1 hj.2) hd ?_
    rw [zo_nat rj hj.1]
    have : zro ad rs j.toNat = some (ad b).1 := by
      unfold zro
      rw [List.getD_eq_getElem?_getD, hb2]
      rfl
    rw [this]
    exact hg
  · exact hzD.elim
theorem zsd_iastore {C : zC0} {len pp r : Nat} {q : Int} (C0 : zCtx p R s m args meth c i d D A ad0 sh0 mm0 shF) : zSd p l e R s m args below meth c Q i D A ad0 sh0 mm0 shF C (.iastore, len, pp, r, q) := by
  intro pc ls st sh mm hc hz tys ad H locs lsR hI hP hL hls hst
  obtain ⟨hx, hb, hml, hown, hts, hnw, hao, hA, hin, hR, hRc, hscr⟩ := C0
  have hk := zC_chk hc
  obtain rfl : len = 1 := Nat.eq_of_beq_eq_true hk
  have hd : decode (zBy i) pc = .ok (.iastore, 1) := zC_dec hc
  obtain ⟨a, j, x, t, rfl, hzA⟩ := zx_biir hz
  obtain ⟨k, n, rs, hs, hzB⟩ := zx_sh hzA
  obtain ⟨hc1, hzC⟩ := zx_cond hzB
  obtain ⟨hj, hzD⟩ := zx_ite hzC
  have ek := Nat.eq_of_beq_eq_true hc1
  subst ek
  clear hz hzA hzB hzC
  obtain ⟨rx, hst0⟩ := List.forall_mem_cons.mp hst
  obtain ⟨rj, hst1⟩ := List.forall_mem_cons.mp hst0
  obtain ⟨ra, hst2⟩ := List.forall_mem_cons.mp hst1
  have rj : zr32 j := rj
  have rx : zr32 x := rx
  obtain ⟨t0, ht0⟩ := hI.2.2.2.2.2 a _ hs (Nat.le_of_ble_eq_true rfl)
  have hat := zws_at (ad := ad) (mm := mm) hs
  rw [zce_i (Or.inl rfl)] at hat
  have hla : a < sh.length := (List.getElem?_eq_some_iff.mp hs).1
  refine va_iast (D := D) (i := Int32.ofInt j) (x := Int32.ofInt x) (ws := zws ad sh mm) hx hb hI.2.2.1 hI.1 hI.2.1 hI.2.2.2.1 a t0 hat ht0 (zo_in rj hj.1 hj.2) hd (fun H1 locs1 e1 e2 e3 => ?_)
  rw [zo_nat rj hj.1] at e1 e2
  exact hzD.1 tys ad H1 locs1 lsR (hI.upd hs (Or.inl rfl) rx e1 e2 e3) (hP.mm (by have := hI.2.2.2.2.1.2.2; omega)) hL hls hst2
theorem zsd_bastore {C : zC0} {len pp r : Nat} {q : Int} (C0 : zCtx p R s m args meth c i d D A ad0 sh0 mm0 shF) : zSd p l e R s m args below meth c Q i D A ad0 sh0 mm0 shF C (.bastore, len, pp, r, q) := by
  intro pc ls st sh mm hc hz tys ad H locs lsR hI hP hL hls hst
  obtain ⟨hx, hb, hml, hown, hts, hnw, hao, hA, hin, hR, hRc, hscr⟩ := C0
  have hk := zC_chk hc
  obtain rfl : len = 1 := Nat.eq_of_beq_eq_true hk
  have hd : decode (zBy i) pc = .ok (.bastore, 1) := zC_dec hc
  obtain ⟨a, j, x, t, rfl, hzA⟩ := zx_biir hz
  obtain ⟨k, n, rs, hs, hzB⟩ := zx_sh hzA
  obtain ⟨rx, hst0⟩ := List.forall_mem_cons.mp hst
  obtain ⟨rj, hst1⟩ := List.forall_mem_cons.mp hst0
  obtain ⟨ra, hst2⟩ := List.forall_mem_cons.mp hst1
  have rj : zr32 j := rj
  have rx : zr32 x := rx
  have hat := zws_at (ad := ad) (mm := mm) hs
  have hla : a < sh.length := (List.getElem?_eq_some_iff.mp hs).1
  have h900 : a < 900 := by have := hI.2.2.2.2.1.2.2; omega
  clear hz hzA
  cases hb1 : Nat.beq k 101 with
  | true =>
    simp only [hb1, cond_true] at hzB
    have ek := Nat.eq_of_beq_eq_true hb1
    obtain ⟨⟨hj, h01⟩, hzD⟩ := zx_ite hzB
    obtain ⟨t0, ht0⟩ := hI.2.2.2.2.2 a _ hs (by simp only; omega)
    rw [zce_i (Or.inr (Or.inl ek))] at hat
    simp only [ek, zty] at ht0
    refine va_zast (D := D) (i := Int32.ofInt j) (x := Int32.ofInt x) (ws := zws ad sh mm) hx hb hI.2.2.1 hI.1 hI.2.1 hI.2.2.2.1 a t0 hat ht0 (zo_in rj hj.1 hj.2) hd (fun H1 locs1 e1 e2 e3 => ?_)
    have hn : vp_nar .boolean (Int32.ofInt x) = Int32.ofInt x := by
      rcases h01 with rfl | rfl <;> rfl
    rw [zo_nat rj hj.1, hn] at e1 e2
    exact hzD.1 tys ad H1 locs1 lsR (hI.upd hs (Or.inr (Or.inl ek)) rx e1 e2 e3) (hP.mm h900) hL hls hst2
  | false =>
    simp only [hb1, cond_false] at hzB
    obtain ⟨hc2, hzC⟩ := zx_cond hzB
    have ek := Nat.eq_of_beq_eq_true hc2
    obtain ⟨hj, hzD⟩ := zx_ite hzC
    obtain ⟨t0, ht0⟩ := hI.2.2.2.2.2 a _ hs (by simp only; omega)
    rw [zce_i (Or.inr (Or.inr ek))] at hat
    simp only [ek, zty] at ht0
    refine va_bast (D := D) (i := Int32.ofInt j) (x := Int32.ofInt x) (ws := zws ad sh mm) hx hb hI.2.2.1 hI.1 hI.2.1 hI.2.2.2.1 a t0 hat ht0 (zo_in rj hj.1 hj.2) hd (fun H1 locs1 e1 e2 e3 => ?_)
    have hn : vp_nar .byte (Int32.ofInt x) = Int32.ofInt (zi2b x) := (Int32.ofInt_toInt _).symm
    rw [zo_nat rj hj.1, hn] at e1 e2
    exact hzD.1 tys ad H1 locs1 lsR (hI.upd hs (Or.inr (Or.inr ek)) (zr_i _) e1 e2 e3) (hP.mm h900) hL hls hst2
theorem zsd_aastore {C : zC0} {len pp r : Nat} {q : Int} (C0 : zCtx p R s m args meth c i d D A ad0 sh0 mm0 shF) : zSd p l e R s m args below meth c Q i D A ad0 sh0 mm0 shF C (.aastore, len, pp, r, q) := by
  intro pc ls st sh mm hc hz tys ad H locs lsR hI hP hL hls hst
  obtain ⟨hx, hb, hml, hown, hts, hnw, hao, hA, hin, hR, hRc, hscr⟩ := C0
  have hk := zC_chk hc
  obtain rfl : len = 1 := Nat.eq_of_beq_eq_true hk
  have hd : decode (zBy i) pc = .ok (.aastore, 1) := zC_dec hc
  simp only [zs1] at hz
  split at hz
  · rename_i b j a t
    obtain ⟨k, n, rs, hs, hzB⟩ := zx_sh hz
    obtain ⟨kb, nb, rsb, hsb, hzC⟩ := zx_sh hzB
    obtain ⟨hc1, hzD⟩ := zx_cond hzC
    obtain ⟨hj, hzE⟩ := zx_ite hzD
    simp only [Bool.and_eq_true] at hc1
    have ek := Nat.eq_of_beq_eq_true hc1.1
    have ekb := Nat.eq_of_beq_eq_true hc1.2
    subst ek
    subst ekb
    clear hz hzB hzC hzD
    obtain ⟨rb, hst0⟩ := List.forall_mem_cons.mp hst
    obtain ⟨rj, hst1⟩ := List.forall_mem_cons.mp hst0
    obtain ⟨ra, hst2⟩ := List.forall_mem_cons.mp hst1
    have rj : zr32 j := rj
    have hla : a < sh.length := (List.getElem?_eq_some_iff.mp hs).1
    have hlb : b < sh.length := (List.getElem?_eq_some_iff.mp hsb).1
    have hrl : rs.length = n := (hI.2.2.2.2.1.1 a _ hs).2.2.1 rfl
    obtain ⟨t0, ht0⟩ := hI.2.2.2.2.2 a _ hs (Nat.le_of_ble_eq_true rfl)
    have hat := zws_at (ad := ad) (mm := mm) hs
    rw [zce_q] at hat
    have hbt := zws_at (ad := ad) (mm := mm) hsb
    rw [zce_o (by decide)] at hbt
    refine va_astq (D := D) (i := Int32.ofInt j) (r := (RX4, TX4, 3)) (ws := zws ad sh mm) hx hb hI.2.2.1 hI.1 hI.2.1 hI.2.2.2.1 a t0 b 4 hat ht0 hbt rfl (zo_in rj hj.1 hj.2) hd (fun H1 locs1 e1 e2 e3 => ?_)
    have ez : (zws ad sh mm).set a ((ad a).1, .inl ((ad a).2, n, .inr (.inr (.inr (.inr (va_up (zro ad rs) (Int32.ofInt j).toNatClampNeg (some (ad b).1))))))) = zws ad (sh.set a (103, n, rs.set j.toNat (b + 1))) mm := by
      have hfun : va_up (zro ad rs) j.toNat (some (ad b).1) = zro ad (rs.set j.toNat (b + 1)) := by
       funext j'
       unfold va_up zro
       rw [List.getD_eq_getElem?_getD, List.getD_eq_getElem?_getD, List.getElem?_set]
       by_cases h : j' = j.toNat
       · rw [if_pos h, if_pos h.symm, if_pos (by omega)]
         rfl
       · rw [if_neg h, if_neg (fun q => h q.symm)]
      rw [zws_set rfl hla (fun _ _ => rfl), zce_q, zo_nat rj hj.1, hfun]
    rw [ez] at e1 e2
    have hg := hzE.1 tys ad H1 locs1 lsR ⟨e1, e2, hI.2.2.1, e3, zWf.sq hI.2.2.2.2.1 hs hlb, fun k' s' hk' h100 => ?_⟩ ⟨by rw [List.length_set]; exact hP.1, by rw [ztot_set hs]; exact hP.2.1, hP.2.2.1, hP.2.2.2⟩ hL (fun v hv => by rw [List.length_set]; exact hls v hv) (fun v hv => by rw [List.length_set]; exact hst2 v hv)
    · rw [List.length_set, ztot_set hs] at hg
      exact hg
    · rw [List.getElem?_set] at hk'
      split at hk'
      · rename_i ek
        subst ek
        cases hk'
        exact ⟨t0, ht0⟩
      · exact hI.2.2.2.2.2 k' s' hk' h100
  · exact hz.elim
theorem zsd_arraylength {C : zC0} {len pp r : Nat} {q : Int} (C0 : zCtx p R s m args meth c i d D A ad0 sh0 mm0 shF) : zSd p l e R s m args below meth c Q i D A ad0 sh0 mm0 shF C (.arraylength, len, pp, r, q) := by
  intro pc ls st sh mm hc hz tys ad H locs lsR hI hP hL hls hst
  obtain ⟨hx, hb, hml, hown, hts, hnw, hao, hA, hin, hR, hRc, hscr⟩ := C0
  have hk := zC_chk hc
  simp only [zchk, Bool.and_eq_true, Bool.or_eq_true] at hk
  obtain ⟨h1, hk⟩ := hk
  obtain rfl : len = 1 := Nat.eq_of_beq_eq_true h1
  have hd : decode (zBy i) pc = .ok (.arraylength, 1) := zC_dec hc
  simp only [zs1] at hz
  cases hp1 : Nat.beq pp 1 with
  | true =>
    rw [hp1] at hz
    have e1 := Nat.eq_of_beq_eq_true hp1
    obtain ⟨b, L, xs, hX, hbl, hbA, hb1, hL0, hL1, hxs⟩ := hscr
    obtain ⟨a, t, rfl, hzA⟩ := zx_br hz
    obtain ⟨hc1, hzB⟩ := zx_cond hzA
    have ea := Nat.eq_of_beq_eq_true hc1
    subst ea
    obtain ⟨ra, hst2⟩ := List.forall_mem_cons.mp hst
    have m8 : mm 998 0 = L := by rw [hP.2.2.2 998 (by decide)]; exact hL0
    have eb : (ad 999).1 = b := by rw [hP.2.2.1 999 (Or.inr (by decide))]; exact hb1
    have hg := hzB.1 tys ad H locs lsR hI hP hL hls (List.forall_mem_cons.mpr ⟨hI.2.2.2.2.1.2.1 998 0, hst2⟩)
    show W p l e R s m args below meth c H locs _ _ Q (F0 m pc lsR (.ref (ad 999).1 :: t.map (zcv ad)))
    rw [eb]
    refine va_slen hx hb hX hbl hbA hI.2.2.2.1 hd ?_
    rw [show Int32.ofNat L = Int32.ofInt (mm 998 0) by rw [m8, Int32.ofInt_eq_ofNat]]
    exact hg
  | false =>
    rw [hp1] at hz
    obtain ⟨a, t, rfl, hzA⟩ := zx_br hz
    obtain ⟨k, n, rs, hs, hzB⟩ := zx_sh hzA
    obtain ⟨hc1, hzC⟩ := zx_cond hzB
    simp only [Bool.and_eq_true] at hc1
    have k1 := Nat.le_of_ble_eq_true hc1.1
    have k2 := Nat.le_of_ble_eq_true hc1.2
    obtain ⟨ra, hst2⟩ := List.forall_mem_cons.mp hst
    obtain ⟨t0, ht0⟩ := hI.2.2.2.2.2 a _ hs k1
    have hat := zws_at (ad := ad) (mm := mm) hs
    have hn : n ≤ 4000 := zWf_n hI.2.2.2.2.1 hs k1
    have hg := hzC.1 tys ad H locs lsR hI hP hL hls (List.forall_mem_cons.mpr ⟨⟨by omega, by omega⟩, hst2⟩)
    have hv : ∀ z : (Nat → Int32) ⊕ (Nat → Int64) ⊕ (Nat → UInt32) ⊕ (Nat → UInt64) ⊕ (Nat → Option Nat), Int32.ofNat ((n, z) : vp_A).1 = Int32.ofInt n := fun z => (Int32.ofInt_eq_ofNat).symm
    by_cases h3 : k = 103
    · subst h3
      rw [zce_q] at hat
      exact va_alen (D := D) (ws := zws ad sh mm) hx hb hI.2.2.1 hI.1 a t0 hat ht0 (hv _) hd hg
    · rw [zce_i (by omega)] at hat
      exact va_alen (D := D) (ws := zws ad sh mm) hx hb hI.2.2.1 hI.1 a t0 hat ht0 (hv _) hd hg
end ZSD
end
section
section ZSD
variable {p : Program} {l : Launch} {e : Env} {R : Room} {s : State} {m : MethodId} {args : Array Value} {below : List Frame} {meth : Method} {c : Code} {Q : State → Prop}
variable {i d : Nat} {D : va_G} {A : Nat → Prop} {ad0 : Nat → Nat × ClassId} {sh0 : List zSh} {mm0 : zMm} {shF : List zSh}
theorem zro_0 (ad : Nat → Nat × ClassId) (n : Nat) : zro ad (List.replicate n 0) = fun _ => none := by
  funext j
  unfold zro
  have : (List.replicate n 0).getD j 0 = 0 := by
    rw [List.getD_eq_getElem?_getD, List.getElem?_replicate]
    split <;> rfl
  rw [this]
theorem zpush {sh : List zSh} {mm : zMm} {tys' : List (ClassId × FieldType)} {ad : Nat → Nat × ClassId} {H1 : Heap} {locs : List Loc} {pc' : Nat} {ls : zLs} {t : List zV} {s0 : zSh} {q : Nat} {cA : ClassId} {lsR : Array Slot} (hg : zGG p l e R s m args below meth c Q i D A ad0 sh0 mm0 shF pc' ls (.inr (.inr sh.length) :: t) (sh ++ [s0]) (zn mm sh.length)) (hlt : sh.length < 900) (hP : zPs ad0 sh0 mm0 ad sh mm) (hL : zLc ad (zml i) ls lsR) (hls : ∀ v, some v ∈ ls → zrg sh.length v) (hst : ∀ v ∈ t, zrg sh.length v)
    (hext : zInv s D A tys' (fun k => if k = sh.length then (q, cA) else ad k) (sh ++ [s0]) (zn mm sh.length) H1 locs ∧ zPs ad0 sh0 mm0 (fun k => if k = sh.length then (q, cA) else ad k) (sh ++ [s0]) (zn mm sh.length)) :
    W p l e R s m args below meth c H1 locs (sh.length - sh0.length + 1) (ztot sh - ztot sh0 + s0.2.1) Q (F0 m pc' lsR (.ref q :: t.map (zcv ad))) := by
  have hd : ∀ k, k < sh.length ∨ 900 ≤ k → (fun k => if k = sh.length then (q, cA) else ad k) k = ad k := fun k hk => if_neg (by omega)
  have hlen : sh.length ≤ (sh ++ [s0]).length := by simp
  have h := hg.1 tys' _ H1 locs lsR hext.1 hext.2 (hL.cong hls hd) (fun v hv => zrg_mono hlen (hls v hv)) (List.forall_mem_cons.mpr ⟨Or.inl (by simp), fun v hv => zrg_mono hlen (hst v hv)⟩)
  have e1 : (t.map (zcv (fun k => if k = sh.length then (q, cA) else ad k))) = t.map (zcv ad) := List.map_congr_left fun v hv => zcv_cong (hst v hv) hd
  rw [List.map_cons, e1] at h
  have e2 : zcv (fun k => if k = sh.length then (q, cA) else ad k) (.inr (.inr sh.length)) = .ref q := by
    show Value.ref (if sh.length = sh.length then (q, cA) else ad sh.length).1 = .ref q
    rw [if_pos rfl]
  rw [e2] at h
  have h1 := hP.1
  have h2 := hP.2.1
  refine W.cs ?_ ?_ h
  · simp
    omega
  · unfold ztot at h2 ⊢
    simp
    omega
theorem zcells (C0 : zCtx p R s m args meth c i d D A ad0 sh0 mm0 shF) {sh : List zSh} {mm : zMm} {s0 : zSh} {pc' : Nat} {ls : zLs} {st : List zV} (hg : zGG p l e R s m args below meth c Q i D A ad0 sh0 mm0 shF pc' ls st (sh ++ [s0]) mm) (h1 : sh0.length ≤ sh.length) (h2 : ztot sh0 ≤ ztot sh) : sh.length - sh0.length + 1 ≤ R.cells ∧ ztot sh - ztot sh0 + s0.2.1 ≤ R.slots := by
  obtain ⟨hx, hb, hml, hown, hts, hnw, hao, hA, hin, hR, hRc, hscr⟩ := C0
  have h3 := hg.2.1
  have h4 := hg.2.2
  unfold ztot at *
  simp at h3 h4
  constructor
  · have := hRc.1
    omega
  · have := hRc.2
    omega
theorem zsd_new {C : zC0} {len pp r : Nat} {q : Int} {n : Nat} (C0 : zCtx p R s m args meth c i d D A ad0 sh0 mm0 shF) : zSd p l e R s m args below meth c Q i D A ad0 sh0 mm0 shF C (.new n, len, pp, r, q) := by
  intro pc ls st sh mm hc hz tys ad H locs lsR hI hP hL hls hst
  have C0' := C0
  obtain ⟨hx, hb, hml, hown, hts, hnw, hao, hA, hin, hR, hRc, hscr⟩ := C0
  have hk := zC_chk hc
  obtain ⟨hlt, hg⟩ := zx_cond hz
  have hlt := Nat.blt_eq.mp hlt
  simp only [zchk, Bool.and_eq_true] at hk
  obtain ⟨h1, hk⟩ := hk
  obtain rfl : len = 3 := Nat.eq_of_beq_eq_true h1
  have hd : decode (zBy i) pc = .ok (.new n, 3) := zC_dec hc
  cases hcl : zCl[r]? with
  | none => rw [hcl] at hk; exact absurd hk (by simp)
  | some z =>
    obtain ⟨CC, TT, NN⟩ := z
    rw [hcl] at hk
    simp only [Bool.and_eq_true] at hk
    have ep := Nat.eq_of_beq_eq_true hk.1
    subst ep
    have hr10 := zcl_lt hcl
    have hw := zcl_w hcl
    obtain ⟨ty0, hty, hnm, hty3⟩ := zcl_f hcl
    have hcs := zcells C0' hg hP.1 hP.2.1
    refine va_new (D := D) (ci := r) (fs := (List.range pp).map (fun j => if zft r j = 2 then Value.null else .int 0)) (C := CC) (T := TT) (N := pp) (tys := tys) (ws := zws ad sh mm) hx hb hts hw.1 ty0 hty hown (hts _ (zLk_ok hk.2 rfl)) (hts _ hw.2.1) (hts _ hw.2.2.1) hI.2.2.1 hI.1 hI.2.1 hI.2.2.2.1 hA hcl (fun j hj => ?_) hcs.1 hcs.2 hd (fun q0 H1 e1 e2 e3 => ?_)
    · have h3 := hty3 j hj
      unfold vp_V
      rw [List.getD_eq_getElem?_getD, zfs_at hj]
      simp only [Option.getD_some]
      unfold zft0 at h3
      by_cases h20 : zft r j = 0
      · rw [if_pos h20] at h3
        rw [of_decide_eq_true h3, if_neg (by omega)]
        rfl
      · rw [if_neg h20] at h3
        by_cases h21 : zft r j = 1
        · rw [if_pos h21] at h3
          rw [of_decide_eq_true h3, if_neg (by omega)]
          rfl
        · rw [if_neg h21] at h3
          simp only [Bool.and_eq_true] at h3
          rw [if_pos (Nat.eq_of_beq_eq_true h3.1)]
          cases hh : ty0 j <;> rw [hh] at h3 <;> first | rfl | exact absurd h3.2 (by simp)
    · refine zpush hg hlt hP hL hls hst (zext (q := q0) (cA := (ad 0).2) hI hP hlt ?_ ?_ ?_ ?_ ?_ hI.2.2.1 (fun _ _ h => h) ?_ ?_ e1 e2 e3)
      · intro b hb2
        exact (List.mem_replicate.mp hb2).2
      · intro _
        exact ⟨by rw [hcl]; rfl, List.length_replicate⟩
      · intro _
        exact List.length_replicate
      · simp only
        omega
      · simp only
        omega
      · simp only
        omega
      · rw [zce_o (by omega)]
        congr 2
        apply List.map_congr_left
        intro j hj
        unfold zfv
        rw [zro_0]
        rfl
theorem zsd_newarray {C : zC0} {len pp r : Nat} {q : Int} {ta : ArrayType} (C0 : zCtx p R s m args meth c i d D A ad0 sh0 mm0 shF) : zSd p l e R s m args below meth c Q i D A ad0 sh0 mm0 shF C (.newarray ta, len, pp, r, q) := by
  intro pc ls st sh mm hc hz tys ad H locs lsR hI hP hL hls hst
  have C0' := C0
  obtain ⟨hx, hb, hml, hown, hts, hnw, hao, hA, hin, hR, hRc, hscr⟩ := C0
  have hk := zC_chk hc
  simp only [zchk, Bool.and_eq_true] at hk
  obtain rfl : len = 2 := Nat.eq_of_beq_eq_true hk.1
  have hd : decode (zBy i) pc = .ok (.newarray ta, 2) := zC_dec hc
  obtain ⟨x, t, rfl, hzA⟩ := zx_b1 hz
  obtain ⟨hlt, hzB⟩ := zx_cond hzA
  have hlt := Nat.blt_eq.mp hlt
  obtain ⟨hx0, hzC⟩ := zx_ite hzB
  obtain ⟨rx, hst1⟩ := List.forall_mem_cons.mp hst
  have rx : zr32 x := rx
  clear hz hzA hzB
  have key : ∀ (ty : FieldType) (kn : Nat), newarray.typeOf ta = ty → (kn = 100 ∨ kn = 101 ∨ kn = 102) → zty kn = ty → defaultValue ty = .int 0 → componentBytes ty ≤ 8 → zGG p l e R s m args below meth c Q i D A ad0 sh0 mm0 shF (pc + 2) ls (.inr (.inr sh.length) :: t) (sh ++ [(kn, x.toNat, [])]) (zn mm sh.length) → W p l e R s m args below meth c H locs (sh.length - sh0.length) (ztot sh - ztot sh0) Q (F0 m pc lsR ((.inl x :: t : List zV).map (zcv ad))) := by
    intro ty kn hty hkn hzty hdef hcb hg
    have hcs := zcells C0' hg hP.1 hP.2.1
    have hk2 : Cond.arrayClass (newarray.typeOf ta) ∈ zWS := zWS_in (zAt_ok hk.2) rfl
    refine va_newa (D := D) (atype := ta) (ty := ty) (N' := x.toNat) (a0 := (x.toNat, .inl (fun _ => 0))) (tys := tys) (ws := zws ad sh mm) (n := Int32.ofInt x) hx hb (hts _ hk2) hty hI.2.2.1 hI.1 hI.2.1 hI.2.2.2.1 hA (fun cA => by rw [hdef]; rfl) (fun q0 => ?_) (zo_nat rx hx0.1) ?_ hcs.1 hcs.2 hd (fun q0 cA H1 k1 e1 e2 e3 => ?_)
    · have := (zo_lt rx zr_0).mp q0
      omega
    · have h5 : x.toNat ≤ 4000 := by omega
      exact Nat.le_trans (Nat.mul_le_mul h5 hcb) (by decide)
    · refine zpush hg hlt hP hL hls hst1 (zext (q := q0) (cA := cA) hI hP hlt (fun b hb2 => absurd hb2 List.not_mem_nil) (fun q1 => by simp only at q1; omega) (fun q1 => by simp only at q1; omega) (by simp only; omega) (fun _ => by simp only; omega) k1 ?_ (fun _ => ⟨tys.length, ?_⟩) ?_ e1 e2 e3)
      · intro t0 z hz0
        rw [List.getElem?_append_left (List.getElem?_eq_some_iff.mp hz0).1]
        exact hz0
      · rw [List.getElem?_append_right (Nat.le_refl _), Nat.sub_self, ← hzty]
        rfl
      · rw [zce_i hkn, if_pos rfl]
        rfl
  cases ta with
  | int => exact key .int 100 rfl (Or.inl rfl) rfl rfl (by decide) hzC
  | boolean => exact key .boolean 101 rfl (Or.inr (Or.inl rfl)) rfl rfl (by decide) hzC
  | byte => exact key .byte 102 rfl (Or.inr (Or.inr rfl)) rfl rfl (by decide) hzC
  | char => exact hzC.elim
  | float => exact hzC.elim
  | double => exact hzC.elim
  | short => exact hzC.elim
  | long => exact hzC.elim
theorem zsd_anewarray {C : zC0} {len pp r : Nat} {q : Int} {n : Nat} (C0 : zCtx p R s m args meth c i d D A ad0 sh0 mm0 shF) : zSd p l e R s m args below meth c Q i D A ad0 sh0 mm0 shF C (.anewarray n, len, pp, r, q) := by
  intro pc ls st sh mm hc hz tys ad H locs lsR hI hP hL hls hst
  have C0' := C0
  obtain ⟨hx, hb, hml, hown, hts, hnw, hao, hA, hin, hR, hRc, hscr⟩ := C0
  have hk := zC_chk hc
  simp only [zchk, Bool.and_eq_true] at hk
  obtain rfl : len = 3 := Nat.eq_of_beq_eq_true hk.1
  have hd : decode (zBy i) pc = .ok (.anewarray n, 3) := zC_dec hc
  obtain ⟨x, t, rfl, hzA⟩ := zx_b1 hz
  obtain ⟨hlt, hzB⟩ := zx_cond hzA
  have hlt := Nat.blt_eq.mp hlt
  obtain ⟨hx0, hg⟩ := zx_ite hzB
  obtain ⟨rx, hst1⟩ := List.forall_mem_cons.mp hst
  have rx : zr32 x := rx
  have hcs := zcells C0' hg hP.1 hP.2.1
  refine va_newq (D := D) (C := "SlipWheel$Sheet") (N' := x.toNat) (tys := tys) (ws := zws ad sh mm) (n := Int32.ofInt x) hx hb hown (hts _ (zLk_ok hk.2 rfl)) hao hI.2.2.1 hI.1 hI.2.1 hI.2.2.2.1 hA (fun q0 => ?_) (zo_nat rx hx0.1) ?_ hcs.1 hcs.2 hd (fun q0 cA H1 k1 e1 e2 e3 => ?_)
  · have := (zo_lt rx zr_0).mp q0
    omega
  · have h5 : x.toNat ≤ 4000 := by omega
    omega
  · refine zpush hg hlt hP hL hls hst1 (zext (q := q0) (cA := cA) hI hP hlt (fun b hb2 => (List.mem_replicate.mp hb2).2) (fun q1 => by simp only at q1; omega) (fun _ => List.length_replicate) (by simp only; omega) (fun _ => by simp only; omega) k1 ?_ (fun _ => ⟨tys.length, ?_⟩) ?_ e1 e2 e3)
    · intro t0 z hz0
      rw [List.getElem?_append_left (List.getElem?_eq_some_iff.mp hz0).1]
      exact hz0
    · rw [List.getElem?_append_right (Nat.le_refl _), Nat.sub_self]
      rfl
    · rw [zce_q, zro_0, if_pos rfl]
end ZSD
end
section
theorem zgood {ws : List Cond} (h : ∀ w ∈ ws, w ∈ zWS) : GoodIn zWS ws := fun w hw => ⟨h w hw, good_of_word (List.mem_filter.mp (h w hw)).2⟩
def zwj (j : Nat) : List Cond := Cond.code (zNm j) (zBy j) (zml j) (zRt j) :: zWS
theorem zwj_in {j : Nat} (h : j < 92) : ∀ w ∈ zwj j, w ∈ zWS := fun w hw => (List.mem_cons.mp hw).elim (fun e => e ▸ zWS_in (zcode_in h) rfl) id
/-- a callee's world at its start -/
def zB0 (D : va_G) (tys : List (ClassId × FieldType)) (ad : Nat → Nat × ClassId) (sh : List zSh) (mm : zMm) (sz : Nat) (U : State) : Prop :=
  U.heap.size = sz ∧ va_P D zCl (zws ad sh mm) U.heap ∧ va_K D zCl tys U ∧ va_D (fun _ => True) (zws ad sh mm) ∧ (∀ w ∈ zNst, va_Nw w U) ∧ va_AO "SlipWheel$Sheet" U ∧ zScr (va_A (zws ad sh mm) sz) ad mm U
/-- and at its end -/
def zQ0 (D : va_G) (ad : Nat → Nat × ClassId) (sh : List zSh) (mm : zMm) (sz : Nat) (v : Option zV) (sh' : List zSh) (mm' : zMm) : Array Value → State → Outcome → State → Prop := fun _ st o t =>
  (∃ (tys' : List (ClassId × FieldType)) (ad' : Nat → Nat × ClassId), o = .returned (v.map (zcv ad')) ∧ va_P D zCl (zws ad' sh' mm') t.heap ∧ va_K D zCl tys' t ∧ va_D (va_A (zws ad sh mm) sz) (zws ad' sh' mm') ∧ zWf sh' mm' ∧ zTy tys' ad' sh' ∧ (∀ k, k < sh.length ∨ 900 ≤ k → ad' k = ad k) ∧ (∀ k, 900 ≤ k → mm' k = mm k) ∧ (∀ x, v = some x → zrg sh'.length x)) ∧ va_F (va_A (zws ad sh mm) sz) st t
/-- what the callees' contracts are -/
def zMt (l : Launch) (d : Nat) (C : zC0) : Prop := ∀ j as sh mm v sh' mm', j < 92 → C j as sh mm = some (v, sh', mm') → (sh.length ≤ sh'.length ∧ ztot sh ≤ ztot sh') ∧
  ∀ (D : va_G) (tys : List (ClassId × FieldType)) (ad : Nat → Nat × ClassId) (sz : Nat), zWf sh mm → zTy tys ad sh → (∀ a ∈ as, zrg sh.length a) →
    Met l (zNm j) (zwj j) ({ frames := d, cells := sh'.length - sh.length, slots := ztot sh' - ztot sh, locals := 40 * d }) (va_Pc (as.map (zcv ad)) (zB0 D tys ad sh mm sz)) (zQ0 D ad sh mm sz v sh' mm') (sh'.length - sh.length) (ztot sh' - ztot sh) (va_A (zws ad sh mm) sz)
theorem zNst_warm {w : Cond} (hw : w ∈ zNst) {s U : State} (hW : s.WarmedH U.vm) (h : va_Nw w s) : va_Nw w U := by
  have h1 := (List.mem_filter.mp hw).2
  unfold zisN at h1
  split at h1
  · exact va_Nw.warmF hW h
  · exact va_Nw.warmM hW h
  · cases h1
theorem zNst_same {w : Cond} (hw : w ∈ zNst) {u U : State} (hW : u.vm = U.vm) (h : va_Nw w u) : va_Nw w U := by
  have h1 := (List.mem_filter.mp hw).2
  unfold zisN at h1
  split at h1
  · exact va_Nw.same rfl hW h
  · exact va_Nw.same rfl hW h
  · cases h1
theorem zB0_blind (av : List Value) (D : va_G) (tys : List (ClassId × FieldType)) (ad : Nat → Nat × ClassId) (sh : List zSh) (mm : zMm) (sz : Nat) : FrameBlind (va_Pc av (zB0 D tys ad sh mm sz)) := by
  intro a U g mk q
  obtain ⟨q0, q1, q2, q3, q4, q5, q6, b, L, xs, x1, x2⟩ := q
  exact ⟨q0, q1, q2, va_K.moved (u := U) (U := U.calling g mk a) (Vm.Alike.refl U.vm) q3, q4, fun w hw => zNst_same hw (u := U) (U := U.calling g mk a) rfl (q5 w hw), va_AO.moved (u := U) (U := U.calling g mk a) (Vm.Alike.refl U.vm) q6, b, L, xs, va_X.moved (u := U) (U := U.calling g mk a) (Vm.Alike.refl U.vm) x1, x2⟩
theorem zstk {st : List zV} {r : Nat} (ad : Nat → Nat × ClassId) : st.map (zcv ad) = ((st.take r).reverse.map (zcv ad)).reverse ++ (st.drop r).map (zcv ad) := by
  rw [← List.map_reverse, List.reverse_reverse, ← List.map_append, List.take_append_drop]
section ZSD
variable {p : Program} {l : Launch} {e : Env} {R : Room} {s : State} {m : MethodId} {args : Array Value} {below : List Frame} {meth : Method} {c : Code} {Q : State → Prop}
variable {i d : Nat} {D : va_G} {A : Nat → Prop} {ad0 : Nat → Nat × ClassId} {sh0 : List zSh} {mm0 : zMm} {shF : List zSh}
theorem zcallW {H : Heap} {locs : List Loc} {cells slots mc ms : Nat} {pc : Nat} {lsR : Array Slot} {st0 rest : List Value} {Qa : State → Outcome → State → Prop} {free A1 : Nat → Prop} (hr : va_Run p l e R s m args below meth c H locs cells slots mc ms (F0 m pc lsR st0) rest Qa free) (hS : va_S A s.heap H locs) (hA : ∀ q, q < H.size → A1 q → A q) (hf : ∀ q, free q → A q) (hQ : ∀ st o t, Qa st o t → va_F A1 st t)
    (kk : ∀ (v : Option Value) (st₀ t : State) (H1 : Heap) (locs1 : List Loc), t.heap = H1 → s.vm.Alike t.vm → Qa st₀ (.returned v) t → va_S A s.heap H1 locs1 → W p l e R s m args below meth c H1 locs1 (cells + mc) (slots + ms) Q (F0 m (pc + 3) lsR (v.toList ++ rest))) : W p l e R s m args below meth c H locs cells slots Q (F0 m pc lsR st0) := by
  intro T hT X
  obtain ⟨v, st₀, t, T', L, h0, X', hL, e1, e2, hq, st⟩ := hr T hT X
  obtain ⟨hz, hk⟩ := hQ _ _ _ hq
  rw [h0] at hz hk
  obtain ⟨t2, a1, b1⟩ := kk v st₀ t T'.heap (locs ++ L) e1.symm (by rw [← e2]; exact X'.warmed.alike) hq
    ⟨Nat.le_trans hS.1 (by rw [e1]; exact hz), fun q h1 h2 => by rw [e1, hk q (Nat.lt_of_lt_of_le h1 hS.1) (fun z => h2 (hA q (Nat.lt_of_lt_of_le h1 hS.1) z))]; exact hS.2.1 q h1 h2, fun q hq => by
      rcases List.mem_append.mp hq with h | h
      · exact hS.2.2 q h
      · exact hf _ (hL q h)⟩ T' rfl X'
  exact ⟨t2, st t2 a1, b1⟩
/-- the script, at a call -/
theorem zScr.go {D : va_G} {A : Nat → Prop} {tys : List (ClassId × FieldType)} {ad0 ad : Nat → Nat × ClassId} {sh0 sh : List zSh} {mm0 mm : zMm} {s U : State} {H : Heap} {locs : List Loc} (h : zScr A ad0 mm0 s) (hI : zInv s D A tys ad sh mm H locs) (hP : zPs ad0 sh0 mm0 ad sh mm) (hU : U.heap = H) (hW : s.WarmedH U.vm) : zScr (va_A (zws ad sh mm) H.size) ad mm U := by
  obtain ⟨b, L, xs, hX, hbl, hbA, hb1, hL0, hL1, hxs⟩ := h
  refine ⟨b, L, xs, ?_, ?_, ?_, ?_, ?_, hL1, ?_⟩
  · rw [hU]
    exact va_X.moved hW.alike (va_X.kept hX (hI.2.2.2.1.2.1 b hbl hbA))
  · rw [hU]
    exact Nat.lt_of_lt_of_le hbl hI.2.2.2.1.1
  · intro hq
    rcases hq with ⟨k, en, h⟩ | h
    · exact hbA (hI.2.1.2 k (b, en) h)
    · exact absurd (Nat.lt_of_lt_of_le hbl hI.2.2.2.1.1) (Nat.not_lt.mpr h)
  · rw [hP.2.2.1 999 (Or.inr (by decide))]
    exact hb1
  · rw [hP.2.2.2 998 (by decide)]
    exact hL0
  · rw [hP.2.2.2 999 (by decide)]
    exact hxs
/-- behind a call -/
theorem zback {C : zC0} {j r : Nat} {b : Bool} {as rest : List zV} {pc : Nat} {ls : zLs} {sh : List zSh} {mm : zMm} {tys : List (ClassId × FieldType)} {ad : Nat → Nat × ClassId} {H : Heap} {locs : List Loc} {lsR : Array Slot} {st0 : List Value}
    (hI : zInv s D A tys ad sh mm H locs) (hP : zPs ad0 sh0 mm0 ad sh mm) (hL : zLc ad (zml i) ls lsR) (hls : ∀ v, some v ∈ ls → zrg sh.length v) (hst : ∀ v ∈ rest, zrg sh.length v) (hA : ∀ q, s.heap.size ≤ q → A q)
    {v : Option zV} {sh' : List zSh} {mm' : zMm} (hg : zGG p l e R s m args below meth c Q i D A ad0 sh0 mm0 shF (pc + 3) ls (v.toList ++ rest) sh' mm') (hgr : sh.length ≤ sh'.length ∧ ztot sh ≤ ztot sh')
    {a : Array Value} (hr : va_Run p l e R s m args below meth c H locs (sh.length - sh0.length) (ztot sh - ztot sh0) (sh'.length - sh.length) (ztot sh' - ztot sh) (F0 m pc lsR st0) (rest.map (zcv ad)) (zQ0 D ad sh mm H.size v sh' mm' a) (va_A (zws ad sh mm) H.size)) :
    W p l e R s m args below meth c H locs (sh.length - sh0.length) (ztot sh - ztot sh0) Q (F0 m pc lsR st0) := by
  have hF : ∀ q, va_A (zws ad sh mm) H.size q → A q := by
    intro q h
    rcases h with ⟨k, en, h⟩ | h
    · exact hI.2.1.2 k (q, en) h
    · exact hA q (Nat.le_trans hI.2.2.2.1.1 h)
  refine zcallW hr hI.2.2.2.1 (fun q _ h => hF q h) hF (fun st o t h => h.2) (fun v0 st₀ t H1 locs1 e1 hvm hq e3 => ?_)
  obtain ⟨⟨tys', ad', h1, h2, h3, h4, h5, h6, h7, h8, h9⟩, hfr⟩ := hq
  cases h1
  rw [e1] at h2
  have hd : ∀ k, k < sh.length ∨ 900 ≤ k → ad' k = ad k := h7
  have hP' : zPs ad0 sh0 mm0 ad' sh' mm' := ⟨Nat.le_trans hP.1 hgr.1, Nat.le_trans hP.2.1 hgr.2, fun k hk => by
      rw [hd k (by have := hP.1; omega)]
      exact hP.2.2.1 k hk, fun k hk => by rw [h8 k hk]; exact hP.2.2.2 k hk⟩
  have hI' : zInv s D A tys' ad' sh' mm' H1 locs1 := ⟨h2, ⟨h4.1, fun k q hk => hF _ (h4.2 k q hk)⟩, va_K.moved hvm.symm h3, e3, h5, h6⟩
  have h := hg.1 tys' ad' H1 locs1 lsR hI' hP' (hL.cong hls hd) (fun v hv => zrg_mono hgr.1 (hls v hv)) (fun w hw => by
    rcases List.mem_append.mp hw with hw | hw
    · exact h9 w (by simpa using hw)
    · exact zrg_mono hgr.1 (hst w hw))
  rw [List.map_append] at h
  have e5 : rest.map (zcv ad') = rest.map (zcv ad) := List.map_congr_left fun w hw => zcv_cong (hst w hw) hd
  rw [e5] at h
  have e6 : (v.toList.map (zcv ad')) = (v.map (zcv ad')).toList := by cases v <;> rfl
  rw [e6] at h
  have p1 := hP.1
  have p2 := hP.2.1
  exact W.cs (by omega) (by omega) h
theorem zcall_go {C : zC0} {pp r : Nat} {b : Bool} (hM : zMt l d C) (C0 : zCtx p R s m args meth c i d D A ad0 sh0 mm0 shF) {pc : Nat} {ls : zLs} {st : List zV} {sh : List zSh} {mm : zMm} {tys : List (ClassId × FieldType)} {ad : Nat → Nat × ClassId} {H : Heap} {locs : List Loc} {lsR : Array Slot}
    (hI : zInv s D A tys ad sh mm H locs) (hP : zPs ad0 sh0 mm0 ad sh mm) (hL : zLc ad (zml i) ls lsR) (hls : ∀ v, some v ∈ ls → zrg sh.length v) (hst : ∀ v ∈ st, zrg sh.length v) (hj : pp < 92)
    (hz : zKK C (zGG p l e R s m args below meth c Q i D A ad0 sh0 mm0 shF) pp b (st.take r).reverse (pc + 3) ls (st.drop r) sh mm)
    (hrun : ∀ (v : Option zV) (sh' : List zSh) (mm' : zMm), Met l (zNm pp) (zwj pp) ({ frames := d, cells := sh'.length - sh.length, slots := ztot sh' - ztot sh, locals := 40 * d }) (va_Pc (((st.take r).reverse).map (zcv ad)) (zB0 D tys ad sh mm H.size)) (zQ0 D ad sh mm H.size v sh' mm') (sh'.length - sh.length) (ztot sh' - ztot sh) (va_A (zws ad sh mm) H.size) →
      (∀ U : State, U.heap = H → s.WarmedH U.vm → va_Pc (((st.take r).reverse).map (zcv ad)) (zB0 D tys ad sh mm H.size) (((st.take r).reverse).map (zcv ad)).toArray U) →
      ((sh.length - sh0.length) + (sh'.length - sh.length) ≤ R.cells ∧ (ztot sh - ztot sh0) + (ztot sh' - ztot sh) ≤ R.slots) →
      va_Run p l e R s m args below meth c H locs (sh.length - sh0.length) (ztot sh - ztot sh0) (sh'.length - sh.length) (ztot sh' - ztot sh) (F0 m pc lsR (st.map (zcv ad))) ((st.drop r).map (zcv ad)) (zQ0 D ad sh mm H.size v sh' mm' (((st.take r).reverse).map (zcv ad)).toArray) (va_A (zws ad sh mm) H.size)) :
    W p l e R s m args below meth c H locs (sh.length - sh0.length) (ztot sh - ztot sh0) Q (F0 m pc lsR (st.map (zcv ad))) := by
  obtain ⟨hx, hb, hml, hown, hts, hnw, hao, hA, hin, hR, hRc, hscr⟩ := C0
  have hrest : ∀ v ∈ st.drop r, zrg sh.length v := fun v hv => hst v (List.mem_of_mem_drop hv)
  have has : ∀ v ∈ (st.take r).reverse, zrg sh.length v := fun v hv => hst v (List.mem_of_mem_take (List.mem_reverse.mp hv))
  have key : ∀ (v : Option zV) (sh' : List zSh) (mm' : zMm), C pp (st.take r).reverse sh mm = some (v, sh', mm') → zGG p l e R s m args below meth c Q i D A ad0 sh0 mm0 shF (pc + 3) ls (v.toList ++ st.drop r) sh' mm' → W p l e R s m args below meth c H locs (sh.length - sh0.length) (ztot sh - ztot sh0) Q (F0 m pc lsR (st.map (zcv ad))) := by
    intro v sh' mm' hC hg
    obtain ⟨hgr, hmet⟩ := hM pp _ sh mm v sh' mm' hj hC
    have hmet := hmet D tys ad H.size hI.2.2.2.2.1 hI.2.2.2.2.2 has
    have g1 := hg.2.1
    have g2 := hg.2.2
    have p1 := hP.1
    have p2 := hP.2.1
    have r1 := hRc.1
    have r2 := hRc.2
    exact zback (C := C) (j := pp) (r := r) (b := b) (as := (st.take r).reverse) hI hP hL hls hrest hA hg hgr (hrun v sh' mm' hmet (fun U hU hW => ⟨rfl, by rw [hU], by rw [hU]; exact hI.1, va_K.moved hW.alike hI.2.2.1, ⟨hI.2.1.1, fun _ _ _ => trivial⟩, fun w hw => zNst_warm hw hW (hnw w hw), va_AO.moved hW.alike hao, hscr.go hI hP hU hW⟩) ⟨by omega, by omega⟩)
  cases b with
  | true =>
    obtain ⟨x, sh', mm', hC, hg⟩ := hz
    exact key (some (.inl x)) sh' mm' hC hg
  | false =>
    obtain ⟨sh', mm', hC, hg⟩ := hz
    exact key none sh' mm' hC hg
theorem zroom (hR : d + 1 ≤ R.frames ∧ 40 * (d + 1) ≤ R.locals) {j : Nat} (h : zml j ≤ 21) {k n : Nat} : (({ frames := d, cells := k, slots := n, locals := 40 * d } : Room).frames + 1 ≤ R.frames) ∧ 8 + (zml j + 11) + (({ frames := d, cells := k, slots := n, locals := 40 * d } : Room).locals) ≤ R.locals := by
  constructor
  · exact hR.1
  · show 8 + (zml j + 11) + 40 * d ≤ R.locals
    have := hR.2
    omega
theorem zsd_virt {C : zC0} {len pp r n : Nat} {q : Int} (hM : zMt l d C) (C0 : zCtx p R s m args meth c i d D A ad0 sh0 mm0 shF) : zSd p l e R s m args below meth c Q i D A ad0 sh0 mm0 shF C (.invokevirtual n, len, pp, r, q) := by
  intro pc ls st sh mm hc hz tys ad H locs lsR hI hP hL hls hst
  have C0' := C0
  obtain ⟨hx, hb, hml, hown, hts, hnw, hao, hA, hin, hR, hRc, hscr⟩ := C0
  have hk := zC_chk hc
  simp only [zchk, Bool.and_eq_true, decide_eq_true_eq] at hk
  obtain ⟨⟨⟨⟨⟨h1, h2⟩, h3⟩, h4⟩, h5⟩, h6⟩ := hk
  obtain rfl : len = 3 := Nat.eq_of_beq_eq_true h1
  have hd : decode (zBy i) pc = .ok (.invokevirtual n, 3) := zC_dec hc
  have hj := Nat.blt_eq.mp h2
  have er := Nat.eq_of_beq_eq_true h3
  have emk := Nat.eq_of_beq_eq_true h5
  have hmb := zmb_ok hj
  simp only [zmb, Bool.and_eq_true, decide_eq_true_eq, emk] at hmb
  obtain ⟨⟨⟨⟨⟨⟨⟨m1, m2⟩, m3⟩, m4⟩, m5⟩, m6⟩, m7⟩, ⟨⟨m8, m9⟩, m10⟩, m11⟩ := hmb
  have hq : (q = 0 ∨ q = 10) ∨ (q = 1 ∨ q = 11) := by
    by_cases hq : q = 0 ∨ q = 10
    · exact Or.inl hq
    · rw [if_neg hq] at h6
      simp only [Bool.and_eq_true, decide_eq_true_eq] at h6
      exact Or.inr h6.2
  simp only [zs1, zinv] at hz
  rw [if_neg (by omega), if_neg (by omega)] at hz
  obtain ⟨hc1, hzA⟩ := zx_cond hz
  simp only [Bool.and_eq_true] at hc1
  have hlen := Nat.le_of_ble_eq_true hc1.1
  have hcs := Nat.le_of_ble_eq_true hc1.2
  rw [if_neg (by omega)] at hzA
  cases has : (st.take r).reverse with
  | nil => rw [has] at hzA; exact hzA.elim
  | cons a0 as' =>
    rw [has] at hzA
    rcases a0 with x | x | a
    · exact hzA.elim
    · exact hzA.elim
    · obtain ⟨ka, na, rsa, hsa, hzB⟩ := zx_sh hzA
      obtain ⟨hca, hzC⟩ := zx_cond hzB
      have eka := Nat.eq_of_beq_eq_true hca
      rw [← has] at hzC
      have hka : ka < 9 := by
        rw [eka, Nat.eq_of_beq_eq_true m11]
        exact Nat.blt_eq.mp m10
      refine zcall_go hM C0' hI hP hL hls hst hj hzC (fun v sh' mm' hmet hpre hcl => ?_)
      have hargs : ((st.take r).reverse).map (zcv ad) = .ref (ad a).1 :: as'.map (zcv ad) := by rw [has]; rfl
      have hstk := zstk (st := st) (r := r) ad
      rw [hargs, List.reverse_cons, List.append_assoc] at hstk
      rw [hargs] at hmet hpre ⊢
      have hn : (as'.map (zcv ad)).length = zna pp := by
        have := congrArg List.length has
        rw [List.length_reverse, List.length_take, List.length_cons] at this
        rw [List.length_map]
        omega
      have hsz : (F0 m pc lsR (st.map (zcv ad))).locals.size = zml i := hL.1
      have hW : 2 * (F0 m pc lsR (st.map (zcv ad))).monitorRoom + (((st.drop r).map (zcv ad)).map fun v => v.category).sum ≤ 8 := by
        rw [zcs_cv]
        show 2 * 0 + _ ≤ 8
        omega
      have hat := zws_at (ad := ad) (mm := mm) hsa
      rw [zce_o (by omega)] at hat
      have hex : ∃ CC TT NN, zCl[ka]? = some (CC, TT, NN) := by
        cases hcl2 : zCl[ka]? with
        | none =>
          rw [List.getElem?_eq_none_iff] at hcl2
          exact absurd hcl2 (by show ¬ 9 ≤ ka; omega)
        | some z => exact ⟨z.1, z.2.1, z.2.2, rfl⟩
      obtain ⟨CC, TT, NN, hcl2⟩ := hex
      have hw := zcl_w hcl2
      have hyc : (zNm pp).cls = CC := by rw [hw.2.2.2, m2, eka, Nat.eq_of_beq_eq_true m11]
      have hin2 : Cond.instanceMethod (zNm pp) ∈ zWS := zWS_in (zAt_ok m8) rfl
      have hsel : Cond.selects (zNm pp).cls (zNm pp) (zNm pp) ∈ zWS := zWS_in (zAt_ok m9) rfl
      have hini : Cond.initialized (zNm pp).cls ∈ zWS := zWS_in (zAt_ok m1) rfl
      have hpv : PreV s H (zNm pp).cls (ad a).1 (va_Pc (Value.ref (ad a).1 :: as'.map (zcv ad)) (zB0 D tys ad sh mm H.size)) (as'.map (zcv ad)) := ⟨zB0_blind _ _ _ _ _ _ _, by
        rw [hyc]
        exact va_recv hI.2.2.1 hI.1 hcl2 hat, hpre⟩
      rcases hq with hq | hq
      · rw [if_pos hq] at h6
        have hlk := zLk_ok h6 rfl
        have hT : GoodIn zWS (wsV (zon (zoc i)) n (zNm pp).cls (zNm pp) (zwj pp)) := zgood (fun w hw2 => by
          unfold wsV at hw2
          simp only [List.cons_append, List.nil_append, List.mem_cons] at hw2
          rcases hw2 with rfl | rfl | rfl | rfl | hw2
          · exact hlk
          · exact hin2
          · exact hsel
          · exact hini
          · exact zwj_in hj w hw2)
        exact va_runV ⟨hx, hb, hml, hown, hts⟩ hmet (cwV (zna pp) hts hT rfl rfl rfl ⟨rfl, m3.1, m3.2, m5⟩ (zroom hR (Nat.le_of_ble_eq_true m7))) hpv rfl hn hsz hstk hW hd hcl
      · rw [if_neg (by omega)] at h6
        simp only [Bool.and_eq_true] at h6
        have hlk := hnw _ (zLk_okN h6.1 rfl)
        exact va_runVN ⟨hx, hb, hml, hown, hts⟩ hmet ⟨va_cnB (zna pp) hts (zgood (zwj_in hj)) rfl rfl rfl hlk (hts _ hini) ⟨m3.1, m3.2, m5⟩ (zroom hR (Nat.le_of_ble_eq_true m7)), hts _ hin2, hts _ hsel⟩ hpv rfl hn hsz hstk hW hd hcl
theorem zarr_w : (zAt 535 (.native arraycopyName) && zAt 534 (.static arraycopyName) && zAt 62 (.initialized "java/lang/System") && zAt 69 (.instanceMethod objectInit) && zAt 70 (.code objectInit ⟨#[0xb1]⟩ 1 none)) = true := by decide +kernel
theorem zcp_ne {mm : zMm} {a sp b dp n k : Nat} (h : k ≠ b) : zcp mm a sp b dp n k = mm k := by
  funext j
  unfold zcp
  rw [if_neg (fun z => h z.1)]
theorem zsd_stat {C : zC0} {len pp r n : Nat} {q : Int} (hM : zMt l d C) (C0 : zCtx p R s m args meth c i d D A ad0 sh0 mm0 shF) : zSd p l e R s m args below meth c Q i D A ad0 sh0 mm0 shF C (.invokestatic n, len, pp, r, q) := by
  intro pc ls st sh mm hc hz tys ad H locs lsR hI hP hL hls hst
  have C0' := C0
  obtain ⟨hx, hb, hml, hown, hts, hnw, hao, hA, hin, hR, hRc, hscr⟩ := C0
  have hk := zC_chk hc
  have hzw := zarr_w
  simp only [Bool.and_eq_true] at hzw
  obtain ⟨⟨⟨⟨w1, w2⟩, w3⟩, w4⟩, w5⟩ := hzw
  simp only [zchk, Bool.and_eq_true] at hk
  obtain ⟨h1, hk⟩ := hk
  obtain rfl : len = 3 := Nat.eq_of_beq_eq_true h1
  have hd : decode (zBy i) pc = .ok (.invokestatic n, 3) := zC_dec hc
  simp only [zs1, zinv] at hz
  by_cases q7 : q = 7
  · rw [if_pos q7] at hk
    rw [if_neg (by omega), if_pos q7] at hz
    split at hz
    · rename_i n0 dp b sp a t
      obtain ⟨ka, na, rsa, hsa, hzA⟩ := zx_sh hz
      obtain ⟨kb, nb, rsb, hsb, hzB⟩ := zx_sh hzA
      obtain ⟨hcc, hg⟩ := zx_ite hzB
      obtain ⟨ek1, ek2, h0, h00, h000, hs1, hs2, hcs⟩ := hcc
      subst ek1
      subst ek2
      obtain ⟨r1, hst⟩ := List.forall_mem_cons.mp hst
      obtain ⟨r2, hst⟩ := List.forall_mem_cons.mp hst
      obtain ⟨r3, hst⟩ := List.forall_mem_cons.mp hst
      obtain ⟨r4, hst⟩ := List.forall_mem_cons.mp hst
      obtain ⟨r5, hst⟩ := List.forall_mem_cons.mp hst
      have r1 : zr32 n0 := r1
      have r2 : zr32 dp := r2
      have r4 : zr32 sp := r4
      obtain ⟨t0, ht0⟩ := hI.2.2.2.2.2 a _ hsa (Nat.le_of_ble_eq_true rfl)
      obtain ⟨t1, ht1⟩ := hI.2.2.2.2.2 b _ hsb (Nat.le_of_ble_eq_true rfl)
      have hata := zws_at (ad := ad) (mm := mm) hsa
      rw [zce_i (Or.inl rfl)] at hata
      have hatb := zws_at (ad := ad) (mm := mm) hsb
      rw [zce_i (Or.inl rfl)] at hatb
      have hlb : b < sh.length := (List.getElem?_eq_some_iff.mp hsb).1
      refine va_copyi (D := D) (ty := .int) (n := Int32.ofInt n0) (dp := Int32.ofInt dp) (sp := Int32.ofInt sp) (tys := tys) (ws := zws ad sh mm) hx hb (hml.trans hL.1.symm) hown (hts _ (zLk_ok hk rfl)) (hts _ (zWS_in (zAt_ok w1) rfl)) (hts _ (zWS_in (zAt_ok w2) rfl)) (hts _ (zWS_in (zAt_ok w3) rfl)) hI.2.2.1 hI.1 hI.2.1 hI.2.2.2.1 a b t0 t1 hata hatb ht0 ht1 rfl
        (fun q0 => by have := (zo_lt r4 zr_0).mp q0; omega) (fun q0 => by have := (zo_lt r2 zr_0).mp q0; omega) (fun q0 => by have := (zo_lt r1 zr_0).mp q0; omega) (by rw [zo_nat r4 h0, zo_nat r1 h000]; omega) (by rw [zo_nat r2 h00, zo_nat r1 h000]; omega) (fun _ _ => rfl) (by have := hR.1; omega) ?_ hd (fun H1 locs1 e1 e2 e3 => ?_)
      · rw [zcs_cv, show nativeFrameWords "java/lang/System" "arraycopy" 5 = 7 from rfl]
        have := hR.2
        omega
      · rw [zo_nat r4 h0, zo_nat r1 h000, zo_nat r2 h00] at e1 e2
        have hfun : va_cpy (fun j => Int32.ofInt (mm a j)) (fun j => Int32.ofInt (mm b j)) sp.toNat dp.toNat n0.toNat = fun j => Int32.ofInt (zcp mm a sp.toNat b dp.toNat n0.toNat b j) := by
          funext j
          unfold va_cpy zcp
          by_cases hj : dp.toNat ≤ j ∧ j < dp.toNat + n0.toNat
          · rw [if_pos hj, if_pos ⟨rfl, hj⟩]
          · rw [if_neg hj, if_neg (fun z => hj z.2)]
        have ez : (zws ad sh mm).set b ((ad b).1, .inl ((ad b).2, nb, .inl (va_cpy (fun j => Int32.ofInt (mm a j)) (fun j => Int32.ofInt (mm b j)) sp.toNat dp.toNat n0.toNat))) = zws ad sh (zcp mm a sp.toNat b dp.toNat n0.toNat) := by
          rw [zws_set (sh := sh) (mm := mm) (zset_self hsb).symm hlb (fun k' hk' => zcp_ne hk'), zce_i (Or.inl rfl), hfun]
        rw [ez] at e1 e2
        have h900 : b < 900 := by have := hI.2.2.2.2.1.2.2; omega
        refine hg.1 tys ad H1 locs1 lsR ⟨e1, e2, hI.2.2.1, e3, ⟨hI.2.2.2.2.1.1, fun k j => ?_, hI.2.2.2.2.1.2.2⟩, hI.2.2.2.2.2⟩ ⟨hP.1, hP.2.1, hP.2.2.1, fun k hk' => ?_⟩ hL hls hst
        · unfold zcp
          split
          · exact hI.2.2.2.2.1.2.1 _ _
          · exact hI.2.2.2.2.1.2.1 _ _
        · rw [zcp_ne (by omega)]
          exact hP.2.2.2 k hk'
    · exact hz.elim
  · rw [if_neg q7] at hk
    simp only [Bool.and_eq_true, decide_eq_true_eq] at hk
    obtain ⟨⟨⟨⟨h2, h3⟩, h4⟩, h5⟩, h6⟩ := hk
    have hj := Nat.blt_eq.mp h2
    have er := Nat.eq_of_beq_eq_true h3
    have emk := Nat.eq_of_beq_eq_true h5
    have hmb := zmb_ok hj
    simp only [zmb, Bool.and_eq_true, decide_eq_true_eq, emk] at hmb
    obtain ⟨⟨⟨⟨⟨⟨⟨m1, m2⟩, m3⟩, m4⟩, m5⟩, m6⟩, m7⟩, m8⟩ := hmb
    have hq : (q = 2 ∨ q = 12) ∨ (q = 3 ∨ q = 13) := by
      by_cases hq : q = 2 ∨ q = 12
      · exact Or.inl hq
      · rw [if_neg hq] at h6
        simp only [Bool.and_eq_true, decide_eq_true_eq] at h6
        exact Or.inr h6.2
    rw [if_neg (by omega), if_neg (by omega)] at hz
    obtain ⟨hc1, hzA⟩ := zx_cond hz
    simp only [Bool.and_eq_true] at hc1
    have hlen := Nat.le_of_ble_eq_true hc1.1
    have hcs := Nat.le_of_ble_eq_true hc1.2
    rw [if_pos (by omega)] at hzA
    refine zcall_go hM C0' hI hP hL hls hst hj hzA (fun v sh' mm' hmet hpre hcl => ?_)
    have hstk := zstk (st := st) (r := r) ad
    have hn : (((st.take r).reverse).map (zcv ad)).length = zna pp := by
      rw [List.length_map, List.length_reverse, List.length_take]
      omega
    have hsz : (F0 m pc lsR (st.map (zcv ad))).locals.size = zml i := hL.1
    have hW : 2 * (F0 m pc lsR (st.map (zcv ad))).monitorRoom + (((st.drop r).map (zcv ad)).map fun v => v.category).sum ≤ 8 := by
      rw [zcs_cv]
      show 2 * 0 + _ ≤ 8
      omega
    have hsta : Cond.static (zNm pp) ∈ zWS := zWS_in (zAt_ok m8) rfl
    have hini : Cond.initialized (zNm pp).cls ∈ zWS := zWS_in (zAt_ok m1) rfl
    rcases hq with hq | hq
    · rw [if_pos hq] at h6
      have hlk := zLk_ok h6 rfl
      have hT : GoodIn zWS (va_wsS (zon (zoc i)) n (zNm pp) (zwj pp)) := zgood (fun w hw2 => by
        unfold va_wsS at hw2
        simp only [List.cons_append, List.nil_append, List.mem_cons] at hw2
        rcases hw2 with rfl | rfl | rfl | hw2
        · exact hlk
        · exact hsta
        · exact hini
        · exact zwj_in hj w hw2)
      exact va_runS ⟨hx, hb, hml, hown, hts⟩ hmet (va_cwS (zna pp) hts hT rfl rfl rfl ⟨m3.1, m3.2, m5⟩ (zroom hR (Nat.le_of_ble_eq_true m7))) ⟨zB0_blind _ _ _ _ _ _ _, hpre⟩ rfl hn hsz hstk hW hd hcl
    · rw [if_neg (by omega)] at h6
      simp only [Bool.and_eq_true] at h6
      have hlk := hnw _ (zLk_okN h6.1 rfl)
      exact va_runSN ⟨hx, hb, hml, hown, hts⟩ hmet ⟨va_cnB (zna pp) hts (zgood (zwj_in hj)) rfl rfl rfl hlk (hts _ hini) ⟨m3.1, m3.2, m5⟩ (zroom hR (Nat.le_of_ble_eq_true m7)), hts _ hsta, trivial⟩ ⟨zB0_blind _ _ _ _ _ _ _, hpre⟩ rfl hn hsz hstk hW hd hcl
theorem zsd_spec {C : zC0} {len pp r n : Nat} {q : Int} (hM : zMt l d C) (C0 : zCtx p R s m args meth c i d D A ad0 sh0 mm0 shF) : zSd p l e R s m args below meth c Q i D A ad0 sh0 mm0 shF C (.invokespecial n, len, pp, r, q) := by
  intro pc ls st sh mm hc hz tys ad H locs lsR hI hP hL hls hst
  have C0' := C0
  obtain ⟨hx, hb, hml, hown, hts, hnw, hao, hA, hin, hR, hRc, hscr⟩ := C0
  have hk := zC_chk hc
  have hzw := zarr_w
  simp only [Bool.and_eq_true] at hzw
  obtain ⟨⟨⟨⟨w1, w2⟩, w3⟩, w4⟩, w5⟩ := hzw
  simp only [zchk, Bool.and_eq_true] at hk
  obtain ⟨h1, hk⟩ := hk
  obtain rfl : len = 3 := Nat.eq_of_beq_eq_true h1
  have hd : decode (zBy i) pc = .ok (.invokespecial n, 3) := zC_dec hc
  simp only [zs1, zinv] at hz
  by_cases q6 : q = 6
  · rw [if_pos q6] at hk hz
    obtain ⟨a, t, rfl, hzA⟩ := zx_br hz
    obtain ⟨hcs, hg⟩ := zx_cond hzA
    have hcs := Nat.le_of_ble_eq_true hcs
    obtain ⟨ra, hst⟩ := List.forall_mem_cons.mp hst
    refine W.objInit (g := F0 m pc lsR (.ref (ad a).1 :: t.map (zcv ad))) hx hb hown (hts _ (zLk_ok hk rfl)) (hts _ (zWS_in (zAt_ok w4) rfl)) (hts _ (zWS_in (zAt_ok w5) rfl)) rfl (hL.1.trans hml.symm) rfl hd (by have := hR.1; omega) ?_ ?_
    · rw [zcs_cv]
      show 2 * 0 + _ + 12 ≤ _
      have := hR.2
      omega
    · exact hg.1 tys ad H locs lsR hI hP hL hls hst
  · rw [if_neg q6] at hk
    simp only [Bool.and_eq_true] at hk
    obtain ⟨⟨⟨h2, h3⟩, h5⟩, h6⟩ := hk
    have hj := Nat.blt_eq.mp h2
    have er := Nat.eq_of_beq_eq_true h3
    have emk := Nat.eq_of_beq_eq_true h5
    have hmb := zmb_ok hj
    simp only [zmb, Bool.and_eq_true, decide_eq_true_eq, emk] at hmb
    obtain ⟨⟨⟨⟨⟨⟨⟨m1, m2⟩, m3⟩, m4⟩, m5⟩, m6⟩, m7⟩, ⟨m8, m9⟩, m10⟩ := hmb
    have hq : q = 4 ∨ q = 5 := by
      by_cases hq : q = 4
      · exact Or.inl hq
      · rw [if_neg hq] at h6
        simp only [Bool.and_eq_true, decide_eq_true_eq] at h6
        exact Or.inr h6.2
    rw [if_neg (by omega), if_neg (by omega)] at hz
    obtain ⟨hc1, hzA⟩ := zx_cond hz
    simp only [Bool.and_eq_true] at hc1
    have hlen := Nat.le_of_ble_eq_true hc1.1
    have hcs := Nat.le_of_ble_eq_true hc1.2
    rw [if_neg (by omega)] at hzA
    cases has : (st.take r).reverse with
    | nil => rw [has] at hzA; exact hzA.elim
    | cons a0 as' =>
      rw [has] at hzA
      rcases a0 with x | x | a
      · exact hzA.elim
      · exact hzA.elim
      · obtain ⟨ka, na, rsa, hsa, hzB⟩ := zx_sh hzA
        obtain ⟨hca, hzC⟩ := zx_cond hzB
        rw [← has] at hzC
        refine zcall_go hM C0' hI hP hL hls hst hj hzC (fun v sh' mm' hmet hpre hcl => ?_)
        have hargs : ((st.take r).reverse).map (zcv ad) = .ref (ad a).1 :: as'.map (zcv ad) := by rw [has]; rfl
        have hstk := zstk (st := st) (r := r) ad
        rw [hargs, List.reverse_cons, List.append_assoc] at hstk
        rw [hargs] at hmet hpre ⊢
        have hn : (as'.map (zcv ad)).length = zna pp := by
          have := congrArg List.length has
          rw [List.length_reverse, List.length_take, List.length_cons] at this
          rw [List.length_map]
          omega
        have hsz : (F0 m pc lsR (st.map (zcv ad))).locals.size = zml i := hL.1
        have hW : 2 * (F0 m pc lsR (st.map (zcv ad))).monitorRoom + (((st.drop r).map (zcv ad)).map fun v => v.category).sum ≤ 8 := by
          rw [zcs_cv]
          show 2 * 0 + _ ≤ 8
          omega
        have hin2 : Cond.instanceMethod (zNm pp) ∈ zWS := zWS_in (zAt_ok m8) rfl
        have hini : Cond.initialized (zNm pp).cls ∈ zWS := zWS_in (zAt_ok m1) rfl
        have hwj : zwj pp = Cond.code (zNm pp) (zBy pp) (zml pp) none :: zWS := by unfold zwj; rw [m10]
        rcases hq with hq | hq
        · rw [if_pos hq] at h6
          have hlk := zLk_ok h6 rfl
          exact va_runI ⟨hx, hb, hml, hown, hts⟩ hmet (cwI (zna pp) hts (zgood (zwj_in hj)) hwj rfl rfl (hts _ hini) (hts _ hlk) (hts _ hin2) m9 ⟨m3.1, m3.2, m5⟩ (zroom hR (Nat.le_of_ble_eq_true m7))) ⟨zB0_blind _ _ _ _ _ _ _, hpre⟩ rfl hn hsz hstk hW hd hcl
        · rw [if_neg (by omega)] at h6
          simp only [Bool.and_eq_true] at h6
          have hlk := hnw _ (zLk_okN h6.1 rfl)
          exact va_runIN ⟨hx, hb, hml, hown, hts⟩ hmet ⟨va_cnB (zna pp) hts (zgood (zwj_in hj)) hwj rfl rfl hlk (hts _ hini) ⟨m3.1, m3.2, m5⟩ (zroom hR (Nat.le_of_ble_eq_true m7)), m9, hts _ hin2⟩ ⟨zB0_blind _ _ _ _ _ _ _, hpre⟩ rfl hn hsz hstk hW hd hcl
end ZSD
end
section
section ZE
variable {X : Prop}
theorem ze_b1 {st : List zV} {f : Int → List zV → Prop} (h : zb1 False st f) (k : ∀ x s, f x s → X) : X := by obtain ⟨x, t, -, h⟩ := zx_b1 h; exact k _ _ h
theorem ze_b2 {st : List zV} {f : Int → Int → List zV → Prop} (h : zb2 False st f) (k : ∀ x y s, f x y s → X) : X := by obtain ⟨x, y, t, -, h⟩ := zx_b2 h; exact k _ _ _ h
theorem ze_bl1 {st : List zV} {f : Int → List zV → Prop} (h : zbl1 False st f) (k : ∀ x s, f x s → X) : X := by obtain ⟨x, t, -, h⟩ := zx_bl1 h; exact k _ _ h
theorem ze_bl2 {st : List zV} {f : Int → Int → List zV → Prop} (h : zbl2 False st f) (k : ∀ x y s, f x y s → X) : X := by obtain ⟨x, y, t, -, h⟩ := zx_bl2 h; exact k _ _ _ h
theorem ze_bli {st : List zV} {f : Int → Int → List zV → Prop} (h : zbli False st f) (k : ∀ x y s, f x y s → X) : X := by obtain ⟨x, y, t, -, h⟩ := zx_bli h; exact k _ _ _ h
theorem ze_br {st : List zV} {f : Nat → List zV → Prop} (h : zbr False st f) (k : ∀ x s, f x s → X) : X := by obtain ⟨x, t, -, h⟩ := zx_br h; exact k _ _ h
theorem ze_bir {st : List zV} {f : Nat → Int → List zV → Prop} (h : zbir False st f) (k : ∀ a x s, f a x s → X) : X := by obtain ⟨a, x, t, -, h⟩ := zx_bir h; exact k _ _ _ h
theorem ze_biir {st : List zV} {f : Nat → Int → Int → List zV → Prop} (h : zbiir False st f) (k : ∀ a x y s, f a x y s → X) : X := by obtain ⟨a, x, y, t, -, h⟩ := zx_biir h; exact k _ _ _ _ h
theorem ze_sh {sh : List zSh} {a : Nat} {f : Nat → Nat → List Nat → Prop} (h : zsh False sh a f) (k : ∀ x y z, sh[a]? = some (x, y, z) → f x y z → X) : X := by obtain ⟨x, y, z, h1, h⟩ := zx_sh h; exact k _ _ _ h1 h
theorem ze_ld {ls : zLs} {i : Nat} {f : zV → Prop} (h : zld False ls i f) (k : ∀ v, f v → X) : X := by obtain ⟨v, -, h⟩ := zx_ld h; exact k _ h
theorem ze_cond {b : Bool} {P : Prop} (h : bif b then P else False) (k : P → X) : X := k (zx_cond h).2
theorem ze_cond2 {b : Bool} {P Q : Prop} (h : bif b then P else Q) (k : P → X) (k2 : Q → X) : X := by
  cases b
  · exact k2 h
  · exact k h
theorem ze_ite {b : Prop} [Decidable b] {P : Prop} (h : if b then P else False) (k : P → X) : X := k (zx_ite h).2
theorem ze_ite2 {b : Prop} [Decidable b] {P Q : Prop} (h : if b then P else Q) (k : P → X) (k2 : Q → X) : X := by
  split at h
  · exact k h
  · exact k2 h
theorem ze_cn {c : ClassFile.Cond} {x y : Int} {a b : Prop} (h : zcn c x y a b) (k : a → X) (k2 : b → X) : X := by
  unfold zcn at h
  cases c <;> (dsimp only at h; split at h <;> first | exact k h | exact k2 h)
theorem ze_sw {x : Int} {f : Nat → Prop} {d : Nat} {ts : List Nat} {lo : Int} (h : zsw x f d lo ts) (k : ∀ t, f t → X) : X := by
  rcases zx_sw h with ⟨_, t, _, _, h⟩ | ⟨_, h⟩
  · exact k _ h
  · exact k _ h
end ZE
def zP (a b : Nat) (sh : List zSh) : Prop := sh.length ≤ a ∧ ztot sh ≤ b
theorem zP_app {a b : Nat} {sh : List zSh} {x : zSh} (h : zP a b (sh ++ [x])) : zP a b sh := by
  unfold zP ztot at *
  simp at h
  omega
theorem zP_set {a b i k n : Nat} {rs rs' : List Nat} {sh : List zSh} (hs : sh[i]? = some (k, n, rs)) (h : zP a b (sh.set i (k, n, rs'))) : zP a b sh := by
  unfold zP at *
  rw [List.length_set, ztot_set hs] at h
  exact h
theorem zg_inv {a b : Nat} {len p r : Nat} {q : Int} {pc : Nat} {ls : zLs} {st : List zV} {sh : List zSh} {mm : zMm} (h : zinv (β := Prop) False (fun _ _ _ sh _ => zP a b sh) (fun _ _ _ _ _ _ sh _ => zP a b sh) len p r q pc ls st sh mm) : zP a b sh := by
  unfold zinv at h
  refine ze_ite2 h (fun h => ze_br h fun _ _ h => ze_cond h id) fun h => ze_ite2 h (fun h => ?_) fun h => ze_cond h fun h => ze_ite2 h id fun h => ?_
  · split at h
    · exact ze_sh h fun _ _ _ _ h => ze_sh h fun _ _ _ _ h => ze_ite h id
    · exact h.elim
  · split at h
    · exact ze_sh h fun _ _ _ _ h => ze_cond h id
    · exact h.elim
set_option maxHeartbeats 4000000 in
/-- cells only come -/
theorem zg_s1 {a b : Nat} {e : zEn} {pc : Nat} {ls : zLs} {st : List zV} {sh : List zSh} {mm : zMm} (hz : zs1 (β := Prop) False (fun _ sh _ => zP a b sh) (fun _ _ _ sh _ => zP a b sh) (fun _ _ _ _ _ _ sh _ => zP a b sh) e pc ls st sh mm) : zP a b sh := by
  obtain ⟨ins, len, p, r, q⟩ := e
  cases ins
  case iload i => exact ze_ld hz fun v h => by split at h <;> first | exact h | exact h.elim
  case iload_n i => exact ze_ld hz fun v h => by split at h <;> first | exact h | exact h.elim
  case lload i => exact ze_ld hz fun v h => by split at h <;> first | exact h | exact h.elim
  case lload_n i => exact ze_ld hz fun v h => by split at h <;> first | exact h | exact h.elim
  case aload i => exact ze_ld hz fun v h => by split at h <;> first | exact h | exact h.elim
  case aload_n i => exact ze_ld hz fun v h => by split at h <;> first | exact h | exact h.elim
  case iinc i c => exact ze_ld hz fun v h => by split at h <;> first | exact h | exact h.elim
  case istore i => exact ze_cond hz fun h => ze_b1 h fun _ _ h => h
  case istore_n i => exact ze_cond hz fun h => ze_b1 h fun _ _ h => h
  case astore i => exact ze_cond hz fun h => ze_br h fun _ _ h => h
  case astore_n i => exact ze_cond hz fun h => ze_br h fun _ _ h => h
  case bipush => exact hz
  case sipush => exact hz
  case iconst => exact hz
  case ldc => exact hz
  case ldc_w => exact hz
  case lconst => exact hz
  case ldc2_w => exact hz
  case goto => exact hz
  case iadd => exact ze_b2 hz fun _ _ _ h => h
  case isub => exact ze_b2 hz fun _ _ _ h => h
  case imul => exact ze_b2 hz fun _ _ _ h => h
  case ishl => exact ze_b2 hz fun _ _ _ h => h
  case ishr => exact ze_b2 hz fun _ _ _ h => h
  case iushr => exact ze_b2 hz fun _ _ _ h => h
  case iand => exact ze_b2 hz fun _ _ _ h => h
  case ior => exact ze_b2 hz fun _ _ _ h => h
  case ixor => exact ze_b2 hz fun _ _ _ h => h
  case idiv => exact ze_b2 hz fun _ _ _ h => ze_ite2 h False.elim id
  case irem => exact ze_b2 hz fun _ _ _ h => ze_ite2 h False.elim id
  case i2b => exact ze_b1 hz fun _ _ h => h
  case i2s => exact ze_b1 hz fun _ _ h => h
  case i2l => exact ze_b1 hz fun _ _ h => h
  case pop => exact ze_b1 hz fun _ _ h => h
  case l2i => exact ze_bl1 hz fun _ _ h => h
  case ladd => exact ze_bl2 hz fun _ _ _ h => h
  case lmul => exact ze_bl2 hz fun _ _ _ h => h
  case land => exact ze_bl2 hz fun _ _ _ h => h
  case lor => exact ze_bl2 hz fun _ _ _ h => h
  case lshl => exact ze_bli hz fun _ _ _ h => h
  case lshr => exact ze_bli hz fun _ _ _ h => h
  case lcmp => exact ze_bl2 hz fun _ _ _ h => ze_ite2 h id fun h => ze_ite2 h id id
  case dup => simp only [zs1] at hz; split at hz <;> first | exact hz | exact hz.elim
  case dup2 => exact ze_bir hz fun _ _ _ h => h
  case if_icmp c o => exact ze_b2 hz fun _ _ _ h => ze_cn h id id
  case ifCond c o => exact ze_b1 hz fun _ _ h => ze_cn h id id
  case tableswitch => exact ze_b1 hz fun _ _ h => ze_sw h fun _ h => h
  case getfield i =>
    refine ze_br hz fun _ _ h => ze_sh h fun _ _ _ _ h => ze_cond h fun h => ze_cond2 h (fun h => ?_) id
    split at h <;> first | exact h | exact h.elim
  case putfield i =>
    simp only [zs1] at hz
    split at hz
    · exact ze_sh hz fun _ _ _ _ h => ze_cond h fun h => ze_cond2 h id fun h => ze_cond h fun h => ze_ite h id
    · exact ze_sh hz fun _ _ _ hs h => ze_cond h fun h => zP_set hs h
    · exact hz.elim
  case iaload => exact ze_cond2 hz (fun h => ze_bir h fun _ _ _ h => ze_cond h fun h => ze_ite h id) (fun h => ze_bir h fun _ _ _ h => ze_sh h fun _ _ _ _ h => ze_cond h fun h => ze_ite h id)
  case baload => exact ze_bir hz fun _ _ _ h => ze_sh h fun _ _ _ _ h => ze_cond h fun h => ze_ite h id
  case aaload =>
    refine ze_bir hz fun _ _ _ h => ze_sh h fun _ _ _ _ h => ze_cond h fun h => ze_ite h fun h => ?_
    split at h <;> first | exact h | exact h.elim
  case iastore => exact ze_biir hz fun _ _ _ _ h => ze_sh h fun _ _ _ _ h => ze_cond h fun h => ze_ite h id
  case bastore => exact ze_biir hz fun _ _ _ _ h => ze_sh h fun _ _ _ _ h => ze_cond2 h (fun h => ze_ite h id) fun h => ze_cond h fun h => ze_ite h id
  case aastore =>
    simp only [zs1] at hz
    split at hz
    · exact ze_sh hz fun _ _ _ hs h => ze_sh h fun _ _ _ _ h => ze_cond h fun h => ze_ite h fun h => zP_set hs h
    · exact hz.elim
  case arraylength => exact ze_cond2 hz (fun h => ze_br h fun _ _ h => ze_cond h id) (fun h => ze_br h fun _ _ h => ze_sh h fun _ _ _ _ h => ze_cond h id)
  case new => exact ze_cond hz fun h => zP_app h
  case newarray t =>
    refine ze_b1 hz fun _ _ h => ze_cond h fun h => ze_ite h fun h => ?_
    cases t <;> first | exact zP_app h | exact h.elim
  case anewarray => exact ze_b1 hz fun _ _ h => ze_cond h fun h => ze_ite h fun h => zP_app h
  case invokevirtual => exact zg_inv (mm := mm) (pc := pc) (ls := ls) (len := len) hz
  case invokestatic => exact zg_inv (mm := mm) (pc := pc) (ls := ls) (len := len) hz
  case invokespecial => exact zg_inv (mm := mm) (pc := pc) (ls := ls) (len := len) hz
  case ireturn =>
    simp only [zs1] at hz
    split at hz
    · exact ze_ite2 hz (fun h => ze_ite h id) id
    · exact hz.elim
  case return_ =>
    simp only [zs1] at hz
    split at hz
    · exact hz
    · exact hz.elim
  all_goals exact hz.elim
def zCg (C : zC0) : Prop := ∀ j as sh mm v sh' mm', C j as sh mm = some (v, sh', mm') → sh.length ≤ sh'.length ∧ ztot sh ≤ ztot sh'
/-- what a call gives -/
theorem zK_x {C : zC0} {j : Nat} {b : Bool} {as : List zV} {sh : List zSh} {mm : zMm} {k : Int → List zSh → zMm → zRes} {k2 : List zSh → zMm → zRes} {r : Option zV × List zSh × zMm} (h : (bif b then zcI (C j as sh mm) k else zcV (C j as sh mm) k2) = some r) :
    (b = true ∧ ∃ x sh' mm', C j as sh mm = some (some (.inl x), sh', mm') ∧ k x sh' mm' = some r) ∨ (b = false ∧ ∃ sh' mm', C j as sh mm = some (none, sh', mm') ∧ k2 sh' mm' = some r) := by
  cases b with
  | true =>
    left
    refine ⟨rfl, ?_⟩
    have h : zcI (C j as sh mm) k = some r := h
    cases hc : C j as sh mm with
    | none => rw [hc] at h; cases h
    | some v =>
      rw [hc] at h
      obtain ⟨v, sh', mm'⟩ := v
      rcases v with _ | x | x
      · cases h
      · exact ⟨x, sh', mm', rfl, h⟩
      · cases h
  | false =>
    right
    refine ⟨rfl, ?_⟩
    have h : zcV (C j as sh mm) k2 = some r := h
    cases hc : C j as sh mm with
    | none => rw [hc] at h; cases h
    | some v =>
      rw [hc] at h
      obtain ⟨v, sh', mm'⟩ := v
      cases v with
      | none => exact ⟨sh', mm', rfl, h⟩
      | some x => cases h
theorem zrun_grow {C : zC0} (hC : zCg C) (i : Nat) : ∀ (n pc : Nat) (ls : zLs) (st : List zV) (sh : List zSh) (mm : zMm) (v : Option zV) (sh' : List zSh) (mm' : zMm), zrun C i n pc ls st sh mm = some (v, sh', mm') → zP sh'.length (ztot sh') sh
  | 0, _, _, _, _, _, _, _, _, h => by cases h
  | n + 1, pc, ls, st, sh, mm, v, sh', mm', h => by
    unfold zrun at h
    cases hc : zC i pc with
    | none => rw [hc] at h; cases h
    | some e =>
      rw [hc] at h
      have h : zstep C e pc ls st sh mm (zrun C i n) = some (v, sh', mm') := h
      rw [zstep_p] at h
      refine zg_s1 (zm_s1 (zle.rf ls) (fun v1 sh1 mm1 h1 => ?_) (fun pc1 ls1 ls2 st1 sh1 mm1 _ h1 => zrun_grow hC i n _ _ _ _ _ _ _ _ h1) (fun j b as pc1 ls1 ls2 st1 sh1 mm1 _ h1 => ?_) h)
      · cases h1
        exact ⟨Nat.le_refl _, Nat.le_refl _⟩
      · rcases zK_x h1 with ⟨-, x, sh2, mm2, h2, h3⟩ | ⟨-, sh2, mm2, h2, h3⟩
        · have g1 := hC _ _ _ _ _ _ _ h2
          have g2 := zrun_grow hC i n _ _ _ _ _ _ _ _ h3
          exact ⟨Nat.le_trans g1.1 g2.1, Nat.le_trans g1.2 g2.2⟩
        · have g1 := hC _ _ _ _ _ _ _ h2
          have g2 := zrun_grow hC i n _ _ _ _ _ _ _ _ h3
          exact ⟨Nat.le_trans g1.1 g2.1, Nat.le_trans g1.2 g2.2⟩
theorem zcall_in {N d j : Nat} {as : List zV} {sh : List zSh} {mm : zMm} {r : Option zV × List zSh × zMm} (h : zcall N (d + 1) j as sh mm = some r) : (zin0 as).length ≤ zml j ∧ zrun (zcall N d) j N 0 (zin (zml j) as) [] sh mm = some r := by
  unfold zcall at h
  cases hb : Nat.ble (zin0 as).length (zml j) with
  | false => rw [hb] at h; cases h
  | true =>
    rw [hb] at h
    exact ⟨Nat.le_of_ble_eq_true hb, h⟩
theorem zcall_grow (N : Nat) : ∀ d, zCg (zcall N d)
  | 0, _, _, _, _, _, _, _, h => by cases h
  | d + 1, j, as, sh, mm, v, sh', mm', h => zrun_grow (zcall_grow N d) j N 0 _ _ _ _ _ _ _ (zcall_in h).2
section ZSD
variable {p : Program} {l : Launch} {e : Env} {R : Room} {s : State} {m : MethodId} {args : Array Value} {below : List Frame} {meth : Method} {c : Code} {Q : State → Prop}
variable {i d : Nat} {D : va_G} {A : Nat → Prop} {ad0 : Nat → Nat × ClassId} {sh0 : List zSh} {mm0 : zMm} {shF : List zSh}
set_option maxHeartbeats 4000000 in
theorem zsd_all {C : zC0} (hM : zMt l d C) (C0 : zCtx p R s m args meth c i d D A ad0 sh0 mm0 shF) (e0 : zEn) : zSd p l e R s m args below meth c Q i D A ad0 sh0 mm0 shF C e0 := by
  obtain ⟨ins, len, pp, r, q⟩ := e0
  cases ins
  case iadd => exact zsd_iadd C0
  case isub => exact zsd_isub C0
  case imul => exact zsd_imul C0
  case ishl => exact zsd_ishl C0
  case ishr => exact zsd_ishr C0
  case iushr => exact zsd_iushr C0
  case iand => exact zsd_iand C0
  case ior => exact zsd_ior C0
  case ixor => exact zsd_ixor C0
  case idiv => exact zsd_idiv C0
  case irem => exact zsd_irem C0
  case i2b => exact zsd_i2b C0
  case i2s => exact zsd_i2s C0
  case i2l => exact zsd_i2l C0
  case l2i => exact zsd_l2i C0
  case ladd => exact zsd_ladd C0
  case lmul => exact zsd_lmul C0
  case land => exact zsd_land C0
  case lor => exact zsd_lor C0
  case lshl => exact zsd_lshl C0
  case lshr => exact zsd_lshr C0
  case lcmp => exact zsd_lcmp C0
  case dup => exact zsd_dup C0
  case dup2 => exact zsd_dup2 C0
  case pop => exact zsd_pop C0
  case iaload => exact zsd_iaload C0
  case baload => exact zsd_baload C0
  case aaload => exact zsd_aaload C0
  case iastore => exact zsd_iastore C0
  case bastore => exact zsd_bastore C0
  case aastore => exact zsd_aastore C0
  case arraylength => exact zsd_arraylength C0
  case ireturn => exact zsd_ireturn C0
  case bipush => exact zsd_bipush C0
  case sipush => exact zsd_sipush C0
  case iconst => exact zsd_iconst C0
  case lconst => exact zsd_lconst C0
  case iload => exact zsd_iload C0
  case iload_n => exact zsd_iload_n C0
  case lload => exact zsd_lload C0
  case lload_n => exact zsd_lload_n C0
  case aload => exact zsd_aload C0
  case aload_n => exact zsd_aload_n C0
  case istore => exact zsd_istore C0
  case istore_n => exact zsd_istore_n C0
  case astore => exact zsd_astore C0
  case astore_n => exact zsd_astore_n C0
  case iinc => exact zsd_iinc C0
  case goto => exact zsd_goto C0
  case getfield => exact zsd_getfield C0
  case putfield => exact zsd_putfield C0
  case new => exact zsd_new C0
  case newarray => exact zsd_newarray C0
  case anewarray => exact zsd_anewarray C0
  case ldc => exact zsd_ldc C0
  case ldc_w => exact zsd_ldcw C0
  case ldc2_w => exact zsd_ldc2 C0
  case if_icmp => exact zsd_ificmp C0
  case ifCond => exact zsd_ifc C0
  case tableswitch => exact zsd_tsw C0
  case return_ => exact zsd_vreturn C0
  case invokevirtual => exact zsd_virt hM C0
  case invokestatic => exact zsd_stat hM C0
  case invokespecial => exact zsd_spec hM C0
  all_goals exact fun pc ls st sh mm hc hz => hz.elim
theorem zrun_sound {C : zC0} (hM : zMt l d C) (hC : zCg C) (C0 : zCtx p R s m args meth c i d D A ad0 sh0 mm0 shF) {vF : Option zV} {mmF : zMm} (hend : zEnd p l e R s m args below meth c Q i D A ad0 sh0 mm0 vF shF mmF) : ∀ (n pc : Nat) (ls : zLs) (st : List zV) (sh : List zSh) (mm : zMm), zrun C i n pc ls st sh mm = some (vF, shF, mmF) → zGG p l e R s m args below meth c Q i D A ad0 sh0 mm0 shF pc ls st sh mm
  | 0, _, _, _, _, _, h => by cases h
  | n + 1, pc, ls, st, sh, mm, h => by
    have hgr := zrun_grow hC i _ _ _ _ _ _ _ _ _ h
    refine ⟨?_, hgr.1, hgr.2⟩
    unfold zrun at h
    cases hc : zC i pc with
    | none => rw [hc] at h; cases h
    | some e0 =>
      rw [hc] at h
      have h : zstep C e0 pc ls st sh mm (zrun C i n) = some (vF, shF, mmF) := h
      rw [zstep_p] at h
      refine zsd_all hM C0 e0 pc ls st sh mm hc (zm_s1 (zle.rf ls) (fun v1 sh1 mm1 h1 => ?_) (fun pc1 ls1 ls2 st1 sh1 mm1 hl h1 => ?_) (fun j b as pc1 ls1 ls2 st1 sh1 mm1 hl h1 => ?_) h)
      · cases h1
        exact hend
      · exact zrun_sound hM hC C0 hend n _ _ _ _ _ (zrun_mono (fun _ _ _ _ _ h => h) i n n (Nat.le_refl n) _ _ _ _ _ _ _ hl h1)
      · rcases zK_x h1 with ⟨rfl, x, sh2, mm2, h2, h3⟩ | ⟨rfl, sh2, mm2, h2, h3⟩
        · exact ⟨x, sh2, mm2, h2, zrun_sound hM hC C0 hend n _ _ _ _ _ (zrun_mono (fun _ _ _ _ _ h => h) i n n (Nat.le_refl n) _ _ _ _ _ _ _ hl h3)⟩
        · exact ⟨sh2, mm2, h2, zrun_sound hM hC C0 hend n _ _ _ _ _ (zrun_mono (fun _ _ _ _ _ h => h) i n n (Nat.le_refl n) _ _ _ _ _ _ _ hl h3)⟩
end ZSD
theorem zin0_at (ad : Nat → Nat × ClassId) : ∀ (as : List zV) (j : Nat) (v : zV), (zin0 as)[j]? = some (some v) → (lg_sl (as.map (zcv ad)))[j]? = some (.val (zcv ad v))
  | [], j, v, h => by simp [zin0] at h
  | a :: as, j, v, h => by
    have ih := zin0_at ad as
    rcases a with x | x | x
    · cases j with
      | zero => simp [zin0] at h; subst h; rfl
      | succ j => exact ih j v h
    · match j, h with
      | 0, h => simp [zin0] at h; subst h; rfl
      | 1, h => simp [zin0] at h
      | j + 2, h => exact ih j v h
    · cases j with
      | zero => simp [zin0] at h; subst h; rfl
      | succ j => exact ih j v h
theorem zin0_len (ad : Nat → Nat × ClassId) : ∀ (as : List zV), (lg_sl (as.map (zcv ad))).length = (zin0 as).length
  | [] => rfl
  | a :: as => by
    have ih := zin0_len ad as
    rcases a with x | x | x
    · exact congrArg (fun z => z + 1) ih
    · exact congrArg (fun z => z + 2) ih
    · exact congrArg (fun z => z + 1) ih
theorem zin0_mem : ∀ (as : List zV) (v : zV), some v ∈ zin0 as → v ∈ as
  | [], v, h => by simp [zin0] at h
  | a :: as, v, h => by
    rcases a with x | x | x
    · simp only [zin0, List.mem_cons, Option.some.injEq] at h
      rcases h with h | h
      · exact List.mem_cons.mpr (Or.inl h)
      · exact List.mem_cons_of_mem _ (zin0_mem as v h)
    · simp only [zin0, List.mem_cons, Option.some.injEq] at h
      rcases h with h | h | h
      · exact List.mem_cons.mpr (Or.inl h)
      · cases h
      · exact List.mem_cons_of_mem _ (zin0_mem as v h)
    · simp only [zin0, List.mem_cons, Option.some.injEq] at h
      rcases h with h | h
      · exact List.mem_cons.mpr (Or.inl h)
      · exact List.mem_cons_of_mem _ (zin0_mem as v h)
theorem zin_mem {n : Nat} {as : List zV} {v : zV} (h : some v ∈ zin n as) : v ∈ as := by
  unfold zin at h
  rcases List.mem_append.mp h with h | h
  · exact zin0_mem as v h
  · have := (List.mem_replicate.mp h).2
    cases this
theorem zin_Lc (ad : Nat → Nat × ClassId) {n : Nat} {as : List zV} (h : (zin0 as).length ≤ n) : zLc ad n (zin n as) ((lg_sl (as.map (zcv ad)) ++ List.replicate (n - (lg_sl (as.map (zcv ad))).length) Slot.unset).toArray) := by
  have hl := lv_entry (as.map (zcv ad)) (n := n) (by rw [zin0_len]; exact h)
  refine ⟨hl.1, by unfold zin; simp; omega, hl.2.1, fun j v hj => ?_⟩
  unfold zin at hj
  rw [List.getElem?_append] at hj
  split at hj
  · have h1 := zin0_at ad as j v hj
    rw [List.getElem?_toArray, List.getElem?_append_left (List.getElem?_eq_some_iff.mp h1).1]
    exact h1
  · rw [List.getElem?_replicate] at hj
    split at hj <;> cases hj
/-- as Met.ofW, also where the class has methods that an entry runs -/
theorem zMet_ofW {l : Launch} {y : MethodName} {ws ws' : List Cond} {rm : Room} {Pc : Array Value → State → Prop} {Qc : Array Value → State → Outcome → State → Prop} {mc ms : Nat} {free : Addr → Prop} {cc : ByteArray} {maxL : Nat} {ret : Option FieldType}
    (hy : plainFor y = true) (hw : ws = Cond.code y cc maxL ret :: ws')
    (body : ∀ p e s m args below meth c s₁, BodyLoose p l y (headSpec ws rm) cc maxL ret e s m args below meth c s₁ → c.maxLocals = maxL → Pc args s →
      W p l e (headSpec ws rm).room s m args below meth c s.heap [] 0 0 (MQ below Qc args s mc ms free) (entryFrame m args maxL)) : Met l y ws rm Pc Qc mc ms free := by
  refine MetFree.of_bodySF (code := cc) (maxLocals := maxL) (ret := ret) hy ?_ ?_
  · intro args s m h hn
    obtain ⟨meth, c, h1, h2, h3, h4, h5, h6, -, -⟩ := Cond.code_spec hn (atoms_spec (ws := ws) h _ (by rw [hw]; exact List.mem_cons_self))
    exact ⟨meth, c, h1, h2, h3, h4, h5, h6⟩
  · intro p e s m args below meth c s₁ B hml hP _
    have hh0 : s₁.heap = s.heap := by rw [B.state]; rfl
    obtain ⟨t, a1, o, b1, b2, b3⟩ := body p e s m args below meth c s₁ B hml hP s₁ hh0 (Stand.of_body B)
    exact ⟨t, o, a1, b1, b2, ⟨b3.1, b3.2⟩⟩
set_option maxHeartbeats 1000000 in
/-- THE CALLEES' CONTRACTS: every method that the mini machine runs through -/
theorem zmt_all (l : Launch) (N : Nat) : ∀ d, zMt l d (zcall N d)
  | 0, _, _, _, _, _, _, _, _, h => by cases h
  | d + 1, j, as, sh, mm, v, sh', mm', hj, h => by
    refine ⟨zcall_grow N (d + 1) j as sh mm v sh' mm' h, fun D tys ad sz hwf hty has => ?_⟩
    obtain ⟨hlen, hrun⟩ := zcall_in h
    have hmb := zmb_ok hj
    simp only [zmb, Bool.and_eq_true, decide_eq_true_eq] at hmb
    obtain ⟨⟨⟨⟨⟨⟨⟨m1, m2⟩, m3⟩, m4⟩, m5⟩, m6⟩, m7⟩, m8⟩ := hmb
    refine zMet_ofW (cc := zBy j) (maxL := zml j) (ret := zRt j) m4 rfl ?_
    intro p e s m args below meth c s₁ B hml hv
    obtain ⟨rfl, hsz, hP, hK, hD0, hnw, hao, hscr⟩ := hv
    have hts := atoms_spec (ws := zwj j) B.pre
    have hown : s.vm.findClass (zNm j).cls = some m.cls := findClass_of_methodNamed B.named
    have hlocks := B.notSynchronized
    have hr := B.returns
    have hnm := (name_of_methodNamed B.named B.method).1
    subst hsz
    have C0 : zCtx p (headSpec (zwj j) ({ frames := d + 1, cells := sh'.length - sh.length, slots := ztot sh' - ztot sh, locals := 40 * (d + 1) })).room s m (as.map (zcv ad)).toArray meth c j d D (va_A (zws ad sh mm) s.heap.size) ad sh mm sh' :=
      ⟨B.exec, B.bytes, hml, by rw [← m2]; exact hown, fun w hw => hts w (List.mem_cons_of_mem _ hw), hnw, hao, fun q hq => Or.inr hq, fun h2 => by
        rw [h2] at m8
        simp only [Bool.and_eq_true, decide_eq_true_eq] at m8
        rw [hnm]
        exact m8.1.2, ⟨Nat.le_refl _, Nat.le_refl _⟩, ⟨Nat.le_refl _, Nat.le_refl _⟩, hscr⟩
    have hend : zEnd p l e (headSpec (zwj j) ({ frames := d + 1, cells := sh'.length - sh.length, slots := ztot sh' - ztot sh, locals := 40 * (d + 1) })).room s m (as.map (zcv ad)).toArray below meth c (MQ below (zQ0 D ad sh mm s.heap.size v sh' mm') (as.map (zcv ad)).toArray s (sh'.length - sh.length) (ztot sh' - ztot sh) (va_A (zws ad sh mm) s.heap.size)) j D (va_A (zws ad sh mm) s.heap.size) ad sh mm v sh' mm' := by
      intro pc tys' ad' H locs lsR hI hPs
      rcases v with _ | x | x
      · intro hret hd
        exact W.vret B.exec B.bytes (hr.trans hret) (fun t ht hW => ⟨⟨tys', ad', rfl, by rw [ht]; exact hI.1, va_K.moved hW.alike hI.2.2.1, hI.2.1, hI.2.2.2.2.1, hI.2.2.2.2.2, hPs.2.2.1, hPs.2.2.2, fun x hx => by cases hx⟩, hI.2.2.2.1.F ht⟩) hI.2.2.2.1.2.2 hd
      · intro rx hret hd
        have hq : ∀ t : State, t.heap = H → s.WarmedH t.vm → zQ0 D ad sh mm s.heap.size (some (.inl x)) sh' mm' (as.map (zcv ad)).toArray s (.returned (some (.int (Int32.ofInt x)))) t := fun t ht hW => ⟨⟨tys', ad', rfl, by rw [ht]; exact hI.1, va_K.moved hW.alike hI.2.2.1, hI.2.1, hI.2.2.2.2.1, hI.2.2.2.2.2, hPs.2.2.1, hPs.2.2.2, fun y hy => by cases hy; exact rx⟩, hI.2.2.2.1.F ht⟩
        rcases hret with ⟨hret, h01⟩ | hret
        · exact W.zret (ty := .boolean) B.exec B.bytes (hr.trans hret) (zbool_n h01).1 hq hI.2.2.2.1.2.2 hd
        · exact W.iret B.exec B.bytes (hr.trans hret) hq hI.2.2.2.1.2.2 hd
      · trivial
    have hgo := zrun_sound (zmt_all l N d) (zcall_grow N d) C0 hend N 0 _ _ _ _ hrun
    have hfin := hgo.1 tys ad s.heap [] _ ⟨hP, hD0.self, hK, va_S.rf, hwf, hty⟩ ⟨Nat.le_refl _, Nat.le_refl _, fun _ _ => rfl, fun _ _ => rfl⟩ (zin_Lc ad hlen) (fun v hv => has v (zin_mem hv)) (fun v hv => absurd hv List.not_mem_nil)
    rw [lg_entry_eq]
    rw [Nat.sub_self, Nat.sub_self] at hfin
    exact hfin
end
section
def SH : List zSh := [(8, 7, [2, 16, 30, 33, 34, 37, 0]), (1, 5, [3, 7, 11, 13, 0]), (6, 4, [4, 5, 6, 0]), (100, 8, []), (100, 6, []), (100, 6, []), (0, 4, [8, 9, 10, 0]), (100, 6, []), (101, 6, []), (100, 48, []), (7, 5, [7, 12, 0, 0, 0]), (100, 6, []), (2, 3, [14, 15, 0]), (100, 60, []), (100, 60, []), (1, 5, [17, 21, 25, 27, 0]), (6, 4, [18, 19, 20, 0]), (100, 8, []), (100, 6, []), (100, 6, []), (0, 4, [22, 23, 24, 0]), (100, 6, []), (101, 6, []), (100, 48, []), (7, 5, [21, 26, 0, 0, 0]), (100, 6, []), (2, 3, [28, 29, 0]), (100, 60, []), (100, 60, []), (5, 3, [31, 32, 0]), (100, 80, []), (100, 24, []), (103, 4, [38, 40, 42, 44]), (3, 3, [35, 36, 0]), (100, 3510, []), (102, 1024, []), (100, 6, []), (4, 3, [39, 0, 0]), (100, 24, []), (4, 3, [41, 0, 0]), (100, 24, []), (4, 3, [43, 0, 0]), (100, 24, []), (4, 3, [45, 0, 0]), (100, 24, []), (100, 8, []), (100, 16, []), (100, 64, []), (100, 6, []), (100, 64, []), (100, 64, []), (100, 8, [])]
abbrev zok (x : Int) (mm : zMm) : zRes := some (some (.inl x), SH, mm)
abbrev zvd (mm : zMm) : zRes := some (none, SH, mm)
theorem zcI_ok (x : Int) (mm : zMm) (f : Int → List zSh → zMm → zRes) : zcI (zok x mm) f = f x SH mm := rfl
theorem zcV_vd (mm : zMm) (f : List zSh → zMm → zRes) : zcV (zvd mm) f = f SH mm := rfl
end
section
set_option maxRecDepth 100000 in
theorem zb_X0_copyFromK_0 (d : Nat) (mm : zMm) : zR d 1 0 [some (.inr (.inr 20)), some (.inr (.inr 6)), none] [] SH mm = (zR d 1 2 [some (.inr (.inr 20)), some (.inr (.inr 6)), some (.inl 0)] [] SH mm) := (zR_unf d 1 [2] 3 0 _ _ _ _).trans rfl
set_option maxRecDepth 100000 in
theorem zb_X0_copyFromK_2 (d : Nat) (a2 : Int) (mm : zMm) : zR d 1 2 [some (.inr (.inr 20)), some (.inr (.inr 6)), some (.inl a2)] [] SH mm = (if a2 < 6 then if 0 ≤ a2 ∧ a2 < 6 then if 0 ≤ a2 ∧ a2 < 6 then if 0 ≤ a2 ∧ a2 < 6 then if (0 ≤ a2 ∧ a2 < 6) ∧ ((mm 8 ((a2).toNat)) = 0 ∨ (mm 8 ((a2).toNat)) = 1) then zR d 1 2 [some (.inr (.inr 20)), some (.inr (.inr 6)), some (.inl (zw (a2 + 1)))] [] SH (zu (zu mm 21 ((a2).toNat) (mm 7 ((a2).toNat))) 22 ((a2).toNat) (mm 8 ((a2).toNat))) else none else none else none else none else zvd (zu (zcp mm 9 0 23 0 48) 20 3 ((zcp mm 9 0 23 0 48) 6 3))) := (zR_unf d 1 [2] 22 2 _ _ _ _).trans rfl
set_option maxRecDepth 100000 in
theorem zb_X0_copyFromN_0 (d : Nat) (mm : zMm) : zR d 1 0 [some (.inr (.inr 6)), some (.inr (.inr 20)), none] [] SH mm = (zR d 1 2 [some (.inr (.inr 6)), some (.inr (.inr 20)), some (.inl 0)] [] SH mm) := (zR_unf d 1 [2] 3 0 _ _ _ _).trans rfl
set_option maxRecDepth 100000 in
theorem zb_X0_copyFromN_2 (d : Nat) (a2 : Int) (mm : zMm) : zR d 1 2 [some (.inr (.inr 6)), some (.inr (.inr 20)), some (.inl a2)] [] SH mm = (if a2 < 6 then if 0 ≤ a2 ∧ a2 < 6 then if 0 ≤ a2 ∧ a2 < 6 then if 0 ≤ a2 ∧ a2 < 6 then if (0 ≤ a2 ∧ a2 < 6) ∧ ((mm 22 ((a2).toNat)) = 0 ∨ (mm 22 ((a2).toNat)) = 1) then zR d 1 2 [some (.inr (.inr 6)), some (.inr (.inr 20)), some (.inl (zw (a2 + 1)))] [] SH (zu (zu mm 7 ((a2).toNat) (mm 21 ((a2).toNat))) 8 ((a2).toNat) (mm 22 ((a2).toNat))) else none else none else none else none else zvd (zu (zcp mm 23 0 9 0 48) 6 3 ((zcp mm 23 0 9 0 48) 20 3))) := (zR_unf d 1 [2] 22 2 _ _ _ _).trans rfl
set_option maxRecDepth 100000 in
theorem zb_X0_has_0 (d : Nat) (a1 : Int) (mm : zMm) : zR d 2 0 [some (.inr (.inr 6)), some (.inl a1)] [] SH mm = (if a1 < 0 then zok 0 mm else if a1 < (mm 6 3) then if a1 < 6 then zok 1 mm else zok 0 mm else zok 0 mm) := (zR_unf d 2 [] 13 0 _ _ _ _).trans rfl
set_option maxRecDepth 100000 in
theorem zb_X0_append_0 (d : Nat) (a1 : Int) (mm : zMm) : zR d 3 0 [some (.inr (.inr 6)), some (.inl a1)] [] SH mm = (if (mm 6 3) < 0 then zok (-3) mm else if (mm 6 3) < 6 then if 0 ≤ (mm 6 3) ∧ (mm 6 3) < 6 then zok (zw ((zw ((mm 6 3) + 1)) - 1)) (zu (zu mm 7 ((mm 6 3).toNat) a1) 6 3 (zw ((mm 6 3) + 1))) else none else zok (-3) mm) := (zR_unf d 3 [] 25 0 _ _ _ _).trans rfl
set_option maxRecDepth 100000 in
theorem zb_X0_kindOf_0 (d : Nat) (a1 : Int) (mm : zMm) : zR d 4 0 [some (.inr (.inr 6)), some (.inl a1)] [] SH mm = (zcI (zL d 2 [.inr (.inr 6), .inl a1] SH mm) fun x sh' mm' => zR d 4 5 [some (.inr (.inr 6)), some (.inl a1)] [.inl x] sh' mm') := (zR_unf d 4 [] 4 0 _ _ _ _).trans rfl
set_option maxRecDepth 100000 in
theorem zb_X0_kindOf_5 (d : Nat) (a1 s0 : Int) (mm : zMm) : zR d 4 5 [some (.inr (.inr 6)), some (.inl a1)] [.inl s0] SH mm = (if s0 = 0 then zok 3 mm else if 0 ≤ a1 ∧ a1 < 6 then zok (mm 7 ((a1).toNat)) mm else none) := (zR_unf d 4 [] 8 5 _ _ _ _).trans rfl
set_option maxRecDepth 100000 in
theorem zb_X0_isAlive_0 (d : Nat) (a1 : Int) (mm : zMm) : zR d 5 0 [some (.inr (.inr 6)), some (.inl a1)] [] SH mm = (zcI (zL d 2 [.inr (.inr 6), .inl a1] SH mm) fun x sh' mm' => zR d 5 5 [some (.inr (.inr 6)), some (.inl a1)] [.inl x] sh' mm') := (zR_unf d 5 [] 4 0 _ _ _ _).trans rfl
set_option maxRecDepth 100000 in
theorem zb_X0_isAlive_5 (d : Nat) (a1 s0 : Int) (mm : zMm) : zR d 5 5 [some (.inr (.inr 6)), some (.inl a1)] [.inl s0] SH mm = (if s0 = 0 then zok 0 mm else if 0 ≤ a1 ∧ a1 < 6 then if (mm 8 ((a1).toNat)) = 0 then zok 1 mm else zok 0 mm else none) := (zR_unf d 5 [] 10 5 _ _ _ _).trans rfl
set_option maxRecDepth 100000 in
theorem zb_X0_changeDead_0 (d : Nat) (a1 a2 : Int) (mm : zMm) : zR d 6 0 [some (.inr (.inr 6)), some (.inl a1), some (.inl a2), none] [] SH mm = (zcI (zL d 2 [.inr (.inr 6), .inl a1] SH mm) fun x sh' mm' => zR d 6 5 [some (.inr (.inr 6)), some (.inl a1), some (.inl a2), none] [.inl x] sh' mm') := (zR_unf d 6 [] 4 0 _ _ _ _).trans rfl
set_option maxRecDepth 100000 in
theorem zb_X0_changeDead_5 (d : Nat) (a1 a2 s0 : Int) (mm : zMm) : zR d 6 5 [some (.inr (.inr 6)), some (.inl a1), some (.inl a2), none] [.inl s0] SH mm = (if s0 = 0 then zok 0 mm else if 0 ≤ a1 ∧ a1 < 6 then if (0 ≤ a1 ∧ a1 < 6) ∧ (a2 = 0 ∨ a2 = 1) then if (mm 8 ((a1).toNat)) = 0 ∨ (mm 8 ((a1).toNat)) = 1 then zok (mm 8 ((a1).toNat)) (zu mm 8 ((a1).toNat) a2) else none else none else none) := (zR_unf d 6 [] 14 5 _ _ _ _).trans rfl
set_option maxRecDepth 100000 in
theorem zb_X0_living_0 (d : Nat) (mm : zMm) : zR d 7 0 [some (.inr (.inr 6)), none, none] [] SH mm = (zR d 7 4 [some (.inr (.inr 6)), some (.inl 0), some (.inl 0)] [] SH mm) := (zR_unf d 7 [4] 5 0 _ _ _ _).trans rfl
set_option maxRecDepth 100000 in
theorem zb_X0_living_4 (d : Nat) (a1 a2 : Int) (mm : zMm) : zR d 7 4 [some (.inr (.inr 6)), some (.inl a1), some (.inl a2)] [] SH mm = (if a2 < 6 then zcI (zL d 5 [.inr (.inr 6), .inl a2] SH mm) fun x sh' mm' => zR d 7 15 [some (.inr (.inr 6)), some (.inl a1), some (.inl a2)] [.inl x] sh' mm' else zok a1 mm) := (zR_unf d 7 [4] 7 4 _ _ _ _).trans rfl
set_option maxRecDepth 100000 in
theorem zb_X0_living_15 (d : Nat) (a1 a2 s0 : Int) (mm : zMm) : zR d 7 15 [some (.inr (.inr 6)), some (.inl a1), some (.inl a2)] [.inl s0] SH mm = (if s0 = 0 then zR d 7 4 [some (.inr (.inr 6)), some (.inl a1), some (.inl (zw (a2 + 1)))] [] SH mm else zR d 7 4 [some (.inr (.inr 6)), some (.inl (zor a1 (zshl 1 a2))), some (.inl (zw (a2 + 1)))] [] SH mm) := (zR_unf d 7 [4] 10 15 _ _ _ _).trans rfl
set_option maxRecDepth 100000 in
theorem zb_X0_weightOf_0 (d : Nat) (a1 a2 : Int) (mm : zMm) : zR d 8 0 [some (.inr (.inr 6)), some (.inl a1), some (.inl a2)] [] SH mm = (zcI (zL d 2 [.inr (.inr 6), .inl a1] SH mm) fun x sh' mm' => zR d 8 5 [some (.inr (.inr 6)), some (.inl a1), some (.inl a2)] [.inl x] sh' mm') := (zR_unf d 8 [] 4 0 _ _ _ _).trans rfl
set_option maxRecDepth 100000 in
theorem zb_X0_weightOf_5 (d : Nat) (a1 a2 s0 : Int) (mm : zMm) : zR d 8 5 [some (.inr (.inr 6)), some (.inl a1), some (.inl a2)] [.inl s0] SH mm = (if s0 = 0 then zok 0 mm else zcI (zL d 79 [.inl a2] SH mm) fun x sh' mm' => zR d 8 12 [some (.inr (.inr 6)), some (.inl a1), some (.inl a2)] [.inl x] sh' mm') := (zR_unf d 8 [] 4 5 _ _ _ _).trans rfl
set_option maxRecDepth 100000 in
theorem zb_X0_weightOf_12 (d : Nat) (a1 a2 s0 : Int) (mm : zMm) : zR d 8 12 [some (.inr (.inr 6)), some (.inl a1), some (.inl a2)] [.inl s0] SH mm = (if s0 = 0 then zok 0 mm else if 0 ≤ (zw ((zw (a1 * 8)) + a2)) ∧ (zw ((zw (a1 * 8)) + a2)) < 48 then zok (mm 9 ((zw ((zw (a1 * 8)) + a2)).toNat)) mm else none) := (zR_unf d 8 [] 12 12 _ _ _ _).trans rfl
set_option maxRecDepth 100000 in
theorem zb_X0_changeWeight_0 (d : Nat) (a1 a2 a3 : Int) (mm : zMm) : zR d 9 0 [some (.inr (.inr 6)), some (.inl a1), some (.inl a2), some (.inl a3), none] [] SH mm = (zcI (zL d 2 [.inr (.inr 6), .inl a1] SH mm) fun x sh' mm' => zR d 9 5 [some (.inr (.inr 6)), some (.inl a1), some (.inl a2), some (.inl a3), none] [.inl x] sh' mm') := (zR_unf d 9 [] 4 0 _ _ _ _).trans rfl
set_option maxRecDepth 100000 in
theorem zb_X0_changeWeight_5 (d : Nat) (a1 a2 a3 s0 : Int) (mm : zMm) : zR d 9 5 [some (.inr (.inr 6)), some (.inl a1), some (.inl a2), some (.inl a3), none] [.inl s0] SH mm = (if s0 = 0 then zok (-1) mm else zcI (zL d 79 [.inl a2] SH mm) fun x sh' mm' => zR d 9 12 [some (.inr (.inr 6)), some (.inl a1), some (.inl a2), some (.inl a3), none] [.inl x] sh' mm') := (zR_unf d 9 [] 4 5 _ _ _ _).trans rfl
set_option maxRecDepth 100000 in
theorem zb_X0_changeWeight_12 (d : Nat) (a1 a2 a3 s0 : Int) (mm : zMm) : zR d 9 12 [some (.inr (.inr 6)), some (.inl a1), some (.inl a2), some (.inl a3), none] [.inl s0] SH mm = (if s0 = 0 then zok (-1) mm else if 0 ≤ (zw ((zw (a1 * 8)) + a2)) ∧ (zw ((zw (a1 * 8)) + a2)) < 48 then if 0 ≤ (zw ((zw (a1 * 8)) + a2)) ∧ (zw ((zw (a1 * 8)) + a2)) < 48 then zok (mm 9 ((zw ((zw (a1 * 8)) + a2)).toNat)) (zu mm 9 ((zw ((zw (a1 * 8)) + a2)).toNat) a3) else none else none) := (zR_unf d 9 [] 22 12 _ _ _ _).trans rfl
set_option maxRecDepth 100000 in
theorem zb_X0_weightOfSet_0 (d : Nat) (a1 a2 : Int) (mm : zMm) : zR d 10 0 [some (.inr (.inr 6)), some (.inl a1), some (.inl a2), none, none] [] SH mm = (zR d 10 5 [some (.inr (.inr 6)), some (.inl a1), some (.inl a2), some (.inl 0), some (.inl 0)] [] SH mm) := (zR_unf d 10 [5] 5 0 _ _ _ _).trans rfl
set_option maxRecDepth 100000 in
theorem zb_X0_weightOfSet_5 (d : Nat) (a1 a2 a3 a4 : Int) (mm : zMm) : zR d 10 5 [some (.inr (.inr 6)), some (.inl a1), some (.inl a2), some (.inl a3), some (.inl a4)] [] SH mm = (if a4 < 8 then zcI (zL d 81 [.inl a2, .inl a4] SH mm) fun x sh' mm' => zR d 10 18 [some (.inr (.inr 6)), some (.inl a1), some (.inl a2), some (.inl a3), some (.inl a4)] [.inl x] sh' mm' else zok a3 mm) := (zR_unf d 10 [5] 7 5 _ _ _ _).trans rfl
set_option maxRecDepth 100000 in
theorem zb_X0_weightOfSet_18 (d : Nat) (a1 a2 a3 a4 s0 : Int) (mm : zMm) : zR d 10 18 [some (.inr (.inr 6)), some (.inl a1), some (.inl a2), some (.inl a3), some (.inl a4)] [.inl s0] SH mm = (if s0 = 0 then zR d 10 5 [some (.inr (.inr 6)), some (.inl a1), some (.inl a2), some (.inl a3), some (.inl (zw (a4 + 1)))] [] SH mm else zcI (zL d 8 [.inr (.inr 6), .inl a1, .inl a4] SH mm) fun x sh' mm' => zR d 10 29 [some (.inr (.inr 6)), some (.inl a1), some (.inl a2), some (.inl a3), some (.inl a4)] [.inl x, .inl a3] sh' mm') := (zR_unf d 10 [5] 7 18 _ _ _ _).trans rfl
set_option maxRecDepth 100000 in
theorem zb_X0_weightOfSet_29 (d : Nat) (a1 a2 a3 a4 s0 s1 : Int) (mm : zMm) : zR d 10 29 [some (.inr (.inr 6)), some (.inl a1), some (.inl a2), some (.inl a3), some (.inl a4)] [.inl s1, .inl s0] SH mm = (zR d 10 5 [some (.inr (.inr 6)), some (.inl a1), some (.inl a2), some (.inl (zw (s0 + s1))), some (.inl (zw (a4 + 1)))] [] SH mm) := (zR_unf d 10 [5] 5 29 _ _ _ _).trans rfl
set_option maxRecDepth 100000 in
theorem zb_X0_weightedWords_0 (d : Nat) (a1 : Int) (mm : zMm) : zR d 11 0 [some (.inr (.inr 6)), some (.inl a1), none, none] [] SH mm = (zR d 11 4 [some (.inr (.inr 6)), some (.inl a1), some (.inl 0), some (.inl 0)] [] SH mm) := (zR_unf d 11 [4] 5 0 _ _ _ _).trans rfl
set_option maxRecDepth 100000 in
theorem zb_X0_weightedWords_4 (d : Nat) (a1 a2 a3 : Int) (mm : zMm) : zR d 11 4 [some (.inr (.inr 6)), some (.inl a1), some (.inl a2), some (.inl a3)] [] SH mm = (if a3 < 8 then zcI (zL d 2 [.inr (.inr 6), .inl a1] SH mm) fun x sh' mm' => zR d 11 15 [some (.inr (.inr 6)), some (.inl a1), some (.inl a2), some (.inl a3)] [.inl x] sh' mm' else zok a2 mm) := (zR_unf d 11 [4] 7 4 _ _ _ _).trans rfl
set_option maxRecDepth 100000 in
theorem zb_X0_weightedWords_15 (d : Nat) (a1 a2 a3 s0 : Int) (mm : zMm) : zR d 11 15 [some (.inr (.inr 6)), some (.inl a1), some (.inl a2), some (.inl a3)] [.inl s0] SH mm = (if s0 = 0 then zok a2 mm else if 0 ≤ (zw ((zw (a1 * 8)) + a3)) ∧ (zw ((zw (a1 * 8)) + a3)) < 48 then if 0 < (mm 9 ((zw ((zw (a1 * 8)) + a3)).toNat)) then zR d 11 4 [some (.inr (.inr 6)), some (.inl a1), some (.inl (zor a2 (zshl 1 a3))), some (.inl (zw (a3 + 1)))] [] SH mm else zR d 11 4 [some (.inr (.inr 6)), some (.inl a1), some (.inl a2), some (.inl (zw (a3 + 1)))] [] SH mm else none) := (zR_unf d 11 [4] 19 15 _ _ _ _).trans rfl
set_option maxRecDepth 100000 in
theorem zb_X2_copyFromK_0 (d : Nat) (mm : zMm) : zR d 23 0 [some (.inr (.inr 26)), some (.inr (.inr 12))] [] SH mm = (zvd (zu (zcp (zcp mm 13 0 27 0 60) 14 0 28 0 60) 26 2 ((zcp (zcp mm 13 0 27 0 60) 14 0 28 0 60) 12 2))) := (zR_unf d 23 [] 22 0 _ _ _ _).trans rfl
set_option maxRecDepth 100000 in
theorem zb_X2_copyFromN_0 (d : Nat) (mm : zMm) : zR d 23 0 [some (.inr (.inr 12)), some (.inr (.inr 26))] [] SH mm = (zvd (zu (zcp (zcp mm 27 0 13 0 60) 28 0 14 0 60) 12 2 ((zcp (zcp mm 27 0 13 0 60) 28 0 14 0 60) 26 2))) := (zR_unf d 23 [] 22 0 _ _ _ _).trans rfl
set_option maxRecDepth 100000 in
theorem zb_X2_isFull_0 (d : Nat) (mm : zMm) : zR d 24 0 [some (.inr (.inr 12))] [] SH mm = (if (mm 12 2) < 60 then zok 0 mm else zok 1 mm) := (zR_unf d 24 [] 8 0 _ _ _ _).trans rfl
set_option maxRecDepth 100000 in
theorem zb_X2_has_0 (d : Nat) (a1 : Int) (mm : zMm) : zR d 25 0 [some (.inr (.inr 12)), some (.inl a1)] [] SH mm = (if a1 < 0 then zok 0 mm else if a1 < (mm 12 2) then if a1 < 60 then zok 1 mm else zok 0 mm else zok 0 mm) := (zR_unf d 25 [] 13 0 _ _ _ _).trans rfl
set_option maxRecDepth 100000 in
theorem zb_X2_append_0 (d : Nat) (a1 a2 : Int) (mm : zMm) : zR d 26 0 [some (.inr (.inr 12)), some (.inl a1), some (.inl a2)] [] SH mm = (if (mm 12 2) < 0 then zvd mm else if (mm 12 2) < 60 then if 0 ≤ (mm 12 2) ∧ (mm 12 2) < 60 then if 0 ≤ (mm 12 2) ∧ (mm 12 2) < 60 then zvd (zu (zu (zu mm 13 ((mm 12 2).toNat) a1) 14 ((mm 12 2).toNat) a2) 12 2 (zw ((mm 12 2) + 1))) else none else none else zvd mm) := (zR_unf d 26 [] 27 0 _ _ _ _).trans rfl
set_option maxRecDepth 100000 in
theorem zb_X2_wordAt_0 (d : Nat) (a1 : Int) (mm : zMm) : zR d 27 0 [some (.inr (.inr 12)), some (.inl a1)] [] SH mm = (zcI (zL d 25 [.inr (.inr 12), .inl a1] SH mm) fun x sh' mm' => zR d 27 5 [some (.inr (.inr 12)), some (.inl a1)] [.inl x] sh' mm') := (zR_unf d 27 [] 4 0 _ _ _ _).trans rfl
set_option maxRecDepth 100000 in
theorem zb_X2_wordAt_5 (d : Nat) (a1 s0 : Int) (mm : zMm) : zR d 27 5 [some (.inr (.inr 12)), some (.inl a1)] [.inl s0] SH mm = (if s0 = 0 then zok (-4) mm else if 0 ≤ a1 ∧ a1 < 60 then zok (mm 13 ((a1).toNat)) mm else none) := (zR_unf d 27 [] 8 5 _ _ _ _).trans rfl
set_option maxRecDepth 100000 in
theorem zb_X2_writerAt_0 (d : Nat) (a1 : Int) (mm : zMm) : zR d 28 0 [some (.inr (.inr 12)), some (.inl a1)] [] SH mm = (zcI (zL d 25 [.inr (.inr 12), .inl a1] SH mm) fun x sh' mm' => zR d 28 5 [some (.inr (.inr 12)), some (.inl a1)] [.inl x] sh' mm') := (zR_unf d 28 [] 4 0 _ _ _ _).trans rfl
set_option maxRecDepth 100000 in
theorem zb_X2_writerAt_5 (d : Nat) (a1 s0 : Int) (mm : zMm) : zR d 28 5 [some (.inr (.inr 12)), some (.inl a1)] [.inl s0] SH mm = (if s0 = 0 then zok (-4) mm else if 0 ≤ a1 ∧ a1 < 60 then zok (mm 14 ((a1).toNat)) mm else none) := (zR_unf d 28 [] 8 5 _ _ _ _).trans rfl
set_option maxRecDepth 100000 in
theorem zb_X2_known_0 (d : Nat) (mm : zMm) : zR d 29 0 [some (.inr (.inr 12)), none, none] [] SH mm = (zR d 29 4 [some (.inr (.inr 12)), some (.inl 0), some (.inl 0)] [] SH mm) := (zR_unf d 29 [4] 5 0 _ _ _ _).trans rfl
set_option maxRecDepth 100000 in
theorem zb_X2_known_4 (d : Nat) (a1 a2 : Int) (mm : zMm) : zR d 29 4 [some (.inr (.inr 12)), some (.inl a1), some (.inl a2)] [] SH mm = (if a2 < (mm 12 2) then zcI (zL d 28 [.inr (.inr 12), .inl a2] SH mm) fun x sh' mm' => zR d 29 17 [some (.inr (.inr 12)), some (.inl a1), some (.inl a2)] [.inl x] sh' mm' else zok a1 mm) := (zR_unf d 29 [4] 8 4 _ _ _ _).trans rfl
set_option maxRecDepth 100000 in
theorem zb_X2_known_17 (d : Nat) (a1 a2 s0 : Int) (mm : zMm) : zR d 29 17 [some (.inr (.inr 12)), some (.inl a1), some (.inl a2)] [.inl s0] SH mm = (if s0 < 0 then zR d 29 4 [some (.inr (.inr 12)), some (.inl a1), some (.inl (zw (a2 + 1)))] [] SH mm else zR d 29 4 [some (.inr (.inr 12)), some (.inl (zw (a1 + 1))), some (.inl (zw (a2 + 1)))] [] SH mm) := (zR_unf d 29 [4] 5 17 _ _ _ _).trans rfl
set_option maxRecDepth 100000 in
theorem zb_X2_habitOf_0 (d : Nat) (a1 a2 : Int) (mm : zMm) : zR d 30 0 [some (.inr (.inr 12)), some (.inl a1), some (.inl a2), none, none] [] SH mm = (zR d 30 5 [some (.inr (.inr 12)), some (.inl a1), some (.inl a2), some (.inl 0), some (.inl 0)] [] SH mm) := (zR_unf d 30 [5] 5 0 _ _ _ _).trans rfl
set_option maxRecDepth 100000 in
theorem zb_X2_habitOf_5 (d : Nat) (a1 a2 a3 a4 : Int) (mm : zMm) : zR d 30 5 [some (.inr (.inr 12)), some (.inl a1), some (.inl a2), some (.inl a3), some (.inl a4)] [] SH mm = (if a4 < (mm 12 2) then zcI (zL d 28 [.inr (.inr 12), .inl a4] SH mm) fun x sh' mm' => zR d 30 20 [some (.inr (.inr 12)), some (.inl a1), some (.inl a2), some (.inl a3), some (.inl a4)] [.inl x] sh' mm' else zok a3 mm) := (zR_unf d 30 [5] 8 5 _ _ _ _).trans rfl
set_option maxRecDepth 100000 in
theorem zb_X2_habitOf_20 (d : Nat) (a1 a2 a3 a4 s0 : Int) (mm : zMm) : zR d 30 20 [some (.inr (.inr 12)), some (.inl a1), some (.inl a2), some (.inl a3), some (.inl a4)] [.inl s0] SH mm = (if s0 = a1 then zcI (zL d 27 [.inr (.inr 12), .inl a4] SH mm) fun x sh' mm' => zR d 30 30 [some (.inr (.inr 12)), some (.inl a1), some (.inl a2), some (.inl a3), some (.inl a4)] [.inl x] sh' mm' else zR d 30 5 [some (.inr (.inr 12)), some (.inl a1), some (.inl a2), some (.inl a3), some (.inl (zw (a4 + 1)))] [] SH mm) := (zR_unf d 30 [5] 6 20 _ _ _ _).trans rfl
set_option maxRecDepth 100000 in
theorem zb_X2_habitOf_30 (d : Nat) (a1 a2 a3 a4 s0 : Int) (mm : zMm) : zR d 30 30 [some (.inr (.inr 12)), some (.inl a1), some (.inl a2), some (.inl a3), some (.inl a4)] [.inl s0] SH mm = (if s0 = a2 then zR d 30 5 [some (.inr (.inr 12)), some (.inl a1), some (.inl a2), some (.inl (zw (a3 + 1))), some (.inl (zw (a4 + 1)))] [] SH mm else zR d 30 5 [some (.inr (.inr 12)), some (.inl a1), some (.inl a2), some (.inl a3), some (.inl (zw (a4 + 1)))] [] SH mm) := (zR_unf d 30 [5] 6 30 _ _ _ _).trans rfl
set_option maxRecDepth 100000 in
theorem zb_X2_slip_0 (d : Nat) (mm : zMm) : zR d 31 0 [some (.inr (.inr 12))] [] SH mm = (zcI (zL d 32 [.inr (.inr 12), .inl (mm 12 2)] SH mm) fun x sh' mm' => zR d 31 8 [some (.inr (.inr 12))] [.inl x] sh' mm') := (zR_unf d 31 [] 5 0 _ _ _ _).trans rfl
set_option maxRecDepth 100000 in
theorem zb_X2_slip_8 (d : Nat) (s0 : Int) (mm : zMm) : zR d 31 8 [some (.inr (.inr 12))] [.inl s0] SH mm = (zok s0 mm) := (zR_unf d 31 [] 2 8 _ _ _ _).trans rfl
set_option maxRecDepth 100000 in
theorem zb_X2_slipAheadOf_0 (d : Nat) (a1 : Int) (mm : zMm) : zR d 32 0 [some (.inr (.inr 12)), some (.inl a1), none, none] [] SH mm = (zcI (zL d 88 [.inl 0, .inl (zw (a1 - 3))] SH mm) fun x sh' mm' => zR d 32 9 [some (.inr (.inr 12)), some (.inl a1), some (.inl 1), none] [.inl x] sh' mm') := (zR_unf d 32 [10] 8 0 _ _ _ _).trans rfl
set_option maxRecDepth 100000 in
theorem zb_X2_slipAheadOf_9 (d : Nat) (a1 a2 s0 : Int) (mm : zMm) : zR d 32 9 [some (.inr (.inr 12)), some (.inl a1), some (.inl a2), none] [.inl s0] SH mm = (zR d 32 10 [some (.inr (.inr 12)), some (.inl a1), some (.inl a2), some (.inl s0)] [] SH mm) := (zR_unf d 32 [10] 2 9 _ _ _ _).trans rfl
set_option maxRecDepth 100000 in
theorem zb_X2_slipAheadOf_10 (d : Nat) (a1 a2 a3 : Int) (mm : zMm) : zR d 32 10 [some (.inr (.inr 12)), some (.inl a1), some (.inl a2), some (.inl a3)] [] SH mm = (if a3 < a1 then zcI (zL d 27 [.inr (.inr 12), .inl a3] SH mm) fun x sh' mm' => zR d 32 21 [some (.inr (.inr 12)), some (.inl a1), some (.inl a2), some (.inl a3)] [.inl x, .inl a2] sh' mm' else zok a2 mm) := (zR_unf d 32 [10] 8 10 _ _ _ _).trans rfl
set_option maxRecDepth 100000 in
theorem zb_X2_slipAheadOf_21 (d : Nat) (a1 a2 a3 s0 s1 : Int) (mm : zMm) : zR d 32 21 [some (.inr (.inr 12)), some (.inl a1), some (.inl a2), some (.inl a3)] [.inl s1, .inl s0] SH mm = (zcI (zL d 83 [.inl s0, .inl s1] SH mm) fun x sh' mm' => zR d 32 24 [some (.inr (.inr 12)), some (.inl a1), some (.inl a2), some (.inl a3)] [.inl x] sh' mm') := (zR_unf d 32 [10] 2 21 _ _ _ _).trans rfl
set_option maxRecDepth 100000 in
theorem zb_X2_slipAheadOf_24 (d : Nat) (a1 a2 a3 s0 : Int) (mm : zMm) : zR d 32 24 [some (.inr (.inr 12)), some (.inl a1), some (.inl a2), some (.inl a3)] [.inl s0] SH mm = (zR d 32 10 [some (.inr (.inr 12)), some (.inl a1), some (.inl s0), some (.inl (zw (a3 + 1)))] [] SH mm) := (zR_unf d 32 [10] 4 24 _ _ _ _).trans rfl
set_option maxRecDepth 100000 in
theorem zb_X6_copyFromK_0 (d : Nat) (mm : zMm) : zR d 42 0 [some (.inr (.inr 16)), some (.inr (.inr 2))] [] SH mm = (zvd (zu (zcp (zcp (zcp mm 3 0 17 0 8) 4 0 18 0 6) 5 0 19 0 6) 16 3 ((zcp (zcp (zcp mm 3 0 17 0 8) 4 0 18 0 6) 5 0 19 0 6) 2 3))) := (zR_unf d 42 [] 30 0 _ _ _ _).trans rfl
set_option maxRecDepth 100000 in
theorem zb_X6_copyFromN_0 (d : Nat) (mm : zMm) : zR d 42 0 [some (.inr (.inr 2)), some (.inr (.inr 16))] [] SH mm = (zvd (zu (zcp (zcp (zcp mm 17 0 3 0 8) 18 0 4 0 6) 19 0 5 0 6) 2 3 ((zcp (zcp (zcp mm 17 0 3 0 8) 18 0 4 0 6) 19 0 5 0 6) 16 3))) := (zR_unf d 42 [] 30 0 _ _ _ _).trans rfl
set_option maxRecDepth 100000 in
theorem zb_X6_changeFollowing_0 (d : Nat) (a1 a2 : Int) (mm : zMm) : zR d 43 0 [some (.inr (.inr 2)), some (.inl a1), some (.inl a2), none] [] SH mm = (if a1 < 0 then zok (-1) mm else if a1 < 8 then if 0 ≤ a1 ∧ a1 < 8 then if 0 ≤ a1 ∧ a1 < 8 then zok (mm 3 ((a1).toNat)) (zu mm 3 ((a1).toNat) a2) else none else none else zok (-1) mm) := (zR_unf d 43 [] 20 0 _ _ _ _).trans rfl
set_option maxRecDepth 100000 in
theorem zb_X6_appendLine_0 (d : Nat) (a1 a2 : Int) (mm : zMm) : zR d 44 0 [some (.inr (.inr 2)), some (.inl a1), some (.inl a2)] [] SH mm = (if (mm 2 3) < 0 then zok (-3) mm else if (mm 2 3) < 6 then if 0 ≤ (mm 2 3) ∧ (mm 2 3) < 6 then if 0 ≤ (mm 2 3) ∧ (mm 2 3) < 6 then zok (zw ((zw ((mm 2 3) + 1)) - 1)) (zu (zu (zu mm 4 ((mm 2 3).toNat) a1) 5 ((mm 2 3).toNat) a2) 2 3 (zw ((mm 2 3) + 1))) else none else none else zok (-3) mm) := (zR_unf d 44 [] 31 0 _ _ _ _).trans rfl
set_option maxRecDepth 100000 in
theorem zb_X6_mayCome_0 (d : Nat) (a1 a2 : Int) (mm : zMm) : zR d 45 0 [some (.inr (.inr 2)), some (.inl a1), some (.inl a2), none, none, none] [] SH mm = (if a1 < 8 then zR d 45 25 [some (.inr (.inr 2)), some (.inl a1), some (.inl a2), some (.inl 255), some (.inl 0), none] [] SH mm else if 0 ≤ (zand a1 7) ∧ (zand a1 7) < 8 then zR d 45 25 [some (.inr (.inr 2)), some (.inl a1), some (.inl a2), some (.inl (mm 3 ((zand a1 7).toNat))), some (.inl 0), none] [] SH mm else none) := (zR_unf d 45 [25] 13 0 _ _ _ _).trans rfl
set_option maxRecDepth 100000 in
theorem zb_X6_mayCome_25 (d : Nat) (a1 a2 a3 a4 : Int) (mm : zMm) : zR d 45 25 [some (.inr (.inr 2)), some (.inl a1), some (.inl a2), some (.inl a3), some (.inl a4), none] [] SH mm = (if a4 < (mm 2 3) then if a4 < 6 then if 0 ≤ a4 ∧ a4 < 6 then if (zw ((mm 5 ((a4).toNat)) - 1)) < a2 then if 0 ≤ a4 ∧ a4 < 6 then zcI (zL d 84 [.inl a1, .inl (zshr (mm 4 ((a4).toNat)) 3), .inl (zw ((mm 5 ((a4).toNat)) - 1))] SH mm) fun x sh' mm' => zR d 45 73 [some (.inr (.inr 2)), some (.inl a1), some (.inl a2), some (.inl a3), some (.inl a4), some (.inl (zw ((mm 5 ((a4).toNat)) - 1)))] [.inl x] sh' mm' else none else zR d 45 25 [some (.inr (.inr 2)), some (.inl a1), some (.inl a2), some (.inl a3), some (.inl (zw (a4 + 1))), some (.inl (zw ((mm 5 ((a4).toNat)) - 1)))] [] SH mm else none else zok a3 mm else zok a3 mm) := (zR_unf d 45 [25] 27 25 _ _ _ _).trans rfl
set_option maxRecDepth 100000 in
theorem zb_X6_mayCome_73 (d : Nat) (a1 a2 a3 a4 a5 s0 : Int) (mm : zMm) : zR d 45 73 [some (.inr (.inr 2)), some (.inl a1), some (.inl a2), some (.inl a3), some (.inl a4), some (.inl a5)] [.inl s0] SH mm = (if s0 = 0 then zR d 45 25 [some (.inr (.inr 2)), some (.inl a1), some (.inl a2), some (.inl a3), some (.inl (zw (a4 + 1))), some (.inl a5)] [] SH mm else if 0 ≤ a4 ∧ a4 < 6 then zR d 45 25 [some (.inr (.inr 2)), some (.inl a1), some (.inl a2), some (.inl (zand a3 (zxor (zshl 1 (zand (mm 4 ((a4).toNat)) 7)) (-1)))), some (.inl (zw (a4 + 1))), some (.inl a5)] [] SH mm else none) := (zR_unf d 45 [25] 17 73 _ _ _ _).trans rfl
set_option maxRecDepth 100000 in
theorem zb_X6_lineAtEndOf_0 (d : Nat) (a1 a2 : Int) (mm : zMm) : zR d 46 0 [some (.inr (.inr 2)), some (.inl a1), some (.inl a2), none, none] [] SH mm = (zR d 46 2 [some (.inr (.inr 2)), some (.inl a1), some (.inl a2), some (.inl 0), none] [] SH mm) := (zR_unf d 46 [2] 3 0 _ _ _ _).trans rfl
set_option maxRecDepth 100000 in
theorem zb_X6_lineAtEndOf_2 (d : Nat) (a1 a2 a3 : Int) (mm : zMm) : zR d 46 2 [some (.inr (.inr 2)), some (.inl a1), some (.inl a2), some (.inl a3), none] [] SH mm = (if a3 < (mm 2 3) then if a3 < 6 then if 0 ≤ a3 ∧ a3 < 6 then if 0 ≤ a3 ∧ a3 < 6 then if a2 < (mm 5 ((a3).toNat)) then zR d 46 2 [some (.inr (.inr 2)), some (.inl a1), some (.inl a2), some (.inl (zw (a3 + 1))), some (.inl (zw ((zshl 1 (zw (3 * (mm 5 ((a3).toNat))))) - 1)))] [] SH mm else if 0 ≤ a3 ∧ a3 < 6 then if (zand a1 (zw ((zshl 1 (zw (3 * (mm 5 ((a3).toNat))))) - 1))) = (mm 4 ((a3).toNat)) then zok a3 mm else zR d 46 2 [some (.inr (.inr 2)), some (.inl a1), some (.inl a2), some (.inl (zw (a3 + 1))), some (.inl (zw ((zshl 1 (zw (3 * (mm 5 ((a3).toNat))))) - 1)))] [] SH mm else none else none else none else zok (-4) mm else zok (-4) mm) := (zR_unf d 46 [2] 35 2 _ _ _ _).trans rfl
set_option maxRecDepth 100000 in
theorem zb_X6_lengthOfLine_0 (d : Nat) (a1 : Int) (mm : zMm) : zR d 47 0 [some (.inr (.inr 2)), some (.inl a1)] [] SH mm = (if a1 < 0 then zok 0 mm else if a1 < 6 then if 0 ≤ a1 ∧ a1 < 6 then zok (mm 5 ((a1).toNat)) mm else none else zok 0 mm) := (zR_unf d 47 [] 12 0 _ _ _ _).trans rfl
set_option maxRecDepth 100000 in
theorem zb_X7_copyFromK_0 (d : Nat) (mm : zMm) : zR d 49 0 [some (.inr (.inr 24)), some (.inr (.inr 10))] [] SH mm = (if ((zcp mm 11 0 25 0 6) 10 4) = 0 ∨ ((zcp mm 11 0 25 0 6) 10 4) = 1 then zvd (zu (zu (zu (zcp mm 11 0 25 0 6) 24 2 ((zcp mm 11 0 25 0 6) 10 2)) 24 3 ((zcp mm 11 0 25 0 6) 10 3)) 24 4 ((zcp mm 11 0 25 0 6) 10 4)) else none) := (zR_unf d 49 [] 22 0 _ _ _ _).trans rfl
set_option maxRecDepth 100000 in
theorem zb_X7_copyFromN_0 (d : Nat) (mm : zMm) : zR d 49 0 [some (.inr (.inr 10)), some (.inr (.inr 24))] [] SH mm = (if ((zcp mm 25 0 11 0 6) 24 4) = 0 ∨ ((zcp mm 25 0 11 0 6) 24 4) = 1 then zvd (zu (zu (zu (zcp mm 25 0 11 0 6) 10 2 ((zcp mm 25 0 11 0 6) 24 2)) 10 3 ((zcp mm 25 0 11 0 6) 24 3)) 10 4 ((zcp mm 25 0 11 0 6) 24 4)) else none) := (zR_unf d 49 [] 22 0 _ _ _ _).trans rfl
set_option maxRecDepth 100000 in
theorem zb_X7_takeSeat_0 (d : Nat) (a1 : Int) (mm : zMm) : zR d 50 0 [some (.inr (.inr 10)), some (.inl a1)] [] SH mm = (if a1 < 0 then zvd mm else if a1 < 6 then if 0 ≤ a1 ∧ a1 < 6 then zvd (zu mm 11 ((a1).toNat) a1) else none else zvd mm) := (zR_unf d 50 [] 12 0 _ _ _ _).trans rfl
set_option maxRecDepth 100000 in
theorem zb_X7_cellOn_0 (d : Nat) (a1 : Int) (mm : zMm) : zR d 51 0 [some (.inr (.inr 10)), some (.inl a1)] [] SH mm = (zcI (zL d 2 [.inr (.inr 6), .inl a1] SH mm) fun x sh' mm' => zR d 51 8 [some (.inr (.inr 10)), some (.inl a1)] [.inl x] sh' mm') := (zR_unf d 51 [] 5 0 _ _ _ _).trans rfl
set_option maxRecDepth 100000 in
theorem zb_X7_cellOn_8 (d : Nat) (a1 s0 : Int) (mm : zMm) : zR d 51 8 [some (.inr (.inr 10)), some (.inl a1)] [.inl s0] SH mm = (if s0 = 0 then zok (-4) mm else if 0 ≤ a1 ∧ a1 < 6 then zok (mm 11 ((a1).toNat)) mm else none) := (zR_unf d 51 [] 8 8 _ _ _ _).trans rfl
set_option maxRecDepth 100000 in
theorem zb_X7_seatOf_0 (d : Nat) (a1 : Int) (mm : zMm) : zR d 52 0 [some (.inr (.inr 10)), some (.inl a1), none] [] SH mm = (zR d 52 2 [some (.inr (.inr 10)), some (.inl a1), some (.inl 0)] [] SH mm) := (zR_unf d 52 [2] 3 0 _ _ _ _).trans rfl
set_option maxRecDepth 100000 in
theorem zb_X7_seatOf_2 (d : Nat) (a1 a2 : Int) (mm : zMm) : zR d 52 2 [some (.inr (.inr 10)), some (.inl a1), some (.inl a2)] [] SH mm = (if a2 < 6 then zcI (zL d 51 [.inr (.inr 10), .inl a2] SH mm) fun x sh' mm' => zR d 52 13 [some (.inr (.inr 10)), some (.inl a1), some (.inl a2)] [.inl x] sh' mm' else zok (-4) mm) := (zR_unf d 52 [2] 7 2 _ _ _ _).trans rfl
set_option maxRecDepth 100000 in
theorem zb_X7_seatOf_13 (d : Nat) (a1 a2 s0 : Int) (mm : zMm) : zR d 52 13 [some (.inr (.inr 10)), some (.inl a1), some (.inl a2)] [.inl s0] SH mm = (if s0 = a1 then zok a2 mm else zR d 52 2 [some (.inr (.inr 10)), some (.inl a1), some (.inl (zw (a2 + 1)))] [] SH mm) := (zR_unf d 52 [2] 5 13 _ _ _ _).trans rfl
set_option maxRecDepth 100000 in
theorem zb_X7_changeSeats_0 (d : Nat) (a1 a2 : Int) (mm : zMm) : zR d 53 0 [some (.inr (.inr 10)), some (.inl a1), some (.inl a2), none, none] [] SH mm = (zcI (zL d 52 [.inr (.inr 10), .inl a1] SH mm) fun x sh' mm' => zR d 53 5 [some (.inr (.inr 10)), some (.inl a1), some (.inl a2), none, none] [.inl x] sh' mm') := (zR_unf d 53 [] 4 0 _ _ _ _).trans rfl
set_option maxRecDepth 100000 in
theorem zb_X7_changeSeats_5 (d : Nat) (a1 a2 s0 : Int) (mm : zMm) : zR d 53 5 [some (.inr (.inr 10)), some (.inl a1), some (.inl a2), none, none] [.inl s0] SH mm = (zcI (zL d 52 [.inr (.inr 10), .inl a2] SH mm) fun x sh' mm' => zR d 53 11 [some (.inr (.inr 10)), some (.inl a1), some (.inl a2), some (.inl s0), none] [.inl x] sh' mm') := (zR_unf d 53 [] 5 5 _ _ _ _).trans rfl
set_option maxRecDepth 100000 in
theorem zb_X7_changeSeats_11 (d : Nat) (a1 a2 a3 s0 : Int) (mm : zMm) : zR d 53 11 [some (.inr (.inr 10)), some (.inl a1), some (.inl a2), some (.inl a3), none] [.inl s0] SH mm = (zcI (zL d 2 [.inr (.inr 6), .inl a3] SH mm) fun x sh' mm' => zR d 53 21 [some (.inr (.inr 10)), some (.inl a1), some (.inl a2), some (.inl a3), some (.inl s0)] [.inl x] sh' mm') := (zR_unf d 53 [] 6 11 _ _ _ _).trans rfl
set_option maxRecDepth 100000 in
theorem zb_X7_changeSeats_21 (d : Nat) (a1 a2 a3 a4 s0 : Int) (mm : zMm) : zR d 53 21 [some (.inr (.inr 10)), some (.inl a1), some (.inl a2), some (.inl a3), some (.inl a4)] [.inl s0] SH mm = (if s0 = 0 then zvd mm else zcI (zL d 2 [.inr (.inr 6), .inl a4] SH mm) fun x sh' mm' => zR d 53 33 [some (.inr (.inr 10)), some (.inl a1), some (.inl a2), some (.inl a3), some (.inl a4)] [.inl x] sh' mm') := (zR_unf d 53 [] 6 21 _ _ _ _).trans rfl
set_option maxRecDepth 100000 in
theorem zb_X7_changeSeats_33 (d : Nat) (a1 a2 a3 a4 s0 : Int) (mm : zMm) : zR d 53 33 [some (.inr (.inr 10)), some (.inl a1), some (.inl a2), some (.inl a3), some (.inl a4)] [.inl s0] SH mm = (if s0 = 0 then zvd mm else if 0 ≤ a3 ∧ a3 < 6 then if 0 ≤ a4 ∧ a4 < 6 then zvd (zu (zu mm 11 ((a3).toNat) a2) 11 ((a4).toNat) a1) else none else none) := (zR_unf d 53 [] 13 33 _ _ _ _).trans rfl
set_option maxRecDepth 100000 in
theorem zb_X7_seatOfTurn_0 (d : Nat) (mm : zMm) : zR d 54 0 [some (.inr (.inr 10))] [] SH mm = (zcI (zL d 51 [.inr (.inr 10), .inl (mm 10 2)] SH mm) fun x sh' mm' => zR d 54 12 [some (.inr (.inr 10))] [.inl x, .inr (.inr 6)] sh' mm') := (zR_unf d 54 [] 7 0 _ _ _ _).trans rfl
set_option maxRecDepth 100000 in
theorem zb_X7_seatOfTurn_12 (d : Nat) (s1 : Int) (mm : zMm) : zR d 54 12 [some (.inr (.inr 10))] [.inl s1, .inr (.inr 6)] SH mm = (zcI (zL d 5 [.inr (.inr 6), .inl s1] SH mm) fun x sh' mm' => zR d 54 15 [some (.inr (.inr 10))] [.inl x] sh' mm') := (zR_unf d 54 [] 2 12 _ _ _ _).trans rfl
set_option maxRecDepth 100000 in
theorem zb_X7_seatOfTurn_15 (d : Nat) (s0 : Int) (mm : zMm) : zR d 54 15 [some (.inr (.inr 10))] [.inl s0] SH mm = (if s0 = 0 then zcI (zL d 55 [.inr (.inr 10), .inl (mm 10 2)] SH mm) fun x sh' mm' => zR d 54 33 [some (.inr (.inr 10))] [.inl x] sh' mm' else zok (mm 10 2) mm) := (zR_unf d 54 [] 6 15 _ _ _ _).trans rfl
set_option maxRecDepth 100000 in
theorem zb_X7_seatOfTurn_33 (d : Nat) (s0 : Int) (mm : zMm) : zR d 54 33 [some (.inr (.inr 10))] [.inl s0] SH mm = (zok s0 mm) := (zR_unf d 54 [] 2 33 _ _ _ _).trans rfl
set_option maxRecDepth 100000 in
theorem zb_X7_seatBehind_0 (d : Nat) (a1 : Int) (mm : zMm) : zR d 55 0 [some (.inr (.inr 10)), some (.inl a1)] [] SH mm = (if (mm 10 4) = 0 then zcI (zL d 56 [.inr (.inr 10), .inl a1, .inl 1] SH mm) fun x sh' mm' => zR d 55 17 [some (.inr (.inr 10)), some (.inl a1)] [.inl x] sh' mm' else zcI (zL d 56 [.inr (.inr 10), .inl a1, .inl (-1)] SH mm) fun x sh' mm' => zR d 55 17 [some (.inr (.inr 10)), some (.inl a1)] [.inl x] sh' mm') := (zR_unf d 55 [] 9 0 _ _ _ _).trans rfl
set_option maxRecDepth 100000 in
theorem zb_X7_seatBehind_17 (d : Nat) (a1 s0 : Int) (mm : zMm) : zR d 55 17 [some (.inr (.inr 10)), some (.inl a1)] [.inl s0] SH mm = (zok s0 mm) := (zR_unf d 55 [] 2 17 _ _ _ _).trans rfl
set_option maxRecDepth 100000 in
theorem zb_X7_livingSeatPast_0 (d : Nat) (a1 a2 : Int) (mm : zMm) : zR d 56 0 [some (.inr (.inr 10)), some (.inl a1), some (.inl a2), none, none, none] [] SH mm = (zR d 56 11 [some (.inr (.inr 10)), some (.inl a1), some (.inl a2), some (.inl (mm 6 3)), some (.inl 1), none] [] SH mm) := (zR_unf d 56 [11] 7 0 _ _ _ _).trans rfl
set_option maxRecDepth 100000 in
theorem zb_X7_livingSeatPast_11 (d : Nat) (a1 a2 a3 a4 : Int) (mm : zMm) : zR d 56 11 [some (.inr (.inr 10)), some (.inl a1), some (.inl a2), some (.inl a3), some (.inl a4), none] [] SH mm = (if a3 < a4 then zok (-4) mm else if 0 < a3 then zcI (zL d 87 [.inl (zw (a1 + (zw (a4 * a2)))), .inl a3] SH mm) fun x sh' mm' => zR d 56 31 [some (.inr (.inr 10)), some (.inl a1), some (.inl a2), some (.inl a3), some (.inl a4), none] [.inl x] sh' mm' else zcI (zL d 51 [.inr (.inr 10), .inl 0] SH mm) fun x sh' mm' => zR d 56 47 [some (.inr (.inr 10)), some (.inl a1), some (.inl a2), some (.inl a3), some (.inl a4), some (.inl 0)] [.inl x, .inr (.inr 6)] sh' mm') := (zR_unf d 56 [11] 13 11 _ _ _ _).trans rfl
set_option maxRecDepth 100000 in
theorem zb_X7_livingSeatPast_31 (d : Nat) (a1 a2 a3 a4 s0 : Int) (mm : zMm) : zR d 56 31 [some (.inr (.inr 10)), some (.inl a1), some (.inl a2), some (.inl a3), some (.inl a4), none] [.inl s0] SH mm = (zcI (zL d 51 [.inr (.inr 10), .inl s0] SH mm) fun x sh' mm' => zR d 56 47 [some (.inr (.inr 10)), some (.inl a1), some (.inl a2), some (.inl a3), some (.inl a4), some (.inl s0)] [.inl x, .inr (.inr 6)] sh' mm') := (zR_unf d 56 [11] 8 31 _ _ _ _).trans rfl
set_option maxRecDepth 100000 in
theorem zb_X7_livingSeatPast_47 (d : Nat) (a1 a2 a3 a4 a5 s1 : Int) (mm : zMm) : zR d 56 47 [some (.inr (.inr 10)), some (.inl a1), some (.inl a2), some (.inl a3), some (.inl a4), some (.inl a5)] [.inl s1, .inr (.inr 6)] SH mm = (zcI (zL d 5 [.inr (.inr 6), .inl s1] SH mm) fun x sh' mm' => zR d 56 50 [some (.inr (.inr 10)), some (.inl a1), some (.inl a2), some (.inl a3), some (.inl a4), some (.inl a5)] [.inl x] sh' mm') := (zR_unf d 56 [11] 2 47 _ _ _ _).trans rfl
set_option maxRecDepth 100000 in
theorem zb_X7_livingSeatPast_50 (d : Nat) (a1 a2 a3 a4 a5 s0 : Int) (mm : zMm) : zR d 56 50 [some (.inr (.inr 10)), some (.inl a1), some (.inl a2), some (.inl a3), some (.inl a4), some (.inl a5)] [.inl s0] SH mm = (if s0 = 0 then zR d 56 11 [some (.inr (.inr 10)), some (.inl a1), some (.inl a2), some (.inl a3), some (.inl (zw (a4 + 1))), some (.inl a5)] [] SH mm else zok a5 mm) := (zR_unf d 56 [11] 4 50 _ _ _ _).trans rfl
set_option maxRecDepth 100000 in
theorem zb_X7_goOn_0 (d : Nat) (mm : zMm) : zR d 57 0 [some (.inr (.inr 10))] [] SH mm = (zcI (zL d 54 [.inr (.inr 10)] SH mm) fun x sh' mm' => zR d 57 6 [some (.inr (.inr 10))] [.inl x, .inr (.inr 10), .inr (.inr 10)] sh' mm') := (zR_unf d 57 [] 5 0 _ _ _ _).trans rfl
set_option maxRecDepth 100000 in
theorem zb_X7_goOn_6 (d : Nat) (s2 : Int) (mm : zMm) : zR d 57 6 [some (.inr (.inr 10))] [.inl s2, .inr (.inr 10), .inr (.inr 10)] SH mm = (zcI (zL d 55 [.inr (.inr 10), .inl s2] SH mm) fun x sh' mm' => zR d 57 9 [some (.inr (.inr 10))] [.inl x, .inr (.inr 10)] sh' mm') := (zR_unf d 57 [] 2 6 _ _ _ _).trans rfl
set_option maxRecDepth 100000 in
theorem zb_X7_goOn_9 (d : Nat) (s1 : Int) (mm : zMm) : zR d 57 9 [some (.inr (.inr 10))] [.inl s1, .inr (.inr 10)] SH mm = (zvd (zu (zu mm 10 2 s1) 10 3 (zw ((mm 10 3) + 1)))) := (zR_unf d 57 [] 9 9 _ _ _ _).trans rfl
set_option maxRecDepth 100000 in
theorem zb_J6_bitCount_0f7a4_0 (d : Nat) (a0 : Int) (mm : zMm) : zR d 86 0 [some (.inl a0)] [] SH mm = (zok (zand (zw ((zw ((zand (zw ((zw ((zand (zw (a0 - (zand (zush a0 1) 1431655765))) 858993459) + (zand (zush (zw (a0 - (zand (zush a0 1) 1431655765))) 2) 858993459))) + (zush (zw ((zand (zw (a0 - (zand (zush a0 1) 1431655765))) 858993459) + (zand (zush (zw (a0 - (zand (zush a0 1) 1431655765))) 2) 858993459))) 4))) 252645135) + (zush (zand (zw ((zw ((zand (zw (a0 - (zand (zush a0 1) 1431655765))) 858993459) + (zand (zush (zw (a0 - (zand (zush a0 1) 1431655765))) 2) 858993459))) + (zush (zw ((zand (zw (a0 - (zand (zush a0 1) 1431655765))) 858993459) + (zand (zush (zw (a0 - (zand (zush a0 1) 1431655765))) 2) 858993459))) 4))) 252645135) 8))) + (zush (zw ((zand (zw ((zw ((zand (zw (a0 - (zand (zush a0 1) 1431655765))) 858993459) + (zand (zush (zw (a0 - (zand (zush a0 1) 1431655765))) 2) 858993459))) + (zush (zw ((zand (zw (a0 - (zand (zush a0 1) 1431655765))) 858993459) + (zand (zush (zw (a0 - (zand (zush a0 1) 1431655765))) 2) 858993459))) 4))) 252645135) + (zush (zand (zw ((zw ((zand (zw (a0 - (zand (zush a0 1) 1431655765))) 858993459) + (zand (zush (zw (a0 - (zand (zush a0 1) 1431655765))) 2) 858993459))) + (zush (zw ((zand (zw (a0 - (zand (zush a0 1) 1431655765))) 858993459) + (zand (zush (zw (a0 - (zand (zush a0 1) 1431655765))) 2) 858993459))) 4))) 252645135) 8))) 16))) 63) mm) := (zR_unf d 86 [] 43 0 _ _ _ _).trans rfl
set_option maxRecDepth 100000 in
theorem zb_J9_floorMod_7cf53_0 (d : Nat) (a0 a1 : Int) (mm : zMm) : zR d 87 0 [some (.inl a0), some (.inl a1), none] [] SH mm = (if a1 = 0 then none else if (zxor a0 a1) < 0 then if (zrem a0 a1) = 0 then zok (zrem a0 a1) mm else zok (zw ((zrem a0 a1) + a1)) mm else zok (zrem a0 a1) mm) := (zR_unf d 87 [] 15 0 _ _ _ _).trans rfl
set_option maxRecDepth 100000 in
theorem zb_J9_max_7cf53_0 (d : Nat) (a0 a1 : Int) (mm : zMm) : zR d 88 0 [some (.inl a0), some (.inl a1)] [] SH mm = (if a0 < a1 then zok a1 mm else zok a0 mm) := (zR_unf d 88 [] 7 0 _ _ _ _).trans rfl
end
section
set_option maxRecDepth 100000 in
theorem zb_X1_copyFromK_0 (d : Nat) (mm : zMm) : zR d 13 0 [some (.inr (.inr 15)), some (.inr (.inr 1))] [] SH mm = (zcV (zL d 42 [.inr (.inr 16), .inr (.inr 2)] SH mm) fun sh' mm' => zR d 13 11 [some (.inr (.inr 15)), some (.inr (.inr 1))] [] sh' mm') := (zR_unf d 13 [] 6 0 _ _ _ _).trans rfl
set_option maxRecDepth 100000 in
theorem zb_X1_copyFromK_11 (d : Nat) (mm : zMm) : zR d 13 11 [some (.inr (.inr 15)), some (.inr (.inr 1))] [] SH mm = (zcV (zL d 1 [.inr (.inr 20), .inr (.inr 6)] SH mm) fun sh' mm' => zR d 13 22 [some (.inr (.inr 15)), some (.inr (.inr 1))] [] sh' mm') := (zR_unf d 13 [] 6 11 _ _ _ _).trans rfl
set_option maxRecDepth 100000 in
theorem zb_X1_copyFromK_22 (d : Nat) (mm : zMm) : zR d 13 22 [some (.inr (.inr 15)), some (.inr (.inr 1))] [] SH mm = (zcV (zL d 49 [.inr (.inr 24), .inr (.inr 10)] SH mm) fun sh' mm' => zR d 13 33 [some (.inr (.inr 15)), some (.inr (.inr 1))] [] sh' mm') := (zR_unf d 13 [] 6 22 _ _ _ _).trans rfl
set_option maxRecDepth 100000 in
theorem zb_X1_copyFromK_33 (d : Nat) (mm : zMm) : zR d 13 33 [some (.inr (.inr 15)), some (.inr (.inr 1))] [] SH mm = (zcV (zL d 23 [.inr (.inr 26), .inr (.inr 12)] SH mm) fun sh' mm' => zR d 13 44 [some (.inr (.inr 15)), some (.inr (.inr 1))] [] sh' mm') := (zR_unf d 13 [] 6 33 _ _ _ _).trans rfl
set_option maxRecDepth 100000 in
theorem zb_X1_copyFromK_44 (d : Nat) (mm : zMm) : zR d 13 44 [some (.inr (.inr 15)), some (.inr (.inr 1))] [] SH mm = (zvd (zu mm 15 4 (mm 1 4))) := (zR_unf d 13 [] 6 44 _ _ _ _).trans rfl
set_option maxRecDepth 100000 in
theorem zb_X1_copyFromN_0 (d : Nat) (mm : zMm) : zR d 13 0 [some (.inr (.inr 1)), some (.inr (.inr 15))] [] SH mm = (zcV (zL d 42 [.inr (.inr 2), .inr (.inr 16)] SH mm) fun sh' mm' => zR d 13 11 [some (.inr (.inr 1)), some (.inr (.inr 15))] [] sh' mm') := (zR_unf d 13 [] 6 0 _ _ _ _).trans rfl
set_option maxRecDepth 100000 in
theorem zb_X1_copyFromN_11 (d : Nat) (mm : zMm) : zR d 13 11 [some (.inr (.inr 1)), some (.inr (.inr 15))] [] SH mm = (zcV (zL d 1 [.inr (.inr 6), .inr (.inr 20)] SH mm) fun sh' mm' => zR d 13 22 [some (.inr (.inr 1)), some (.inr (.inr 15))] [] sh' mm') := (zR_unf d 13 [] 6 11 _ _ _ _).trans rfl
set_option maxRecDepth 100000 in
theorem zb_X1_copyFromN_22 (d : Nat) (mm : zMm) : zR d 13 22 [some (.inr (.inr 1)), some (.inr (.inr 15))] [] SH mm = (zcV (zL d 49 [.inr (.inr 10), .inr (.inr 24)] SH mm) fun sh' mm' => zR d 13 33 [some (.inr (.inr 1)), some (.inr (.inr 15))] [] sh' mm') := (zR_unf d 13 [] 6 22 _ _ _ _).trans rfl
set_option maxRecDepth 100000 in
theorem zb_X1_copyFromN_33 (d : Nat) (mm : zMm) : zR d 13 33 [some (.inr (.inr 1)), some (.inr (.inr 15))] [] SH mm = (zcV (zL d 23 [.inr (.inr 12), .inr (.inr 26)] SH mm) fun sh' mm' => zR d 13 44 [some (.inr (.inr 1)), some (.inr (.inr 15))] [] sh' mm') := (zR_unf d 13 [] 6 33 _ _ _ _).trans rfl
set_option maxRecDepth 100000 in
theorem zb_X1_copyFromN_44 (d : Nat) (mm : zMm) : zR d 13 44 [some (.inr (.inr 1)), some (.inr (.inr 15))] [] SH mm = (zvd (zu mm 1 4 (mm 15 4))) := (zR_unf d 13 [] 6 44 _ _ _ _).trans rfl
set_option maxRecDepth 100000 in
theorem zb_X1_canCome_0 (d : Nat) (a1 a2 : Int) (mm : zMm) : zR d 14 0 [some (.inr (.inr 1)), some (.inl a1), some (.inl a2)] [] SH mm = (zcI (zL d 4 [.inr (.inr 6), .inl a1] SH mm) fun x sh' mm' => zR d 14 8 [some (.inr (.inr 1)), some (.inl a1), some (.inl a2)] [.inl x] sh' mm') := (zR_unf d 14 [] 5 0 _ _ _ _).trans rfl
set_option maxRecDepth 100000 in
theorem zb_X1_canCome_8 (d : Nat) (a1 a2 s0 : Int) (mm : zMm) : zR d 14 8 [some (.inr (.inr 1)), some (.inl a1), some (.inl a2)] [.inl s0] SH mm = (if s0 = 1 then zcI (zL d 11 [.inr (.inr 6), .inl a1] SH mm) fun x sh' mm' => zR d 14 46 [some (.inr (.inr 1)), some (.inl a1), some (.inl a2)] [.inl x] sh' mm' else if s0 = 2 then zcI (zL d 11 [.inr (.inr 6), .inl a1] SH mm) fun x sh' mm' => zR d 14 55 [some (.inr (.inr 1)), some (.inl a1), some (.inl a2)] [.inl x] sh' mm' else if s0 = 3 then zok 0 mm else zcI (zL d 11 [.inr (.inr 6), .inl a1] SH mm) fun x sh' mm' => zR d 14 74 [some (.inr (.inr 1)), some (.inl a1), some (.inl a2)] [.inl x] sh' mm') := (zR_unf d 14 [] 6 8 _ _ _ _).trans rfl
set_option maxRecDepth 100000 in
theorem zb_X1_canCome_74 (d : Nat) (a1 a2 s0 : Int) (mm : zMm) : zR d 14 74 [some (.inr (.inr 1)), some (.inl a1), some (.inl a2)] [.inl s0] SH mm = (zcI (zL d 45 [.inr (.inr 2), .inl a2, .inl 4] SH mm) fun x sh' mm' => zR d 14 83 [some (.inr (.inr 1)), some (.inl a1), some (.inl a2)] [.inl x, .inl s0] sh' mm') := (zR_unf d 14 [] 6 74 _ _ _ _).trans rfl
set_option maxRecDepth 100000 in
theorem zb_X1_canCome_55 (d : Nat) (a1 a2 s0 : Int) (mm : zMm) : zR d 14 55 [some (.inr (.inr 1)), some (.inl a1), some (.inl a2)] [.inl s0] SH mm = (zcI (zL d 45 [.inr (.inr 2), .inl a2, .inl 2] SH mm) fun x sh' mm' => zR d 14 64 [some (.inr (.inr 1)), some (.inl a1), some (.inl a2)] [.inl x, .inl s0] sh' mm') := (zR_unf d 14 [] 6 55 _ _ _ _).trans rfl
set_option maxRecDepth 100000 in
theorem zb_X1_canCome_46 (d : Nat) (a1 a2 s0 : Int) (mm : zMm) : zR d 14 46 [some (.inr (.inr 1)), some (.inl a1), some (.inl a2)] [.inl s0] SH mm = (zok s0 mm) := (zR_unf d 14 [] 2 46 _ _ _ _).trans rfl
set_option maxRecDepth 100000 in
theorem zb_X1_canCome_83 (d : Nat) (a1 a2 s0 s1 : Int) (mm : zMm) : zR d 14 83 [some (.inr (.inr 1)), some (.inl a1), some (.inl a2)] [.inl s1, .inl s0] SH mm = (zok (zand s0 s1) mm) := (zR_unf d 14 [] 3 83 _ _ _ _).trans rfl
set_option maxRecDepth 100000 in
theorem zb_X1_canCome_64 (d : Nat) (a1 a2 s0 s1 : Int) (mm : zMm) : zR d 14 64 [some (.inr (.inr 1)), some (.inl a1), some (.inl a2)] [.inl s1, .inl s0] SH mm = (zok (zand s0 s1) mm) := (zR_unf d 14 [] 3 64 _ _ _ _).trans rfl
set_option maxRecDepth 100000 in
theorem zb_X1_hasEnded_0 (d : Nat) (a1 : Int) (mm : zMm) : zR d 15 0 [some (.inr (.inr 1)), some (.inl a1), none] [] SH mm = (zR d 15 2 [some (.inr (.inr 1)), some (.inl a1), some (.inl 0)] [] SH mm) := (zR_unf d 15 [2] 3 0 _ _ _ _).trans rfl
set_option maxRecDepth 100000 in
theorem zb_X1_hasEnded_2 (d : Nat) (a1 a2 : Int) (mm : zMm) : zR d 15 2 [some (.inr (.inr 1)), some (.inl a1), some (.inl a2)] [] SH mm = (if a2 < 6 then zcI (zL d 5 [.inr (.inr 6), .inl a2] SH mm) fun x sh' mm' => zR d 15 16 [some (.inr (.inr 1)), some (.inl a1), some (.inl a2)] [.inl x] sh' mm' else zok 1 mm) := (zR_unf d 15 [2] 8 2 _ _ _ _).trans rfl
set_option maxRecDepth 100000 in
theorem zb_X1_hasEnded_16 (d : Nat) (a1 a2 s0 : Int) (mm : zMm) : zR d 15 16 [some (.inr (.inr 1)), some (.inl a1), some (.inl a2)] [.inl s0] SH mm = (if s0 = 0 then zR d 15 2 [some (.inr (.inr 1)), some (.inl a1), some (.inl (zw (a2 + 1)))] [] SH mm else zcI (zL d 14 [.inr (.inr 1), .inl a2, .inl a1] SH mm) fun x sh' mm' => zR d 15 25 [some (.inr (.inr 1)), some (.inl a1), some (.inl a2)] [.inl x] sh' mm') := (zR_unf d 15 [2] 6 16 _ _ _ _).trans rfl
set_option maxRecDepth 100000 in
theorem zb_X1_hasEnded_25 (d : Nat) (a1 a2 s0 : Int) (mm : zMm) : zR d 15 25 [some (.inr (.inr 1)), some (.inl a1), some (.inl a2)] [.inl s0] SH mm = (if s0 = 0 then zR d 15 2 [some (.inr (.inr 1)), some (.inl a1), some (.inl (zw (a2 + 1)))] [] SH mm else zok 0 mm) := (zR_unf d 15 [2] 4 25 _ _ _ _).trans rfl
set_option maxRecDepth 100000 in
theorem zb_X1_addDrawnWord_0 (d : Nat) (mm : zMm) : zR d 16 0 [some (.inr (.inr 1)), none, none] [] SH mm = (zcI (zL d 54 [.inr (.inr 10)] SH mm) fun x sh' mm' => zR d 16 11 [some (.inr (.inr 1)), none, none] [.inl x, .inr (.inr 10)] sh' mm') := (zR_unf d 16 [] 6 0 _ _ _ _).trans rfl
set_option maxRecDepth 100000 in
theorem zb_X1_addDrawnWord_11 (d : Nat) (s1 : Int) (mm : zMm) : zR d 16 11 [some (.inr (.inr 1)), none, none] [.inl s1, .inr (.inr 10)] SH mm = (zcI (zL d 51 [.inr (.inr 10), .inl s1] SH mm) fun x sh' mm' => zR d 16 14 [some (.inr (.inr 1)), none, none] [.inl x] sh' mm') := (zR_unf d 16 [] 2 11 _ _ _ _).trans rfl
set_option maxRecDepth 100000 in
theorem zb_X1_addDrawnWord_14 (d : Nat) (s0 : Int) (mm : zMm) : zR d 16 14 [some (.inr (.inr 1)), none, none] [.inl s0] SH mm = (zcI (zL d 31 [.inr (.inr 12)] SH mm) fun x sh' mm' => zR d 16 24 [some (.inr (.inr 1)), some (.inl s0), none] [.inl x, .inl s0, .inr (.inr 1)] sh' mm') := (zR_unf d 16 [] 7 14 _ _ _ _).trans rfl
set_option maxRecDepth 100000 in
theorem zb_X1_addDrawnWord_24 (d : Nat) (a1 s1 s2 : Int) (mm : zMm) : zR d 16 24 [some (.inr (.inr 1)), some (.inl a1), none] [.inl s2, .inl s1, .inr (.inr 1)] SH mm = (zcI (zL d 14 [.inr (.inr 1), .inl s1, .inl s2] SH mm) fun x sh' mm' => zR d 16 27 [some (.inr (.inr 1)), some (.inl a1), none] [.inl x] sh' mm') := (zR_unf d 16 [] 2 24 _ _ _ _).trans rfl
set_option maxRecDepth 100000 in
theorem zb_X1_addDrawnWord_27 (d : Nat) (a1 s0 : Int) (mm : zMm) : zR d 16 27 [some (.inr (.inr 1)), some (.inl a1), none] [.inl s0] SH mm = (if s0 = 0 then zvd mm else zcI (zL d 24 [.inr (.inr 12)] SH mm) fun x sh' mm' => zR d 16 39 [some (.inr (.inr 1)), some (.inl a1), some (.inl s0)] [.inl x] sh' mm') := (zR_unf d 16 [] 7 27 _ _ _ _).trans rfl
set_option maxRecDepth 100000 in
theorem zb_X1_addDrawnWord_39 (d : Nat) (a1 a2 s0 : Int) (mm : zMm) : zR d 16 39 [some (.inr (.inr 1)), some (.inl a1), some (.inl a2)] [.inl s0] SH mm = (if s0 = 0 then zcI (zL d 17 [.inr (.inr 1), .inl a1, .inl a2] SH mm) fun x sh' mm' => zR d 16 52 [some (.inr (.inr 1)), some (.inl a1), some (.inl a2)] [.inl x, .inr (.inr 12)] sh' mm' else zvd mm) := (zR_unf d 16 [] 8 39 _ _ _ _).trans rfl
set_option maxRecDepth 100000 in
theorem zb_X1_addDrawnWord_52 (d : Nat) (a1 a2 s1 : Int) (mm : zMm) : zR d 16 52 [some (.inr (.inr 1)), some (.inl a1), some (.inl a2)] [.inl s1, .inr (.inr 12)] SH mm = (zcV (zL d 26 [.inr (.inr 12), .inl s1, .inl a1] SH mm) fun sh' mm' => zR d 16 56 [some (.inr (.inr 1)), some (.inl a1), some (.inl a2)] [] sh' mm') := (zR_unf d 16 [] 3 52 _ _ _ _).trans rfl
set_option maxRecDepth 100000 in
theorem zb_X1_addDrawnWord_56 (d : Nat) (a1 a2 : Int) (mm : zMm) : zR d 16 56 [some (.inr (.inr 1)), some (.inl a1), some (.inl a2)] [] SH mm = (zvd mm) := (zR_unf d 16 [] 2 56 _ _ _ _).trans rfl
set_option maxRecDepth 100000 in
theorem zb_X1_drawnWord_0 (d : Nat) (a1 a2 : Int) (mm : zMm) : zR d 17 0 [some (.inr (.inr 1)), some (.inl a1), some (.inl a2), none, none, none, none] [] SH mm = (zcI (zL d 10 [.inr (.inr 6), .inl a1, .inl a2] SH (zu mm 1 4 (zand (zw ((zw ((mm 1 4) * 1103515245)) + 12345)) 2147483647))) fun x sh' mm' => zR d 17 27 [some (.inr (.inr 1)), some (.inl a1), some (.inl a2), none, none, none, none] [.inl x] sh' mm') := (zR_unf d 17 [53] 16 0 _ _ _ _).trans rfl
set_option maxRecDepth 100000 in
theorem zb_X1_drawnWord_27 (d : Nat) (a1 a2 s0 : Int) (mm : zMm) : zR d 17 27 [some (.inr (.inr 1)), some (.inl a1), some (.inl a2), none, none, none, none] [.inl s0] SH mm = (if 0 < s0 then if s0 = 0 then none else zR d 17 53 [some (.inr (.inr 1)), some (.inl a1), some (.inl a2), some (.inl s0), some (.inl (zrem (zshr (mm 1 4) 16) s0)), some (.inl 0), some (.inl 0)] [] SH mm else zR d 17 53 [some (.inr (.inr 1)), some (.inl a1), some (.inl a2), some (.inl s0), some (.inl 0), some (.inl 0), some (.inl 0)] [] SH mm) := (zR_unf d 17 [53] 16 27 _ _ _ _).trans rfl
set_option maxRecDepth 100000 in
theorem zb_X1_drawnWord_53 (d : Nat) (a1 a2 a4 a5 a6 : Int) (mm : zMm) : zR d 17 53 [some (.inr (.inr 1)), some (.inl a1), some (.inl a2), none, some (.inl a4), some (.inl a5), some (.inl a6)] [] SH mm = (if a6 < 8 then if a4 < 0 then zok a5 mm else zcI (zL d 81 [.inl a2, .inl a6] SH mm) fun x sh' mm' => zR d 17 71 [some (.inr (.inr 1)), some (.inl a1), some (.inl a2), none, some (.inl a4), some (.inl a5), some (.inl a6)] [.inl x] sh' mm' else zok a5 mm) := (zR_unf d 17 [53] 9 53 _ _ _ _).trans rfl
set_option maxRecDepth 100000 in
theorem zb_X1_drawnWord_71 (d : Nat) (a1 a2 a4 a5 a6 s0 : Int) (mm : zMm) : zR d 17 71 [some (.inr (.inr 1)), some (.inl a1), some (.inl a2), none, some (.inl a4), some (.inl a5), some (.inl a6)] [.inl s0] SH mm = (if s0 = 0 then zR d 17 53 [some (.inr (.inr 1)), some (.inl a1), some (.inl a2), none, some (.inl a4), some (.inl a5), some (.inl (zw (a6 + 1)))] [] SH mm else zcI (zL d 8 [.inr (.inr 6), .inl a1, .inl a6] SH mm) fun x sh' mm' => zR d 17 86 [some (.inr (.inr 1)), some (.inl a1), some (.inl a2), none, some (.inl a4), some (.inl a5), some (.inl a6)] [.inl x, .inl a4] sh' mm') := (zR_unf d 17 [53] 8 71 _ _ _ _).trans rfl
set_option maxRecDepth 100000 in
theorem zb_X1_drawnWord_86 (d : Nat) (a1 a2 a4 a5 a6 s0 s1 : Int) (mm : zMm) : zR d 17 86 [some (.inr (.inr 1)), some (.inl a1), some (.inl a2), none, some (.inl a4), some (.inl a5), some (.inl a6)] [.inl s1, .inl s0] SH mm = (zR d 17 53 [some (.inr (.inr 1)), some (.inl a1), some (.inl a2), none, some (.inl (zw (s0 - s1))), some (.inl a6), some (.inl (zw (a6 + 1)))] [] SH mm) := (zR_unf d 17 [53] 7 86 _ _ _ _).trans rfl
set_option maxRecDepth 100000 in
theorem zb_X1_lineEndingAt_0 (d : Nat) (a1 : Int) (mm : zMm) : zR d 18 0 [some (.inr (.inr 1)), some (.inl a1), none, none] [] SH mm = (zcI (zL d 88 [.inl 0, .inl (zw ((zw (a1 + 1)) - 4))] SH mm) fun x sh' mm' => zR d 18 11 [some (.inr (.inr 1)), some (.inl a1), some (.inl 0), none] [.inl x] sh' mm') := (zR_unf d 18 [12] 10 0 _ _ _ _).trans rfl
set_option maxRecDepth 100000 in
theorem zb_X1_lineEndingAt_11 (d : Nat) (a1 a2 s0 : Int) (mm : zMm) : zR d 18 11 [some (.inr (.inr 1)), some (.inl a1), some (.inl a2), none] [.inl s0] SH mm = (zR d 18 12 [some (.inr (.inr 1)), some (.inl a1), some (.inl a2), some (.inl s0)] [] SH mm) := (zR_unf d 18 [12] 2 11 _ _ _ _).trans rfl
set_option maxRecDepth 100000 in
theorem zb_X1_lineEndingAt_12 (d : Nat) (a1 a2 a3 : Int) (mm : zMm) : zR d 18 12 [some (.inr (.inr 1)), some (.inl a1), some (.inl a2), some (.inl a3)] [] SH mm = (if a1 < a3 then zcI (zL d 46 [.inr (.inr 2), .inl a2, .inl (zw (a1 + 1))] SH mm) fun x sh' mm' => zR d 18 48 [some (.inr (.inr 1)), some (.inl a1), some (.inl a2), some (.inl a3)] [.inl x] sh' mm' else zcI (zL d 27 [.inr (.inr 12), .inl a3] SH mm) fun x sh' mm' => zR d 18 29 [some (.inr (.inr 1)), some (.inl a1), some (.inl a2), some (.inl a3)] [.inl x, .inl (zw (a2 * 8))] sh' mm') := (zR_unf d 18 [12] 11 12 _ _ _ _).trans rfl
set_option maxRecDepth 100000 in
theorem zb_X1_lineEndingAt_48 (d : Nat) (a1 a2 a3 s0 : Int) (mm : zMm) : zR d 18 48 [some (.inr (.inr 1)), some (.inl a1), some (.inl a2), some (.inl a3)] [.inl s0] SH mm = (zok s0 mm) := (zR_unf d 18 [12] 2 48 _ _ _ _).trans rfl
set_option maxRecDepth 100000 in
theorem zb_X1_lineEndingAt_29 (d : Nat) (a1 a2 a3 s0 s1 : Int) (mm : zMm) : zR d 18 29 [some (.inr (.inr 1)), some (.inl a1), some (.inl a2), some (.inl a3)] [.inl s1, .inl s0] SH mm = (zR d 18 12 [some (.inr (.inr 1)), some (.inl a1), some (.inl (zw (s0 + s1))), some (.inl (zw (a3 + 1)))] [] SH mm) := (zR_unf d 18 [12] 5 29 _ _ _ _).trans rfl
set_option maxRecDepth 100000 in
theorem zb_X1_firstLineEnd_0 (d : Nat) (mm : zMm) : zR d 19 0 [some (.inr (.inr 1)), none] [] SH mm = (zR d 19 2 [some (.inr (.inr 1)), some (.inl 0)] [] SH mm) := (zR_unf d 19 [2] 3 0 _ _ _ _).trans rfl
set_option maxRecDepth 100000 in
theorem zb_X1_firstLineEnd_2 (d : Nat) (a1 : Int) (mm : zMm) : zR d 19 2 [some (.inr (.inr 1)), some (.inl a1)] [] SH mm = (if a1 < (mm 12 2) then zcI (zL d 18 [.inr (.inr 1), .inl a1] SH mm) fun x sh' mm' => zR d 19 18 [some (.inr (.inr 1)), some (.inl a1)] [.inl x] sh' mm' else zok (-4) mm) := (zR_unf d 19 [2] 9 2 _ _ _ _).trans rfl
set_option maxRecDepth 100000 in
theorem zb_X1_firstLineEnd_18 (d : Nat) (a1 s0 : Int) (mm : zMm) : zR d 19 18 [some (.inr (.inr 1)), some (.inl a1)] [.inl s0] SH mm = (if s0 < 0 then zR d 19 2 [some (.inr (.inr 1)), some (.inl (zw (a1 + 1)))] [] SH mm else zok a1 mm) := (zR_unf d 19 [2] 4 18 _ _ _ _).trans rfl
set_option maxRecDepth 100000 in
theorem zb_X1_preventers_0 (d : Nat) (a1 : Int) (mm : zMm) : zR d 20 0 [some (.inr (.inr 1)), some (.inl a1), none, none, none, none] [] SH mm = (zcI (zL d 18 [.inr (.inr 1), .inl a1] SH mm) fun x sh' mm' => zR d 20 9 [some (.inr (.inr 1)), some (.inl a1), none, none, none, none] [.inl x, .inr (.inr 2)] sh' mm') := (zR_unf d 20 [22] 6 0 _ _ _ _).trans rfl
set_option maxRecDepth 100000 in
theorem zb_X1_preventers_9 (d : Nat) (a1 s1 : Int) (mm : zMm) : zR d 20 9 [some (.inr (.inr 1)), some (.inl a1), none, none, none, none] [.inl s1, .inr (.inr 2)] SH mm = (zcI (zL d 47 [.inr (.inr 2), .inl s1] SH mm) fun x sh' mm' => zR d 20 12 [some (.inr (.inr 1)), some (.inl a1), none, none, none, none] [.inl x] sh' mm') := (zR_unf d 20 [22] 2 9 _ _ _ _).trans rfl
set_option maxRecDepth 100000 in
theorem zb_X1_preventers_12 (d : Nat) (a1 s0 : Int) (mm : zMm) : zR d 20 12 [some (.inr (.inr 1)), some (.inl a1), none, none, none, none] [.inl s0] SH mm = (zR d 20 22 [some (.inr (.inr 1)), some (.inl a1), some (.inl s0), some (.inl 0), some (.inl (zw ((zw (a1 + 1)) - s0))), none] [] SH mm) := (zR_unf d 20 [22] 10 12 _ _ _ _).trans rfl
set_option maxRecDepth 100000 in
theorem zb_X1_preventers_22 (d : Nat) (a1 a3 a4 : Int) (mm : zMm) : zR d 20 22 [some (.inr (.inr 1)), some (.inl a1), none, some (.inl a3), some (.inl a4), none] [] SH mm = (if a1 < a4 then zok a3 mm else zcI (zL d 28 [.inr (.inr 12), .inl a4] SH mm) fun x sh' mm' => zR d 20 37 [some (.inr (.inr 1)), some (.inl a1), none, some (.inl a3), some (.inl a4), none] [.inl x] sh' mm') := (zR_unf d 20 [22] 8 22 _ _ _ _).trans rfl
set_option maxRecDepth 100000 in
theorem zb_X1_preventers_37 (d : Nat) (a1 a3 a4 s0 : Int) (mm : zMm) : zR d 20 37 [some (.inr (.inr 1)), some (.inl a1), none, some (.inl a3), some (.inl a4), none] [.inl s0] SH mm = (if s0 < 0 then zR d 20 22 [some (.inr (.inr 1)), some (.inl a1), none, some (.inl a3), some (.inl (zw (a4 + 1))), some (.inl s0)] [] SH mm else zcI (zL d 21 [.inr (.inr 1), .inl s0, .inl a4] SH mm) fun x sh' mm' => zR d 20 52 [some (.inr (.inr 1)), some (.inl a1), none, some (.inl a3), some (.inl a4), some (.inl s0)] [.inl x] sh' mm') := (zR_unf d 20 [22] 8 37 _ _ _ _).trans rfl
set_option maxRecDepth 100000 in
theorem zb_X1_preventers_52 (d : Nat) (a1 a3 a4 a5 s0 : Int) (mm : zMm) : zR d 20 52 [some (.inr (.inr 1)), some (.inl a1), none, some (.inl a3), some (.inl a4), some (.inl a5)] [.inl s0] SH mm = (if s0 = 0 then zR d 20 22 [some (.inr (.inr 1)), some (.inl a1), none, some (.inl a3), some (.inl (zw (a4 + 1))), some (.inl a5)] [] SH mm else zR d 20 22 [some (.inr (.inr 1)), some (.inl a1), none, some (.inl (zor a3 (zshl 1 a5))), some (.inl (zw (a4 + 1))), some (.inl a5)] [] SH mm) := (zR_unf d 20 [22] 10 52 _ _ _ _).trans rfl
set_option maxRecDepth 100000 in
theorem zb_X1_couldHaveWrittenElse_0 (d : Nat) (a1 a2 : Int) (mm : zMm) : zR d 21 0 [some (.inr (.inr 1)), some (.inl a1), some (.inl a2), none] [] SH mm = (zcI (zL d 27 [.inr (.inr 12), .inl a2] SH mm) fun x sh' mm' => zR d 21 9 [some (.inr (.inr 1)), some (.inl a1), some (.inl a2), none] [.inl x, .inl 1] sh' mm') := (zR_unf d 21 [] 6 0 _ _ _ _).trans rfl
set_option maxRecDepth 100000 in
theorem zb_X1_couldHaveWrittenElse_9 (d : Nat) (a1 a2 s0 s1 : Int) (mm : zMm) : zR d 21 9 [some (.inr (.inr 1)), some (.inl a1), some (.inl a2), none] [.inl s1, .inl s0] SH mm = (zcI (zL d 32 [.inr (.inr 12), .inl a2] SH mm) fun x sh' mm' => zR d 21 21 [some (.inr (.inr 1)), some (.inl a1), some (.inl a2), some (.inl (zshl s0 s1))] [.inl x, .inl a1, .inr (.inr 1)] sh' mm') := (zR_unf d 21 [] 9 9 _ _ _ _).trans rfl
set_option maxRecDepth 100000 in
theorem zb_X1_couldHaveWrittenElse_21 (d : Nat) (a1 a2 a3 s1 s2 : Int) (mm : zMm) : zR d 21 21 [some (.inr (.inr 1)), some (.inl a1), some (.inl a2), some (.inl a3)] [.inl s2, .inl s1, .inr (.inr 1)] SH mm = (zcI (zL d 14 [.inr (.inr 1), .inl s1, .inl s2] SH mm) fun x sh' mm' => zR d 21 24 [some (.inr (.inr 1)), some (.inl a1), some (.inl a2), some (.inl a3)] [.inl x] sh' mm') := (zR_unf d 21 [] 2 21 _ _ _ _).trans rfl
set_option maxRecDepth 100000 in
theorem zb_X1_couldHaveWrittenElse_24 (d : Nat) (a1 a2 a3 s0 : Int) (mm : zMm) : zR d 21 24 [some (.inr (.inr 1)), some (.inl a1), some (.inl a2), some (.inl a3)] [.inl s0] SH mm = (if (zand s0 (zxor a3 (-1))) = 0 then zok 0 mm else zok 1 mm) := (zR_unf d 21 [] 9 24 _ _ _ _).trans rfl
set_option maxRecDepth 100000 in
theorem zb_X3_fewestTurns_0 (d : Nat) (a2 a3 : Int) (mm : zMm) : zR d 34 0 [some (.inr (.inr 33)), some (.inr (.inr 1)), some (.inl a2), some (.inl a3), none, none, none, none, none, none] [] SH mm = (zcI (zL d 54 [.inr (.inr 10)] SH mm) fun x sh' mm' => zR d 34 7 [some (.inr (.inr 33)), some (.inr (.inr 1)), some (.inl a2), some (.inl a3), none, none, none, none, none, none] [.inl x] sh' mm') := (zR_unf d 34 [25, 68, 113] 4 0 _ _ _ _).trans rfl
set_option maxRecDepth 100000 in
theorem zb_X3_fewestTurns_7 (d : Nat) (a2 a3 s0 : Int) (mm : zMm) : zR d 34 7 [some (.inr (.inr 33)), some (.inr (.inr 1)), some (.inl a2), some (.inl a3), none, none, none, none, none, none] [.inl s0] SH mm = (if s0 < 0 then zok (-4) mm else zR d 34 25 [some (.inr (.inr 33)), some (.inr (.inr 1)), some (.inl a2), some (.inl a3), some (.inl s0), some (.inl 0), none, none, none, none] [] SH (zu mm 33 2 0)) := (zR_unf d 34 [25, 68, 113] 9 7 _ _ _ _).trans rfl
set_option maxRecDepth 100000 in
theorem zb_X3_fewestTurns_25 (d : Nat) (a2 a3 a4 a5 : Int) (mm : zMm) : zR d 34 25 [some (.inr (.inr 33)), some (.inr (.inr 1)), some (.inl a2), some (.inl a3), some (.inl a4), some (.inl a5), none, none, none, none] [] SH mm = (if a5 < 1024 then if 0 ≤ a5 ∧ a5 < 1024 then zR d 34 25 [some (.inr (.inr 33)), some (.inr (.inr 1)), some (.inl a2), some (.inl a3), some (.inl a4), some (.inl (zw (a5 + 1))), none, none, none, none] [] SH (zu mm 35 ((a5).toNat) (zi2b 0)) else none else zcI (zL d 31 [.inr (.inr 12)] SH mm) fun x sh' mm' => zR d 34 57 [some (.inr (.inr 33)), some (.inr (.inr 1)), some (.inl a2), some (.inl a3), some (.inl a4), some (.inl a5), none, none, none, none] [.inl x, .inr (.inr 33)] sh' mm') := (zR_unf d 34 [25, 68, 113] 13 25 _ _ _ _).trans rfl
set_option maxRecDepth 100000 in
theorem zb_X3_fewestTurns_57 (d : Nat) (a2 a3 a4 a5 s1 : Int) (mm : zMm) : zR d 34 57 [some (.inr (.inr 33)), some (.inr (.inr 1)), some (.inl a2), some (.inl a3), some (.inl a4), some (.inl a5), none, none, none, none] [.inl s1, .inr (.inr 33)] SH mm = (zcV (zL d 38 [.inr (.inr 33), .inl s1, .inl a4] SH mm) fun sh' mm' => zR d 34 62 [some (.inr (.inr 33)), some (.inr (.inr 1)), some (.inl a2), some (.inl a3), some (.inl a4), some (.inl a5), none, none, none, none] [] sh' mm') := (zR_unf d 34 [25, 68, 113] 3 57 _ _ _ _).trans rfl
set_option maxRecDepth 100000 in
theorem zb_X3_fewestTurns_62 (d : Nat) (a2 a3 a4 a5 : Int) (mm : zMm) : zR d 34 62 [some (.inr (.inr 33)), some (.inr (.inr 1)), some (.inl a2), some (.inl a3), some (.inl a4), some (.inl a5), none, none, none, none] [] SH mm = (zR d 34 68 [some (.inr (.inr 33)), some (.inr (.inr 1)), some (.inl a2), some (.inl a3), some (.inl a4), some (.inl 0), some (.inl 0), none, none, none] [] SH mm) := (zR_unf d 34 [25, 68, 113] 5 62 _ _ _ _).trans rfl
set_option maxRecDepth 100000 in
theorem zb_X3_fewestTurns_68 (d : Nat) (a2 a3 a4 a5 a6 : Int) (mm : zMm) : zR d 34 68 [some (.inr (.inr 33)), some (.inr (.inr 1)), some (.inl a2), some (.inl a3), some (.inl a4), some (.inl a5), some (.inl a6), none, none, none] [] SH mm = (if 30 < a6 then zok (-4) mm else zcI (zL d 35 [.inr (.inr 33), .inr (.inr 1), .inl a5, .inl (mm 33 2), .inl a2, .inl a3] SH mm) fun x sh' mm' => zR d 34 92 [some (.inr (.inr 33)), some (.inr (.inr 1)), some (.inl a2), some (.inl a3), some (.inl a4), some (.inl a5), some (.inl a6), some (.inl (mm 33 2)), none, none] [.inl x] sh' mm') := (zR_unf d 34 [25, 68, 113] 14 68 _ _ _ _).trans rfl
set_option maxRecDepth 100000 in
theorem zb_X3_fewestTurns_92 (d : Nat) (a2 a3 a4 a5 a6 a7 s0 : Int) (mm : zMm) : zR d 34 92 [some (.inr (.inr 33)), some (.inr (.inr 1)), some (.inl a2), some (.inl a3), some (.inl a4), some (.inl a5), some (.inl a6), some (.inl a7), none, none] [.inl s0] SH mm = (if s0 = 0 then zcI (zL d 55 [.inr (.inr 10), .inl a4] SH mm) fun x sh' mm' => zR d 34 107 [some (.inr (.inr 33)), some (.inr (.inr 1)), some (.inl a2), some (.inl a3), some (.inl a4), some (.inl a5), some (.inl a6), some (.inl a7), none, none] [.inl x] sh' mm' else zok a6 mm) := (zR_unf d 34 [25, 68, 113] 6 92 _ _ _ _).trans rfl
set_option maxRecDepth 100000 in
theorem zb_X3_fewestTurns_107 (d : Nat) (a2 a3 a4 a5 a6 a7 s0 : Int) (mm : zMm) : zR d 34 107 [some (.inr (.inr 33)), some (.inr (.inr 1)), some (.inl a2), some (.inl a3), some (.inl a4), some (.inl a5), some (.inl a6), some (.inl a7), none, none] [.inl s0] SH mm = (zR d 34 113 [some (.inr (.inr 33)), some (.inr (.inr 1)), some (.inl a2), some (.inl a3), some (.inl a4), some (.inl a5), some (.inl a6), some (.inl a7), some (.inl s0), some (.inl a5)] [] SH mm) := (zR_unf d 34 [25, 68, 113] 4 107 _ _ _ _).trans rfl
set_option maxRecDepth 100000 in
theorem zb_X3_fewestTurns_113 (d : Nat) (a2 a3 a4 a6 a7 a8 a9 : Int) (mm : zMm) : zR d 34 113 [some (.inr (.inr 33)), some (.inr (.inr 1)), some (.inl a2), some (.inl a3), some (.inl a4), none, some (.inl a6), some (.inl a7), some (.inl a8), some (.inl a9)] [] SH mm = (if a9 < a7 then zcI (zL d 36 [.inr (.inr 33), .inl a9] SH mm) fun x sh' mm' => zR d 34 128 [some (.inr (.inr 33)), some (.inr (.inr 1)), some (.inl a2), some (.inl a3), some (.inl a4), none, some (.inl a6), some (.inl a7), some (.inl a8), some (.inl a9)] [.inl x, .inr (.inr 1), .inr (.inr 33)] sh' mm' else zR d 34 68 [some (.inr (.inr 33)), some (.inr (.inr 1)), some (.inl a2), some (.inl a3), some (.inl a8), some (.inl a7), some (.inl (zw (a6 + 1))), some (.inl a7), some (.inl a8), some (.inl a9)] [] SH mm) := (zR_unf d 34 [25, 68, 113] 10 113 _ _ _ _).trans rfl
set_option maxRecDepth 100000 in
theorem zb_X3_fewestTurns_128 (d : Nat) (a2 a3 a4 a6 a7 a8 a9 s2 : Int) (mm : zMm) : zR d 34 128 [some (.inr (.inr 33)), some (.inr (.inr 1)), some (.inl a2), some (.inl a3), some (.inl a4), none, some (.inl a6), some (.inl a7), some (.inl a8), some (.inl a9)] [.inl s2, .inr (.inr 1), .inr (.inr 33)] SH mm = (zcV (zL d 37 [.inr (.inr 33), .inr (.inr 1), .inl s2, .inl a4, .inl a8] SH mm) fun sh' mm' => zR d 34 135 [some (.inr (.inr 33)), some (.inr (.inr 1)), some (.inl a2), some (.inl a3), some (.inl a4), none, some (.inl a6), some (.inl a7), some (.inl a8), some (.inl a9)] [] sh' mm') := (zR_unf d 34 [25, 68, 113] 4 128 _ _ _ _).trans rfl
set_option maxRecDepth 100000 in
theorem zb_X3_fewestTurns_135 (d : Nat) (a2 a3 a4 a6 a7 a8 a9 : Int) (mm : zMm) : zR d 34 135 [some (.inr (.inr 33)), some (.inr (.inr 1)), some (.inl a2), some (.inl a3), some (.inl a4), none, some (.inl a6), some (.inl a7), some (.inl a8), some (.inl a9)] [] SH mm = (zR d 34 113 [some (.inr (.inr 33)), some (.inr (.inr 1)), some (.inl a2), some (.inl a3), some (.inl a4), none, some (.inl a6), some (.inl a7), some (.inl a8), some (.inl (zw (a9 + 1)))] [] SH mm) := (zR_unf d 34 [25, 68, 113] 3 135 _ _ _ _).trans rfl
set_option maxRecDepth 100000 in
theorem zb_X3_hasAim_0 (d : Nat) (a2 a3 a4 a5 : Int) (mm : zMm) : zR d 35 0 [some (.inr (.inr 33)), some (.inr (.inr 1)), some (.inl a2), some (.inl a3), some (.inl a4), some (.inl a5), none] [] SH mm = (zR d 35 3 [some (.inr (.inr 33)), some (.inr (.inr 1)), some (.inl a2), some (.inl a3), some (.inl a4), some (.inl a5), some (.inl a2)] [] SH mm) := (zR_unf d 35 [3] 3 0 _ _ _ _).trans rfl
set_option maxRecDepth 100000 in
theorem zb_X3_hasAim_3 (d : Nat) (a3 a4 a5 a6 : Int) (mm : zMm) : zR d 35 3 [some (.inr (.inr 33)), some (.inr (.inr 1)), none, some (.inl a3), some (.inl a4), some (.inl a5), some (.inl a6)] [] SH mm = (if a6 < a3 then if a5 = 0 then zcI (zL d 36 [.inr (.inr 33), .inl a6] SH mm) fun x sh' mm' => zR d 35 21 [some (.inr (.inr 33)), some (.inr (.inr 1)), none, some (.inl a3), some (.inl a4), some (.inl a5), some (.inl a6)] [.inl x, .inr (.inr 1)] sh' mm' else zcI (zL d 36 [.inr (.inr 33), .inl a6] SH mm) fun x sh' mm' => zR d 35 36 [some (.inr (.inr 33)), some (.inr (.inr 1)), none, some (.inl a3), some (.inl a4), some (.inl a5), some (.inl a6)] [.inl x] sh' mm' else zok 0 mm) := (zR_unf d 35 [3] 10 3 _ _ _ _).trans rfl
set_option maxRecDepth 100000 in
theorem zb_X3_hasAim_21 (d : Nat) (a3 a4 a5 a6 s1 : Int) (mm : zMm) : zR d 35 21 [some (.inr (.inr 33)), some (.inr (.inr 1)), none, some (.inl a3), some (.inl a4), some (.inl a5), some (.inl a6)] [.inl s1, .inr (.inr 1)] SH mm = (zcI (zL d 15 [.inr (.inr 1), .inl s1] SH mm) fun x sh' mm' => zR d 35 24 [some (.inr (.inr 33)), some (.inr (.inr 1)), none, some (.inl a3), some (.inl a4), some (.inl a5), some (.inl a6)] [.inl x] sh' mm') := (zR_unf d 35 [3] 2 21 _ _ _ _).trans rfl
set_option maxRecDepth 100000 in
theorem zb_X3_hasAim_36 (d : Nat) (a3 a4 a5 a6 s0 : Int) (mm : zMm) : zR d 35 36 [some (.inr (.inr 33)), some (.inr (.inr 1)), none, some (.inl a3), some (.inl a4), some (.inl a5), some (.inl a6)] [.inl s0] SH mm = (zcI (zL d 84 [.inl s0, .inl a4, .inl a5] SH mm) fun x sh' mm' => zR d 35 43 [some (.inr (.inr 33)), some (.inr (.inr 1)), none, some (.inl a3), some (.inl a4), some (.inl a5), some (.inl a6)] [.inl x] sh' mm') := (zR_unf d 35 [3] 4 36 _ _ _ _).trans rfl
set_option maxRecDepth 100000 in
theorem zb_X3_hasAim_24 (d : Nat) (a3 a4 a5 a6 s0 : Int) (mm : zMm) : zR d 35 24 [some (.inr (.inr 33)), some (.inr (.inr 1)), none, some (.inl a3), some (.inl a4), some (.inl a5), some (.inl a6)] [.inl s0] SH mm = (if s0 = 0 then zR d 35 3 [some (.inr (.inr 33)), some (.inr (.inr 1)), none, some (.inl a3), some (.inl a4), some (.inl a5), some (.inl (zw (a6 + 1)))] [] SH mm else zok 1 mm) := (zR_unf d 35 [3] 5 24 _ _ _ _).trans rfl
set_option maxRecDepth 100000 in
theorem zb_X3_hasAim_43 (d : Nat) (a3 a4 a5 a6 s0 : Int) (mm : zMm) : zR d 35 43 [some (.inr (.inr 33)), some (.inr (.inr 1)), none, some (.inl a3), some (.inl a4), some (.inl a5), some (.inl a6)] [.inl s0] SH mm = (if s0 = 0 then zR d 35 3 [some (.inr (.inr 33)), some (.inr (.inr 1)), none, some (.inl a3), some (.inl a4), some (.inl a5), some (.inl (zw (a6 + 1)))] [] SH mm else zok 1 mm) := (zR_unf d 35 [3] 4 43 _ _ _ _).trans rfl
set_option maxRecDepth 100000 in
theorem zb_X3_slipAt_0 (d : Nat) (a1 : Int) (mm : zMm) : zR d 36 0 [some (.inr (.inr 33)), some (.inl a1)] [] SH mm = (if a1 < 0 then zok 1 mm else if a1 < 3510 then if 0 ≤ a1 ∧ a1 < 3510 then zok (mm 34 ((a1).toNat)) mm else none else zok 1 mm) := (zR_unf d 36 [] 14 0 _ _ _ _).trans rfl
set_option maxRecDepth 100000 in
theorem zb_X3_spread_0 (d : Nat) (a2 a3 a4 : Int) (mm : zMm) : zR d 37 0 [some (.inr (.inr 33)), some (.inr (.inr 1)), some (.inl a2), some (.inl a3), some (.inl a4), none, none] [] SH mm = (zcI (zL d 51 [.inr (.inr 10), .inl a3] SH mm) fun x sh' mm' => zR d 37 9 [some (.inr (.inr 33)), some (.inr (.inr 1)), some (.inl a2), some (.inl a3), some (.inl a4), none, none] [.inl x, .inr (.inr 1)] sh' mm') := (zR_unf d 37 [30] 6 0 _ _ _ _).trans rfl
set_option maxRecDepth 100000 in
theorem zb_X3_spread_9 (d : Nat) (a2 a3 a4 s1 : Int) (mm : zMm) : zR d 37 9 [some (.inr (.inr 33)), some (.inr (.inr 1)), some (.inl a2), some (.inl a3), some (.inl a4), none, none] [.inl s1, .inr (.inr 1)] SH mm = (zcI (zL d 14 [.inr (.inr 1), .inl s1, .inl a2] SH mm) fun x sh' mm' => zR d 37 13 [some (.inr (.inr 33)), some (.inr (.inr 1)), some (.inl a2), some (.inl a3), some (.inl a4), none, none] [.inl x] sh' mm') := (zR_unf d 37 [30] 3 9 _ _ _ _).trans rfl
set_option maxRecDepth 100000 in
theorem zb_X3_spread_13 (d : Nat) (a2 a3 a4 s0 : Int) (mm : zMm) : zR d 37 13 [some (.inr (.inr 33)), some (.inr (.inr 1)), some (.inl a2), some (.inl a3), some (.inl a4), none, none] [.inl s0] SH mm = (if s0 = 0 then zcV (zL d 38 [.inr (.inr 33), .inl a2, .inl a4] SH mm) fun sh' mm' => zR d 37 27 [some (.inr (.inr 33)), some (.inr (.inr 1)), some (.inl a2), some (.inl a3), some (.inl a4), some (.inl s0), none] [] sh' mm' else zR d 37 30 [some (.inr (.inr 33)), some (.inr (.inr 1)), some (.inl a2), some (.inl a3), some (.inl a4), some (.inl s0), some (.inl 0)] [] SH mm) := (zR_unf d 37 [30] 8 13 _ _ _ _).trans rfl
set_option maxRecDepth 100000 in
theorem zb_X3_spread_27 (d : Nat) (a2 a3 a4 a5 : Int) (mm : zMm) : zR d 37 27 [some (.inr (.inr 33)), some (.inr (.inr 1)), some (.inl a2), some (.inl a3), some (.inl a4), some (.inl a5), none] [] SH mm = (zR d 37 30 [some (.inr (.inr 33)), some (.inr (.inr 1)), some (.inl a2), some (.inl a3), some (.inl a4), some (.inl a5), some (.inl 0)] [] SH mm) := (zR_unf d 37 [30] 3 27 _ _ _ _).trans rfl
set_option maxRecDepth 100000 in
theorem zb_X3_spread_30 (d : Nat) (a2 a4 a5 a6 : Int) (mm : zMm) : zR d 37 30 [some (.inr (.inr 33)), none, some (.inl a2), none, some (.inl a4), some (.inl a5), some (.inl a6)] [] SH mm = (if a6 < 8 then zcI (zL d 81 [.inl a5, .inl a6] SH mm) fun x sh' mm' => zR d 37 44 [some (.inr (.inr 33)), none, some (.inl a2), none, some (.inl a4), some (.inl a5), some (.inl a6)] [.inl x] sh' mm' else zvd mm) := (zR_unf d 37 [30] 7 30 _ _ _ _).trans rfl
set_option maxRecDepth 100000 in
theorem zb_X3_spread_44 (d : Nat) (a2 a4 a5 a6 s0 : Int) (mm : zMm) : zR d 37 44 [some (.inr (.inr 33)), none, some (.inl a2), none, some (.inl a4), some (.inl a5), some (.inl a6)] [.inl s0] SH mm = (if s0 = 0 then zR d 37 30 [some (.inr (.inr 33)), none, some (.inl a2), none, some (.inl a4), some (.inl a5), some (.inl (zw (a6 + 1)))] [] SH mm else zcI (zL d 83 [.inl a2, .inl a6] SH mm) fun x sh' mm' => zR d 37 54 [some (.inr (.inr 33)), none, some (.inl a2), none, some (.inl a4), some (.inl a5), some (.inl a6)] [.inl x, .inr (.inr 33)] sh' mm') := (zR_unf d 37 [30] 6 44 _ _ _ _).trans rfl
set_option maxRecDepth 100000 in
theorem zb_X3_spread_54 (d : Nat) (a2 a4 a5 a6 s1 : Int) (mm : zMm) : zR d 37 54 [some (.inr (.inr 33)), none, some (.inl a2), none, some (.inl a4), some (.inl a5), some (.inl a6)] [.inl s1, .inr (.inr 33)] SH mm = (zcV (zL d 38 [.inr (.inr 33), .inl s1, .inl a4] SH mm) fun sh' mm' => zR d 37 59 [some (.inr (.inr 33)), none, some (.inl a2), none, some (.inl a4), some (.inl a5), some (.inl a6)] [] sh' mm') := (zR_unf d 37 [30] 3 54 _ _ _ _).trans rfl
set_option maxRecDepth 100000 in
theorem zb_X3_spread_59 (d : Nat) (a2 a4 a5 a6 : Int) (mm : zMm) : zR d 37 59 [some (.inr (.inr 33)), none, some (.inl a2), none, some (.inl a4), some (.inl a5), some (.inl a6)] [] SH mm = (zR d 37 30 [some (.inr (.inr 33)), none, some (.inl a2), none, some (.inl a4), some (.inl a5), some (.inl (zw (a6 + 1)))] [] SH mm) := (zR_unf d 37 [30] 3 59 _ _ _ _).trans rfl
set_option maxRecDepth 100000 in
theorem zb_X3_note_0 (d : Nat) (a1 a2 : Int) (mm : zMm) : zR d 38 0 [some (.inr (.inr 33)), some (.inl a1), some (.inl a2)] [] SH mm = (if a1 < 0 then zvd mm else if a1 < 1024 then if (mm 33 2) < 0 then zvd mm else if (mm 33 2) < 3510 then if 0 ≤ a1 ∧ a1 < 1024 then zcI (zL d 81 [.inl (mm 35 ((a1).toNat)), .inl a2] SH mm) fun x sh' mm' => zR d 38 41 [some (.inr (.inr 33)), some (.inl a1), some (.inl a2)] [.inl x] sh' mm' else none else zvd mm else zvd mm) := (zR_unf d 38 [] 21 0 _ _ _ _).trans rfl
set_option maxRecDepth 100000 in
theorem zb_X3_note_41 (d : Nat) (a1 a2 s0 : Int) (mm : zMm) : zR d 38 41 [some (.inr (.inr 33)), some (.inl a1), some (.inl a2)] [.inl s0] SH mm = (if s0 = 0 then if 0 ≤ a1 ∧ a1 < 1024 then if 0 ≤ a1 ∧ a1 < 1024 then if 0 ≤ (mm 33 2) ∧ (mm 33 2) < 3510 then zvd (zu (zu (zu mm 35 ((a1).toNat) (zi2b (zi2b (zor (mm 35 ((a1).toNat)) (zi2b (zshl 1 a2)))))) 34 ((mm 33 2).toNat) a1) 33 2 (zw ((mm 33 2) + 1))) else none else none else none else zvd mm) := (zR_unf d 38 [] 27 41 _ _ _ _).trans rfl
end
section
set_option maxRecDepth 100000 in
theorem zb_X8_follow_0 (d : Nat) (a1 a2 : Int) (mm : zMm) : zR d 59 0 [some (.inr (.inr 0)), some (.inl a1), some (.inl a2)] [] SH mm = (zcI (zL d 79 [.inl a1] SH mm) fun x sh' mm' => zR d 59 4 [some (.inr (.inr 0)), some (.inl a1), some (.inl a2)] [.inl x] sh' mm') := (zR_unf d 59 [] 3 0 _ _ _ _).trans rfl
set_option maxRecDepth 100000 in
theorem zb_X8_follow_4 (d : Nat) (a1 a2 s0 : Int) (mm : zMm) : zR d 59 4 [some (.inr (.inr 0)), some (.inl a1), some (.inl a2)] [.inl s0] SH mm = (if s0 = 0 then zok (-1) mm else if a2 < 0 then zok (-1) mm else if 255 < a2 then zok (-1) mm else zcI (zL d 43 [.inr (.inr 2), .inl a1, .inl a2] SH mm) fun x sh' mm' => zR d 59 32 [some (.inr (.inr 0)), some (.inl a1), some (.inl a2)] [.inl x] sh' mm') := (zR_unf d 59 [] 13 4 _ _ _ _).trans rfl
set_option maxRecDepth 100000 in
theorem zb_X8_follow_32 (d : Nat) (a1 a2 s0 : Int) (mm : zMm) : zR d 59 32 [some (.inr (.inr 0)), some (.inl a1), some (.inl a2)] [.inl s0] SH mm = (zok s0 mm) := (zR_unf d 59 [] 2 32 _ _ _ _).trans rfl
set_option maxRecDepth 100000 in
theorem zb_X8_line_0 (d : Nat) (a1 a2 : Int) (mm : zMm) : zR d 60 0 [some (.inr (.inr 0)), some (.inl a1), some (.inl a2)] [] SH mm = (zcI (zL d 80 [.inl a1, .inl a2, .inl 4] SH mm) fun x sh' mm' => zR d 60 6 [some (.inr (.inr 0)), some (.inl a1), some (.inl a2)] [.inl x] sh' mm') := (zR_unf d 60 [] 5 0 _ _ _ _).trans rfl
set_option maxRecDepth 100000 in
theorem zb_X8_line_6 (d : Nat) (a1 a2 s0 : Int) (mm : zMm) : zR d 60 6 [some (.inr (.inr 0)), some (.inl a1), some (.inl a2)] [.inl s0] SH mm = (if s0 = 0 then zok (-1) mm else zcI (zL d 44 [.inr (.inr 2), .inl a1, .inl a2] SH mm) fun x sh' mm' => zR d 60 23 [some (.inr (.inr 0)), some (.inl a1), some (.inl a2)] [.inl x] sh' mm') := (zR_unf d 60 [] 8 6 _ _ _ _).trans rfl
set_option maxRecDepth 100000 in
theorem zb_X8_line_23 (d : Nat) (a1 a2 s0 : Int) (mm : zMm) : zR d 60 23 [some (.inr (.inr 0)), some (.inl a1), some (.inl a2)] [.inl s0] SH mm = (zok s0 mm) := (zR_unf d 60 [] 2 23 _ _ _ _).trans rfl
set_option maxRecDepth 100000 in
theorem zb_X8_cell_0 (d : Nat) (a1 : Int) (mm : zMm) : zR d 61 0 [some (.inr (.inr 0)), some (.inl a1), none] [] SH mm = (if a1 < 0 then zok (-1) mm else if 3 < a1 then zok (-1) mm else zcI (zL d 3 [.inr (.inr 6), .inl a1] SH mm) fun x sh' mm' => zR d 61 22 [some (.inr (.inr 0)), some (.inl a1), none] [.inl x] sh' mm') := (zR_unf d 61 [] 11 0 _ _ _ _).trans rfl
set_option maxRecDepth 100000 in
theorem zb_X8_cell_22 (d : Nat) (a1 s0 : Int) (mm : zMm) : zR d 61 22 [some (.inr (.inr 0)), some (.inl a1), none] [.inl s0] SH mm = (if s0 < 0 then zok s0 mm else zcV (zL d 50 [.inr (.inr 10), .inl s0] SH mm) fun sh' mm' => zR d 61 38 [some (.inr (.inr 0)), some (.inl a1), some (.inl s0)] [] sh' mm') := (zR_unf d 61 [] 9 22 _ _ _ _).trans rfl
set_option maxRecDepth 100000 in
theorem zb_X8_cell_38 (d : Nat) (a1 a2 : Int) (mm : zMm) : zR d 61 38 [some (.inr (.inr 0)), some (.inl a1), some (.inl a2)] [] SH mm = (zok a2 mm) := (zR_unf d 61 [] 3 38 _ _ _ _).trans rfl
set_option maxRecDepth 100000 in
theorem zb_X8_weight_0 (d : Nat) (a1 a2 a3 : Int) (mm : zMm) : zR d 62 0 [some (.inr (.inr 0)), some (.inl a1), some (.inl a2), some (.inl a3)] [] SH mm = (zcI (zL d 2 [.inr (.inr 6), .inl a1] SH mm) fun x sh' mm' => zR d 62 11 [some (.inr (.inr 0)), some (.inl a1), some (.inl a2), some (.inl a3)] [.inl x] sh' mm') := (zR_unf d 62 [] 6 0 _ _ _ _).trans rfl
set_option maxRecDepth 100000 in
theorem zb_X8_weight_11 (d : Nat) (a1 a2 a3 s0 : Int) (mm : zMm) : zR d 62 11 [some (.inr (.inr 0)), some (.inl a1), some (.inl a2), some (.inl a3)] [.inl s0] SH mm = (if s0 = 0 then zok (-1) mm else zcI (zL d 79 [.inl a2] SH mm) fun x sh' mm' => zR d 62 18 [some (.inr (.inr 0)), some (.inl a1), some (.inl a2), some (.inl a3)] [.inl x] sh' mm') := (zR_unf d 62 [] 4 11 _ _ _ _).trans rfl
set_option maxRecDepth 100000 in
theorem zb_X8_weight_18 (d : Nat) (a1 a2 a3 s0 : Int) (mm : zMm) : zR d 62 18 [some (.inr (.inr 0)), some (.inl a1), some (.inl a2), some (.inl a3)] [.inl s0] SH mm = (if s0 = 0 then zok (-1) mm else if a3 < 0 then zok (-1) mm else if 9 < a3 then zok (-1) mm else zcI (zL d 9 [.inr (.inr 6), .inl a1, .inl a2, .inl a3] SH mm) fun x sh' mm' => zR d 62 46 [some (.inr (.inr 0)), some (.inl a1), some (.inl a2), some (.inl a3)] [.inl x] sh' mm') := (zR_unf d 62 [] 14 18 _ _ _ _).trans rfl
set_option maxRecDepth 100000 in
theorem zb_X8_weight_46 (d : Nat) (a1 a2 a3 s0 : Int) (mm : zMm) : zR d 62 46 [some (.inr (.inr 0)), some (.inl a1), some (.inl a2), some (.inl a3)] [.inl s0] SH mm = (zok s0 mm) := (zR_unf d 62 [] 2 46 _ _ _ _).trans rfl
set_option maxRecDepth 100000 in
theorem zb_X8_dead_0 (d : Nat) (a1 a2 : Int) (mm : zMm) : zR d 63 0 [some (.inr (.inr 0)), some (.inl a1), some (.inl a2)] [] SH mm = (zcI (zL d 2 [.inr (.inr 6), .inl a1] SH mm) fun x sh' mm' => zR d 63 11 [some (.inr (.inr 0)), some (.inl a1), some (.inl a2)] [.inl x] sh' mm') := (zR_unf d 63 [] 6 0 _ _ _ _).trans rfl
set_option maxRecDepth 100000 in
theorem zb_X8_dead_11 (d : Nat) (a1 a2 s0 : Int) (mm : zMm) : zR d 63 11 [some (.inr (.inr 0)), some (.inl a1), some (.inl a2)] [.inl s0] SH mm = (if s0 = 0 then zok (-1) mm else zcI (zL d 6 [.inr (.inr 6), .inl a1, .inl a2] SH mm) fun x sh' mm' => zR d 63 28 [some (.inr (.inr 0)), some (.inl a1), some (.inl a2)] [.inl x] sh' mm') := (zR_unf d 63 [] 8 11 _ _ _ _).trans rfl
set_option maxRecDepth 100000 in
theorem zb_X8_dead_28 (d : Nat) (a1 a2 s0 : Int) (mm : zMm) : zR d 63 28 [some (.inr (.inr 0)), some (.inl a1), some (.inl a2)] [.inl s0] SH mm = (zcI (zL d 82 [.inl s0] SH mm) fun x sh' mm' => zR d 63 31 [some (.inr (.inr 0)), some (.inl a1), some (.inl a2)] [.inl x] sh' mm') := (zR_unf d 63 [] 2 28 _ _ _ _).trans rfl
set_option maxRecDepth 100000 in
theorem zb_X8_dead_31 (d : Nat) (a1 a2 s0 : Int) (mm : zMm) : zR d 63 31 [some (.inr (.inr 0)), some (.inl a1), some (.inl a2)] [.inl s0] SH mm = (zok s0 mm) := (zR_unf d 63 [] 2 31 _ _ _ _).trans rfl
set_option maxRecDepth 100000 in
theorem zb_X8_swap_0 (d : Nat) (a1 a2 : Int) (mm : zMm) : zR d 64 0 [some (.inr (.inr 0)), some (.inl a1), some (.inl a2)] [] SH mm = (zcI (zL d 2 [.inr (.inr 6), .inl a1] SH mm) fun x sh' mm' => zR d 64 11 [some (.inr (.inr 0)), some (.inl a1), some (.inl a2)] [.inl x] sh' mm') := (zR_unf d 64 [] 6 0 _ _ _ _).trans rfl
set_option maxRecDepth 100000 in
theorem zb_X8_swap_11 (d : Nat) (a1 a2 s0 : Int) (mm : zMm) : zR d 64 11 [some (.inr (.inr 0)), some (.inl a1), some (.inl a2)] [.inl s0] SH mm = (if s0 = 0 then zok (-1) mm else zcI (zL d 2 [.inr (.inr 6), .inl a2] SH mm) fun x sh' mm' => zR d 64 25 [some (.inr (.inr 0)), some (.inl a1), some (.inl a2)] [.inl x] sh' mm') := (zR_unf d 64 [] 7 11 _ _ _ _).trans rfl
set_option maxRecDepth 100000 in
theorem zb_X8_swap_25 (d : Nat) (a1 a2 s0 : Int) (mm : zMm) : zR d 64 25 [some (.inr (.inr 0)), some (.inl a1), some (.inl a2)] [.inl s0] SH mm = (if s0 = 0 then zok (-1) mm else if a1 = a2 then zok (-1) mm else zcV (zL d 53 [.inr (.inr 10), .inl a1, .inl a2] SH mm) fun sh' mm' => zR d 64 47 [some (.inr (.inr 0)), some (.inl a1), some (.inl a2)] [] sh' mm') := (zR_unf d 64 [] 11 25 _ _ _ _).trans rfl
set_option maxRecDepth 100000 in
theorem zb_X8_swap_47 (d : Nat) (a1 a2 : Int) (mm : zMm) : zR d 64 47 [some (.inr (.inr 0)), some (.inl a1), some (.inl a2)] [] SH mm = (zcI (zL d 52 [.inr (.inr 10), .inl a1] SH mm) fun x sh' mm' => zR d 64 58 [some (.inr (.inr 0)), some (.inl a1), some (.inl a2)] [.inl x] sh' mm') := (zR_unf d 64 [] 6 47 _ _ _ _).trans rfl
set_option maxRecDepth 100000 in
theorem zb_X8_swap_58 (d : Nat) (a1 a2 s0 : Int) (mm : zMm) : zR d 64 58 [some (.inr (.inr 0)), some (.inl a1), some (.inl a2)] [.inl s0] SH mm = (zok s0 mm) := (zR_unf d 64 [] 2 58 _ _ _ _).trans rfl
set_option maxRecDepth 100000 in
theorem zb_X8_turn_0 (d : Nat) (a1 : Int) (mm : zMm) : zR d 65 0 [some (.inr (.inr 0)), some (.inl a1), none] [] SH mm = (if a1 = 0 ∨ a1 = 1 then zcI (zL d 82 [.inl (mm 10 4)] SH (zu mm 10 4 a1)) fun x sh' mm' => zR d 65 26 [some (.inr (.inr 0)), some (.inl a1), some (.inl (mm 10 4))] [.inl x] sh' mm' else none) := (zR_unf d 65 [] 13 0 _ _ _ _).trans rfl
set_option maxRecDepth 100000 in
theorem zb_X8_turn_26 (d : Nat) (a1 a2 s0 : Int) (mm : zMm) : zR d 65 26 [some (.inr (.inr 0)), some (.inl a1), some (.inl a2)] [.inl s0] SH mm = (zok s0 mm) := (zR_unf d 65 [] 2 26 _ _ _ _).trans rfl
set_option maxRecDepth 100000 in
theorem zb_X8_told_0 (d : Nat) (a1 a2 : Int) (mm : zMm) : zR d 66 0 [some (.inr (.inr 0)), some (.inl a1), some (.inl a2)] [] SH mm = (zcI (zL d 2 [.inr (.inr 6), .inl a1] SH mm) fun x sh' mm' => zR d 66 11 [some (.inr (.inr 0)), some (.inl a1), some (.inl a2)] [.inl x] sh' mm') := (zR_unf d 66 [] 6 0 _ _ _ _).trans rfl
set_option maxRecDepth 100000 in
theorem zb_X8_told_11 (d : Nat) (a1 a2 s0 : Int) (mm : zMm) : zR d 66 11 [some (.inr (.inr 0)), some (.inl a1), some (.inl a2)] [.inl s0] SH mm = (if s0 = 0 then zok (-1) mm else if a2 < 0 then zok (-1) mm else if 10 < a2 then zok (-1) mm else if a2 = 0 then zcI (zL d 4 [.inr (.inr 6), .inl a1] SH mm) fun x sh' mm' => zR d 66 63 [some (.inr (.inr 0)), some (.inl a1), some (.inl a2)] [.inl x] sh' mm' else if a2 = 1 then zcI (zL d 52 [.inr (.inr 10), .inl a1] SH mm) fun x sh' mm' => zR d 66 75 [some (.inr (.inr 0)), some (.inl a1), some (.inl a2)] [.inl x] sh' mm' else if a2 = 2 then zcI (zL d 5 [.inr (.inr 6), .inl a1] SH mm) fun x sh' mm' => zR d 66 87 [some (.inr (.inr 0)), some (.inl a1), some (.inl a2)] [.inl x] sh' mm' else zcI (zL d 8 [.inr (.inr 6), .inl a1, .inl (zw (a2 - 3))] SH mm) fun x sh' mm' => zR d 66 113 [some (.inr (.inr 0)), some (.inl a1), some (.inl a2)] [.inl x] sh' mm') := (zR_unf d 66 [] 17 11 _ _ _ _).trans rfl
set_option maxRecDepth 100000 in
theorem zb_X8_told_113 (d : Nat) (a1 a2 s0 : Int) (mm : zMm) : zR d 66 113 [some (.inr (.inr 0)), some (.inl a1), some (.inl a2)] [.inl s0] SH mm = (zok s0 mm) := (zR_unf d 66 [] 2 113 _ _ _ _).trans rfl
set_option maxRecDepth 100000 in
theorem zb_X8_told_87 (d : Nat) (a1 a2 s0 : Int) (mm : zMm) : zR d 66 87 [some (.inr (.inr 0)), some (.inl a1), some (.inl a2)] [.inl s0] SH mm = (if s0 = 0 then zcI (zL d 82 [.inl 1] SH mm) fun x sh' mm' => zR d 66 98 [some (.inr (.inr 0)), some (.inl a1), some (.inl a2)] [.inl x] sh' mm' else zcI (zL d 82 [.inl 0] SH mm) fun x sh' mm' => zR d 66 98 [some (.inr (.inr 0)), some (.inl a1), some (.inl a2)] [.inl x] sh' mm') := (zR_unf d 66 [] 5 87 _ _ _ _).trans rfl
set_option maxRecDepth 100000 in
theorem zb_X8_told_75 (d : Nat) (a1 a2 s0 : Int) (mm : zMm) : zR d 66 75 [some (.inr (.inr 0)), some (.inl a1), some (.inl a2)] [.inl s0] SH mm = (zok s0 mm) := (zR_unf d 66 [] 2 75 _ _ _ _).trans rfl
set_option maxRecDepth 100000 in
theorem zb_X8_told_63 (d : Nat) (a1 a2 s0 : Int) (mm : zMm) : zR d 66 63 [some (.inr (.inr 0)), some (.inl a1), some (.inl a2)] [.inl s0] SH mm = (zok s0 mm) := (zR_unf d 66 [] 2 63 _ _ _ _).trans rfl
set_option maxRecDepth 100000 in
theorem zb_X8_told_98 (d : Nat) (a1 a2 s0 : Int) (mm : zMm) : zR d 66 98 [some (.inr (.inr 0)), some (.inl a1), some (.inl a2)] [.inl s0] SH mm = (zok s0 mm) := (zR_unf d 66 [] 2 98 _ _ _ _).trans rfl
set_option maxRecDepth 100000 in
theorem zb_X8_count_0 (d : Nat) (a1 : Int) (mm : zMm) : zR d 67 0 [some (.inr (.inr 0)), some (.inl a1)] [] SH mm = (if a1 = 0 then zok (mm 6 3) mm else if a1 = 1 then zcI (zL d 7 [.inr (.inr 6)] SH mm) fun x sh' mm' => zR d 67 69 [some (.inr (.inr 0)), some (.inl a1)] [.inl x] sh' mm' else if a1 = 2 then zok (mm 12 2) mm else if a1 = 3 then zok (mm 2 3) mm else if a1 = 4 then zcI (zL d 29 [.inr (.inr 12)] SH mm) fun x sh' mm' => zR d 67 105 [some (.inr (.inr 0)), some (.inl a1)] [.inl x] sh' mm' else if a1 = 5 then zcI (zL d 31 [.inr (.inr 12)] SH mm) fun x sh' mm' => zR d 67 123 [some (.inr (.inr 0)), some (.inl a1)] [.inl x, .inr (.inr 2)] sh' mm' else if a1 = 6 then zcI (zL d 54 [.inr (.inr 10)] SH mm) fun x sh' mm' => zR d 67 156 [some (.inr (.inr 0)), some (.inl a1)] [.inl x, .inr (.inr 10)] sh' mm' else if a1 = 7 then zok (mm 10 3) mm else zok (-1) mm) := (zR_unf d 67 [] 10 0 _ _ _ _).trans rfl
set_option maxRecDepth 100000 in
theorem zb_X8_count_156 (d : Nat) (a1 s1 : Int) (mm : zMm) : zR d 67 156 [some (.inr (.inr 0)), some (.inl a1)] [.inl s1, .inr (.inr 10)] SH mm = (zcI (zL d 51 [.inr (.inr 10), .inl s1] SH mm) fun x sh' mm' => zR d 67 159 [some (.inr (.inr 0)), some (.inl a1)] [.inl x] sh' mm') := (zR_unf d 67 [] 2 156 _ _ _ _).trans rfl
set_option maxRecDepth 100000 in
theorem zb_X8_count_123 (d : Nat) (a1 s1 : Int) (mm : zMm) : zR d 67 123 [some (.inr (.inr 0)), some (.inl a1)] [.inl s1, .inr (.inr 2)] SH mm = (zcI (zL d 45 [.inr (.inr 2), .inl s1, .inl 4] SH mm) fun x sh' mm' => zR d 67 127 [some (.inr (.inr 0)), some (.inl a1)] [.inl x] sh' mm') := (zR_unf d 67 [] 3 123 _ _ _ _).trans rfl
set_option maxRecDepth 100000 in
theorem zb_X8_count_105 (d : Nat) (a1 s0 : Int) (mm : zMm) : zR d 67 105 [some (.inr (.inr 0)), some (.inl a1)] [.inl s0] SH mm = (zok s0 mm) := (zR_unf d 67 [] 2 105 _ _ _ _).trans rfl
set_option maxRecDepth 100000 in
theorem zb_X8_count_69 (d : Nat) (a1 s0 : Int) (mm : zMm) : zR d 67 69 [some (.inr (.inr 0)), some (.inl a1)] [.inl s0] SH mm = (zcI (zL d 86 [.inl s0] SH mm) fun x sh' mm' => zR d 67 72 [some (.inr (.inr 0)), some (.inl a1)] [.inl x] sh' mm') := (zR_unf d 67 [] 2 69 _ _ _ _).trans rfl
set_option maxRecDepth 100000 in
theorem zb_X8_count_159 (d : Nat) (a1 s0 : Int) (mm : zMm) : zR d 67 159 [some (.inr (.inr 0)), some (.inl a1)] [.inl s0] SH mm = (zok s0 mm) := (zR_unf d 67 [] 2 159 _ _ _ _).trans rfl
set_option maxRecDepth 100000 in
theorem zb_X8_count_127 (d : Nat) (a1 s0 : Int) (mm : zMm) : zR d 67 127 [some (.inr (.inr 0)), some (.inl a1)] [.inl s0] SH mm = (if s0 = 0 then zcI (zL d 82 [.inl 1] SH mm) fun x sh' mm' => zR d 67 138 [some (.inr (.inr 0)), some (.inl a1)] [.inl x] sh' mm' else zcI (zL d 82 [.inl 0] SH mm) fun x sh' mm' => zR d 67 138 [some (.inr (.inr 0)), some (.inl a1)] [.inl x] sh' mm') := (zR_unf d 67 [] 5 127 _ _ _ _).trans rfl
set_option maxRecDepth 100000 in
theorem zb_X8_count_72 (d : Nat) (a1 s0 : Int) (mm : zMm) : zR d 67 72 [some (.inr (.inr 0)), some (.inl a1)] [.inl s0] SH mm = (zok s0 mm) := (zR_unf d 67 [] 2 72 _ _ _ _).trans rfl
set_option maxRecDepth 100000 in
theorem zb_X8_count_138 (d : Nat) (a1 s0 : Int) (mm : zMm) : zR d 67 138 [some (.inr (.inr 0)), some (.inl a1)] [.inl s0] SH mm = (zok s0 mm) := (zR_unf d 67 [] 2 138 _ _ _ _).trans rfl
set_option maxRecDepth 100000 in
theorem zb_X8_read_0 (d : Nat) (a1 a2 : Int) (mm : zMm) : zR d 68 0 [some (.inr (.inr 0)), some (.inl a1), some (.inl a2)] [] SH mm = (zcI (zL d 25 [.inr (.inr 12), .inl a1] SH mm) fun x sh' mm' => zR d 68 11 [some (.inr (.inr 0)), some (.inl a1), some (.inl a2)] [.inl x] sh' mm') := (zR_unf d 68 [] 6 0 _ _ _ _).trans rfl
set_option maxRecDepth 100000 in
theorem zb_X8_read_11 (d : Nat) (a1 a2 s0 : Int) (mm : zMm) : zR d 68 11 [some (.inr (.inr 0)), some (.inl a1), some (.inl a2)] [.inl s0] SH mm = (if s0 = 0 then zok (-1) mm else if a2 < 0 then zok (-1) mm else if 1 < a2 then zok (-1) mm else if a2 = 0 then zcI (zL d 27 [.inr (.inr 12), .inl a1] SH mm) fun x sh' mm' => zR d 68 40 [some (.inr (.inr 0)), some (.inl a1), some (.inl a2)] [.inl x] sh' mm' else zcI (zL d 28 [.inr (.inr 12), .inl a1] SH mm) fun x sh' mm' => zR d 68 54 [some (.inr (.inr 0)), some (.inl a1), some (.inl a2)] [.inl x] sh' mm') := (zR_unf d 68 [] 14 11 _ _ _ _).trans rfl
set_option maxRecDepth 100000 in
theorem zb_X8_read_40 (d : Nat) (a1 a2 s0 : Int) (mm : zMm) : zR d 68 40 [some (.inr (.inr 0)), some (.inl a1), some (.inl a2)] [.inl s0] SH mm = (zok s0 mm) := (zR_unf d 68 [] 3 40 _ _ _ _).trans rfl
set_option maxRecDepth 100000 in
theorem zb_X8_read_54 (d : Nat) (a1 a2 s0 : Int) (mm : zMm) : zR d 68 54 [some (.inr (.inr 0)), some (.inl a1), some (.inl a2)] [.inl s0] SH mm = (zok s0 mm) := (zR_unf d 68 [] 2 54 _ _ _ _).trans rfl
set_option maxRecDepth 100000 in
theorem zb_X8_come_0 (d : Nat) (a1 : Int) (mm : zMm) : zR d 69 0 [some (.inr (.inr 0)), some (.inl a1)] [] SH mm = (zcI (zL d 2 [.inr (.inr 6), .inl a1] SH mm) fun x sh' mm' => zR d 69 11 [some (.inr (.inr 0)), some (.inl a1)] [.inl x] sh' mm') := (zR_unf d 69 [] 6 0 _ _ _ _).trans rfl
set_option maxRecDepth 100000 in
theorem zb_X8_come_11 (d : Nat) (a1 s0 : Int) (mm : zMm) : zR d 69 11 [some (.inr (.inr 0)), some (.inl a1)] [.inl s0] SH mm = (if s0 = 0 then zok (-1) mm else zcI (zL d 31 [.inr (.inr 12)] SH mm) fun x sh' mm' => zR d 69 31 [some (.inr (.inr 0)), some (.inl a1)] [.inl x, .inl a1, .inr (.inr 1)] sh' mm') := (zR_unf d 69 [] 9 11 _ _ _ _).trans rfl
set_option maxRecDepth 100000 in
theorem zb_X8_come_31 (d : Nat) (a1 s1 s2 : Int) (mm : zMm) : zR d 69 31 [some (.inr (.inr 0)), some (.inl a1)] [.inl s2, .inl s1, .inr (.inr 1)] SH mm = (zcI (zL d 14 [.inr (.inr 1), .inl s1, .inl s2] SH mm) fun x sh' mm' => zR d 69 34 [some (.inr (.inr 0)), some (.inl a1)] [.inl x] sh' mm') := (zR_unf d 69 [] 2 31 _ _ _ _).trans rfl
set_option maxRecDepth 100000 in
theorem zb_X8_come_34 (d : Nat) (a1 s0 : Int) (mm : zMm) : zR d 69 34 [some (.inr (.inr 0)), some (.inl a1)] [.inl s0] SH mm = (zok s0 mm) := (zR_unf d 69 [] 2 34 _ _ _ _).trans rfl
set_option maxRecDepth 100000 in
theorem zb_X8_draw_0 (d : Nat) (a1 : Int) (mm : zMm) : zR d 70 0 [some (.inr (.inr 0)), some (.inl a1), none, none] [] SH mm = (if a1 < 1 then zok (-1) mm else if 60 < a1 then zok (-1) mm else zcI (zL d 54 [.inr (.inr 10)] SH mm) fun x sh' mm' => zR d 70 23 [some (.inr (.inr 0)), some (.inl a1), none, none] [.inl x] sh' mm') := (zR_unf d 70 [42] 11 0 _ _ _ _).trans rfl
set_option maxRecDepth 100000 in
theorem zb_X8_draw_23 (d : Nat) (a1 s0 : Int) (mm : zMm) : zR d 70 23 [some (.inr (.inr 0)), some (.inl a1), none, none] [.inl s0] SH mm = (if s0 < 0 then zok (-4) mm else zR d 70 42 [some (.inr (.inr 0)), some (.inl a1), some (.inl (mm 12 2)), some (.inl 0)] [] SH mm) := (zR_unf d 70 [42] 9 23 _ _ _ _).trans rfl
set_option maxRecDepth 100000 in
theorem zb_X8_draw_42 (d : Nat) (a1 a2 a3 : Int) (mm : zMm) : zR d 70 42 [some (.inr (.inr 0)), some (.inl a1), some (.inl a2), some (.inl a3)] [] SH mm = (if a3 < a1 then zcV (zL d 16 [.inr (.inr 1)] SH mm) fun sh' mm' => zR d 70 54 [some (.inr (.inr 0)), some (.inl a1), some (.inl a2), some (.inl a3)] [] sh' mm' else zok (zw ((mm 12 2) - a2)) mm) := (zR_unf d 70 [42] 11 42 _ _ _ _).trans rfl
set_option maxRecDepth 100000 in
theorem zb_X8_draw_54 (d : Nat) (a1 a2 a3 : Int) (mm : zMm) : zR d 70 54 [some (.inr (.inr 0)), some (.inl a1), some (.inl a2), some (.inl a3)] [] SH mm = (zcV (zL d 57 [.inr (.inr 10)] SH mm) fun sh' mm' => zR d 70 64 [some (.inr (.inr 0)), some (.inl a1), some (.inl a2), some (.inl a3)] [] sh' mm') := (zR_unf d 70 [42] 5 54 _ _ _ _).trans rfl
set_option maxRecDepth 100000 in
theorem zb_X8_draw_64 (d : Nat) (a1 a2 a3 : Int) (mm : zMm) : zR d 70 64 [some (.inr (.inr 0)), some (.inl a1), some (.inl a2), some (.inl a3)] [] SH mm = (zR d 70 42 [some (.inr (.inr 0)), some (.inl a1), some (.inl a2), some (.inl (zw (a3 + 1)))] [] SH mm) := (zR_unf d 70 [42] 3 64 _ _ _ _).trans rfl
set_option maxRecDepth 100000 in
theorem zb_X8_seed_0 (d : Nat) (a1 : Int) (mm : zMm) : zR d 71 0 [some (.inr (.inr 0)), some (.inl a1), none] [] SH mm = (if a1 < 0 then zok (-1) mm else zok (mm 1 4) (zu mm 1 4 a1)) := (zR_unf d 71 [] 13 0 _ _ _ _).trans rfl
set_option maxRecDepth 100000 in
theorem zb_X8_undo_0 (d : Nat) (a1 : Int) (mm : zMm) : zR d 72 0 [some (.inr (.inr 0)), some (.inl a1)] [] SH mm = (if a1 < 1 then zok (-1) mm else if 60 < a1 then zok (-1) mm else if (mm 12 2) < a1 then zok (-2) mm else zok (zw ((mm 12 2) - a1)) (zu mm 12 2 (zw ((mm 12 2) - a1)))) := (zR_unf d 72 [] 26 0 _ _ _ _).trans rfl
set_option maxRecDepth 100000 in
theorem zb_X8_reach_0 (d : Nat) (a1 a2 : Int) (mm : zMm) : zR d 73 0 [some (.inr (.inr 0)), some (.inl a1), some (.inl a2)] [] SH mm = (zcI (zL d 80 [.inl a1, .inl a2, .inl 3] SH mm) fun x sh' mm' => zR d 73 6 [some (.inr (.inr 0)), some (.inl a1), some (.inl a2)] [.inl x] sh' mm') := (zR_unf d 73 [] 5 0 _ _ _ _).trans rfl
set_option maxRecDepth 100000 in
theorem zb_X8_reach_6 (d : Nat) (a1 a2 s0 : Int) (mm : zMm) : zR d 73 6 [some (.inr (.inr 0)), some (.inl a1), some (.inl a2)] [.inl s0] SH mm = (if s0 = 0 then zok (-1) mm else zcI (zL d 34 [.inr (.inr 33), .inr (.inr 1), .inl a1, .inl a2] SH mm) fun x sh' mm' => zR d 73 24 [some (.inr (.inr 0)), some (.inl a1), some (.inl a2)] [.inl x] sh' mm') := (zR_unf d 73 [] 9 6 _ _ _ _).trans rfl
set_option maxRecDepth 100000 in
theorem zb_X8_reach_24 (d : Nat) (a1 a2 s0 : Int) (mm : zMm) : zR d 73 24 [some (.inr (.inr 0)), some (.inl a1), some (.inl a2)] [.inl s0] SH mm = (zok s0 mm) := (zR_unf d 73 [] 2 24 _ _ _ _).trans rfl
set_option maxRecDepth 100000 in
theorem zb_X8_soon_0 (d : Nat) (a1 a2 : Int) (mm : zMm) : zR d 74 0 [some (.inr (.inr 0)), some (.inl a1), some (.inl a2), none] [] SH mm = (zcI (zL d 79 [.inl a1] SH mm) fun x sh' mm' => zR d 74 4 [some (.inr (.inr 0)), some (.inl a1), some (.inl a2), none] [.inl x] sh' mm') := (zR_unf d 74 [] 3 0 _ _ _ _).trans rfl
set_option maxRecDepth 100000 in
theorem zb_X8_soon_4 (d : Nat) (a1 a2 s0 : Int) (mm : zMm) : zR d 74 4 [some (.inr (.inr 0)), some (.inl a1), some (.inl a2), none] [.inl s0] SH mm = (if s0 = 0 then zok (-1) mm else if a2 < 1 then zok (-1) mm else if 5 < a2 then zok (-1) mm else zcI (zL d 54 [.inr (.inr 10)] SH mm) fun x sh' mm' => zR d 74 29 [some (.inr (.inr 0)), some (.inl a1), some (.inl a2), none] [.inl x] sh' mm') := (zR_unf d 74 [] 12 4 _ _ _ _).trans rfl
set_option maxRecDepth 100000 in
theorem zb_X8_soon_29 (d : Nat) (a1 a2 s0 : Int) (mm : zMm) : zR d 74 29 [some (.inr (.inr 0)), some (.inl a1), some (.inl a2), none] [.inl s0] SH mm = (if s0 < 0 then zok (-4) mm else zcI (zL d 31 [.inr (.inr 12)] SH mm) fun x sh' mm' => zR d 74 54 [some (.inr (.inr 0)), some (.inl a1), some (.inl a2), some (.inl s0)] [.inl x, .inl s0, .inr (.inr 1)] sh' mm') := (zR_unf d 74 [] 11 29 _ _ _ _).trans rfl
set_option maxRecDepth 100000 in
theorem zb_X8_soon_54 (d : Nat) (a1 a2 a3 s1 s2 : Int) (mm : zMm) : zR d 74 54 [some (.inr (.inr 0)), some (.inl a1), some (.inl a2), some (.inl a3)] [.inl s2, .inl s1, .inr (.inr 1)] SH mm = (zcI (zL d 85 [.inr (.inr 1), .inl s1, .inl s2, .inl a1, .inl a2] SH mm) fun x sh' mm' => zR d 74 59 [some (.inr (.inr 0)), some (.inl a1), some (.inl a2), some (.inl a3)] [.inl x] sh' mm') := (zR_unf d 74 [] 4 54 _ _ _ _).trans rfl
set_option maxRecDepth 100000 in
theorem zb_X8_soon_59 (d : Nat) (a1 a2 a3 s0 : Int) (mm : zMm) : zR d 74 59 [some (.inr (.inr 0)), some (.inl a1), some (.inl a2), some (.inl a3)] [.inl s0] SH mm = (zok s0 mm) := (zR_unf d 74 [] 2 59 _ _ _ _).trans rfl
set_option maxRecDepth 100000 in
theorem zb_X8_habit_0 (d : Nat) (a1 a2 : Int) (mm : zMm) : zR d 75 0 [some (.inr (.inr 0)), some (.inl a1), some (.inl a2)] [] SH mm = (zcI (zL d 2 [.inr (.inr 6), .inl a1] SH mm) fun x sh' mm' => zR d 75 11 [some (.inr (.inr 0)), some (.inl a1), some (.inl a2)] [.inl x] sh' mm') := (zR_unf d 75 [] 6 0 _ _ _ _).trans rfl
set_option maxRecDepth 100000 in
theorem zb_X8_habit_11 (d : Nat) (a1 a2 s0 : Int) (mm : zMm) : zR d 75 11 [some (.inr (.inr 0)), some (.inl a1), some (.inl a2)] [.inl s0] SH mm = (if s0 = 0 then zok (-1) mm else zcI (zL d 79 [.inl a2] SH mm) fun x sh' mm' => zR d 75 18 [some (.inr (.inr 0)), some (.inl a1), some (.inl a2)] [.inl x] sh' mm') := (zR_unf d 75 [] 4 11 _ _ _ _).trans rfl
set_option maxRecDepth 100000 in
theorem zb_X8_habit_18 (d : Nat) (a1 a2 s0 : Int) (mm : zMm) : zR d 75 18 [some (.inr (.inr 0)), some (.inl a1), some (.inl a2)] [.inl s0] SH mm = (if s0 = 0 then zok (-1) mm else zcI (zL d 30 [.inr (.inr 12), .inl a1, .inl a2] SH mm) fun x sh' mm' => zR d 75 35 [some (.inr (.inr 0)), some (.inl a1), some (.inl a2)] [.inl x] sh' mm') := (zR_unf d 75 [] 8 18 _ _ _ _).trans rfl
set_option maxRecDepth 100000 in
theorem zb_X8_habit_35 (d : Nat) (a1 a2 s0 : Int) (mm : zMm) : zR d 75 35 [some (.inr (.inr 0)), some (.inl a1), some (.inl a2)] [.inl s0] SH mm = (zok s0 mm) := (zR_unf d 75 [] 2 35 _ _ _ _).trans rfl
set_option maxRecDepth 100000 in
theorem zb_X8_prevented_0 (d : Nat) (a1 : Int) (mm : zMm) : zR d 76 0 [some (.inr (.inr 0)), some (.inl a1), none] [] SH mm = (if a1 < 0 then zok (-1) mm else if 1 < a1 then zok (-1) mm else zcI (zL d 19 [.inr (.inr 1)] SH mm) fun x sh' mm' => zR d 76 18 [some (.inr (.inr 0)), some (.inl a1), none] [.inl x] sh' mm') := (zR_unf d 76 [] 9 0 _ _ _ _).trans rfl
set_option maxRecDepth 100000 in
theorem zb_X8_prevented_18 (d : Nat) (a1 s0 : Int) (mm : zMm) : zR d 76 18 [some (.inr (.inr 0)), some (.inl a1), none] [.inl s0] SH mm = (if s0 < 0 then zok (-4) mm else if a1 = 0 then zok s0 mm else zcI (zL d 20 [.inr (.inr 1), .inl s0] SH mm) fun x sh' mm' => zR d 76 42 [some (.inr (.inr 0)), some (.inl a1), some (.inl s0)] [.inl x] sh' mm') := (zR_unf d 76 [] 10 18 _ _ _ _).trans rfl
set_option maxRecDepth 100000 in
theorem zb_X8_prevented_42 (d : Nat) (a1 a2 s0 : Int) (mm : zMm) : zR d 76 42 [some (.inr (.inr 0)), some (.inl a1), some (.inl a2)] [.inl s0] SH mm = (zok s0 mm) := (zR_unf d 76 [] 2 42 _ _ _ _).trans rfl
set_option maxRecDepth 100000 in
theorem zb_X8_image_0 (d : Nat) (mm : zMm) : zR d 77 0 [some (.inr (.inr 0))] [] SH mm = (zcV (zL d 13 [.inr (.inr 15), .inr (.inr 1)] SH mm) fun sh' mm' => zR d 77 11 [some (.inr (.inr 0))] [] sh' mm') := (zR_unf d 77 [] 6 0 _ _ _ _).trans rfl
set_option maxRecDepth 100000 in
theorem zb_X8_image_11 (d : Nat) (mm : zMm) : zR d 77 11 [some (.inr (.inr 0))] [] SH mm = (zok 1 (zu mm 0 6 1)) := (zR_unf d 77 [] 6 11 _ _ _ _).trans rfl
set_option maxRecDepth 100000 in
theorem zb_X8_restore_0 (d : Nat) (mm : zMm) : zR d 78 0 [some (.inr (.inr 0))] [] SH mm = (if (mm 0 6) = 0 then zok (-4) mm else zcV (zL d 13 [.inr (.inr 1), .inr (.inr 15)] SH mm) fun sh' mm' => zR d 78 21 [some (.inr (.inr 0))] [] sh' mm') := (zR_unf d 78 [] 9 0 _ _ _ _).trans rfl
set_option maxRecDepth 100000 in
theorem zb_X8_restore_21 (d : Nat) (mm : zMm) : zR d 78 21 [some (.inr (.inr 0))] [] SH mm = (zok 1 mm) := (zR_unf d 78 [] 3 21 _ _ _ _).trans rfl
set_option maxRecDepth 100000 in
theorem zb_X8_isWord_0 (d : Nat) (a0 : Int) (mm : zMm) : zR d 79 0 [some (.inl a0)] [] SH mm = (if a0 < 0 then zok 0 mm else if a0 < 8 then zok 1 mm else zok 0 mm) := (zR_unf d 79 [] 9 0 _ _ _ _).trans rfl
set_option maxRecDepth 100000 in
theorem zb_X8_isRowOfWords_0 (d : Nat) (a0 a1 a2 : Int) (mm : zMm) : zR d 80 0 [some (.inl a0), some (.inl a1), some (.inl a2)] [] SH mm = (if a1 < 1 then zok 0 mm else if a2 < a1 then zok 0 mm else if a0 < 0 then zok 0 mm else if a0 < (zshl 1 (zw (3 * a1))) then zok 1 mm else zok 0 mm) := (zR_unf d 80 [] 19 0 _ _ _ _).trans rfl
set_option maxRecDepth 100000 in
theorem zb_X8_holds_0 (d : Nat) (a0 a1 : Int) (mm : zMm) : zR d 81 0 [some (.inl a0), some (.inl a1)] [] SH mm = (if (zand (zshr a0 a1) 1) = 0 then zok 0 mm else zok 1 mm) := (zR_unf d 81 [] 10 0 _ _ _ _).trans rfl
set_option maxRecDepth 100000 in
theorem zb_X8_bit_0 (d : Nat) (a0 : Int) (mm : zMm) : zR d 82 0 [some (.inl a0)] [] SH mm = (if a0 = 0 then zok 0 mm else zok 1 mm) := (zR_unf d 82 [] 6 0 _ _ _ _).trans rfl
set_option maxRecDepth 100000 in
theorem zb_X8_slipWith_0 (d : Nat) (a0 a1 : Int) (mm : zMm) : zR d 83 0 [some (.inl a0), some (.inl a1), none] [] SH mm = (if (zw ((zw (a0 * 8)) + a1)) < 1024 then zok (zw ((zw (a0 * 8)) + a1)) mm else zok (zw (512 + (zand (zw ((zw (a0 * 8)) + a1)) 511))) mm) := (zR_unf d 83 [] 16 0 _ _ _ _).trans rfl
set_option maxRecDepth 100000 in
theorem zb_X8_slipEndsWith_0 (d : Nat) (a0 a1 a2 : Int) (mm : zMm) : zR d 84 0 [some (.inl a0), some (.inl a1), some (.inl a2), none] [] SH mm = (if a0 < (zshl 1 (zw (3 * a2))) then zok 0 mm else if (zand a0 (zw ((zshl 1 (zw (3 * a2))) - 1))) = a1 then zok 1 mm else zok 0 mm) := (zR_unf d 84 [] 20 0 _ _ _ _).trans rfl
set_option maxRecDepth 100000 in
theorem zb_X8_soonWithin_0 (d : Nat) (a1 a2 a3 a4 : Int) (mm : zMm) : zR d 85 0 [some (.inr (.inr 1)), some (.inl a1), some (.inl a2), some (.inl a3), some (.inl a4), none, none, none, none, none, none, none, none] [] SH mm = (if a4 < 1 then zok 0 mm else if 5 < a4 then zok 0 mm else zcI (zL d 51 [.inr (.inr 10), .inl a1] SH mm) fun x sh' mm' => zR d 85 22 [some (.inr (.inr 1)), some (.inl a1), some (.inl a2), some (.inl a3), some (.inl a4), none, none, none, none, none, none, none, none] [.inl x] sh' mm') := (zR_unf d 85 [70] 11 0 _ _ _ _).trans rfl
set_option maxRecDepth 100000 in
theorem zb_X8_soonWithin_22 (d : Nat) (a1 a2 a3 a4 s0 : Int) (mm : zMm) : zR d 85 22 [some (.inr (.inr 1)), some (.inl a1), some (.inl a2), some (.inl a3), some (.inl a4), none, none, none, none, none, none, none, none] [.inl s0] SH mm = (zcI (zL d 55 [.inr (.inr 10), .inl a1] SH mm) fun x sh' mm' => zR d 85 32 [some (.inr (.inr 1)), some (.inl a1), some (.inl a2), some (.inl a3), some (.inl a4), some (.inl s0), none, none, none, none, none, none, none] [.inl x] sh' mm') := (zR_unf d 85 [70] 6 22 _ _ _ _).trans rfl
set_option maxRecDepth 100000 in
theorem zb_X8_soonWithin_32 (d : Nat) (a1 a2 a3 a4 a5 s0 : Int) (mm : zMm) : zR d 85 32 [some (.inr (.inr 1)), some (.inl a1), some (.inl a2), some (.inl a3), some (.inl a4), some (.inl a5), none, none, none, none, none, none, none] [.inl s0] SH mm = (zcI (zL d 14 [.inr (.inr 1), .inl a5, .inl a2] SH mm) fun x sh' mm' => zR d 85 41 [some (.inr (.inr 1)), some (.inl a1), some (.inl a2), some (.inl a3), some (.inl a4), some (.inl a5), some (.inl s0), none, none, none, none, none, none] [.inl x] sh' mm') := (zR_unf d 85 [70] 6 32 _ _ _ _).trans rfl
set_option maxRecDepth 100000 in
theorem zb_X8_soonWithin_41 (d : Nat) (a1 a2 a3 a4 a5 a6 s0 : Int) (mm : zMm) : zR d 85 41 [some (.inr (.inr 1)), some (.inl a1), some (.inl a2), some (.inl a3), some (.inl a4), some (.inl a5), some (.inl a6), none, none, none, none, none, none] [.inl s0] SH mm = (if s0 = 0 then zcI (zL d 85 [.inr (.inr 1), .inl a6, .inl a2, .inl a3, .inl (zw (a4 - 1))] SH mm) fun x sh' mm' => zR d 85 60 [some (.inr (.inr 1)), some (.inl a1), some (.inl a2), some (.inl a3), some (.inl a4), some (.inl a5), some (.inl a6), some (.inl s0), none, none, none, none, none] [.inl x] sh' mm' else zR d 85 70 [some (.inr (.inr 1)), some (.inl a1), some (.inl a2), some (.inl a3), some (.inl a4), some (.inl a5), some (.inl a6), some (.inl s0), some (.inl 0), some (.inl 0), some (.inl 0), none, none] [] SH mm) := (zR_unf d 85 [70] 12 41 _ _ _ _).trans rfl
set_option maxRecDepth 100000 in
theorem zb_X8_soonWithin_60 (d : Nat) (a1 a2 a3 a4 a5 a6 a7 s0 : Int) (mm : zMm) : zR d 85 60 [some (.inr (.inr 1)), some (.inl a1), some (.inl a2), some (.inl a3), some (.inl a4), some (.inl a5), some (.inl a6), some (.inl a7), none, none, none, none, none] [.inl s0] SH mm = (zok s0 mm) := (zR_unf d 85 [70] 2 60 _ _ _ _).trans rfl
set_option maxRecDepth 100000 in
theorem zb_X8_soonWithin_70 (d : Nat) (a2 a3 a4 a5 a6 a7 a8 a9 a10 : Int) (mm : zMm) : zR d 85 70 [some (.inr (.inr 1)), none, some (.inl a2), some (.inl a3), some (.inl a4), some (.inl a5), some (.inl a6), some (.inl a7), some (.inl a8), some (.inl a9), some (.inl a10), none, none] [] SH mm = (if a10 < 8 then zcI (zL d 81 [.inl a7, .inl a10] SH mm) fun x sh' mm' => zR d 85 84 [some (.inr (.inr 1)), none, some (.inl a2), some (.inl a3), some (.inl a4), some (.inl a5), some (.inl a6), some (.inl a7), some (.inl a8), some (.inl a9), some (.inl a10), none, none] [.inl x] sh' mm' else if 0 < a9 then if a9 = 0 then none else zok (zdiv a8 a9) mm else zok 0 mm) := (zR_unf d 85 [70] 11 70 _ _ _ _).trans rfl
set_option maxRecDepth 100000 in
theorem zb_X8_soonWithin_84 (d : Nat) (a2 a3 a4 a5 a6 a7 a8 a9 a10 s0 : Int) (mm : zMm) : zR d 85 84 [some (.inr (.inr 1)), none, some (.inl a2), some (.inl a3), some (.inl a4), some (.inl a5), some (.inl a6), some (.inl a7), some (.inl a8), some (.inl a9), some (.inl a10), none, none] [.inl s0] SH mm = (if s0 = 0 then zR d 85 70 [some (.inr (.inr 1)), none, some (.inl a2), some (.inl a3), some (.inl a4), some (.inl a5), some (.inl a6), some (.inl a7), some (.inl a8), some (.inl a9), some (.inl (zw (a10 + 1))), none, none] [] SH mm else if a10 = a3 then zcI (zL d 8 [.inr (.inr 6), .inl a5, .inl a10] SH mm) fun x sh' mm' => zR d 85 129 [some (.inr (.inr 1)), none, some (.inl a2), some (.inl a3), some (.inl a4), some (.inl a5), some (.inl a6), some (.inl a7), some (.inl a8), some (.inl a9), some (.inl a10), some (.inl 1000), none] [.inl x] sh' mm' else zcI (zL d 83 [.inl a2, .inl a10] SH mm) fun x sh' mm' => zR d 85 108 [some (.inr (.inr 1)), none, some (.inl a2), some (.inl a3), some (.inl a4), some (.inl a5), some (.inl a6), some (.inl a7), some (.inl a8), some (.inl a9), some (.inl a10), none, none] [.inl x, .inl a6, .inr (.inr 1)] sh' mm') := (zR_unf d 85 [70] 13 84 _ _ _ _).trans rfl
set_option maxRecDepth 100000 in
theorem zb_X8_soonWithin_129 (d : Nat) (a2 a3 a4 a5 a6 a7 a8 a9 a10 a11 s0 : Int) (mm : zMm) : zR d 85 129 [some (.inr (.inr 1)), none, some (.inl a2), some (.inl a3), some (.inl a4), some (.inl a5), some (.inl a6), some (.inl a7), some (.inl a8), some (.inl a9), some (.inl a10), some (.inl a11), none] [.inl s0] SH mm = (zR d 85 70 [some (.inr (.inr 1)), none, some (.inl a2), some (.inl a3), some (.inl a4), some (.inl a5), some (.inl a6), some (.inl a7), some (.inl (zw (a8 + (zw (s0 * a11))))), some (.inl (zw (a9 + s0))), some (.inl (zw (a10 + 1))), some (.inl a11), some (.inl s0)] [] SH mm) := (zR_unf d 85 [70] 14 129 _ _ _ _).trans rfl
set_option maxRecDepth 100000 in
theorem zb_X8_soonWithin_108 (d : Nat) (a2 a3 a4 a5 a6 a7 a8 a9 a10 s1 s2 : Int) (mm : zMm) : zR d 85 108 [some (.inr (.inr 1)), none, some (.inl a2), some (.inl a3), some (.inl a4), some (.inl a5), some (.inl a6), some (.inl a7), some (.inl a8), some (.inl a9), some (.inl a10), none, none] [.inl s2, .inl s1, .inr (.inr 1)] SH mm = (zcI (zL d 85 [.inr (.inr 1), .inl s1, .inl s2, .inl a3, .inl (zw (a4 - 1))] SH mm) fun x sh' mm' => zR d 85 116 [some (.inr (.inr 1)), none, some (.inl a2), some (.inl a3), some (.inl a4), some (.inl a5), some (.inl a6), some (.inl a7), some (.inl a8), some (.inl a9), some (.inl a10), none, none] [.inl x] sh' mm') := (zR_unf d 85 [70] 6 108 _ _ _ _).trans rfl
set_option maxRecDepth 100000 in
theorem zb_X8_soonWithin_116 (d : Nat) (a2 a3 a4 a5 a6 a7 a8 a9 a10 s0 : Int) (mm : zMm) : zR d 85 116 [some (.inr (.inr 1)), none, some (.inl a2), some (.inl a3), some (.inl a4), some (.inl a5), some (.inl a6), some (.inl a7), some (.inl a8), some (.inl a9), some (.inl a10), none, none] [.inl s0] SH mm = (zcI (zL d 8 [.inr (.inr 6), .inl a5, .inl a10] SH mm) fun x sh' mm' => zR d 85 129 [some (.inr (.inr 1)), none, some (.inl a2), some (.inl a3), some (.inl a4), some (.inl a5), some (.inl a6), some (.inl a7), some (.inl a8), some (.inl a9), some (.inl a10), some (.inl s0), none] [.inl x] sh' mm') := (zR_unf d 85 [70] 7 116 _ _ _ _).trans rfl
end
section
theorem ze_X0_copyFromK (d : Nat) (mm : zMm) : zL (d + 1) 1 [.inr (.inr 20), .inr (.inr 6)] SH mm = zR d 1 0 [some (.inr (.inr 20)), some (.inr (.inr 6)), none] [] SH mm := zL_eq d 1 _ SH mm rfl
theorem ze_X0_copyFromN (d : Nat) (mm : zMm) : zL (d + 1) 1 [.inr (.inr 6), .inr (.inr 20)] SH mm = zR d 1 0 [some (.inr (.inr 6)), some (.inr (.inr 20)), none] [] SH mm := zL_eq d 1 _ SH mm rfl
theorem ze_X0_has (d : Nat) (a1 : Int) (mm : zMm) : zL (d + 1) 2 [.inr (.inr 6), .inl a1] SH mm = zR d 2 0 [some (.inr (.inr 6)), some (.inl a1)] [] SH mm := zL_eq d 2 _ SH mm rfl
theorem ze_X0_append (d : Nat) (a1 : Int) (mm : zMm) : zL (d + 1) 3 [.inr (.inr 6), .inl a1] SH mm = zR d 3 0 [some (.inr (.inr 6)), some (.inl a1)] [] SH mm := zL_eq d 3 _ SH mm rfl
theorem ze_X0_kindOf (d : Nat) (a1 : Int) (mm : zMm) : zL (d + 1) 4 [.inr (.inr 6), .inl a1] SH mm = zR d 4 0 [some (.inr (.inr 6)), some (.inl a1)] [] SH mm := zL_eq d 4 _ SH mm rfl
theorem ze_X0_isAlive (d : Nat) (a1 : Int) (mm : zMm) : zL (d + 1) 5 [.inr (.inr 6), .inl a1] SH mm = zR d 5 0 [some (.inr (.inr 6)), some (.inl a1)] [] SH mm := zL_eq d 5 _ SH mm rfl
theorem ze_X0_changeDead (d : Nat) (a1 a2 : Int) (mm : zMm) : zL (d + 1) 6 [.inr (.inr 6), .inl a1, .inl a2] SH mm = zR d 6 0 [some (.inr (.inr 6)), some (.inl a1), some (.inl a2), none] [] SH mm := zL_eq d 6 _ SH mm rfl
theorem ze_X0_living (d : Nat) (mm : zMm) : zL (d + 1) 7 [.inr (.inr 6)] SH mm = zR d 7 0 [some (.inr (.inr 6)), none, none] [] SH mm := zL_eq d 7 _ SH mm rfl
theorem ze_X0_weightOf (d : Nat) (a1 a2 : Int) (mm : zMm) : zL (d + 1) 8 [.inr (.inr 6), .inl a1, .inl a2] SH mm = zR d 8 0 [some (.inr (.inr 6)), some (.inl a1), some (.inl a2)] [] SH mm := zL_eq d 8 _ SH mm rfl
theorem ze_X0_changeWeight (d : Nat) (a1 a2 a3 : Int) (mm : zMm) : zL (d + 1) 9 [.inr (.inr 6), .inl a1, .inl a2, .inl a3] SH mm = zR d 9 0 [some (.inr (.inr 6)), some (.inl a1), some (.inl a2), some (.inl a3), none] [] SH mm := zL_eq d 9 _ SH mm rfl
theorem ze_X0_weightOfSet (d : Nat) (a1 a2 : Int) (mm : zMm) : zL (d + 1) 10 [.inr (.inr 6), .inl a1, .inl a2] SH mm = zR d 10 0 [some (.inr (.inr 6)), some (.inl a1), some (.inl a2), none, none] [] SH mm := zL_eq d 10 _ SH mm rfl
theorem ze_X0_weightedWords (d : Nat) (a1 : Int) (mm : zMm) : zL (d + 1) 11 [.inr (.inr 6), .inl a1] SH mm = zR d 11 0 [some (.inr (.inr 6)), some (.inl a1), none, none] [] SH mm := zL_eq d 11 _ SH mm rfl
theorem ze_X1_copyFromK (d : Nat) (mm : zMm) : zL (d + 1) 13 [.inr (.inr 15), .inr (.inr 1)] SH mm = zR d 13 0 [some (.inr (.inr 15)), some (.inr (.inr 1))] [] SH mm := zL_eq d 13 _ SH mm rfl
theorem ze_X1_copyFromN (d : Nat) (mm : zMm) : zL (d + 1) 13 [.inr (.inr 1), .inr (.inr 15)] SH mm = zR d 13 0 [some (.inr (.inr 1)), some (.inr (.inr 15))] [] SH mm := zL_eq d 13 _ SH mm rfl
theorem ze_X1_canCome (d : Nat) (a1 a2 : Int) (mm : zMm) : zL (d + 1) 14 [.inr (.inr 1), .inl a1, .inl a2] SH mm = zR d 14 0 [some (.inr (.inr 1)), some (.inl a1), some (.inl a2)] [] SH mm := zL_eq d 14 _ SH mm rfl
theorem ze_X1_hasEnded (d : Nat) (a1 : Int) (mm : zMm) : zL (d + 1) 15 [.inr (.inr 1), .inl a1] SH mm = zR d 15 0 [some (.inr (.inr 1)), some (.inl a1), none] [] SH mm := zL_eq d 15 _ SH mm rfl
theorem ze_X1_addDrawnWord (d : Nat) (mm : zMm) : zL (d + 1) 16 [.inr (.inr 1)] SH mm = zR d 16 0 [some (.inr (.inr 1)), none, none] [] SH mm := zL_eq d 16 _ SH mm rfl
theorem ze_X1_drawnWord (d : Nat) (a1 a2 : Int) (mm : zMm) : zL (d + 1) 17 [.inr (.inr 1), .inl a1, .inl a2] SH mm = zR d 17 0 [some (.inr (.inr 1)), some (.inl a1), some (.inl a2), none, none, none, none] [] SH mm := zL_eq d 17 _ SH mm rfl
theorem ze_X1_lineEndingAt (d : Nat) (a1 : Int) (mm : zMm) : zL (d + 1) 18 [.inr (.inr 1), .inl a1] SH mm = zR d 18 0 [some (.inr (.inr 1)), some (.inl a1), none, none] [] SH mm := zL_eq d 18 _ SH mm rfl
theorem ze_X1_firstLineEnd (d : Nat) (mm : zMm) : zL (d + 1) 19 [.inr (.inr 1)] SH mm = zR d 19 0 [some (.inr (.inr 1)), none] [] SH mm := zL_eq d 19 _ SH mm rfl
theorem ze_X1_preventers (d : Nat) (a1 : Int) (mm : zMm) : zL (d + 1) 20 [.inr (.inr 1), .inl a1] SH mm = zR d 20 0 [some (.inr (.inr 1)), some (.inl a1), none, none, none, none] [] SH mm := zL_eq d 20 _ SH mm rfl
theorem ze_X1_couldHaveWrittenElse (d : Nat) (a1 a2 : Int) (mm : zMm) : zL (d + 1) 21 [.inr (.inr 1), .inl a1, .inl a2] SH mm = zR d 21 0 [some (.inr (.inr 1)), some (.inl a1), some (.inl a2), none] [] SH mm := zL_eq d 21 _ SH mm rfl
theorem ze_X2_copyFromK (d : Nat) (mm : zMm) : zL (d + 1) 23 [.inr (.inr 26), .inr (.inr 12)] SH mm = zR d 23 0 [some (.inr (.inr 26)), some (.inr (.inr 12))] [] SH mm := zL_eq d 23 _ SH mm rfl
theorem ze_X2_copyFromN (d : Nat) (mm : zMm) : zL (d + 1) 23 [.inr (.inr 12), .inr (.inr 26)] SH mm = zR d 23 0 [some (.inr (.inr 12)), some (.inr (.inr 26))] [] SH mm := zL_eq d 23 _ SH mm rfl
theorem ze_X2_isFull (d : Nat) (mm : zMm) : zL (d + 1) 24 [.inr (.inr 12)] SH mm = zR d 24 0 [some (.inr (.inr 12))] [] SH mm := zL_eq d 24 _ SH mm rfl
theorem ze_X2_has (d : Nat) (a1 : Int) (mm : zMm) : zL (d + 1) 25 [.inr (.inr 12), .inl a1] SH mm = zR d 25 0 [some (.inr (.inr 12)), some (.inl a1)] [] SH mm := zL_eq d 25 _ SH mm rfl
theorem ze_X2_append (d : Nat) (a1 a2 : Int) (mm : zMm) : zL (d + 1) 26 [.inr (.inr 12), .inl a1, .inl a2] SH mm = zR d 26 0 [some (.inr (.inr 12)), some (.inl a1), some (.inl a2)] [] SH mm := zL_eq d 26 _ SH mm rfl
theorem ze_X2_wordAt (d : Nat) (a1 : Int) (mm : zMm) : zL (d + 1) 27 [.inr (.inr 12), .inl a1] SH mm = zR d 27 0 [some (.inr (.inr 12)), some (.inl a1)] [] SH mm := zL_eq d 27 _ SH mm rfl
theorem ze_X2_writerAt (d : Nat) (a1 : Int) (mm : zMm) : zL (d + 1) 28 [.inr (.inr 12), .inl a1] SH mm = zR d 28 0 [some (.inr (.inr 12)), some (.inl a1)] [] SH mm := zL_eq d 28 _ SH mm rfl
theorem ze_X2_known (d : Nat) (mm : zMm) : zL (d + 1) 29 [.inr (.inr 12)] SH mm = zR d 29 0 [some (.inr (.inr 12)), none, none] [] SH mm := zL_eq d 29 _ SH mm rfl
theorem ze_X2_habitOf (d : Nat) (a1 a2 : Int) (mm : zMm) : zL (d + 1) 30 [.inr (.inr 12), .inl a1, .inl a2] SH mm = zR d 30 0 [some (.inr (.inr 12)), some (.inl a1), some (.inl a2), none, none] [] SH mm := zL_eq d 30 _ SH mm rfl
theorem ze_X2_slip (d : Nat) (mm : zMm) : zL (d + 1) 31 [.inr (.inr 12)] SH mm = zR d 31 0 [some (.inr (.inr 12))] [] SH mm := zL_eq d 31 _ SH mm rfl
theorem ze_X2_slipAheadOf (d : Nat) (a1 : Int) (mm : zMm) : zL (d + 1) 32 [.inr (.inr 12), .inl a1] SH mm = zR d 32 0 [some (.inr (.inr 12)), some (.inl a1), none, none] [] SH mm := zL_eq d 32 _ SH mm rfl
theorem ze_X3_fewestTurns (d : Nat) (a2 a3 : Int) (mm : zMm) : zL (d + 1) 34 [.inr (.inr 33), .inr (.inr 1), .inl a2, .inl a3] SH mm = zR d 34 0 [some (.inr (.inr 33)), some (.inr (.inr 1)), some (.inl a2), some (.inl a3), none, none, none, none, none, none] [] SH mm := zL_eq d 34 _ SH mm rfl
theorem ze_X3_hasAim (d : Nat) (a2 a3 a4 a5 : Int) (mm : zMm) : zL (d + 1) 35 [.inr (.inr 33), .inr (.inr 1), .inl a2, .inl a3, .inl a4, .inl a5] SH mm = zR d 35 0 [some (.inr (.inr 33)), some (.inr (.inr 1)), some (.inl a2), some (.inl a3), some (.inl a4), some (.inl a5), none] [] SH mm := zL_eq d 35 _ SH mm rfl
theorem ze_X3_slipAt (d : Nat) (a1 : Int) (mm : zMm) : zL (d + 1) 36 [.inr (.inr 33), .inl a1] SH mm = zR d 36 0 [some (.inr (.inr 33)), some (.inl a1)] [] SH mm := zL_eq d 36 _ SH mm rfl
theorem ze_X3_spread (d : Nat) (a2 a3 a4 : Int) (mm : zMm) : zL (d + 1) 37 [.inr (.inr 33), .inr (.inr 1), .inl a2, .inl a3, .inl a4] SH mm = zR d 37 0 [some (.inr (.inr 33)), some (.inr (.inr 1)), some (.inl a2), some (.inl a3), some (.inl a4), none, none] [] SH mm := zL_eq d 37 _ SH mm rfl
theorem ze_X3_note (d : Nat) (a1 a2 : Int) (mm : zMm) : zL (d + 1) 38 [.inr (.inr 33), .inl a1, .inl a2] SH mm = zR d 38 0 [some (.inr (.inr 33)), some (.inl a1), some (.inl a2)] [] SH mm := zL_eq d 38 _ SH mm rfl
theorem ze_X6_copyFromK (d : Nat) (mm : zMm) : zL (d + 1) 42 [.inr (.inr 16), .inr (.inr 2)] SH mm = zR d 42 0 [some (.inr (.inr 16)), some (.inr (.inr 2))] [] SH mm := zL_eq d 42 _ SH mm rfl
theorem ze_X6_copyFromN (d : Nat) (mm : zMm) : zL (d + 1) 42 [.inr (.inr 2), .inr (.inr 16)] SH mm = zR d 42 0 [some (.inr (.inr 2)), some (.inr (.inr 16))] [] SH mm := zL_eq d 42 _ SH mm rfl
theorem ze_X6_changeFollowing (d : Nat) (a1 a2 : Int) (mm : zMm) : zL (d + 1) 43 [.inr (.inr 2), .inl a1, .inl a2] SH mm = zR d 43 0 [some (.inr (.inr 2)), some (.inl a1), some (.inl a2), none] [] SH mm := zL_eq d 43 _ SH mm rfl
theorem ze_X6_appendLine (d : Nat) (a1 a2 : Int) (mm : zMm) : zL (d + 1) 44 [.inr (.inr 2), .inl a1, .inl a2] SH mm = zR d 44 0 [some (.inr (.inr 2)), some (.inl a1), some (.inl a2)] [] SH mm := zL_eq d 44 _ SH mm rfl
theorem ze_X6_mayCome (d : Nat) (a1 a2 : Int) (mm : zMm) : zL (d + 1) 45 [.inr (.inr 2), .inl a1, .inl a2] SH mm = zR d 45 0 [some (.inr (.inr 2)), some (.inl a1), some (.inl a2), none, none, none] [] SH mm := zL_eq d 45 _ SH mm rfl
theorem ze_X6_lineAtEndOf (d : Nat) (a1 a2 : Int) (mm : zMm) : zL (d + 1) 46 [.inr (.inr 2), .inl a1, .inl a2] SH mm = zR d 46 0 [some (.inr (.inr 2)), some (.inl a1), some (.inl a2), none, none] [] SH mm := zL_eq d 46 _ SH mm rfl
theorem ze_X6_lengthOfLine (d : Nat) (a1 : Int) (mm : zMm) : zL (d + 1) 47 [.inr (.inr 2), .inl a1] SH mm = zR d 47 0 [some (.inr (.inr 2)), some (.inl a1)] [] SH mm := zL_eq d 47 _ SH mm rfl
theorem ze_X7_copyFromK (d : Nat) (mm : zMm) : zL (d + 1) 49 [.inr (.inr 24), .inr (.inr 10)] SH mm = zR d 49 0 [some (.inr (.inr 24)), some (.inr (.inr 10))] [] SH mm := zL_eq d 49 _ SH mm rfl
theorem ze_X7_copyFromN (d : Nat) (mm : zMm) : zL (d + 1) 49 [.inr (.inr 10), .inr (.inr 24)] SH mm = zR d 49 0 [some (.inr (.inr 10)), some (.inr (.inr 24))] [] SH mm := zL_eq d 49 _ SH mm rfl
theorem ze_X7_takeSeat (d : Nat) (a1 : Int) (mm : zMm) : zL (d + 1) 50 [.inr (.inr 10), .inl a1] SH mm = zR d 50 0 [some (.inr (.inr 10)), some (.inl a1)] [] SH mm := zL_eq d 50 _ SH mm rfl
theorem ze_X7_cellOn (d : Nat) (a1 : Int) (mm : zMm) : zL (d + 1) 51 [.inr (.inr 10), .inl a1] SH mm = zR d 51 0 [some (.inr (.inr 10)), some (.inl a1)] [] SH mm := zL_eq d 51 _ SH mm rfl
theorem ze_X7_seatOf (d : Nat) (a1 : Int) (mm : zMm) : zL (d + 1) 52 [.inr (.inr 10), .inl a1] SH mm = zR d 52 0 [some (.inr (.inr 10)), some (.inl a1), none] [] SH mm := zL_eq d 52 _ SH mm rfl
theorem ze_X7_changeSeats (d : Nat) (a1 a2 : Int) (mm : zMm) : zL (d + 1) 53 [.inr (.inr 10), .inl a1, .inl a2] SH mm = zR d 53 0 [some (.inr (.inr 10)), some (.inl a1), some (.inl a2), none, none] [] SH mm := zL_eq d 53 _ SH mm rfl
theorem ze_X7_seatOfTurn (d : Nat) (mm : zMm) : zL (d + 1) 54 [.inr (.inr 10)] SH mm = zR d 54 0 [some (.inr (.inr 10))] [] SH mm := zL_eq d 54 _ SH mm rfl
theorem ze_X7_seatBehind (d : Nat) (a1 : Int) (mm : zMm) : zL (d + 1) 55 [.inr (.inr 10), .inl a1] SH mm = zR d 55 0 [some (.inr (.inr 10)), some (.inl a1)] [] SH mm := zL_eq d 55 _ SH mm rfl
theorem ze_X7_livingSeatPast (d : Nat) (a1 a2 : Int) (mm : zMm) : zL (d + 1) 56 [.inr (.inr 10), .inl a1, .inl a2] SH mm = zR d 56 0 [some (.inr (.inr 10)), some (.inl a1), some (.inl a2), none, none, none] [] SH mm := zL_eq d 56 _ SH mm rfl
theorem ze_X7_goOn (d : Nat) (mm : zMm) : zL (d + 1) 57 [.inr (.inr 10)] SH mm = zR d 57 0 [some (.inr (.inr 10))] [] SH mm := zL_eq d 57 _ SH mm rfl
theorem ze_X8_follow (d : Nat) (a1 a2 : Int) (mm : zMm) : zL (d + 1) 59 [.inr (.inr 0), .inl a1, .inl a2] SH mm = zR d 59 0 [some (.inr (.inr 0)), some (.inl a1), some (.inl a2)] [] SH mm := zL_eq d 59 _ SH mm rfl
theorem ze_X8_line (d : Nat) (a1 a2 : Int) (mm : zMm) : zL (d + 1) 60 [.inr (.inr 0), .inl a1, .inl a2] SH mm = zR d 60 0 [some (.inr (.inr 0)), some (.inl a1), some (.inl a2)] [] SH mm := zL_eq d 60 _ SH mm rfl
theorem ze_X8_cell (d : Nat) (a1 : Int) (mm : zMm) : zL (d + 1) 61 [.inr (.inr 0), .inl a1] SH mm = zR d 61 0 [some (.inr (.inr 0)), some (.inl a1), none] [] SH mm := zL_eq d 61 _ SH mm rfl
theorem ze_X8_weight (d : Nat) (a1 a2 a3 : Int) (mm : zMm) : zL (d + 1) 62 [.inr (.inr 0), .inl a1, .inl a2, .inl a3] SH mm = zR d 62 0 [some (.inr (.inr 0)), some (.inl a1), some (.inl a2), some (.inl a3)] [] SH mm := zL_eq d 62 _ SH mm rfl
theorem ze_X8_dead (d : Nat) (a1 a2 : Int) (mm : zMm) : zL (d + 1) 63 [.inr (.inr 0), .inl a1, .inl a2] SH mm = zR d 63 0 [some (.inr (.inr 0)), some (.inl a1), some (.inl a2)] [] SH mm := zL_eq d 63 _ SH mm rfl
theorem ze_X8_swap (d : Nat) (a1 a2 : Int) (mm : zMm) : zL (d + 1) 64 [.inr (.inr 0), .inl a1, .inl a2] SH mm = zR d 64 0 [some (.inr (.inr 0)), some (.inl a1), some (.inl a2)] [] SH mm := zL_eq d 64 _ SH mm rfl
theorem ze_X8_turn (d : Nat) (a1 : Int) (mm : zMm) : zL (d + 1) 65 [.inr (.inr 0), .inl a1] SH mm = zR d 65 0 [some (.inr (.inr 0)), some (.inl a1), none] [] SH mm := zL_eq d 65 _ SH mm rfl
theorem ze_X8_told (d : Nat) (a1 a2 : Int) (mm : zMm) : zL (d + 1) 66 [.inr (.inr 0), .inl a1, .inl a2] SH mm = zR d 66 0 [some (.inr (.inr 0)), some (.inl a1), some (.inl a2)] [] SH mm := zL_eq d 66 _ SH mm rfl
theorem ze_X8_count (d : Nat) (a1 : Int) (mm : zMm) : zL (d + 1) 67 [.inr (.inr 0), .inl a1] SH mm = zR d 67 0 [some (.inr (.inr 0)), some (.inl a1)] [] SH mm := zL_eq d 67 _ SH mm rfl
theorem ze_X8_read (d : Nat) (a1 a2 : Int) (mm : zMm) : zL (d + 1) 68 [.inr (.inr 0), .inl a1, .inl a2] SH mm = zR d 68 0 [some (.inr (.inr 0)), some (.inl a1), some (.inl a2)] [] SH mm := zL_eq d 68 _ SH mm rfl
theorem ze_X8_come (d : Nat) (a1 : Int) (mm : zMm) : zL (d + 1) 69 [.inr (.inr 0), .inl a1] SH mm = zR d 69 0 [some (.inr (.inr 0)), some (.inl a1)] [] SH mm := zL_eq d 69 _ SH mm rfl
theorem ze_X8_draw (d : Nat) (a1 : Int) (mm : zMm) : zL (d + 1) 70 [.inr (.inr 0), .inl a1] SH mm = zR d 70 0 [some (.inr (.inr 0)), some (.inl a1), none, none] [] SH mm := zL_eq d 70 _ SH mm rfl
theorem ze_X8_seed (d : Nat) (a1 : Int) (mm : zMm) : zL (d + 1) 71 [.inr (.inr 0), .inl a1] SH mm = zR d 71 0 [some (.inr (.inr 0)), some (.inl a1), none] [] SH mm := zL_eq d 71 _ SH mm rfl
theorem ze_X8_undo (d : Nat) (a1 : Int) (mm : zMm) : zL (d + 1) 72 [.inr (.inr 0), .inl a1] SH mm = zR d 72 0 [some (.inr (.inr 0)), some (.inl a1)] [] SH mm := zL_eq d 72 _ SH mm rfl
theorem ze_X8_reach (d : Nat) (a1 a2 : Int) (mm : zMm) : zL (d + 1) 73 [.inr (.inr 0), .inl a1, .inl a2] SH mm = zR d 73 0 [some (.inr (.inr 0)), some (.inl a1), some (.inl a2)] [] SH mm := zL_eq d 73 _ SH mm rfl
theorem ze_X8_soon (d : Nat) (a1 a2 : Int) (mm : zMm) : zL (d + 1) 74 [.inr (.inr 0), .inl a1, .inl a2] SH mm = zR d 74 0 [some (.inr (.inr 0)), some (.inl a1), some (.inl a2), none] [] SH mm := zL_eq d 74 _ SH mm rfl
theorem ze_X8_habit (d : Nat) (a1 a2 : Int) (mm : zMm) : zL (d + 1) 75 [.inr (.inr 0), .inl a1, .inl a2] SH mm = zR d 75 0 [some (.inr (.inr 0)), some (.inl a1), some (.inl a2)] [] SH mm := zL_eq d 75 _ SH mm rfl
theorem ze_X8_prevented (d : Nat) (a1 : Int) (mm : zMm) : zL (d + 1) 76 [.inr (.inr 0), .inl a1] SH mm = zR d 76 0 [some (.inr (.inr 0)), some (.inl a1), none] [] SH mm := zL_eq d 76 _ SH mm rfl
theorem ze_X8_image (d : Nat) (mm : zMm) : zL (d + 1) 77 [.inr (.inr 0)] SH mm = zR d 77 0 [some (.inr (.inr 0))] [] SH mm := zL_eq d 77 _ SH mm rfl
theorem ze_X8_restore (d : Nat) (mm : zMm) : zL (d + 1) 78 [.inr (.inr 0)] SH mm = zR d 78 0 [some (.inr (.inr 0))] [] SH mm := zL_eq d 78 _ SH mm rfl
theorem ze_X8_isWord (d : Nat) (a0 : Int) (mm : zMm) : zL (d + 1) 79 [.inl a0] SH mm = zR d 79 0 [some (.inl a0)] [] SH mm := zL_eq d 79 _ SH mm rfl
theorem ze_X8_isRowOfWords (d : Nat) (a0 a1 a2 : Int) (mm : zMm) : zL (d + 1) 80 [.inl a0, .inl a1, .inl a2] SH mm = zR d 80 0 [some (.inl a0), some (.inl a1), some (.inl a2)] [] SH mm := zL_eq d 80 _ SH mm rfl
theorem ze_X8_holds (d : Nat) (a0 a1 : Int) (mm : zMm) : zL (d + 1) 81 [.inl a0, .inl a1] SH mm = zR d 81 0 [some (.inl a0), some (.inl a1)] [] SH mm := zL_eq d 81 _ SH mm rfl
theorem ze_X8_bit (d : Nat) (a0 : Int) (mm : zMm) : zL (d + 1) 82 [.inl a0] SH mm = zR d 82 0 [some (.inl a0)] [] SH mm := zL_eq d 82 _ SH mm rfl
theorem ze_X8_slipWith (d : Nat) (a0 a1 : Int) (mm : zMm) : zL (d + 1) 83 [.inl a0, .inl a1] SH mm = zR d 83 0 [some (.inl a0), some (.inl a1), none] [] SH mm := zL_eq d 83 _ SH mm rfl
theorem ze_X8_slipEndsWith (d : Nat) (a0 a1 a2 : Int) (mm : zMm) : zL (d + 1) 84 [.inl a0, .inl a1, .inl a2] SH mm = zR d 84 0 [some (.inl a0), some (.inl a1), some (.inl a2), none] [] SH mm := zL_eq d 84 _ SH mm rfl
theorem ze_X8_soonWithin (d : Nat) (a1 a2 a3 a4 : Int) (mm : zMm) : zL (d + 1) 85 [.inr (.inr 1), .inl a1, .inl a2, .inl a3, .inl a4] SH mm = zR d 85 0 [some (.inr (.inr 1)), some (.inl a1), some (.inl a2), some (.inl a3), some (.inl a4), none, none, none, none, none, none, none, none] [] SH mm := zL_eq d 85 _ SH mm rfl
theorem ze_J6_bitCount_0f7a4 (d : Nat) (a0 : Int) (mm : zMm) : zL (d + 1) 86 [.inl a0] SH mm = zR d 86 0 [some (.inl a0)] [] SH mm := zL_eq d 86 _ SH mm rfl
theorem ze_J9_floorMod_7cf53 (d : Nat) (a0 a1 : Int) (mm : zMm) : zL (d + 1) 87 [.inl a0, .inl a1] SH mm = zR d 87 0 [some (.inl a0), some (.inl a1), none] [] SH mm := zL_eq d 87 _ SH mm rfl
theorem ze_J9_max_7cf53 (d : Nat) (a0 a1 : Int) (mm : zMm) : zL (d + 1) 88 [.inl a0, .inl a1] SH mm = zR d 88 0 [some (.inl a0), some (.inl a1)] [] SH mm := zL_eq d 88 _ SH mm rfl
theorem ze_L_cell (d : Nat) (a1 : Int) (mm : zMm) : zL (d + 1) 89 [.inr (.inr 999), .inl a1] SH mm = zR d 89 0 [some (.inr (.inr 999)), some (.inl a1)] [] SH mm := zL_eq d 89 _ SH mm rfl
theorem ze_L_some (d : Nat) (a0 a1 : Int) (mm : zMm) : zL (d + 1) 90 [.inl a0, .inl a1] SH mm = zR d 90 0 [some (.inl a0), some (.inl a1)] [] SH mm := zL_eq d 90 _ SH mm rfl
theorem ze_L_build (d : Nat) (a2 a8 : Int) (mm : zMm) : zL (d + 1) 91 [.inr (.inr 0), .inr (.inr 999), .inl a2, .inr (.inr 45), .inr (.inr 46), .inr (.inr 47), .inr (.inr 48), .inr (.inr 51), .inl a8] SH mm = zR d 91 0 [some (.inr (.inr 0)), some (.inr (.inr 999)), some (.inl a2), some (.inr (.inr 45)), some (.inr (.inr 46)), some (.inr (.inr 47)), some (.inr (.inr 48)), some (.inr (.inr 51)), some (.inl a8), none, none, none, none, none, none, none, none, none, none] [] SH mm := zL_eq d 91 _ SH mm rfl
end
section
set_option maxRecDepth 100000 in
theorem zb_L_cell_0 (d : Nat) (a1 : Int) (mm : zMm) : zR d 89 0 [some (.inr (.inr 999)), some (.inl a1)] [] SH mm = (if a1 < (mm 998 0) then if 0 ≤ a1 ∧ a1 < mm 998 0 then zok (mm 999 ((a1).toNat)) mm else none else zok (zw (625341585 * (zw (a1 + 3)))) mm) := (zR_unf d 89 [] 11 0 _ _ _ _).trans rfl
set_option maxRecDepth 100000 in
theorem zb_L_some_0 (d : Nat) (a0 a1 : Int) (mm : zMm) : zR d 90 0 [some (.inl a0), some (.inl a1)] [] SH mm = (if a1 = 0 then none else zok (zrem (zand a0 2147483647) a1) mm) := (zR_unf d 90 [] 7 0 _ _ _ _).trans rfl
set_option maxRecDepth 100000 in
theorem zb_L_build_0 (d : Nat) (a2 a8 : Int) (mm : zMm) : zR d 91 0 [some (.inr (.inr 0)), some (.inr (.inr 999)), some (.inl a2), some (.inr (.inr 45)), some (.inr (.inr 46)), some (.inr (.inr 47)), some (.inr (.inr 48)), some (.inr (.inr 51)), some (.inl a8), none, none, none, none, none, none, none, none, none, none] [] SH mm = (zcI (zL d 89 [.inr (.inr 999), .inl a2] SH mm) fun x sh' mm' => zR d 91 5 [some (.inr (.inr 0)), some (.inr (.inr 999)), some (.inl a2), some (.inr (.inr 45)), some (.inr (.inr 46)), some (.inr (.inr 47)), some (.inr (.inr 48)), some (.inr (.inr 51)), some (.inl a8), none, none, none, none, none, none, none, none, none, none] [.inl x] sh' mm') := (zR_unf d 91 [22, 152, 299, 389, 503, 581] 4 0 _ _ _ _).trans rfl
set_option maxRecDepth 100000 in
theorem zb_L_build_5 (d : Nat) (a2 a8 s0 : Int) (mm : zMm) : zR d 91 5 [some (.inr (.inr 0)), some (.inr (.inr 999)), some (.inl a2), some (.inr (.inr 45)), some (.inr (.inr 46)), some (.inr (.inr 47)), some (.inr (.inr 48)), some (.inr (.inr 51)), some (.inl a8), none, none, none, none, none, none, none, none, none, none] [.inl s0] SH mm = (zcI (zL d 89 [.inr (.inr 999), .inl (zw (a2 + 1))] SH mm) fun x sh' mm' => zR d 91 14 [some (.inr (.inr 0)), some (.inr (.inr 999)), some (.inl a2), some (.inr (.inr 45)), some (.inr (.inr 46)), some (.inr (.inr 47)), some (.inr (.inr 48)), some (.inr (.inr 51)), some (.inl a8), some (.inl s0), none, none, none, none, none, none, none, none, none] [.inl x] sh' mm') := (zR_unf d 91 [22, 152, 299, 389, 503, 581] 7 5 _ _ _ _).trans rfl
set_option maxRecDepth 100000 in
theorem zb_L_build_14 (d : Nat) (a2 a8 a9 s0 : Int) (mm : zMm) : zR d 91 14 [some (.inr (.inr 0)), some (.inr (.inr 999)), some (.inl a2), some (.inr (.inr 45)), some (.inr (.inr 46)), some (.inr (.inr 47)), some (.inr (.inr 48)), some (.inr (.inr 51)), some (.inl a8), some (.inl a9), none, none, none, none, none, none, none, none, none] [.inl s0] SH mm = (zR d 91 22 [some (.inr (.inr 0)), some (.inr (.inr 999)), some (.inl a2), some (.inr (.inr 45)), some (.inr (.inr 46)), some (.inr (.inr 47)), some (.inr (.inr 48)), some (.inr (.inr 51)), some (.inl a8), some (.inl a9), some (.inl s0), some (.inl 1), some (.inl 0), none, none, none, none, none, none] [] SH mm) := (zR_unf d 91 [22, 152, 299, 389, 503, 581] 6 14 _ _ _ _).trans rfl
set_option maxRecDepth 100000 in
theorem zb_L_build_22 (d : Nat) (a2 a8 a9 a10 a11 a12 : Int) (mm : zMm) : zR d 91 22 [some (.inr (.inr 0)), some (.inr (.inr 999)), some (.inl a2), some (.inr (.inr 45)), some (.inr (.inr 46)), some (.inr (.inr 47)), some (.inr (.inr 48)), some (.inr (.inr 51)), some (.inl a8), some (.inl a9), some (.inl a10), some (.inl a11), some (.inl a12), none, none, none, none, none, none] [] SH mm = (if a12 < 8 then if a11 = 0 then zcI (zL d 90 [.inl (zshr a9 2), .inl 7] SH mm) fun x sh' mm' => zR d 91 148 [some (.inr (.inr 0)), some (.inr (.inr 999)), some (.inl a2), some (.inr (.inr 45)), some (.inr (.inr 46)), some (.inr (.inr 47)), some (.inr (.inr 48)), some (.inr (.inr 51)), some (.inl a8), some (.inl a9), some (.inl a10), some (.inl a11), some (.inl a12), none, none, none, none, none, none] [.inl x, .inl 12, .inr (.inr 46)] sh' mm' else zcI (zL d 89 [.inr (.inr 999), .inl (zw ((zw (a2 + 2)) + a12))] SH mm) fun x sh' mm' => zR d 91 44 [some (.inr (.inr 0)), some (.inr (.inr 999)), some (.inl a2), some (.inr (.inr 45)), some (.inr (.inr 46)), some (.inr (.inr 47)), some (.inr (.inr 48)), some (.inr (.inr 51)), some (.inl a8), some (.inl a9), some (.inl a10), some (.inl a11), some (.inl a12), none, none, none, none, none, none] [.inl x] sh' mm' else zcI (zL d 90 [.inl (zshr a9 2), .inl 7] SH mm) fun x sh' mm' => zR d 91 148 [some (.inr (.inr 0)), some (.inr (.inr 999)), some (.inl a2), some (.inr (.inr 45)), some (.inr (.inr 46)), some (.inr (.inr 47)), some (.inr (.inr 48)), some (.inr (.inr 51)), some (.inl a8), some (.inl a9), some (.inl a10), some (.inl a11), some (.inl a12), none, none, none, none, none, none] [.inl x, .inl 12, .inr (.inr 46)] sh' mm') := (zR_unf d 91 [22, 152, 299, 389, 503, 581] 13 22 _ _ _ _).trans rfl
set_option maxRecDepth 100000 in
theorem zb_L_build_148 (d : Nat) (a2 a8 a9 a10 a11 a12 s1 s2 : Int) (mm : zMm) : zR d 91 148 [some (.inr (.inr 0)), some (.inr (.inr 999)), some (.inl a2), some (.inr (.inr 45)), some (.inr (.inr 46)), some (.inr (.inr 47)), some (.inr (.inr 48)), some (.inr (.inr 51)), some (.inl a8), some (.inl a9), some (.inl a10), some (.inl a11), some (.inl a12), none, none, none, none, none, none] [.inl s2, .inl s1, .inr (.inr 46)] SH mm = (if 0 ≤ s1 ∧ s1 < 16 then zR d 91 152 [some (.inr (.inr 0)), some (.inr (.inr 999)), some (.inl a2), some (.inr (.inr 45)), some (.inr (.inr 46)), some (.inr (.inr 47)), some (.inr (.inr 48)), some (.inr (.inr 51)), some (.inl a8), some (.inl a9), some (.inl a10), some (.inl a11), some (.inl 0), none, none, none, none, none, none] [] SH (zu mm 46 ((s1).toNat) s2) else none) := (zR_unf d 91 [22, 152, 299, 389, 503, 581] 4 148 _ _ _ _).trans rfl
set_option maxRecDepth 100000 in
theorem zb_L_build_44 (d : Nat) (a2 a8 a9 a10 a11 a12 s0 : Int) (mm : zMm) : zR d 91 44 [some (.inr (.inr 0)), some (.inr (.inr 999)), some (.inl a2), some (.inr (.inr 45)), some (.inr (.inr 46)), some (.inr (.inr 47)), some (.inr (.inr 48)), some (.inr (.inr 51)), some (.inl a8), some (.inl a9), some (.inl a10), some (.inl a11), some (.inl a12), none, none, none, none, none, none] [.inl s0] SH mm = (zcI (zL d 90 [.inl a9, .inl 3] SH mm) fun x sh' mm' => zR d 91 55 [some (.inr (.inr 0)), some (.inr (.inr 999)), some (.inl a2), some (.inr (.inr 45)), some (.inr (.inr 46)), some (.inr (.inr 47)), some (.inr (.inr 48)), some (.inr (.inr 51)), some (.inl a8), some (.inl a9), some (.inl a10), some (.inl a11), some (.inl a12), some (.inl s0), none, none, none, none, none] [.inl x, .inl a12, .inr (.inr 45)] sh' mm') := (zR_unf d 91 [22, 152, 299, 389, 503, 581] 7 44 _ _ _ _).trans rfl
set_option maxRecDepth 100000 in
theorem zb_L_build_152 (d : Nat) (a2 a8 a9 a10 a11 a12 : Int) (mm : zMm) : zR d 91 152 [some (.inr (.inr 0)), some (.inr (.inr 999)), some (.inl a2), none, some (.inr (.inr 46)), some (.inr (.inr 47)), some (.inr (.inr 48)), some (.inr (.inr 51)), some (.inl a8), some (.inl a9), some (.inl a10), some (.inl a11), some (.inl a12), none, none, none, none, none, none] [] SH mm = (if a12 < (mm 46 12) then if a11 = 0 then zcI (zL d 90 [.inl (zshr a9 6), .inl (zw (7 - a8))] SH mm) fun x sh' mm' => zR d 91 289 [some (.inr (.inr 0)), some (.inr (.inr 999)), some (.inl a2), none, some (.inr (.inr 46)), some (.inr (.inr 47)), some (.inr (.inr 48)), some (.inr (.inr 51)), some (.inl a8), some (.inl a9), some (.inl a10), some (.inl a11), some (.inl a12), none, none, none, none, none, none] [.inl x, .inl a8, .inl 0, .inr (.inr 51)] sh' mm' else zcI (zL d 89 [.inr (.inr 999), .inl (zw ((zw (a2 + 10)) + a12))] SH mm) fun x sh' mm' => zR d 91 178 [some (.inr (.inr 0)), some (.inr (.inr 999)), some (.inl a2), none, some (.inr (.inr 46)), some (.inr (.inr 47)), some (.inr (.inr 48)), some (.inr (.inr 51)), some (.inl a8), some (.inl a9), some (.inl a10), some (.inl a11), some (.inl a12), none, none, none, none, none, none] [.inl x] sh' mm' else zcI (zL d 90 [.inl (zshr a9 6), .inl (zw (7 - a8))] SH mm) fun x sh' mm' => zR d 91 289 [some (.inr (.inr 0)), some (.inr (.inr 999)), some (.inl a2), none, some (.inr (.inr 46)), some (.inr (.inr 47)), some (.inr (.inr 48)), some (.inr (.inr 51)), some (.inl a8), some (.inl a9), some (.inl a10), some (.inl a11), some (.inl a12), none, none, none, none, none, none] [.inl x, .inl a8, .inl 0, .inr (.inr 51)] sh' mm') := (zR_unf d 91 [22, 152, 299, 389, 503, 581] 18 152 _ _ _ _).trans rfl
set_option maxRecDepth 100000 in
theorem zb_L_build_55 (d : Nat) (a2 a8 a9 a10 a11 a12 a13 s1 s2 : Int) (mm : zMm) : zR d 91 55 [some (.inr (.inr 0)), some (.inr (.inr 999)), some (.inl a2), some (.inr (.inr 45)), some (.inr (.inr 46)), some (.inr (.inr 47)), some (.inr (.inr 48)), some (.inr (.inr 51)), some (.inl a8), some (.inl a9), some (.inl a10), some (.inl a11), some (.inl a12), some (.inl a13), none, none, none, none, none] [.inl s2, .inl s1, .inr (.inr 45)] SH mm = (if s2 = 0 then if 0 ≤ s1 ∧ s1 < 8 then if 0 ≤ a12 ∧ a12 < 8 then zcI (zL d 59 [.inr (.inr 0), .inl a12, .inl ((zu mm 45 ((s1).toNat) 255) 45 ((a12).toNat))] SH (zu mm 45 ((s1).toNat) 255)) fun x sh' mm' => zR d 91 116 [some (.inr (.inr 0)), some (.inr (.inr 999)), some (.inl a2), some (.inr (.inr 45)), some (.inr (.inr 46)), some (.inr (.inr 47)), some (.inr (.inr 48)), some (.inr (.inr 51)), some (.inl a8), some (.inl a9), some (.inl a10), some (.inl a11), some (.inl a12), some (.inl a13), none, none, none, none, none] [.inl x] sh' mm' else none else none else zcI (zL d 90 [.inl a9, .inl 3] SH mm) fun x sh' mm' => zR d 91 70 [some (.inr (.inr 0)), some (.inr (.inr 999)), some (.inl a2), some (.inr (.inr 45)), some (.inr (.inr 46)), some (.inr (.inr 47)), some (.inr (.inr 48)), some (.inr (.inr 51)), some (.inl a8), some (.inl a9), some (.inl a10), some (.inl a11), some (.inl a12), some (.inl a13), none, none, none, none, none] [.inl x, .inl s1, .inr (.inr 45)] sh' mm') := (zR_unf d 91 [22, 152, 299, 389, 503, 581] 11 55 _ _ _ _).trans rfl
set_option maxRecDepth 100000 in
theorem zb_L_build_289 (d : Nat) (a2 a8 a9 a10 a11 a12 s1 s2 s3 : Int) (mm : zMm) : zR d 91 289 [some (.inr (.inr 0)), some (.inr (.inr 999)), some (.inl a2), none, some (.inr (.inr 46)), some (.inr (.inr 47)), some (.inr (.inr 48)), some (.inr (.inr 51)), some (.inl a8), some (.inl a9), some (.inl a10), some (.inl a11), some (.inl a12), none, none, none, none, none, none] [.inl s3, .inl s2, .inl s1, .inr (.inr 51)] SH mm = (if 0 ≤ s1 ∧ s1 < 8 then zR d 91 299 [some (.inr (.inr 0)), some (.inr (.inr 999)), some (.inl a2), none, some (.inr (.inr 46)), some (.inr (.inr 47)), some (.inr (.inr 48)), some (.inr (.inr 51)), some (.inl a8), some (.inl a9), some (.inl a10), some (.inl a11), some (.inl 0), none, none, none, none, none, none] [] SH (zu (zu mm 51 ((s1).toNat) (zw (s2 + s3))) 51 5 1) else none) := (zR_unf d 91 [22, 152, 299, 389, 503, 581] 9 289 _ _ _ _).trans rfl
set_option maxRecDepth 100000 in
theorem zb_L_build_178 (d : Nat) (a2 a8 a9 a10 a11 a12 s0 : Int) (mm : zMm) : zR d 91 178 [some (.inr (.inr 0)), some (.inr (.inr 999)), some (.inl a2), none, some (.inr (.inr 46)), some (.inr (.inr 47)), some (.inr (.inr 48)), some (.inr (.inr 51)), some (.inl a8), some (.inl a9), some (.inl a10), some (.inl a11), some (.inl a12), none, none, none, none, none, none] [.inl s0] SH mm = (zcI (zL d 90 [.inl s0, .inl 5] SH mm) fun x sh' mm' => zR d 91 193 [some (.inr (.inr 0)), some (.inr (.inr 999)), some (.inl a2), none, some (.inr (.inr 46)), some (.inr (.inr 47)), some (.inr (.inr 48)), some (.inr (.inr 51)), some (.inl a8), some (.inl a9), some (.inl a10), some (.inl a11), some (.inl a12), some (.inl s0), none, none, none, none, none] [.inl x, .inl (zw (6 + a12)), .inr (.inr 46)] sh' mm') := (zR_unf d 91 [22, 152, 299, 389, 503, 581] 9 178 _ _ _ _).trans rfl
set_option maxRecDepth 100000 in
theorem zb_L_build_116 (d : Nat) (a2 a8 a9 a10 a11 a12 a13 s0 : Int) (mm : zMm) : zR d 91 116 [some (.inr (.inr 0)), some (.inr (.inr 999)), some (.inl a2), some (.inr (.inr 45)), some (.inr (.inr 46)), some (.inr (.inr 47)), some (.inr (.inr 48)), some (.inr (.inr 51)), some (.inl a8), some (.inl a9), some (.inl a10), some (.inl a11), some (.inl a12), some (.inl a13), none, none, none, none, none] [.inl s0] SH mm = (if s0 = 255 then zR d 91 22 [some (.inr (.inr 0)), some (.inr (.inr 999)), some (.inl a2), some (.inr (.inr 45)), some (.inr (.inr 46)), some (.inr (.inr 47)), some (.inr (.inr 48)), some (.inr (.inr 51)), some (.inl a8), some (.inl a9), some (.inl a10), some (.inl 1), some (.inl (zw (a12 + 1))), some (.inl a13), none, none, none, none, none] [] SH mm else zR d 91 22 [some (.inr (.inr 0)), some (.inr (.inr 999)), some (.inl a2), some (.inr (.inr 45)), some (.inr (.inr 46)), some (.inr (.inr 47)), some (.inr (.inr 48)), some (.inr (.inr 51)), some (.inl a8), some (.inl a9), some (.inl a10), some (.inl 0), some (.inl (zw (a12 + 1))), some (.inl a13), none, none, none, none, none] [] SH mm) := (zR_unf d 91 [22, 152, 299, 389, 503, 581] 8 116 _ _ _ _).trans rfl
set_option maxRecDepth 100000 in
theorem zb_L_build_70 (d : Nat) (a2 a8 a9 a10 a11 a12 a13 s1 s2 : Int) (mm : zMm) : zR d 91 70 [some (.inr (.inr 0)), some (.inr (.inr 999)), some (.inl a2), some (.inr (.inr 45)), some (.inr (.inr 46)), some (.inr (.inr 47)), some (.inr (.inr 48)), some (.inr (.inr 51)), some (.inl a8), some (.inl a9), some (.inl a10), some (.inl a11), some (.inl a12), some (.inl a13), none, none, none, none, none] [.inl s2, .inl s1, .inr (.inr 45)] SH mm = (if s2 = 1 then zcI (zL d 90 [.inl a13, .inl 256] SH mm) fun x sh' mm' => zR d 91 82 [some (.inr (.inr 0)), some (.inr (.inr 999)), some (.inl a2), some (.inr (.inr 45)), some (.inr (.inr 46)), some (.inr (.inr 47)), some (.inr (.inr 48)), some (.inr (.inr 51)), some (.inl a8), some (.inl a9), some (.inl a10), some (.inl a11), some (.inl a12), some (.inl a13), none, none, none, none, none] [.inl x, .inl s1, .inr (.inr 45)] sh' mm' else zcI (zL d 90 [.inl a13, .inl 256] SH mm) fun x sh' mm' => zR d 91 93 [some (.inr (.inr 0)), some (.inr (.inr 999)), some (.inl a2), some (.inr (.inr 45)), some (.inr (.inr 46)), some (.inr (.inr 47)), some (.inr (.inr 48)), some (.inr (.inr 51)), some (.inl a8), some (.inl a9), some (.inl a10), some (.inl a11), some (.inl a12), some (.inl a13), none, none, none, none, none] [.inl x, .inl s1, .inr (.inr 45)] sh' mm') := (zR_unf d 91 [22, 152, 299, 389, 503, 581] 6 70 _ _ _ _).trans rfl
set_option maxRecDepth 100000 in
theorem zb_L_build_299 (d : Nat) (a2 a10 a11 a12 : Int) (mm : zMm) : zR d 91 299 [some (.inr (.inr 0)), some (.inr (.inr 999)), some (.inl a2), none, none, some (.inr (.inr 47)), some (.inr (.inr 48)), some (.inr (.inr 51)), none, none, some (.inl a10), some (.inl a11), some (.inl a12), none, none, none, none, none, none] [] SH mm = (if a12 < (mm 51 0) then if a11 = 0 then zR d 91 503 [some (.inr (.inr 0)), some (.inr (.inr 999)), some (.inl a2), none, none, some (.inr (.inr 47)), some (.inr (.inr 48)), some (.inr (.inr 51)), none, none, some (.inl a10), some (.inl a11), some (.inl 0), none, none, none, none, none, none] [] SH mm else zcI (zL d 89 [.inr (.inr 999), .inl (zw ((zw (a2 + 16)) + a12))] SH mm) fun x sh' mm' => zR d 91 324 [some (.inr (.inr 0)), some (.inr (.inr 999)), some (.inl a2), none, none, some (.inr (.inr 47)), some (.inr (.inr 48)), some (.inr (.inr 51)), none, none, some (.inl a10), some (.inl a11), some (.inl a12), none, none, none, none, none, none] [.inl x] sh' mm' else zR d 91 503 [some (.inr (.inr 0)), some (.inr (.inr 999)), some (.inl a2), none, none, some (.inr (.inr 47)), some (.inr (.inr 48)), some (.inr (.inr 51)), none, none, some (.inl a10), some (.inl a11), some (.inl 0), none, none, none, none, none, none] [] SH mm) := (zR_unf d 91 [22, 152, 299, 389, 503, 581] 15 299 _ _ _ _).trans rfl
set_option maxRecDepth 100000 in
theorem zb_L_build_193 (d : Nat) (a2 a8 a9 a10 a11 a12 a13 s1 s2 : Int) (mm : zMm) : zR d 91 193 [some (.inr (.inr 0)), some (.inr (.inr 999)), some (.inl a2), none, some (.inr (.inr 46)), some (.inr (.inr 47)), some (.inr (.inr 48)), some (.inr (.inr 51)), some (.inl a8), some (.inl a9), some (.inl a10), some (.inl a11), some (.inl a12), some (.inl a13), none, none, none, none, none] [.inl s2, .inl s1, .inr (.inr 46)] SH mm = (if s2 = 0 then if 0 ≤ s1 ∧ s1 < 16 then if 0 ≤ (zw (6 + a12)) ∧ (zw (6 + a12)) < 16 then zcI (zL d 90 [.inl (zshr a13 6), .inl (zshl 1 (zw (3 * ((zu mm 46 ((s1).toNat) 1) 46 ((zw (6 + a12)).toNat)))))] SH (zu mm 46 ((s1).toNat) 1)) fun x sh' mm' => zR d 91 235 [some (.inr (.inr 0)), some (.inr (.inr 999)), some (.inl a2), none, some (.inr (.inr 46)), some (.inr (.inr 47)), some (.inr (.inr 48)), some (.inr (.inr 51)), some (.inl a8), some (.inl a9), some (.inl a10), some (.inl a11), some (.inl a12), some (.inl a13), none, none, none, none, none] [.inl x, .inl a12, .inr (.inr 46)] sh' mm' else none else none else zcI (zL d 90 [.inl (zshr a13 3), .inl 3] SH mm) fun x sh' mm' => zR d 91 209 [some (.inr (.inr 0)), some (.inr (.inr 999)), some (.inl a2), none, some (.inr (.inr 46)), some (.inr (.inr 47)), some (.inr (.inr 48)), some (.inr (.inr 51)), some (.inl a8), some (.inl a9), some (.inl a10), some (.inl a11), some (.inl a12), some (.inl a13), none, none, none, none, none] [.inl x, .inl 2, .inl s1, .inr (.inr 46)] sh' mm') := (zR_unf d 91 [22, 152, 299, 389, 503, 581] 20 193 _ _ _ _).trans rfl
set_option maxRecDepth 100000 in
theorem zb_L_build_82 (d : Nat) (a2 a8 a9 a10 a11 a12 a13 s1 s2 : Int) (mm : zMm) : zR d 91 82 [some (.inr (.inr 0)), some (.inr (.inr 999)), some (.inl a2), some (.inr (.inr 45)), some (.inr (.inr 46)), some (.inr (.inr 47)), some (.inr (.inr 48)), some (.inr (.inr 51)), some (.inl a8), some (.inl a9), some (.inl a10), some (.inl a11), some (.inl a12), some (.inl a13), none, none, none, none, none] [.inl s2, .inl s1, .inr (.inr 45)] SH mm = (if 0 ≤ s1 ∧ s1 < 8 then if 0 ≤ a12 ∧ a12 < 8 then zcI (zL d 59 [.inr (.inr 0), .inl a12, .inl ((zu mm 45 ((s1).toNat) s2) 45 ((a12).toNat))] SH (zu mm 45 ((s1).toNat) s2)) fun x sh' mm' => zR d 91 116 [some (.inr (.inr 0)), some (.inr (.inr 999)), some (.inl a2), some (.inr (.inr 45)), some (.inr (.inr 46)), some (.inr (.inr 47)), some (.inr (.inr 48)), some (.inr (.inr 51)), some (.inl a8), some (.inl a9), some (.inl a10), some (.inl a11), some (.inl a12), some (.inl a13), none, none, none, none, none] [.inl x] sh' mm' else none else none) := (zR_unf d 91 [22, 152, 299, 389, 503, 581] 9 82 _ _ _ _).trans rfl
set_option maxRecDepth 100000 in
theorem zb_L_build_93 (d : Nat) (a2 a8 a9 a10 a11 a12 a13 s1 s2 : Int) (mm : zMm) : zR d 91 93 [some (.inr (.inr 0)), some (.inr (.inr 999)), some (.inl a2), some (.inr (.inr 45)), some (.inr (.inr 46)), some (.inr (.inr 47)), some (.inr (.inr 48)), some (.inr (.inr 51)), some (.inl a8), some (.inl a9), some (.inl a10), some (.inl a11), some (.inl a12), some (.inl a13), none, none, none, none, none] [.inl s2, .inl s1, .inr (.inr 45)] SH mm = (zcI (zL d 90 [.inl (zshr a13 8), .inl 256] SH mm) fun x sh' mm' => zR d 91 104 [some (.inr (.inr 0)), some (.inr (.inr 999)), some (.inl a2), some (.inr (.inr 45)), some (.inr (.inr 46)), some (.inr (.inr 47)), some (.inr (.inr 48)), some (.inr (.inr 51)), some (.inl a8), some (.inl a9), some (.inl a10), some (.inl a11), some (.inl a12), some (.inl a13), none, none, none, none, none] [.inl x, .inl s2, .inl s1, .inr (.inr 45)] sh' mm') := (zR_unf d 91 [22, 152, 299, 389, 503, 581] 6 93 _ _ _ _).trans rfl
set_option maxRecDepth 100000 in
theorem zb_L_build_324 (d : Nat) (a2 a10 a11 a12 s0 : Int) (mm : zMm) : zR d 91 324 [some (.inr (.inr 0)), some (.inr (.inr 999)), some (.inl a2), none, none, some (.inr (.inr 47)), some (.inr (.inr 48)), some (.inr (.inr 51)), none, none, some (.inl a10), some (.inl a11), some (.inl a12), none, none, none, none, none, none] [.inl s0] SH mm = (zcI (zL d 90 [.inl s0, .inl 2] SH mm) fun x sh' mm' => zR d 91 339 [some (.inr (.inr 0)), some (.inr (.inr 999)), some (.inl a2), none, none, some (.inr (.inr 47)), some (.inr (.inr 48)), some (.inr (.inr 51)), none, none, some (.inl a10), some (.inl a11), some (.inl a12), some (.inl s0), none, none, none, none, none] [.inl x, .inl (zw (10 * a12)), .inr (.inr 47)] sh' mm') := (zR_unf d 91 [22, 152, 299, 389, 503, 581] 9 324 _ _ _ _).trans rfl
set_option maxRecDepth 100000 in
theorem zb_L_build_503 (d : Nat) (a2 a10 a11 a12 : Int) (mm : zMm) : zR d 91 503 [some (.inr (.inr 0)), some (.inr (.inr 999)), some (.inl a2), none, none, some (.inr (.inr 47)), some (.inr (.inr 48)), some (.inr (.inr 51)), none, none, some (.inl a10), some (.inl a11), some (.inl a12), none, none, none, none, none, none] [] SH mm = (if a12 < 4 then if a11 = 0 then zcI (zL d 90 [.inl (zshr a10 1), .inl 2] SH mm) fun x sh' mm' => zR d 91 761 [some (.inr (.inr 0)), some (.inr (.inr 999)), some (.inl a2), none, none, some (.inr (.inr 47)), some (.inr (.inr 48)), some (.inr (.inr 51)), none, none, some (.inl a10), some (.inl a11), some (.inl a12), none, none, none, none, none, none] [.inl x, .inl 3, .inr (.inr 51)] sh' mm' else zcI (zL d 89 [.inr (.inr 999), .inl (zw ((zw (a2 + 22)) + a12))] SH mm) fun x sh' mm' => zR d 91 525 [some (.inr (.inr 0)), some (.inr (.inr 999)), some (.inl a2), none, none, some (.inr (.inr 47)), some (.inr (.inr 48)), some (.inr (.inr 51)), none, none, some (.inl a10), some (.inl a11), some (.inl a12), none, none, none, none, none, none] [.inl x] sh' mm' else zcI (zL d 90 [.inl (zshr a10 1), .inl 2] SH mm) fun x sh' mm' => zR d 91 761 [some (.inr (.inr 0)), some (.inr (.inr 999)), some (.inl a2), none, none, some (.inr (.inr 47)), some (.inr (.inr 48)), some (.inr (.inr 51)), none, none, some (.inl a10), some (.inl a11), some (.inl a12), none, none, none, none, none, none] [.inl x, .inl 3, .inr (.inr 51)] sh' mm') := (zR_unf d 91 [22, 152, 299, 389, 503, 581] 13 503 _ _ _ _).trans rfl
set_option maxRecDepth 100000 in
theorem zb_L_build_235 (d : Nat) (a2 a8 a9 a10 a11 a12 a13 s1 s2 : Int) (mm : zMm) : zR d 91 235 [some (.inr (.inr 0)), some (.inr (.inr 999)), some (.inl a2), none, some (.inr (.inr 46)), some (.inr (.inr 47)), some (.inr (.inr 48)), some (.inr (.inr 51)), some (.inl a8), some (.inl a9), some (.inl a10), some (.inl a11), some (.inl a12), some (.inl a13), none, none, none, none, none] [.inl s2, .inl s1, .inr (.inr 46)] SH mm = (if 0 ≤ s1 ∧ s1 < 16 then if 0 ≤ a12 ∧ a12 < 16 then if 0 ≤ (zw (6 + a12)) ∧ (zw (6 + a12)) < 16 then zcI (zL d 60 [.inr (.inr 0), .inl ((zu mm 46 ((s1).toNat) s2) 46 ((a12).toNat)), .inl ((zu mm 46 ((s1).toNat) s2) 46 ((zw (6 + a12)).toNat))] SH (zu mm 46 ((s1).toNat) s2)) fun x sh' mm' => zR d 91 253 [some (.inr (.inr 0)), some (.inr (.inr 999)), some (.inl a2), none, some (.inr (.inr 46)), some (.inr (.inr 47)), some (.inr (.inr 48)), some (.inr (.inr 51)), some (.inl a8), some (.inl a9), some (.inl a10), some (.inl a11), some (.inl a12), some (.inl a13), none, none, none, none, none] [.inl x] sh' mm' else none else none else none) := (zR_unf d 91 [22, 152, 299, 389, 503, 581] 12 235 _ _ _ _).trans rfl
set_option maxRecDepth 100000 in
theorem zb_L_build_209 (d : Nat) (a2 a8 a9 a10 a11 a12 a13 s1 s2 s3 : Int) (mm : zMm) : zR d 91 209 [some (.inr (.inr 0)), some (.inr (.inr 999)), some (.inl a2), none, some (.inr (.inr 46)), some (.inr (.inr 47)), some (.inr (.inr 48)), some (.inr (.inr 51)), some (.inl a8), some (.inl a9), some (.inl a10), some (.inl a11), some (.inl a12), some (.inl a13), none, none, none, none, none] [.inl s3, .inl s2, .inl s1, .inr (.inr 46)] SH mm = (if 0 ≤ s1 ∧ s1 < 16 then if 0 ≤ (zw (6 + a12)) ∧ (zw (6 + a12)) < 16 then zcI (zL d 90 [.inl (zshr a13 6), .inl (zshl 1 (zw (3 * ((zu mm 46 ((s1).toNat) (zw (s2 + s3))) 46 ((zw (6 + a12)).toNat)))))] SH (zu mm 46 ((s1).toNat) (zw (s2 + s3)))) fun x sh' mm' => zR d 91 235 [some (.inr (.inr 0)), some (.inr (.inr 999)), some (.inl a2), none, some (.inr (.inr 46)), some (.inr (.inr 47)), some (.inr (.inr 48)), some (.inr (.inr 51)), some (.inl a8), some (.inl a9), some (.inl a10), some (.inl a11), some (.inl a12), some (.inl a13), none, none, none, none, none] [.inl x, .inl a12, .inr (.inr 46)] sh' mm' else none else none) := (zR_unf d 91 [22, 152, 299, 389, 503, 581] 18 209 _ _ _ _).trans rfl
set_option maxRecDepth 100000 in
theorem zb_L_build_104 (d : Nat) (a2 a8 a9 a10 a11 a12 a13 s1 s2 s3 : Int) (mm : zMm) : zR d 91 104 [some (.inr (.inr 0)), some (.inr (.inr 999)), some (.inl a2), some (.inr (.inr 45)), some (.inr (.inr 46)), some (.inr (.inr 47)), some (.inr (.inr 48)), some (.inr (.inr 51)), some (.inl a8), some (.inl a9), some (.inl a10), some (.inl a11), some (.inl a12), some (.inl a13), none, none, none, none, none] [.inl s3, .inl s2, .inl s1, .inr (.inr 45)] SH mm = (if 0 ≤ s1 ∧ s1 < 8 then if 0 ≤ a12 ∧ a12 < 8 then zcI (zL d 59 [.inr (.inr 0), .inl a12, .inl ((zu mm 45 ((s1).toNat) (zand s2 s3)) 45 ((a12).toNat))] SH (zu mm 45 ((s1).toNat) (zand s2 s3))) fun x sh' mm' => zR d 91 116 [some (.inr (.inr 0)), some (.inr (.inr 999)), some (.inl a2), some (.inr (.inr 45)), some (.inr (.inr 46)), some (.inr (.inr 47)), some (.inr (.inr 48)), some (.inr (.inr 51)), some (.inl a8), some (.inl a9), some (.inl a10), some (.inl a11), some (.inl a12), some (.inl a13), none, none, none, none, none] [.inl x] sh' mm' else none else none) := (zR_unf d 91 [22, 152, 299, 389, 503, 581] 9 104 _ _ _ _).trans rfl
set_option maxRecDepth 100000 in
theorem zb_L_build_339 (d : Nat) (a2 a10 a11 a12 a13 s1 s2 : Int) (mm : zMm) : zR d 91 339 [some (.inr (.inr 0)), some (.inr (.inr 999)), some (.inl a2), none, none, some (.inr (.inr 47)), some (.inr (.inr 48)), some (.inr (.inr 51)), none, none, some (.inl a10), some (.inl a11), some (.inl a12), some (.inl a13), none, none, none, none, none] [.inl s2, .inl s1, .inr (.inr 47)] SH mm = (if s2 = 0 then if 0 ≤ s1 ∧ s1 < 64 then if 0 ≤ a12 ∧ a12 < 6 then if 0 ≤ (zw (10 * a12)) ∧ (zw (10 * a12)) < 64 then zcI (zL d 61 [.inr (.inr 0), .inl ((zu mm 47 ((s1).toNat) 0) 47 ((zw (10 * a12)).toNat))] SH (zu (zu mm 47 ((s1).toNat) 0) 48 ((a12).toNat) a12)) fun x sh' mm' => zR d 91 374 [some (.inr (.inr 0)), some (.inr (.inr 999)), some (.inl a2), none, none, some (.inr (.inr 47)), some (.inr (.inr 48)), some (.inr (.inr 51)), none, none, some (.inl a10), some (.inl a11), some (.inl a12), some (.inl a13), none, none, none, none, none] [.inl x] sh' mm' else none else none else none else zcI (zL d 90 [.inl (zshr a13 1), .inl 4] SH mm) fun x sh' mm' => zR d 91 354 [some (.inr (.inr 0)), some (.inr (.inr 999)), some (.inl a2), none, none, some (.inr (.inr 47)), some (.inr (.inr 48)), some (.inr (.inr 51)), none, none, some (.inl a10), some (.inl a11), some (.inl a12), some (.inl a13), none, none, none, none, none] [.inl x, .inl s1, .inr (.inr 47)] sh' mm') := (zR_unf d 91 [22, 152, 299, 389, 503, 581] 16 339 _ _ _ _).trans rfl
set_option maxRecDepth 100000 in
theorem zb_L_build_761 (d : Nat) (a2 a10 a11 a12 s1 s2 : Int) (mm : zMm) : zR d 91 761 [some (.inr (.inr 0)), some (.inr (.inr 999)), some (.inl a2), none, none, some (.inr (.inr 47)), some (.inr (.inr 48)), some (.inr (.inr 51)), none, none, some (.inl a10), some (.inl a11), some (.inl a12), none, none, none, none, none, none] [.inl s2, .inl s1, .inr (.inr 51)] SH mm = (if 0 ≤ s1 ∧ s1 < 8 then if a11 = 0 then zok 0 (zu mm 51 ((s1).toNat) s2) else if ((zu mm 51 ((s1).toNat) s2) 51 3) = 1 then zcI (zL d 65 [.inr (.inr 0), .inl 1] SH (zu mm 51 ((s1).toNat) s2)) fun x sh' mm' => zR d 91 784 [some (.inr (.inr 0)), some (.inr (.inr 999)), some (.inl a2), none, none, some (.inr (.inr 47)), some (.inr (.inr 48)), some (.inr (.inr 51)), none, none, some (.inl a10), some (.inl a11), some (.inl a12), none, none, none, none, none, none] [.inl x] sh' mm' else zcI (zL d 65 [.inr (.inr 0), .inl 0] SH (zu mm 51 ((s1).toNat) s2)) fun x sh' mm' => zR d 91 784 [some (.inr (.inr 0)), some (.inr (.inr 999)), some (.inl a2), none, none, some (.inr (.inr 47)), some (.inr (.inr 48)), some (.inr (.inr 51)), none, none, some (.inl a10), some (.inl a11), some (.inl a12), none, none, none, none, none, none] [.inl x] sh' mm' else none) := (zR_unf d 91 [22, 152, 299, 389, 503, 581] 13 761 _ _ _ _).trans rfl
set_option maxRecDepth 100000 in
theorem zb_L_build_525 (d : Nat) (a2 a10 a11 a12 s0 : Int) (mm : zMm) : zR d 91 525 [some (.inr (.inr 0)), some (.inr (.inr 999)), some (.inl a2), none, none, some (.inr (.inr 47)), some (.inr (.inr 48)), some (.inr (.inr 51)), none, none, some (.inl a10), some (.inl a11), some (.inl a12), none, none, none, none, none, none] [.inl s0] SH mm = (zcI (zL d 90 [.inl s0, .inl 6] SH mm) fun x sh' mm' => zR d 91 534 [some (.inr (.inr 0)), some (.inr (.inr 999)), some (.inl a2), none, none, some (.inr (.inr 47)), some (.inr (.inr 48)), some (.inr (.inr 51)), none, none, some (.inl a10), some (.inl a11), some (.inl a12), some (.inl s0), none, none, none, none, none] [.inl x] sh' mm') := (zR_unf d 91 [22, 152, 299, 389, 503, 581] 5 525 _ _ _ _).trans rfl
set_option maxRecDepth 100000 in
theorem zb_L_build_253 (d : Nat) (a2 a8 a9 a10 a11 a12 a13 s0 : Int) (mm : zMm) : zR d 91 253 [some (.inr (.inr 0)), some (.inr (.inr 999)), some (.inl a2), none, some (.inr (.inr 46)), some (.inr (.inr 47)), some (.inr (.inr 48)), some (.inr (.inr 51)), some (.inl a8), some (.inl a9), some (.inl a10), some (.inl a11), some (.inl a12), some (.inl a13), none, none, none, none, none] [.inl s0] SH mm = (if s0 = a12 then zR d 91 152 [some (.inr (.inr 0)), some (.inr (.inr 999)), some (.inl a2), none, some (.inr (.inr 46)), some (.inr (.inr 47)), some (.inr (.inr 48)), some (.inr (.inr 51)), some (.inl a8), some (.inl a9), some (.inl a10), some (.inl 1), some (.inl (zw (a12 + 1))), some (.inl a13), none, none, none, none, none] [] SH mm else zR d 91 152 [some (.inr (.inr 0)), some (.inr (.inr 999)), some (.inl a2), none, some (.inr (.inr 46)), some (.inr (.inr 47)), some (.inr (.inr 48)), some (.inr (.inr 51)), some (.inl a8), some (.inl a9), some (.inl a10), some (.inl 0), some (.inl (zw (a12 + 1))), some (.inl a13), none, none, none, none, none] [] SH mm) := (zR_unf d 91 [22, 152, 299, 389, 503, 581] 8 253 _ _ _ _).trans rfl
set_option maxRecDepth 100000 in
theorem zb_L_build_374 (d : Nat) (a2 a10 a11 a12 a13 s0 : Int) (mm : zMm) : zR d 91 374 [some (.inr (.inr 0)), some (.inr (.inr 999)), some (.inl a2), none, none, some (.inr (.inr 47)), some (.inr (.inr 48)), some (.inr (.inr 51)), none, none, some (.inl a10), some (.inl a11), some (.inl a12), some (.inl a13), none, none, none, none, none] [.inl s0] SH mm = (if s0 = a12 then zR d 91 389 [some (.inr (.inr 0)), some (.inr (.inr 999)), some (.inl a2), none, none, some (.inr (.inr 47)), some (.inr (.inr 48)), some (.inr (.inr 51)), none, none, some (.inl a10), some (.inl 1), some (.inl a12), some (.inl a13), some (.inl 0), none, none, none, none] [] SH mm else zR d 91 389 [some (.inr (.inr 0)), some (.inr (.inr 999)), some (.inl a2), none, none, some (.inr (.inr 47)), some (.inr (.inr 48)), some (.inr (.inr 51)), none, none, some (.inl a10), some (.inl 0), some (.inl a12), some (.inl a13), some (.inl 0), none, none, none, none] [] SH mm) := (zR_unf d 91 [22, 152, 299, 389, 503, 581] 8 374 _ _ _ _).trans rfl
set_option maxRecDepth 100000 in
theorem zb_L_build_354 (d : Nat) (a2 a10 a11 a12 a13 s1 s2 : Int) (mm : zMm) : zR d 91 354 [some (.inr (.inr 0)), some (.inr (.inr 999)), some (.inl a2), none, none, some (.inr (.inr 47)), some (.inr (.inr 48)), some (.inr (.inr 51)), none, none, some (.inl a10), some (.inl a11), some (.inl a12), some (.inl a13), none, none, none, none, none] [.inl s2, .inl s1, .inr (.inr 47)] SH mm = (if 0 ≤ s1 ∧ s1 < 64 then if 0 ≤ a12 ∧ a12 < 6 then if 0 ≤ (zw (10 * a12)) ∧ (zw (10 * a12)) < 64 then zcI (zL d 61 [.inr (.inr 0), .inl ((zu mm 47 ((s1).toNat) s2) 47 ((zw (10 * a12)).toNat))] SH (zu (zu mm 47 ((s1).toNat) s2) 48 ((a12).toNat) a12)) fun x sh' mm' => zR d 91 374 [some (.inr (.inr 0)), some (.inr (.inr 999)), some (.inl a2), none, none, some (.inr (.inr 47)), some (.inr (.inr 48)), some (.inr (.inr 51)), none, none, some (.inl a10), some (.inl a11), some (.inl a12), some (.inl a13), none, none, none, none, none] [.inl x] sh' mm' else none else none else none) := (zR_unf d 91 [22, 152, 299, 389, 503, 581] 13 354 _ _ _ _).trans rfl
set_option maxRecDepth 100000 in
theorem zb_L_build_784 (d : Nat) (a2 a10 a11 a12 s0 : Int) (mm : zMm) : zR d 91 784 [some (.inr (.inr 0)), some (.inr (.inr 999)), some (.inl a2), none, none, some (.inr (.inr 47)), some (.inr (.inr 48)), some (.inr (.inr 51)), none, none, some (.inl a10), some (.inl a11), some (.inl a12), none, none, none, none, none, none] [.inl s0] SH mm = (if s0 = 0 then zok 1 mm else zok 0 mm) := (zR_unf d 91 [22, 152, 299, 389, 503, 581] 5 784 _ _ _ _).trans rfl
set_option maxRecDepth 100000 in
theorem zb_L_build_534 (d : Nat) (a2 a10 a11 a12 a13 s0 : Int) (mm : zMm) : zR d 91 534 [some (.inr (.inr 0)), some (.inr (.inr 999)), some (.inl a2), none, none, some (.inr (.inr 47)), some (.inr (.inr 48)), some (.inr (.inr 51)), none, none, some (.inl a10), some (.inl a11), some (.inl a12), some (.inl a13), none, none, none, none, none] [.inl s0] SH mm = (zcI (zL d 90 [.inl (zshr a13 3), .inl 6] SH mm) fun x sh' mm' => zR d 91 545 [some (.inr (.inr 0)), some (.inr (.inr 999)), some (.inl a2), none, none, some (.inr (.inr 47)), some (.inr (.inr 48)), some (.inr (.inr 51)), none, none, some (.inl a10), some (.inl a11), some (.inl a12), some (.inl a13), some (.inl s0), none, none, none, none] [.inl x] sh' mm') := (zR_unf d 91 [22, 152, 299, 389, 503, 581] 7 534 _ _ _ _).trans rfl
set_option maxRecDepth 100000 in
theorem zb_L_build_389 (d : Nat) (a2 a10 a11 a12 a13 a14 : Int) (mm : zMm) : zR d 91 389 [some (.inr (.inr 0)), some (.inr (.inr 999)), some (.inl a2), none, none, some (.inr (.inr 47)), some (.inr (.inr 48)), some (.inr (.inr 51)), none, none, some (.inl a10), some (.inl a11), some (.inl a12), some (.inl a13), some (.inl a14), none, none, none, none] [] SH mm = (if a14 < 8 then if a11 = 0 then zR d 91 299 [some (.inr (.inr 0)), some (.inr (.inr 999)), some (.inl a2), none, none, some (.inr (.inr 47)), some (.inr (.inr 48)), some (.inr (.inr 51)), none, none, some (.inl a10), some (.inl a11), some (.inl (zw (a12 + 1))), some (.inl a13), some (.inl a14), none, none, none, none] [] SH mm else zcI (zL d 90 [.inl a10, .inl 2] SH mm) fun x sh' mm' => zR d 91 433 [some (.inr (.inr 0)), some (.inr (.inr 999)), some (.inl a2), none, none, some (.inr (.inr 47)), some (.inr (.inr 48)), some (.inr (.inr 51)), none, none, some (.inl a10), some (.inl a11), some (.inl a12), some (.inl a13), some (.inl a14), some (.inl (zand (zshr a13 (zw (3 + (zw (3 * a14))))) 7)), none, none, none] [.inl x, .inl (zw ((zw ((zw (10 * a12)) + 2)) + a14)), .inr (.inr 47)] sh' mm' else zR d 91 299 [some (.inr (.inr 0)), some (.inr (.inr 999)), some (.inl a2), none, none, some (.inr (.inr 47)), some (.inr (.inr 48)), some (.inr (.inr 51)), none, none, some (.inl a10), some (.inl a11), some (.inl (zw (a12 + 1))), some (.inl a13), some (.inl a14), none, none, none, none] [] SH mm) := (zR_unf d 91 [22, 152, 299, 389, 503, 581] 27 389 _ _ _ _).trans rfl
set_option maxRecDepth 100000 in
theorem zb_L_build_545 (d : Nat) (a2 a10 a11 a12 a13 a14 s0 : Int) (mm : zMm) : zR d 91 545 [some (.inr (.inr 0)), some (.inr (.inr 999)), some (.inl a2), none, none, some (.inr (.inr 47)), some (.inr (.inr 48)), some (.inr (.inr 51)), none, none, some (.inl a10), some (.inl a11), some (.inl a12), some (.inl a13), some (.inl a14), none, none, none, none] [.inl s0] SH mm = (if a14 < (mm 51 0) then if s0 < (mm 51 0) then if a14 = s0 then zcI (zL d 90 [.inl (zshr a13 6), .inl 6] SH mm) fun x sh' mm' => zR d 91 678 [some (.inr (.inr 0)), some (.inr (.inr 999)), some (.inl a2), none, none, some (.inr (.inr 47)), some (.inr (.inr 48)), some (.inr (.inr 51)), none, none, some (.inl a10), some (.inl a11), some (.inl a12), some (.inl a13), some (.inl a14), some (.inl s0), none, none, none] [.inl x] sh' mm' else zR d 91 581 [some (.inr (.inr 0)), some (.inr (.inr 999)), some (.inl a2), none, none, some (.inr (.inr 47)), some (.inr (.inr 48)), some (.inr (.inr 51)), none, none, some (.inl a10), some (.inl a11), some (.inl a12), some (.inl a13), some (.inl a14), some (.inl s0), some (.inl 0), some (.inl 0), some (.inl 0)] [] SH mm else zcI (zL d 90 [.inl (zshr a13 6), .inl 6] SH mm) fun x sh' mm' => zR d 91 678 [some (.inr (.inr 0)), some (.inr (.inr 999)), some (.inl a2), none, none, some (.inr (.inr 47)), some (.inr (.inr 48)), some (.inr (.inr 51)), none, none, some (.inl a10), some (.inl a11), some (.inl a12), some (.inl a13), some (.inl a14), some (.inl s0), none, none, none] [.inl x] sh' mm' else zcI (zL d 90 [.inl (zshr a13 6), .inl 6] SH mm) fun x sh' mm' => zR d 91 678 [some (.inr (.inr 0)), some (.inr (.inr 999)), some (.inl a2), none, none, some (.inr (.inr 47)), some (.inr (.inr 48)), some (.inr (.inr 51)), none, none, some (.inl a10), some (.inl a11), some (.inl a12), some (.inl a13), some (.inl a14), some (.inl s0), none, none, none] [.inl x] sh' mm') := (zR_unf d 91 [22, 152, 299, 389, 503, 581] 21 545 _ _ _ _).trans rfl
set_option maxRecDepth 100000 in
theorem zb_L_build_433 (d : Nat) (a2 a10 a11 a12 a13 a14 a15 s1 s2 : Int) (mm : zMm) : zR d 91 433 [some (.inr (.inr 0)), some (.inr (.inr 999)), some (.inl a2), none, none, some (.inr (.inr 47)), some (.inr (.inr 48)), some (.inr (.inr 51)), none, none, some (.inl a10), some (.inl a11), some (.inl a12), some (.inl a13), some (.inl a14), some (.inl a15), none, none, none] [.inl s2, .inl s1, .inr (.inr 47)] SH mm = (if s2 = 0 then if 0 ≤ s1 ∧ s1 < 64 then if 0 ≤ (zw ((zw ((zw (10 * a12)) + 2)) + a14)) ∧ (zw ((zw ((zw (10 * a12)) + 2)) + a14)) < 64 then zcI (zL d 62 [.inr (.inr 0), .inl a12, .inl a14, .inl ((zu mm 47 ((s1).toNat) a15) 47 ((zw ((zw ((zw (10 * a12)) + 2)) + a14)).toNat))] SH (zu mm 47 ((s1).toNat) a15)) fun x sh' mm' => zR d 91 477 [some (.inr (.inr 0)), some (.inr (.inr 999)), some (.inl a2), none, none, some (.inr (.inr 47)), some (.inr (.inr 48)), some (.inr (.inr 51)), none, none, some (.inl a10), some (.inl a11), some (.inl a12), some (.inl a13), some (.inl a14), some (.inl a15), none, none, none] [.inl x] sh' mm' else none else none else if a15 < 4 then if 0 ≤ s1 ∧ s1 < 64 then if 0 ≤ (zw ((zw ((zw (10 * a12)) + 2)) + a14)) ∧ (zw ((zw ((zw (10 * a12)) + 2)) + a14)) < 64 then zcI (zL d 62 [.inr (.inr 0), .inl a12, .inl a14, .inl ((zu mm 47 ((s1).toNat) 0) 47 ((zw ((zw ((zw (10 * a12)) + 2)) + a14)).toNat))] SH (zu mm 47 ((s1).toNat) 0)) fun x sh' mm' => zR d 91 477 [some (.inr (.inr 0)), some (.inr (.inr 999)), some (.inl a2), none, none, some (.inr (.inr 47)), some (.inr (.inr 48)), some (.inr (.inr 51)), none, none, some (.inl a10), some (.inl a11), some (.inl a12), some (.inl a13), some (.inl a14), some (.inl a15), none, none, none] [.inl x] sh' mm' else none else none else if 0 ≤ s1 ∧ s1 < 64 then if 0 ≤ (zw ((zw ((zw (10 * a12)) + 2)) + a14)) ∧ (zw ((zw ((zw (10 * a12)) + 2)) + a14)) < 64 then zcI (zL d 62 [.inr (.inr 0), .inl a12, .inl a14, .inl ((zu mm 47 ((s1).toNat) (zw (a15 - 3))) 47 ((zw ((zw ((zw (10 * a12)) + 2)) + a14)).toNat))] SH (zu mm 47 ((s1).toNat) (zw (a15 - 3)))) fun x sh' mm' => zR d 91 477 [some (.inr (.inr 0)), some (.inr (.inr 999)), some (.inl a2), none, none, some (.inr (.inr 47)), some (.inr (.inr 48)), some (.inr (.inr 51)), none, none, some (.inl a10), some (.inl a11), some (.inl a12), some (.inl a13), some (.inl a14), some (.inl a15), none, none, none] [.inl x] sh' mm' else none else none) := (zR_unf d 91 [22, 152, 299, 389, 503, 581] 22 433 _ _ _ _).trans rfl
set_option maxRecDepth 100000 in
theorem zb_L_build_678 (d : Nat) (a2 a10 a11 a12 a13 a14 a15 s0 : Int) (mm : zMm) : zR d 91 678 [some (.inr (.inr 0)), some (.inr (.inr 999)), some (.inl a2), none, none, some (.inr (.inr 47)), some (.inr (.inr 48)), some (.inr (.inr 51)), none, none, some (.inl a10), some (.inl a11), some (.inl a12), some (.inl a13), some (.inl a14), some (.inl a15), none, none, none] [.inl s0] SH mm = (if s0 < (mm 51 0) then zcI (zL d 90 [.inl (zshr a13 9), .inl 3] SH mm) fun x sh' mm' => zR d 91 698 [some (.inr (.inr 0)), some (.inr (.inr 999)), some (.inl a2), none, none, some (.inr (.inr 47)), some (.inr (.inr 48)), some (.inr (.inr 51)), none, none, some (.inl a10), some (.inl a11), some (.inl a12), some (.inl a13), some (.inl a14), some (.inl a15), some (.inl s0), none, none] [.inl x] sh' mm' else zR d 91 503 [some (.inr (.inr 0)), some (.inr (.inr 999)), some (.inl a2), none, none, some (.inr (.inr 47)), some (.inr (.inr 48)), some (.inr (.inr 51)), none, none, some (.inl a10), some (.inl a11), some (.inl (zw (a12 + 1))), some (.inl a13), some (.inl a14), some (.inl a15), some (.inl s0), none, none] [] SH mm) := (zR_unf d 91 [22, 152, 299, 389, 503, 581] 12 678 _ _ _ _).trans rfl
set_option maxRecDepth 100000 in
theorem zb_L_build_581 (d : Nat) (a2 a10 a12 a13 a14 a15 a16 a17 a18 : Int) (mm : zMm) : zR d 91 581 [some (.inr (.inr 0)), some (.inr (.inr 999)), some (.inl a2), none, none, some (.inr (.inr 47)), some (.inr (.inr 48)), some (.inr (.inr 51)), none, none, some (.inl a10), none, some (.inl a12), some (.inl a13), some (.inl a14), some (.inl a15), some (.inl a16), some (.inl a17), some (.inl a18)] [] SH mm = (if a18 < (mm 51 0) then if 0 ≤ a18 ∧ a18 < 6 then if (mm 48 ((a18).toNat)) = a14 then if 0 ≤ a18 ∧ a18 < 6 then if (mm 48 ((a18).toNat)) = a15 then zR d 91 581 [some (.inr (.inr 0)), some (.inr (.inr 999)), some (.inl a2), none, none, some (.inr (.inr 47)), some (.inr (.inr 48)), some (.inr (.inr 51)), none, none, some (.inl a10), none, some (.inl a12), some (.inl a13), some (.inl a14), some (.inl a15), some (.inl a18), some (.inl a18), some (.inl (zw (a18 + 1)))] [] SH mm else zR d 91 581 [some (.inr (.inr 0)), some (.inr (.inr 999)), some (.inl a2), none, none, some (.inr (.inr 47)), some (.inr (.inr 48)), some (.inr (.inr 51)), none, none, some (.inl a10), none, some (.inl a12), some (.inl a13), some (.inl a14), some (.inl a15), some (.inl a18), some (.inl a17), some (.inl (zw (a18 + 1)))] [] SH mm else none else if 0 ≤ a18 ∧ a18 < 6 then if (mm 48 ((a18).toNat)) = a15 then zR d 91 581 [some (.inr (.inr 0)), some (.inr (.inr 999)), some (.inl a2), none, none, some (.inr (.inr 47)), some (.inr (.inr 48)), some (.inr (.inr 51)), none, none, some (.inl a10), none, some (.inl a12), some (.inl a13), some (.inl a14), some (.inl a15), some (.inl a16), some (.inl a18), some (.inl (zw (a18 + 1)))] [] SH mm else zR d 91 581 [some (.inr (.inr 0)), some (.inr (.inr 999)), some (.inl a2), none, none, some (.inr (.inr 47)), some (.inr (.inr 48)), some (.inr (.inr 51)), none, none, some (.inl a10), none, some (.inl a12), some (.inl a13), some (.inl a14), some (.inl a15), some (.inl a16), some (.inl a17), some (.inl (zw (a18 + 1)))] [] SH mm else none else none else if 0 ≤ a16 ∧ a16 < 6 then if 0 ≤ a17 ∧ a17 < 6 then zcI (zL d 64 [.inr (.inr 0), .inl a14, .inl a15] SH (zu (zu mm 48 ((a16).toNat) a15) 48 ((a17).toNat) a14)) fun x sh' mm' => zR d 91 656 [some (.inr (.inr 0)), some (.inr (.inr 999)), some (.inl a2), none, none, some (.inr (.inr 47)), some (.inr (.inr 48)), some (.inr (.inr 51)), none, none, some (.inl a10), none, some (.inl a12), some (.inl a13), some (.inl a14), some (.inl a15), some (.inl a16), some (.inl a17), some (.inl a18)] [.inl x] sh' mm' else none else none) := (zR_unf d 91 [22, 152, 299, 389, 503, 581] 24 581 _ _ _ _).trans rfl
set_option maxRecDepth 100000 in
theorem zb_L_build_477 (d : Nat) (a2 a10 a11 a12 a13 a14 a15 s0 : Int) (mm : zMm) : zR d 91 477 [some (.inr (.inr 0)), some (.inr (.inr 999)), some (.inl a2), none, none, some (.inr (.inr 47)), some (.inr (.inr 48)), some (.inr (.inr 51)), none, none, some (.inl a10), some (.inl a11), some (.inl a12), some (.inl a13), some (.inl a14), some (.inl a15), none, none, none] [.inl s0] SH mm = (if s0 = 1 then zR d 91 389 [some (.inr (.inr 0)), some (.inr (.inr 999)), some (.inl a2), none, none, some (.inr (.inr 47)), some (.inr (.inr 48)), some (.inr (.inr 51)), none, none, some (.inl a10), some (.inl 1), some (.inl a12), some (.inl a13), some (.inl (zw (a14 + 1))), some (.inl a15), none, none, none] [] SH mm else zR d 91 389 [some (.inr (.inr 0)), some (.inr (.inr 999)), some (.inl a2), none, none, some (.inr (.inr 47)), some (.inr (.inr 48)), some (.inr (.inr 51)), none, none, some (.inl a10), some (.inl 0), some (.inl a12), some (.inl a13), some (.inl (zw (a14 + 1))), some (.inl a15), none, none, none] [] SH mm) := (zR_unf d 91 [22, 152, 299, 389, 503, 581] 8 477 _ _ _ _).trans rfl
set_option maxRecDepth 100000 in
theorem zb_L_build_698 (d : Nat) (a2 a10 a11 a12 a13 a14 a15 a16 s0 : Int) (mm : zMm) : zR d 91 698 [some (.inr (.inr 0)), some (.inr (.inr 999)), some (.inl a2), none, none, some (.inr (.inr 47)), some (.inr (.inr 48)), some (.inr (.inr 51)), none, none, some (.inl a10), some (.inl a11), some (.inl a12), some (.inl a13), some (.inl a14), some (.inl a15), some (.inl a16), none, none] [.inl s0] SH mm = (if s0 = 0 then if a11 = 0 then if 0 ≤ (zw ((zw (10 * a16)) + 1)) ∧ (zw ((zw (10 * a16)) + 1)) < 64 then zR d 91 503 [some (.inr (.inr 0)), some (.inr (.inr 999)), some (.inl a2), none, none, some (.inr (.inr 47)), some (.inr (.inr 48)), some (.inr (.inr 51)), none, none, some (.inl a10), some (.inl 0), some (.inl (zw (a12 + 1))), some (.inl a13), some (.inl a14), some (.inl a15), some (.inl a16), none, none] [] SH (zu mm 47 ((zw ((zw (10 * a16)) + 1)).toNat) 1) else none else zcI (zL d 63 [.inr (.inr 0), .inl a16, .inl 1] SH mm) fun x sh' mm' => zR d 91 713 [some (.inr (.inr 0)), some (.inr (.inr 999)), some (.inl a2), none, none, some (.inr (.inr 47)), some (.inr (.inr 48)), some (.inr (.inr 51)), none, none, some (.inl a10), some (.inl a11), some (.inl a12), some (.inl a13), some (.inl a14), some (.inl a15), some (.inl a16), none, none] [.inl x] sh' mm' else zR d 91 503 [some (.inr (.inr 0)), some (.inr (.inr 999)), some (.inl a2), none, none, some (.inr (.inr 47)), some (.inr (.inr 48)), some (.inr (.inr 51)), none, none, some (.inl a10), some (.inl a11), some (.inl (zw (a12 + 1))), some (.inl a13), some (.inl a14), some (.inl a15), some (.inl a16), none, none] [] SH mm) := (zR_unf d 91 [22, 152, 299, 389, 503, 581] 16 698 _ _ _ _).trans rfl
set_option maxRecDepth 100000 in
theorem zb_L_build_656 (d : Nat) (a2 a10 a12 a13 a14 a15 a16 a17 a18 s0 : Int) (mm : zMm) : zR d 91 656 [some (.inr (.inr 0)), some (.inr (.inr 999)), some (.inl a2), none, none, some (.inr (.inr 47)), some (.inr (.inr 48)), some (.inr (.inr 51)), none, none, some (.inl a10), none, some (.inl a12), some (.inl a13), some (.inl a14), some (.inl a15), some (.inl a16), some (.inl a17), some (.inl a18)] [.inl s0] SH mm = (if s0 = a17 then zcI (zL d 90 [.inl (zshr a13 6), .inl 6] SH mm) fun x sh' mm' => zR d 91 678 [some (.inr (.inr 0)), some (.inr (.inr 999)), some (.inl a2), none, none, some (.inr (.inr 47)), some (.inr (.inr 48)), some (.inr (.inr 51)), none, none, some (.inl a10), some (.inl 1), some (.inl a12), some (.inl a13), some (.inl a14), some (.inl a15), some (.inl a16), some (.inl a17), some (.inl a18)] [.inl x] sh' mm' else zcI (zL d 90 [.inl (zshr a13 6), .inl 6] SH mm) fun x sh' mm' => zR d 91 678 [some (.inr (.inr 0)), some (.inr (.inr 999)), some (.inl a2), none, none, some (.inr (.inr 47)), some (.inr (.inr 48)), some (.inr (.inr 51)), none, none, some (.inl a10), some (.inl 0), some (.inl a12), some (.inl a13), some (.inl a14), some (.inl a15), some (.inl a16), some (.inl a17), some (.inl a18)] [.inl x] sh' mm') := (zR_unf d 91 [22, 152, 299, 389, 503, 581] 11 656 _ _ _ _).trans rfl
set_option maxRecDepth 100000 in
theorem zb_L_build_713 (d : Nat) (a2 a10 a11 a12 a13 a14 a15 a16 s0 : Int) (mm : zMm) : zR d 91 713 [some (.inr (.inr 0)), some (.inr (.inr 999)), some (.inl a2), none, none, some (.inr (.inr 47)), some (.inr (.inr 48)), some (.inr (.inr 51)), none, none, some (.inl a10), some (.inl a11), some (.inl a12), some (.inl a13), some (.inl a14), some (.inl a15), some (.inl a16), none, none] [.inl s0] SH mm = (if 0 ≤ (zw ((zw (10 * a16)) + 1)) ∧ (zw ((zw (10 * a16)) + 1)) < 64 then if s0 = (mm 47 ((zw ((zw (10 * a16)) + 1)).toNat)) then if 0 ≤ (zw ((zw (10 * a16)) + 1)) ∧ (zw ((zw (10 * a16)) + 1)) < 64 then zR d 91 503 [some (.inr (.inr 0)), some (.inr (.inr 999)), some (.inl a2), none, none, some (.inr (.inr 47)), some (.inr (.inr 48)), some (.inr (.inr 51)), none, none, some (.inl a10), some (.inl 1), some (.inl (zw (a12 + 1))), some (.inl a13), some (.inl a14), some (.inl a15), some (.inl a16), none, none] [] SH (zu mm 47 ((zw ((zw (10 * a16)) + 1)).toNat) 1) else none else if 0 ≤ (zw ((zw (10 * a16)) + 1)) ∧ (zw ((zw (10 * a16)) + 1)) < 64 then zR d 91 503 [some (.inr (.inr 0)), some (.inr (.inr 999)), some (.inl a2), none, none, some (.inr (.inr 47)), some (.inr (.inr 48)), some (.inr (.inr 51)), none, none, some (.inl a10), some (.inl 0), some (.inl (zw (a12 + 1))), some (.inl a13), some (.inl a14), some (.inl a15), some (.inl a16), none, none] [] SH (zu mm 47 ((zw ((zw (10 * a16)) + 1)).toNat) 1) else none else none) := (zR_unf d 91 [22, 152, 299, 389, 503, 581] 22 713 _ _ _ _).trans rfl
end
section
set_option maxRecDepth 100000 in
theorem zb_L_law_48 (d : Nat) (mm : zMm) : zR d 92 48 [some (.inr (.inr 999)), some (.inr (.inr 0)), some (.inr (.inr 45)), some (.inr (.inr 46)), some (.inr (.inr 47)), some (.inr (.inr 48)), some (.inr (.inr 49)), some (.inr (.inr 50)), some (.inr (.inr 51)), none, none, none, none, none, none, none, none, none, none, none, none] [] SH mm = (zcI (zL d 91 [.inr (.inr 0), .inr (.inr 999), .inl 0, .inr (.inr 45), .inr (.inr 46), .inr (.inr 47), .inr (.inr 48), .inr (.inr 51), .inl 1] SH mm) fun x sh' mm' => zR d 92 63 [some (.inr (.inr 999)), some (.inr (.inr 0)), some (.inr (.inr 45)), some (.inr (.inr 46)), some (.inr (.inr 47)), some (.inr (.inr 48)), some (.inr (.inr 49)), some (.inr (.inr 50)), some (.inr (.inr 51)), none, none, none, none, none, none, none, none, none, none, none, none] [.inl x] sh' mm') := (zR_unf d 92 [82, 138, 329, 379, 391, 475, 651, 763] 11 48 _ _ _ _).trans rfl
set_option maxRecDepth 100000 in
theorem zb_L_law_63 (d : Nat) (s0 : Int) (mm : zMm) : zR d 92 63 [some (.inr (.inr 999)), some (.inr (.inr 0)), some (.inr (.inr 45)), some (.inr (.inr 46)), some (.inr (.inr 47)), some (.inr (.inr 48)), some (.inr (.inr 49)), some (.inr (.inr 50)), some (.inr (.inr 51)), none, none, none, none, none, none, none, none, none, none, none, none] [.inl s0] SH mm = (if s0 = 0 then zok 0 mm else zcI (zL d 89 [.inr (.inr 999), .inl 60] SH mm) fun x sh' mm' => zR d 92 74 [some (.inr (.inr 999)), some (.inr (.inr 0)), some (.inr (.inr 45)), some (.inr (.inr 46)), some (.inr (.inr 47)), some (.inr (.inr 48)), some (.inr (.inr 49)), some (.inr (.inr 50)), some (.inr (.inr 51)), none, none, none, none, none, none, none, none, none, none, none, none] [.inl x] sh' mm') := (zR_unf d 92 [82, 138, 329, 379, 391, 475, 651, 763] 5 63 _ _ _ _).trans rfl
set_option maxRecDepth 100000 in
theorem zb_L_law_74 (d : Nat) (s0 : Int) (mm : zMm) : zR d 92 74 [some (.inr (.inr 999)), some (.inr (.inr 0)), some (.inr (.inr 45)), some (.inr (.inr 46)), some (.inr (.inr 47)), some (.inr (.inr 48)), some (.inr (.inr 49)), some (.inr (.inr 50)), some (.inr (.inr 51)), none, none, none, none, none, none, none, none, none, none, none, none] [.inl s0] SH mm = (zR d 92 82 [some (.inr (.inr 999)), some (.inr (.inr 0)), some (.inr (.inr 45)), some (.inr (.inr 46)), some (.inr (.inr 47)), some (.inr (.inr 48)), some (.inr (.inr 49)), some (.inr (.inr 50)), some (.inr (.inr 51)), some (.inl s0), some (.inl 1), some (.inl 0), none, none, none, none, none, none, none, none, none] [] SH mm) := (zR_unf d 92 [82, 138, 329, 379, 391, 475, 651, 763] 6 74 _ _ _ _).trans rfl
set_option maxRecDepth 100000 in
theorem zb_L_law_82 (d : Nat) (a9 a10 a11 : Int) (mm : zMm) : zR d 92 82 [none, some (.inr (.inr 0)), some (.inr (.inr 45)), none, some (.inr (.inr 47)), none, some (.inr (.inr 49)), some (.inr (.inr 50)), some (.inr (.inr 51)), some (.inl a9), some (.inl a10), some (.inl a11), none, none, none, none, none, none, none, none, none] [] SH mm = (if a11 < (mm 51 0) then if a10 = 0 then zR d 92 82 [none, some (.inr (.inr 0)), some (.inr (.inr 45)), none, some (.inr (.inr 47)), none, some (.inr (.inr 49)), some (.inr (.inr 50)), some (.inr (.inr 51)), some (.inl a9), some (.inl 0), some (.inl (zw (a11 + 1))), none, none, none, none, none, none, none, none, none] [] SH mm else if 0 ≤ (zw (10 * a11)) ∧ (zw (10 * a11)) < 64 then if (mm 47 ((zw (10 * a11)).toNat)) = 0 then zR d 92 82 [none, some (.inr (.inr 0)), some (.inr (.inr 45)), none, some (.inr (.inr 47)), none, some (.inr (.inr 49)), some (.inr (.inr 50)), some (.inr (.inr 51)), some (.inl a9), some (.inl 1), some (.inl (zw (a11 + 1))), none, none, none, none, none, none, none, none, none] [] SH mm else if 0 ≤ (zw (10 * a11)) ∧ (zw (10 * a11)) < 64 then if (mm 47 ((zw (10 * a11)).toNat)) = 3 then zR d 92 82 [none, some (.inr (.inr 0)), some (.inr (.inr 45)), none, some (.inr (.inr 47)), none, some (.inr (.inr 49)), some (.inr (.inr 50)), some (.inr (.inr 51)), some (.inl a9), some (.inl 1), some (.inl (zw (a11 + 1))), none, none, none, none, none, none, none, none, none] [] SH mm else zR d 92 82 [none, some (.inr (.inr 0)), some (.inr (.inr 45)), none, some (.inr (.inr 47)), none, some (.inr (.inr 49)), some (.inr (.inr 50)), some (.inr (.inr 51)), some (.inl a9), some (.inl 0), some (.inl (zw (a11 + 1))), none, none, none, none, none, none, none, none, none] [] SH mm else none else none else zR d 92 138 [none, some (.inr (.inr 0)), some (.inr (.inr 45)), none, some (.inr (.inr 47)), none, some (.inr (.inr 49)), some (.inr (.inr 50)), some (.inr (.inr 51)), some (.inl a9), some (.inl a10), some (.inl 0), some (.inl 0), none, none, none, none, none, none, none, none] [] SH mm) := (zR_unf d 92 [82, 138, 329, 379, 391, 475, 651, 763] 26 82 _ _ _ _).trans rfl
set_option maxRecDepth 100000 in
theorem zb_L_law_138 (d : Nat) (a9 a10 a11 a12 : Int) (mm : zMm) : zR d 92 138 [none, some (.inr (.inr 0)), some (.inr (.inr 45)), none, none, none, some (.inr (.inr 49)), some (.inr (.inr 50)), some (.inr (.inr 51)), some (.inl a9), some (.inl a10), some (.inl a11), some (.inl a12), none, none, none, none, none, none, none, none] [] SH mm = (if a12 < 40 then zcI (zL d 67 [.inr (.inr 0), .inl 6] SH mm) fun x sh' mm' => zR d 92 151 [none, some (.inr (.inr 0)), some (.inr (.inr 45)), none, none, none, some (.inr (.inr 49)), some (.inr (.inr 50)), some (.inr (.inr 51)), some (.inl a9), some (.inl a10), some (.inl a11), some (.inl a12), none, none, none, none, none, none, none, none] [.inl x] sh' mm' else zcI (zL d 67 [.inr (.inr 0), .inl 2] SH mm) fun x sh' mm' => zR d 92 307 [none, some (.inr (.inr 0)), some (.inr (.inr 45)), none, none, none, some (.inr (.inr 49)), some (.inr (.inr 50)), some (.inr (.inr 51)), some (.inl a9), some (.inl a10), some (.inl a11), some (.inl a12), none, none, none, none, none, none, none, none] [.inl x] sh' mm') := (zR_unf d 92 [82, 138, 329, 379, 391, 475, 651, 763] 7 138 _ _ _ _).trans rfl
set_option maxRecDepth 100000 in
theorem zb_L_law_151 (d : Nat) (a9 a10 a11 a12 s0 : Int) (mm : zMm) : zR d 92 151 [none, some (.inr (.inr 0)), some (.inr (.inr 45)), none, none, none, some (.inr (.inr 49)), some (.inr (.inr 50)), some (.inr (.inr 51)), some (.inl a9), some (.inl a10), some (.inl a11), some (.inl a12), none, none, none, none, none, none, none, none] [.inl s0] SH mm = (if s0 < 0 then zcI (zL d 67 [.inr (.inr 0), .inl 2] SH mm) fun x sh' mm' => zR d 92 175 [none, some (.inr (.inr 0)), some (.inr (.inr 45)), none, none, none, some (.inr (.inr 49)), some (.inr (.inr 50)), some (.inr (.inr 51)), some (.inl a9), some (.inl a10), some (.inl a11), some (.inl a12), some (.inl s0), some (.inl 0), none, none, none, none, none, none] [.inl x] sh' mm' else zcI (zL d 69 [.inr (.inr 0), .inl s0] SH mm) fun x sh' mm' => zR d 92 168 [none, some (.inr (.inr 0)), some (.inr (.inr 45)), none, none, none, some (.inr (.inr 49)), some (.inr (.inr 50)), some (.inr (.inr 51)), some (.inl a9), some (.inl a10), some (.inl a11), some (.inl a12), some (.inl s0), none, none, none, none, none, none, none] [.inl x] sh' mm') := (zR_unf d 92 [82, 138, 329, 379, 391, 475, 651, 763] 10 151 _ _ _ _).trans rfl
set_option maxRecDepth 100000 in
theorem zb_L_law_307 (d : Nat) (a9 a10 a11 a12 s0 : Int) (mm : zMm) : zR d 92 307 [none, some (.inr (.inr 0)), some (.inr (.inr 45)), none, none, none, some (.inr (.inr 49)), some (.inr (.inr 50)), some (.inr (.inr 51)), some (.inl a9), some (.inl a10), some (.inl a11), some (.inl a12), none, none, none, none, none, none, none, none] [.inl s0] SH mm = (if a10 = 0 then zR d 92 329 [none, some (.inr (.inr 0)), some (.inr (.inr 45)), none, none, none, some (.inr (.inr 49)), some (.inr (.inr 50)), some (.inr (.inr 51)), some (.inl a9), some (.inl a10), some (.inl a11), some (.inl s0), some (.inl 1), none, none, none, none, none, none, none] [] SH mm else zcI (zL d 76 [.inr (.inr 0), .inl 0] SH mm) fun x sh' mm' => zR d 92 319 [none, some (.inr (.inr 0)), some (.inr (.inr 45)), none, none, none, some (.inr (.inr 49)), some (.inr (.inr 50)), some (.inr (.inr 51)), some (.inl a9), some (.inl a10), some (.inl a11), some (.inl s0), none, none, none, none, none, none, none, none] [.inl x] sh' mm') := (zR_unf d 92 [82, 138, 329, 379, 391, 475, 651, 763] 7 307 _ _ _ _).trans rfl
set_option maxRecDepth 100000 in
theorem zb_L_law_175 (d : Nat) (a9 a10 a11 a12 a13 a14 s0 : Int) (mm : zMm) : zR d 92 175 [none, some (.inr (.inr 0)), some (.inr (.inr 45)), none, none, none, some (.inr (.inr 49)), some (.inr (.inr 50)), some (.inr (.inr 51)), some (.inl a9), some (.inl a10), some (.inl a11), some (.inl a12), some (.inl a13), some (.inl a14), none, none, none, none, none, none] [.inl s0] SH mm = (zcI (zL d 70 [.inr (.inr 0), .inl 1] SH mm) fun x sh' mm' => zR d 92 182 [none, some (.inr (.inr 0)), some (.inr (.inr 45)), none, none, none, some (.inr (.inr 49)), some (.inr (.inr 50)), some (.inr (.inr 51)), some (.inl a9), some (.inl a10), some (.inl a11), some (.inl a12), some (.inl a13), some (.inl a14), some (.inl s0), none, none, none, none, none] [.inl x] sh' mm') := (zR_unf d 92 [82, 138, 329, 379, 391, 475, 651, 763] 5 175 _ _ _ _).trans rfl
set_option maxRecDepth 100000 in
theorem zb_L_law_168 (d : Nat) (a9 a10 a11 a12 a13 s0 : Int) (mm : zMm) : zR d 92 168 [none, some (.inr (.inr 0)), some (.inr (.inr 45)), none, none, none, some (.inr (.inr 49)), some (.inr (.inr 50)), some (.inr (.inr 51)), some (.inl a9), some (.inl a10), some (.inl a11), some (.inl a12), some (.inl a13), none, none, none, none, none, none, none] [.inl s0] SH mm = (zcI (zL d 67 [.inr (.inr 0), .inl 2] SH mm) fun x sh' mm' => zR d 92 175 [none, some (.inr (.inr 0)), some (.inr (.inr 45)), none, none, none, some (.inr (.inr 49)), some (.inr (.inr 50)), some (.inr (.inr 51)), some (.inl a9), some (.inl a10), some (.inl a11), some (.inl a12), some (.inl a13), some (.inl s0), none, none, none, none, none, none] [.inl x] sh' mm') := (zR_unf d 92 [82, 138, 329, 379, 391, 475, 651, 763] 5 168 _ _ _ _).trans rfl
set_option maxRecDepth 100000 in
theorem zb_L_law_319 (d : Nat) (a9 a10 a11 a12 s0 : Int) (mm : zMm) : zR d 92 319 [none, some (.inr (.inr 0)), some (.inr (.inr 45)), none, none, none, some (.inr (.inr 49)), some (.inr (.inr 50)), some (.inr (.inr 51)), some (.inl a9), some (.inl a10), some (.inl a11), some (.inl a12), none, none, none, none, none, none, none, none] [.inl s0] SH mm = (if s0 = (-4) then zR d 92 329 [none, some (.inr (.inr 0)), some (.inr (.inr 45)), none, none, none, some (.inr (.inr 49)), some (.inr (.inr 50)), some (.inr (.inr 51)), some (.inl a9), some (.inl a10), some (.inl a11), some (.inl a12), some (.inl 1), none, none, none, none, none, none, none] [] SH mm else zok 0 mm) := (zR_unf d 92 [82, 138, 329, 379, 391, 475, 651, 763] 5 319 _ _ _ _).trans rfl
set_option maxRecDepth 100000 in
theorem zb_L_law_329 (d : Nat) (a9 a10 a12 a13 : Int) (mm : zMm) : zR d 92 329 [none, some (.inr (.inr 0)), some (.inr (.inr 45)), none, none, none, some (.inr (.inr 49)), some (.inr (.inr 50)), some (.inr (.inr 51)), some (.inl a9), some (.inl a10), none, some (.inl a12), some (.inl a13), none, none, none, none, none, none, none] [] SH mm = (if a13 < a12 then if a10 = 0 then zR d 92 379 [none, some (.inr (.inr 0)), some (.inr (.inr 45)), none, none, none, some (.inr (.inr 49)), some (.inr (.inr 50)), some (.inr (.inr 51)), some (.inl a9), some (.inl a10), none, some (.inl a12), some (.inl 0), some (.inl 0), none, none, none, none, none, none] [] SH mm else zcI (zL d 68 [.inr (.inr 0), .inl (zw (a13 - 1)), .inl 0] SH mm) fun x sh' mm' => zR d 92 351 [none, some (.inr (.inr 0)), some (.inr (.inr 45)), none, none, none, some (.inr (.inr 49)), some (.inr (.inr 50)), some (.inr (.inr 51)), some (.inl a9), some (.inl a10), none, some (.inl a12), some (.inl a13), none, none, none, none, none, none, none] [.inl x, .inr (.inr 45)] sh' mm' else zR d 92 379 [none, some (.inr (.inr 0)), some (.inr (.inr 45)), none, none, none, some (.inr (.inr 49)), some (.inr (.inr 50)), some (.inr (.inr 51)), some (.inl a9), some (.inl a10), none, some (.inl a12), some (.inl 0), some (.inl 0), none, none, none, none, none, none] [] SH mm) := (zR_unf d 92 [82, 138, 329, 379, 391, 475, 651, 763] 13 329 _ _ _ _).trans rfl
set_option maxRecDepth 100000 in
theorem zb_L_law_182 (d : Nat) (a9 a10 a11 a12 a13 a14 a15 s0 : Int) (mm : zMm) : zR d 92 182 [none, some (.inr (.inr 0)), some (.inr (.inr 45)), none, none, none, some (.inr (.inr 49)), some (.inr (.inr 50)), some (.inr (.inr 51)), some (.inl a9), some (.inl a10), some (.inl a11), some (.inl a12), some (.inl a13), some (.inl a14), some (.inl a15), none, none, none, none, none] [.inl s0] SH mm = (if a13 < 0 then if s0 = (-4) then if a13 < 0 then if s0 = 1 then zcI (zL d 68 [.inr (.inr 0), .inl a15, .inl 0] SH mm) fun x sh' mm' => zR d 92 260 [none, some (.inr (.inr 0)), some (.inr (.inr 45)), none, none, none, some (.inr (.inr 49)), some (.inr (.inr 50)), some (.inr (.inr 51)), some (.inl a9), some (.inl a10), some (.inl a11), some (.inl a12), some (.inl a13), some (.inl a14), some (.inl a15), some (.inl s0), none, none, none, none] [.inl x, .inl a14] sh' mm' else zR d 92 138 [none, some (.inr (.inr 0)), some (.inr (.inr 45)), none, none, none, some (.inr (.inr 49)), some (.inr (.inr 50)), some (.inr (.inr 51)), some (.inl a9), some (.inl a10), some (.inl a11), some (.inl (zw (a12 + 1))), some (.inl a13), some (.inl a14), some (.inl a15), some (.inl s0), none, none, none, none] [] SH mm else if s0 = 1 then zcI (zL d 68 [.inr (.inr 0), .inl a15, .inl 0] SH mm) fun x sh' mm' => zR d 92 260 [none, some (.inr (.inr 0)), some (.inr (.inr 45)), none, none, none, some (.inr (.inr 49)), some (.inr (.inr 50)), some (.inr (.inr 51)), some (.inl a9), some (.inl a10), some (.inl (zw (a11 + 1))), some (.inl a12), some (.inl a13), some (.inl a14), some (.inl a15), some (.inl s0), none, none, none, none] [.inl x, .inl a14] sh' mm' else zR d 92 138 [none, some (.inr (.inr 0)), some (.inr (.inr 45)), none, none, none, some (.inr (.inr 49)), some (.inr (.inr 50)), some (.inr (.inr 51)), some (.inl a9), some (.inl a10), some (.inl (zw (a11 + 1))), some (.inl (zw (a12 + 1))), some (.inl a13), some (.inl a14), some (.inl a15), some (.inl s0), none, none, none, none] [] SH mm else zok 0 mm else if a14 = 0 then if s0 = 0 then zcI (zL d 67 [.inr (.inr 0), .inl 7] SH mm) fun x sh' mm' => zR d 92 220 [none, some (.inr (.inr 0)), some (.inr (.inr 45)), none, none, none, some (.inr (.inr 49)), some (.inr (.inr 50)), some (.inr (.inr 51)), some (.inl a9), some (.inl a10), some (.inl a11), some (.inl a12), some (.inl a13), some (.inl a14), some (.inl a15), some (.inl s0), none, none, none, none] [.inl x] sh' mm' else zok 0 mm else if s0 = 1 then zcI (zL d 67 [.inr (.inr 0), .inl 7] SH mm) fun x sh' mm' => zR d 92 220 [none, some (.inr (.inr 0)), some (.inr (.inr 45)), none, none, none, some (.inr (.inr 49)), some (.inr (.inr 50)), some (.inr (.inr 51)), some (.inl a9), some (.inl a10), some (.inl a11), some (.inl a12), some (.inl a13), some (.inl a14), some (.inl a15), some (.inl s0), none, none, none, none] [.inl x] sh' mm' else zok 0 mm) := (zR_unf d 92 [82, 138, 329, 379, 391, 475, 651, 763] 21 182 _ _ _ _).trans rfl
set_option maxRecDepth 100000 in
theorem zb_L_law_351 (d : Nat) (a9 a10 a12 a13 s1 : Int) (mm : zMm) : zR d 92 351 [none, some (.inr (.inr 0)), some (.inr (.inr 45)), none, none, none, some (.inr (.inr 49)), some (.inr (.inr 50)), some (.inr (.inr 51)), some (.inl a9), some (.inl a10), none, some (.inl a12), some (.inl a13), none, none, none, none, none, none, none] [.inl s1, .inr (.inr 45)] SH mm = (if 0 ≤ s1 ∧ s1 < 8 then zcI (zL d 68 [.inr (.inr 0), .inl a13, .inl 0] SH mm) fun x sh' mm' => zR d 92 359 [none, some (.inr (.inr 0)), some (.inr (.inr 45)), none, none, none, some (.inr (.inr 49)), some (.inr (.inr 50)), some (.inr (.inr 51)), some (.inl a9), some (.inl a10), none, some (.inl a12), some (.inl a13), none, none, none, none, none, none, none] [.inl x, .inl (mm 45 ((s1).toNat))] sh' mm' else none) := (zR_unf d 92 [82, 138, 329, 379, 391, 475, 651, 763] 6 351 _ _ _ _).trans rfl
set_option maxRecDepth 100000 in
theorem zb_L_law_379 (d : Nat) (a9 a12 a13 a14 : Int) (mm : zMm) : zR d 92 379 [none, some (.inr (.inr 0)), none, none, none, none, some (.inr (.inr 49)), some (.inr (.inr 50)), some (.inr (.inr 51)), some (.inl a9), none, none, some (.inl a12), some (.inl a13), some (.inl a14), none, none, none, none, none, none] [] SH mm = (if a14 < (mm 51 0) then zR d 92 391 [none, some (.inr (.inr 0)), none, none, none, none, some (.inr (.inr 49)), some (.inr (.inr 50)), some (.inr (.inr 51)), some (.inl a9), none, none, some (.inl a12), some (.inl a13), some (.inl a14), some (.inl 0), none, none, none, none, none] [] SH mm else if a13 = a12 then zcI (zL d 67 [.inr (.inr 0), .inl 4] SH mm) fun x sh' mm' => zR d 92 435 [none, some (.inr (.inr 0)), none, none, none, none, some (.inr (.inr 49)), some (.inr (.inr 50)), some (.inr (.inr 51)), some (.inl a9), none, none, some (.inl a12), some (.inl a13), some (.inl a14), none, none, none, none, none, none] [.inl x] sh' mm' else zok 0 mm) := (zR_unf d 92 [82, 138, 329, 379, 391, 475, 651, 763] 12 379 _ _ _ _).trans rfl
set_option maxRecDepth 100000 in
theorem zb_L_law_260 (d : Nat) (a9 a10 a11 a12 a13 a14 a15 a16 s0 s1 : Int) (mm : zMm) : zR d 92 260 [none, some (.inr (.inr 0)), some (.inr (.inr 45)), none, none, none, some (.inr (.inr 49)), some (.inr (.inr 50)), some (.inr (.inr 51)), some (.inl a9), some (.inl a10), some (.inl a11), some (.inl a12), some (.inl a13), some (.inl a14), some (.inl a15), some (.inl a16), none, none, none, none] [.inl s1, .inl s0] SH mm = (if (zand (zshr s0 s1) 1) = 0 then zok 0 mm else zcI (zL d 68 [.inr (.inr 0), .inl a15, .inl 1] SH mm) fun x sh' mm' => zR d 92 273 [none, some (.inr (.inr 0)), some (.inr (.inr 45)), none, none, none, some (.inr (.inr 49)), some (.inr (.inr 50)), some (.inr (.inr 51)), some (.inl a9), some (.inl a10), some (.inl a11), some (.inl a12), some (.inl a13), some (.inl a14), some (.inl a15), some (.inl a16), none, none, none, none] [.inl x] sh' mm') := (zR_unf d 92 [82, 138, 329, 379, 391, 475, 651, 763] 9 260 _ _ _ _).trans rfl
set_option maxRecDepth 100000 in
theorem zb_L_law_220 (d : Nat) (a9 a10 a11 a12 a13 a14 a15 a16 s0 : Int) (mm : zMm) : zR d 92 220 [none, some (.inr (.inr 0)), some (.inr (.inr 45)), none, none, none, some (.inr (.inr 49)), some (.inr (.inr 50)), some (.inr (.inr 51)), some (.inl a9), some (.inl a10), some (.inl a11), some (.inl a12), some (.inl a13), some (.inl a14), some (.inl a15), some (.inl a16), none, none, none, none] [.inl s0] SH mm = (if s0 = (zw (a11 + 1)) then if a13 < 0 then if a16 = 1 then zcI (zL d 68 [.inr (.inr 0), .inl a15, .inl 0] SH mm) fun x sh' mm' => zR d 92 260 [none, some (.inr (.inr 0)), some (.inr (.inr 45)), none, none, none, some (.inr (.inr 49)), some (.inr (.inr 50)), some (.inr (.inr 51)), some (.inl a9), some (.inl a10), some (.inl a11), some (.inl a12), some (.inl a13), some (.inl a14), some (.inl a15), some (.inl a16), none, none, none, none] [.inl x, .inl a14] sh' mm' else zR d 92 138 [none, some (.inr (.inr 0)), some (.inr (.inr 45)), none, none, none, some (.inr (.inr 49)), some (.inr (.inr 50)), some (.inr (.inr 51)), some (.inl a9), some (.inl a10), some (.inl a11), some (.inl (zw (a12 + 1))), some (.inl a13), some (.inl a14), some (.inl a15), some (.inl a16), none, none, none, none] [] SH mm else if a16 = 1 then zcI (zL d 68 [.inr (.inr 0), .inl a15, .inl 0] SH mm) fun x sh' mm' => zR d 92 260 [none, some (.inr (.inr 0)), some (.inr (.inr 45)), none, none, none, some (.inr (.inr 49)), some (.inr (.inr 50)), some (.inr (.inr 51)), some (.inl a9), some (.inl a10), some (.inl (zw (a11 + 1))), some (.inl a12), some (.inl a13), some (.inl a14), some (.inl a15), some (.inl a16), none, none, none, none] [.inl x, .inl a14] sh' mm' else zR d 92 138 [none, some (.inr (.inr 0)), some (.inr (.inr 45)), none, none, none, some (.inr (.inr 49)), some (.inr (.inr 50)), some (.inr (.inr 51)), some (.inl a9), some (.inl a10), some (.inl (zw (a11 + 1))), some (.inl (zw (a12 + 1))), some (.inl a13), some (.inl a14), some (.inl a15), some (.inl a16), none, none, none, none] [] SH mm else zok 0 mm) := (zR_unf d 92 [82, 138, 329, 379, 391, 475, 651, 763] 19 220 _ _ _ _).trans rfl
set_option maxRecDepth 100000 in
theorem zb_L_law_359 (d : Nat) (a9 a10 a12 a13 s0 s1 : Int) (mm : zMm) : zR d 92 359 [none, some (.inr (.inr 0)), some (.inr (.inr 45)), none, none, none, some (.inr (.inr 49)), some (.inr (.inr 50)), some (.inr (.inr 51)), some (.inl a9), some (.inl a10), none, some (.inl a12), some (.inl a13), none, none, none, none, none, none, none] [.inl s1, .inl s0] SH mm = (if (zand (zshr s0 s1) 1) = 0 then zok 0 mm else zR d 92 329 [none, some (.inr (.inr 0)), some (.inr (.inr 45)), none, none, none, some (.inr (.inr 49)), some (.inr (.inr 50)), some (.inr (.inr 51)), some (.inl a9), some (.inl a10), none, some (.inl a12), some (.inl (zw (a13 + 1))), none, none, none, none, none, none, none] [] SH mm) := (zR_unf d 92 [82, 138, 329, 379, 391, 475, 651, 763] 7 359 _ _ _ _).trans rfl
set_option maxRecDepth 100000 in
theorem zb_L_law_435 (d : Nat) (a9 a12 a13 a14 s0 : Int) (mm : zMm) : zR d 92 435 [none, some (.inr (.inr 0)), none, none, none, none, some (.inr (.inr 49)), some (.inr (.inr 50)), some (.inr (.inr 51)), some (.inl a9), none, none, some (.inl a12), some (.inl a13), some (.inl a14), none, none, none, none, none, none] [.inl s0] SH mm = (if s0 = a12 then zcI (zL d 90 [.inl a9, .inl 8] SH mm) fun x sh' mm' => zR d 92 449 [none, some (.inr (.inr 0)), none, none, none, none, some (.inr (.inr 49)), some (.inr (.inr 50)), some (.inr (.inr 51)), some (.inl a9), none, none, some (.inl a12), some (.inl a13), some (.inl a14), none, none, none, none, none, none] [.inl x] sh' mm' else zok 0 mm) := (zR_unf d 92 [82, 138, 329, 379, 391, 475, 651, 763] 6 435 _ _ _ _).trans rfl
set_option maxRecDepth 100000 in
theorem zb_L_law_391 (d : Nat) (a9 a12 a13 a14 a15 : Int) (mm : zMm) : zR d 92 391 [none, some (.inr (.inr 0)), none, none, none, none, some (.inr (.inr 49)), some (.inr (.inr 50)), some (.inr (.inr 51)), some (.inl a9), none, none, some (.inl a12), some (.inl a13), some (.inl a14), some (.inl a15), none, none, none, none, none] [] SH mm = (if a15 < 8 then zcI (zL d 75 [.inr (.inr 0), .inl a14, .inl a15] SH mm) fun x sh' mm' => zR d 92 408 [none, some (.inr (.inr 0)), none, none, none, none, some (.inr (.inr 49)), some (.inr (.inr 50)), some (.inr (.inr 51)), some (.inl a9), none, none, some (.inl a12), some (.inl a13), some (.inl a14), some (.inl a15), none, none, none, none, none] [.inl x, .inl a13] sh' mm' else zR d 92 379 [none, some (.inr (.inr 0)), none, none, none, none, some (.inr (.inr 49)), some (.inr (.inr 50)), some (.inr (.inr 51)), some (.inl a9), none, none, some (.inl a12), some (.inl a13), some (.inl (zw (a14 + 1))), some (.inl a15), none, none, none, none, none] [] SH mm) := (zR_unf d 92 [82, 138, 329, 379, 391, 475, 651, 763] 9 391 _ _ _ _).trans rfl
set_option maxRecDepth 100000 in
theorem zb_L_law_273 (d : Nat) (a9 a10 a11 a12 a13 a14 a15 a16 s0 : Int) (mm : zMm) : zR d 92 273 [none, some (.inr (.inr 0)), some (.inr (.inr 45)), none, none, none, some (.inr (.inr 49)), some (.inr (.inr 50)), some (.inr (.inr 51)), some (.inl a9), some (.inl a10), some (.inl a11), some (.inl a12), some (.inl a13), some (.inl a14), some (.inl a15), some (.inl a16), none, none, none, none] [.inl s0] SH mm = (if s0 = a13 then if a13 < 0 then zR d 92 138 [none, some (.inr (.inr 0)), some (.inr (.inr 45)), none, none, none, some (.inr (.inr 49)), some (.inr (.inr 50)), some (.inr (.inr 51)), some (.inl a9), some (.inl a10), some (.inl a11), some (.inl (zw (a12 + 1))), some (.inl a13), some (.inl a14), some (.inl a15), some (.inl a16), none, none, none, none] [] SH mm else zcI (zL d 66 [.inr (.inr 0), .inl a13, .inl 2] SH mm) fun x sh' mm' => zR d 92 290 [none, some (.inr (.inr 0)), some (.inr (.inr 45)), none, none, none, some (.inr (.inr 49)), some (.inr (.inr 50)), some (.inr (.inr 51)), some (.inl a9), some (.inl a10), some (.inl a11), some (.inl a12), some (.inl a13), some (.inl a14), some (.inl a15), some (.inl a16), none, none, none, none] [.inl x] sh' mm' else zok 0 mm) := (zR_unf d 92 [82, 138, 329, 379, 391, 475, 651, 763] 9 273 _ _ _ _).trans rfl
set_option maxRecDepth 100000 in
theorem zb_L_law_449 (d : Nat) (a9 a12 a13 a14 s0 : Int) (mm : zMm) : zR d 92 449 [none, some (.inr (.inr 0)), none, none, none, none, some (.inr (.inr 49)), some (.inr (.inr 50)), some (.inr (.inr 51)), some (.inl a9), none, none, some (.inl a12), some (.inl a13), some (.inl a14), none, none, none, none, none, none] [.inl s0] SH mm = (zcI (zL d 73 [.inr (.inr 0), .inl s0, .inl 1] SH mm) fun x sh' mm' => zR d 92 458 [none, some (.inr (.inr 0)), none, none, none, none, some (.inr (.inr 49)), some (.inr (.inr 50)), some (.inr (.inr 51)), some (.inl a9), none, none, some (.inl a12), some (.inl a13), some (.inl s0), none, none, none, none, none, none] [.inl x] sh' mm') := (zR_unf d 92 [82, 138, 329, 379, 391, 475, 651, 763] 6 449 _ _ _ _).trans rfl
set_option maxRecDepth 100000 in
theorem zb_L_law_408 (d : Nat) (a9 a12 a13 a14 a15 s0 s1 : Int) (mm : zMm) : zR d 92 408 [none, some (.inr (.inr 0)), none, none, none, none, some (.inr (.inr 49)), some (.inr (.inr 50)), some (.inr (.inr 51)), some (.inl a9), none, none, some (.inl a12), some (.inl a13), some (.inl a14), some (.inl a15), none, none, none, none, none] [.inl s1, .inl s0] SH mm = (zR d 92 391 [none, some (.inr (.inr 0)), none, none, none, none, some (.inr (.inr 49)), some (.inr (.inr 50)), some (.inr (.inr 51)), some (.inl a9), none, none, some (.inl a12), some (.inl (zw (s0 + s1))), some (.inl a14), some (.inl (zw (a15 + 1))), none, none, none, none, none] [] SH mm) := (zR_unf d 92 [82, 138, 329, 379, 391, 475, 651, 763] 5 408 _ _ _ _).trans rfl
set_option maxRecDepth 100000 in
theorem zb_L_law_290 (d : Nat) (a9 a10 a11 a12 a13 a14 a15 a16 s0 : Int) (mm : zMm) : zR d 92 290 [none, some (.inr (.inr 0)), some (.inr (.inr 45)), none, none, none, some (.inr (.inr 49)), some (.inr (.inr 50)), some (.inr (.inr 51)), some (.inl a9), some (.inl a10), some (.inl a11), some (.inl a12), some (.inl a13), some (.inl a14), some (.inl a15), some (.inl a16), none, none, none, none] [.inl s0] SH mm = (if s0 = 1 then zok 0 mm else zR d 92 138 [none, some (.inr (.inr 0)), some (.inr (.inr 45)), none, none, none, some (.inr (.inr 49)), some (.inr (.inr 50)), some (.inr (.inr 51)), some (.inl a9), some (.inl a10), some (.inl a11), some (.inl (zw (a12 + 1))), some (.inl a13), some (.inl a14), some (.inl a15), some (.inl a16), none, none, none, none] [] SH mm) := (zR_unf d 92 [82, 138, 329, 379, 391, 475, 651, 763] 5 290 _ _ _ _).trans rfl
set_option maxRecDepth 100000 in
theorem zb_L_law_458 (d : Nat) (a9 a12 a13 a14 s0 : Int) (mm : zMm) : zR d 92 458 [none, some (.inr (.inr 0)), none, none, none, none, some (.inr (.inr 49)), some (.inr (.inr 50)), some (.inr (.inr 51)), some (.inl a9), none, none, some (.inl a12), some (.inl a13), some (.inl a14), none, none, none, none, none, none] [.inl s0] SH mm = (zcI (zL d 67 [.inr (.inr 0), .inl 6] SH mm) fun x sh' mm' => zR d 92 466 [none, some (.inr (.inr 0)), none, none, none, none, some (.inr (.inr 49)), some (.inr (.inr 50)), some (.inr (.inr 51)), some (.inl a9), none, none, some (.inl a12), some (.inl a13), some (.inl a14), some (.inl s0), none, none, none, none, none] [.inl x] sh' mm') := (zR_unf d 92 [82, 138, 329, 379, 391, 475, 651, 763] 5 458 _ _ _ _).trans rfl
set_option maxRecDepth 100000 in
theorem zb_L_law_466 (d : Nat) (a9 a12 a13 a14 a15 s0 : Int) (mm : zMm) : zR d 92 466 [none, some (.inr (.inr 0)), none, none, none, none, some (.inr (.inr 49)), some (.inr (.inr 50)), some (.inr (.inr 51)), some (.inl a9), none, none, some (.inl a12), some (.inl a13), some (.inl a14), some (.inl a15), none, none, none, none, none] [.inl s0] SH mm = (if s0 < 0 then zcI (zL d 90 [.inl (zshr a9 3), .inl 9] SH mm) fun x sh' mm' => zR d 92 597 [none, some (.inr (.inr 0)), none, none, none, none, some (.inr (.inr 49)), some (.inr (.inr 50)), some (.inr (.inr 51)), some (.inl a9), none, none, some (.inl a12), some (.inl a13), some (.inl a14), some (.inl a15), none, none, none, none, none] [.inl x, .inl 1] sh' mm' else zR d 92 475 [none, some (.inr (.inr 0)), none, none, none, none, some (.inr (.inr 49)), some (.inr (.inr 50)), some (.inr (.inr 51)), some (.inl a9), none, none, some (.inl a12), some (.inl a13), some (.inl a14), some (.inl a15), some (.inl 0), some (.inl 1), none, none, none] [] SH mm) := (zR_unf d 92 [82, 138, 329, 379, 391, 475, 651, 763] 8 466 _ _ _ _).trans rfl
set_option maxRecDepth 100000 in
theorem zb_L_law_597 (d : Nat) (a9 a12 a13 a14 a15 s0 s1 : Int) (mm : zMm) : zR d 92 597 [none, some (.inr (.inr 0)), none, none, none, none, some (.inr (.inr 49)), some (.inr (.inr 50)), some (.inr (.inr 51)), some (.inl a9), none, none, some (.inl a12), some (.inl a13), some (.inl a14), some (.inl a15), none, none, none, none, none] [.inl s1, .inl s0] SH mm = (zcI (zL d 90 [.inl (zshr a9 7), .inl 1000] SH mm) fun x sh' mm' => zR d 92 611 [none, some (.inr (.inr 0)), none, none, none, none, some (.inr (.inr 49)), some (.inr (.inr 50)), some (.inr (.inr 51)), some (.inl a9), none, none, some (.inl a12), some (.inl a13), some (.inl a14), some (.inl a15), some (.inl (zw (s0 + s1))), none, none, none, none] [.inl x] sh' mm') := (zR_unf d 92 [82, 138, 329, 379, 391, 475, 651, 763] 8 597 _ _ _ _).trans rfl
set_option maxRecDepth 100000 in
theorem zb_L_law_475 (d : Nat) (a9 a12 a14 a15 a16 a17 : Int) (mm : zMm) : zR d 92 475 [none, some (.inr (.inr 0)), none, none, none, none, some (.inr (.inr 49)), some (.inr (.inr 50)), none, some (.inl a9), none, none, some (.inl a12), none, some (.inl a14), some (.inl a15), some (.inl a16), some (.inl a17), none, none, none] [] SH mm = (if a17 < 5 then zcI (zL d 74 [.inr (.inr 0), .inl a14, .inl a17] SH mm) fun x sh' mm' => zR d 92 489 [none, some (.inr (.inr 0)), none, none, none, none, some (.inr (.inr 49)), some (.inr (.inr 50)), none, some (.inl a9), none, none, some (.inl a12), none, some (.inl a14), some (.inl a15), some (.inl a16), some (.inl a17), none, none, none] [.inl x] sh' mm' else if 0 < a12 then zcI (zL d 68 [.inr (.inr 0), .inl (zw (a12 - 1)), .inl 0] SH mm) fun x sh' mm' => zR d 92 575 [none, some (.inr (.inr 0)), none, none, none, none, some (.inr (.inr 49)), some (.inr (.inr 50)), none, some (.inl a9), none, none, some (.inl a12), none, some (.inl a14), some (.inl a15), some (.inl a16), some (.inl a17), none, none, none] [.inl x] sh' mm' else zcI (zL d 90 [.inl (zshr a9 3), .inl 9] SH mm) fun x sh' mm' => zR d 92 597 [none, some (.inr (.inr 0)), none, none, none, none, some (.inr (.inr 49)), some (.inr (.inr 50)), none, some (.inl a9), none, none, some (.inl a12), none, some (.inl a14), some (.inl a15), some (.inl a16), some (.inl a17), none, none, none] [.inl x, .inl 1] sh' mm') := (zR_unf d 92 [82, 138, 329, 379, 391, 475, 651, 763] 12 475 _ _ _ _).trans rfl
set_option maxRecDepth 100000 in
theorem zb_L_law_611 (d : Nat) (a9 a12 a13 a14 a15 a16 s0 : Int) (mm : zMm) : zR d 92 611 [none, some (.inr (.inr 0)), none, none, none, none, some (.inr (.inr 49)), some (.inr (.inr 50)), some (.inr (.inr 51)), some (.inl a9), none, none, some (.inl a12), some (.inl a13), some (.inl a14), some (.inl a15), some (.inl a16), none, none, none, none] [.inl s0] SH mm = (zcI (zL d 77 [.inr (.inr 0)] SH mm) fun x sh' mm' => zR d 92 617 [none, some (.inr (.inr 0)), none, none, none, none, some (.inr (.inr 49)), some (.inr (.inr 50)), some (.inr (.inr 51)), some (.inl a9), none, none, some (.inl a12), some (.inl a13), some (.inl a14), some (.inl a15), some (.inl a16), some (.inl s0), none, none, none] [.inl x] sh' mm') := (zR_unf d 92 [82, 138, 329, 379, 391, 475, 651, 763] 4 611 _ _ _ _).trans rfl
set_option maxRecDepth 100000 in
theorem zb_L_law_489 (d : Nat) (a9 a12 a14 a15 a16 a17 s0 : Int) (mm : zMm) : zR d 92 489 [none, some (.inr (.inr 0)), none, none, none, none, some (.inr (.inr 49)), some (.inr (.inr 50)), none, some (.inl a9), none, none, some (.inl a12), none, some (.inl a14), some (.inl a15), some (.inl a16), some (.inl a17), none, none, none] [.inl s0] SH mm = (if s0 < 0 then zok 0 mm else if 1000 < s0 then zok 0 mm else if (zw (s0 + 4)) < a16 then zok 0 mm else if 0 < s0 then if a15 < 0 then zok 0 mm else if 0 < a12 then zcI (zL d 68 [.inr (.inr 0), .inl (zw (a12 - 1)), .inl 0] SH mm) fun x sh' mm' => zR d 92 537 [none, some (.inr (.inr 0)), none, none, none, none, some (.inr (.inr 49)), some (.inr (.inr 50)), none, some (.inl a9), none, none, some (.inl a12), none, some (.inl a14), some (.inl a15), some (.inl a16), some (.inl a17), some (.inl s0), none, none] [.inl x] sh' mm' else zR d 92 475 [none, some (.inr (.inr 0)), none, none, none, none, some (.inr (.inr 49)), some (.inr (.inr 50)), none, some (.inl a9), none, none, some (.inl a12), none, some (.inl a14), some (.inl a15), some (.inl s0), some (.inl (zw (a17 + 1))), some (.inl s0), none, none] [] SH mm else zR d 92 475 [none, some (.inr (.inr 0)), none, none, none, none, some (.inr (.inr 49)), some (.inr (.inr 50)), none, some (.inl a9), none, none, some (.inl a12), none, some (.inl a14), some (.inl a15), some (.inl s0), some (.inl (zw (a17 + 1))), some (.inl s0), none, none] [] SH mm) := (zR_unf d 92 [82, 138, 329, 379, 391, 475, 651, 763] 24 489 _ _ _ _).trans rfl
set_option maxRecDepth 100000 in
theorem zb_L_law_575 (d : Nat) (a9 a12 a14 a15 a16 a17 s0 : Int) (mm : zMm) : zR d 92 575 [none, some (.inr (.inr 0)), none, none, none, none, some (.inr (.inr 49)), some (.inr (.inr 50)), none, some (.inl a9), none, none, some (.inl a12), none, some (.inl a14), some (.inl a15), some (.inl a16), some (.inl a17), none, none, none] [.inl s0] SH mm = (if s0 = a14 then if a15 = 0 then zcI (zL d 90 [.inl (zshr a9 3), .inl 9] SH mm) fun x sh' mm' => zR d 92 597 [none, some (.inr (.inr 0)), none, none, none, none, some (.inr (.inr 49)), some (.inr (.inr 50)), none, some (.inl a9), none, none, some (.inl a12), none, some (.inl a14), some (.inl a15), some (.inl a16), some (.inl a17), none, none, none] [.inl x, .inl 1] sh' mm' else zok 0 mm else zcI (zL d 90 [.inl (zshr a9 3), .inl 9] SH mm) fun x sh' mm' => zR d 92 597 [none, some (.inr (.inr 0)), none, none, none, none, some (.inr (.inr 49)), some (.inr (.inr 50)), none, some (.inl a9), none, none, some (.inl a12), none, some (.inl a14), some (.inl a15), some (.inl a16), some (.inl a17), none, none, none] [.inl x, .inl 1] sh' mm') := (zR_unf d 92 [82, 138, 329, 379, 391, 475, 651, 763] 11 575 _ _ _ _).trans rfl
set_option maxRecDepth 100000 in
theorem zb_L_law_617 (d : Nat) (a9 a12 a13 a14 a15 a16 a17 s0 : Int) (mm : zMm) : zR d 92 617 [none, some (.inr (.inr 0)), none, none, none, none, some (.inr (.inr 49)), some (.inr (.inr 50)), some (.inr (.inr 51)), some (.inl a9), none, none, some (.inl a12), some (.inl a13), some (.inl a14), some (.inl a15), some (.inl a16), some (.inl a17), none, none, none] [.inl s0] SH mm = (if s0 = 1 then zcI (zL d 71 [.inr (.inr 0), .inl a17] SH mm) fun x sh' mm' => zR d 92 627 [none, some (.inr (.inr 0)), none, none, none, none, some (.inr (.inr 49)), some (.inr (.inr 50)), some (.inr (.inr 51)), some (.inl a9), none, none, some (.inl a12), some (.inl a13), some (.inl a14), some (.inl a15), some (.inl a16), some (.inl a17), none, none, none] [.inl x] sh' mm' else zok 0 mm) := (zR_unf d 92 [82, 138, 329, 379, 391, 475, 651, 763] 6 617 _ _ _ _).trans rfl
set_option maxRecDepth 100000 in
theorem zb_L_law_537 (d : Nat) (a9 a12 a14 a15 a16 a17 a18 s0 : Int) (mm : zMm) : zR d 92 537 [none, some (.inr (.inr 0)), none, none, none, none, some (.inr (.inr 49)), some (.inr (.inr 50)), none, some (.inl a9), none, none, some (.inl a12), none, some (.inl a14), some (.inl a15), some (.inl a16), some (.inl a17), some (.inl a18), none, none] [.inl s0] SH mm = (if s0 = a14 then zR d 92 475 [none, some (.inr (.inr 0)), none, none, none, none, some (.inr (.inr 49)), some (.inr (.inr 50)), none, some (.inl a9), none, none, some (.inl a12), none, some (.inl a14), some (.inl a15), some (.inl a18), some (.inl (zw (a17 + 1))), some (.inl a18), none, none] [] SH mm else if a17 < a15 then zok 0 mm else zR d 92 475 [none, some (.inr (.inr 0)), none, none, none, none, some (.inr (.inr 49)), some (.inr (.inr 50)), none, some (.inl a9), none, none, some (.inl a12), none, some (.inl a14), some (.inl a15), some (.inl a18), some (.inl (zw (a17 + 1))), some (.inl a18), none, none] [] SH mm) := (zR_unf d 92 [82, 138, 329, 379, 391, 475, 651, 763] 10 537 _ _ _ _).trans rfl
set_option maxRecDepth 100000 in
theorem zb_L_law_627 (d : Nat) (a9 a12 a13 a14 a15 a16 a17 s0 : Int) (mm : zMm) : zR d 92 627 [none, some (.inr (.inr 0)), none, none, none, none, some (.inr (.inr 49)), some (.inr (.inr 50)), some (.inr (.inr 51)), some (.inl a9), none, none, some (.inl a12), some (.inl a13), some (.inl a14), some (.inl a15), some (.inl a16), some (.inl a17), none, none, none] [.inl s0] SH mm = (if s0 < 0 then zok 0 mm else zcI (zL d 70 [.inr (.inr 0), .inl a16] SH mm) fun x sh' mm' => zR d 92 638 [none, some (.inr (.inr 0)), none, none, none, none, some (.inr (.inr 49)), some (.inr (.inr 50)), some (.inr (.inr 51)), some (.inl a9), none, none, some (.inl a12), some (.inl a13), some (.inl a14), some (.inl a15), some (.inl a16), some (.inl a17), none, none, none] [.inl x] sh' mm') := (zR_unf d 92 [82, 138, 329, 379, 391, 475, 651, 763] 5 627 _ _ _ _).trans rfl
set_option maxRecDepth 100000 in
theorem zb_L_law_638 (d : Nat) (a9 a12 a13 a14 a15 a16 a17 s0 : Int) (mm : zMm) : zR d 92 638 [none, some (.inr (.inr 0)), none, none, none, none, some (.inr (.inr 49)), some (.inr (.inr 50)), some (.inr (.inr 51)), some (.inl a9), none, none, some (.inl a12), some (.inl a13), some (.inl a14), some (.inl a15), some (.inl a16), some (.inl a17), none, none, none] [.inl s0] SH mm = (zcI (zL d 67 [.inr (.inr 0), .inl 2] SH mm) fun x sh' mm' => zR d 92 645 [none, some (.inr (.inr 0)), none, none, none, none, some (.inr (.inr 49)), some (.inr (.inr 50)), some (.inr (.inr 51)), some (.inl a9), none, none, some (.inl a12), some (.inl a13), some (.inl a14), some (.inl a15), some (.inl a16), some (.inl a17), some (.inl s0), none, none] [.inl x] sh' mm') := (zR_unf d 92 [82, 138, 329, 379, 391, 475, 651, 763] 5 638 _ _ _ _).trans rfl
set_option maxRecDepth 100000 in
theorem zb_L_law_645 (d : Nat) (a9 a12 a13 a14 a15 a16 a17 a18 s0 : Int) (mm : zMm) : zR d 92 645 [none, some (.inr (.inr 0)), none, none, none, none, some (.inr (.inr 49)), some (.inr (.inr 50)), some (.inr (.inr 51)), some (.inl a9), none, none, some (.inl a12), some (.inl a13), some (.inl a14), some (.inl a15), some (.inl a16), some (.inl a17), some (.inl a18), none, none] [.inl s0] SH mm = (zR d 92 651 [none, some (.inr (.inr 0)), none, none, none, none, some (.inr (.inr 49)), some (.inr (.inr 50)), some (.inr (.inr 51)), some (.inl a9), none, none, some (.inl a12), some (.inl a13), some (.inl a14), some (.inl a15), some (.inl a16), some (.inl a17), some (.inl a18), some (.inl s0), some (.inl a12)] [] SH mm) := (zR_unf d 92 [82, 138, 329, 379, 391, 475, 651, 763] 4 645 _ _ _ _).trans rfl
set_option maxRecDepth 100000 in
theorem zb_L_law_651 (d : Nat) (a12 a16 a17 a18 a19 a20 : Int) (mm : zMm) : zR d 92 651 [none, some (.inr (.inr 0)), none, none, none, none, some (.inr (.inr 49)), some (.inr (.inr 50)), none, none, none, none, some (.inl a12), none, none, none, some (.inl a16), some (.inl a17), some (.inl a18), some (.inl a19), some (.inl a20)] [] SH mm = (if a20 < a19 then zcI (zL d 68 [.inr (.inr 0), .inl a20, .inl 0] SH mm) fun x sh' mm' => zR d 92 672 [none, some (.inr (.inr 0)), none, none, none, none, some (.inr (.inr 49)), some (.inr (.inr 50)), none, none, none, none, some (.inl a12), none, none, none, some (.inl a16), some (.inl a17), some (.inl a18), some (.inl a19), some (.inl a20)] [.inl x, .inl (zw (a20 - a12)), .inr (.inr 49)] sh' mm' else zcI (zL d 78 [.inr (.inr 0)] SH mm) fun x sh' mm' => zR d 92 698 [none, some (.inr (.inr 0)), none, none, none, none, some (.inr (.inr 49)), some (.inr (.inr 50)), none, none, none, none, some (.inl a12), none, none, none, some (.inl a16), some (.inl a17), some (.inl a18), some (.inl a19), some (.inl a20)] [.inl x] sh' mm') := (zR_unf d 92 [82, 138, 329, 379, 391, 475, 651, 763] 12 651 _ _ _ _).trans rfl
set_option maxRecDepth 100000 in
theorem zb_L_law_672 (d : Nat) (a12 a16 a17 a18 a19 a20 s1 s2 : Int) (mm : zMm) : zR d 92 672 [none, some (.inr (.inr 0)), none, none, none, none, some (.inr (.inr 49)), some (.inr (.inr 50)), none, none, none, none, some (.inl a12), none, none, none, some (.inl a16), some (.inl a17), some (.inl a18), some (.inl a19), some (.inl a20)] [.inl s2, .inl s1, .inr (.inr 49)] SH mm = (if 0 ≤ s1 ∧ s1 < 64 then zcI (zL d 68 [.inr (.inr 0), .inl a20, .inl 1] SH (zu mm 49 ((s1).toNat) s2)) fun x sh' mm' => zR d 92 687 [none, some (.inr (.inr 0)), none, none, none, none, some (.inr (.inr 49)), some (.inr (.inr 50)), none, none, none, none, some (.inl a12), none, none, none, some (.inl a16), some (.inl a17), some (.inl a18), some (.inl a19), some (.inl a20)] [.inl x, .inl (zw (a20 - a12)), .inr (.inr 50)] sh' mm' else none) := (zR_unf d 92 [82, 138, 329, 379, 391, 475, 651, 763] 10 672 _ _ _ _).trans rfl
set_option maxRecDepth 100000 in
theorem zb_L_law_698 (d : Nat) (a12 a16 a17 a18 a19 a20 s0 : Int) (mm : zMm) : zR d 92 698 [none, some (.inr (.inr 0)), none, none, none, none, some (.inr (.inr 49)), some (.inr (.inr 50)), none, none, none, none, some (.inl a12), none, none, none, some (.inl a16), some (.inl a17), some (.inl a18), some (.inl a19), some (.inl a20)] [.inl s0] SH mm = (if s0 = 1 then zcI (zL d 67 [.inr (.inr 0), .inl 2] SH mm) fun x sh' mm' => zR d 92 707 [none, some (.inr (.inr 0)), none, none, none, none, some (.inr (.inr 49)), some (.inr (.inr 50)), none, none, none, none, some (.inl a12), none, none, none, some (.inl a16), some (.inl a17), some (.inl a18), some (.inl a19), some (.inl a20)] [.inl x] sh' mm' else zok 0 mm) := (zR_unf d 92 [82, 138, 329, 379, 391, 475, 651, 763] 6 698 _ _ _ _).trans rfl
set_option maxRecDepth 100000 in
theorem zb_L_law_687 (d : Nat) (a12 a16 a17 a18 a19 a20 s1 s2 : Int) (mm : zMm) : zR d 92 687 [none, some (.inr (.inr 0)), none, none, none, none, some (.inr (.inr 49)), some (.inr (.inr 50)), none, none, none, none, some (.inl a12), none, none, none, some (.inl a16), some (.inl a17), some (.inl a18), some (.inl a19), some (.inl a20)] [.inl s2, .inl s1, .inr (.inr 50)] SH mm = (if 0 ≤ s1 ∧ s1 < 64 then zR d 92 651 [none, some (.inr (.inr 0)), none, none, none, none, some (.inr (.inr 49)), some (.inr (.inr 50)), none, none, none, none, some (.inl a12), none, none, none, some (.inl a16), some (.inl a17), some (.inl a18), some (.inl a19), some (.inl (zw (a20 + 1)))] [] SH (zu mm 50 ((s1).toNat) s2) else none) := (zR_unf d 92 [82, 138, 329, 379, 391, 475, 651, 763] 4 687 _ _ _ _).trans rfl
set_option maxRecDepth 100000 in
theorem zb_L_law_707 (d : Nat) (a12 a16 a17 a18 a19 a20 s0 : Int) (mm : zMm) : zR d 92 707 [none, some (.inr (.inr 0)), none, none, none, none, some (.inr (.inr 49)), some (.inr (.inr 50)), none, none, none, none, some (.inl a12), none, none, none, some (.inl a16), some (.inl a17), some (.inl a18), some (.inl a19), some (.inl a20)] [.inl s0] SH mm = (if s0 = a12 then zcI (zL d 71 [.inr (.inr 0), .inl a17] SH mm) fun x sh' mm' => zR d 92 718 [none, some (.inr (.inr 0)), none, none, none, none, some (.inr (.inr 49)), some (.inr (.inr 50)), none, none, none, none, some (.inl a12), none, none, none, some (.inl a16), some (.inl a17), some (.inl a18), some (.inl a19), some (.inl a20)] [.inl x] sh' mm' else zok 0 mm) := (zR_unf d 92 [82, 138, 329, 379, 391, 475, 651, 763] 6 707 _ _ _ _).trans rfl
set_option maxRecDepth 100000 in
theorem zb_L_law_718 (d : Nat) (a12 a16 a17 a18 a19 a20 s0 : Int) (mm : zMm) : zR d 92 718 [none, some (.inr (.inr 0)), none, none, none, none, some (.inr (.inr 49)), some (.inr (.inr 50)), none, none, none, none, some (.inl a12), none, none, none, some (.inl a16), some (.inl a17), some (.inl a18), some (.inl a19), some (.inl a20)] [.inl s0] SH mm = (if s0 < 0 then zok 0 mm else zcI (zL d 70 [.inr (.inr 0), .inl a16] SH mm) fun x sh' mm' => zR d 92 727 [none, some (.inr (.inr 0)), none, none, none, none, some (.inr (.inr 49)), some (.inr (.inr 50)), none, none, none, none, some (.inl a12), none, none, none, some (.inl a16), some (.inl a17), some (.inl a18), some (.inl a19), some (.inl a20)] [.inl x] sh' mm') := (zR_unf d 92 [82, 138, 329, 379, 391, 475, 651, 763] 5 718 _ _ _ _).trans rfl
set_option maxRecDepth 100000 in
theorem zb_L_law_727 (d : Nat) (a12 a16 a17 a18 a19 a20 s0 : Int) (mm : zMm) : zR d 92 727 [none, some (.inr (.inr 0)), none, none, none, none, some (.inr (.inr 49)), some (.inr (.inr 50)), none, none, none, none, some (.inl a12), none, none, none, some (.inl a16), some (.inl a17), some (.inl a18), some (.inl a19), some (.inl a20)] [.inl s0] SH mm = (if s0 = a18 then zcI (zL d 67 [.inr (.inr 0), .inl 2] SH mm) fun x sh' mm' => zR d 92 737 [none, some (.inr (.inr 0)), none, none, none, none, some (.inr (.inr 49)), some (.inr (.inr 50)), none, none, none, none, some (.inl a12), none, none, none, some (.inl a16), some (.inl a17), some (.inl a18), some (.inl a19), some (.inl a20)] [.inl x] sh' mm' else zok 0 mm) := (zR_unf d 92 [82, 138, 329, 379, 391, 475, 651, 763] 6 727 _ _ _ _).trans rfl
set_option maxRecDepth 100000 in
theorem zb_L_law_737 (d : Nat) (a12 a16 a17 a18 a19 a20 s0 : Int) (mm : zMm) : zR d 92 737 [none, some (.inr (.inr 0)), none, none, none, none, some (.inr (.inr 49)), some (.inr (.inr 50)), none, none, none, none, some (.inl a12), none, none, none, some (.inl a16), some (.inl a17), some (.inl a18), some (.inl a19), some (.inl a20)] [.inl s0] SH mm = (if s0 = a19 then if a18 < 0 then zR d 92 763 [none, some (.inr (.inr 0)), none, none, none, none, some (.inr (.inr 49)), some (.inr (.inr 50)), none, none, none, none, some (.inl a12), none, none, none, some (.inl a16), some (.inl a17), some (.inl a18), some (.inl a19), some (.inl a12)] [] SH mm else if a19 = (zw (a12 + a18)) then zR d 92 763 [none, some (.inr (.inr 0)), none, none, none, none, some (.inr (.inr 49)), some (.inr (.inr 50)), none, none, none, none, some (.inl a12), none, none, none, some (.inl a16), some (.inl a17), some (.inl a18), some (.inl a19), some (.inl a12)] [] SH mm else zok 0 mm else zok 0 mm) := (zR_unf d 92 [82, 138, 329, 379, 391, 475, 651, 763] 12 737 _ _ _ _).trans rfl
set_option maxRecDepth 100000 in
theorem zb_L_law_763 (d : Nat) (a12 a19 a20 : Int) (mm : zMm) : zR d 92 763 [none, some (.inr (.inr 0)), none, none, none, none, some (.inr (.inr 49)), some (.inr (.inr 50)), none, none, none, none, some (.inl a12), none, none, none, none, none, none, some (.inl a19), some (.inl a20)] [] SH mm = (if a20 < a19 then zcI (zL d 68 [.inr (.inr 0), .inl a20, .inl 0] SH mm) fun x sh' mm' => zR d 92 777 [none, some (.inr (.inr 0)), none, none, none, none, some (.inr (.inr 49)), some (.inr (.inr 50)), none, none, none, none, some (.inl a12), none, none, none, none, none, none, some (.inl a19), some (.inl a20)] [.inl x] sh' mm' else if a19 = 0 then zok 1 mm else zcI (zL d 72 [.inr (.inr 0), .inl a19] SH mm) fun x sh' mm' => zR d 92 825 [none, some (.inr (.inr 0)), none, none, none, none, some (.inr (.inr 49)), some (.inr (.inr 50)), none, none, none, none, some (.inl a12), none, none, none, none, none, none, some (.inl a19), some (.inl a20)] [.inl x] sh' mm') := (zR_unf d 92 [82, 138, 329, 379, 391, 475, 651, 763] 9 763 _ _ _ _).trans rfl
set_option maxRecDepth 100000 in
theorem zb_L_law_777 (d : Nat) (a12 a19 a20 s0 : Int) (mm : zMm) : zR d 92 777 [none, some (.inr (.inr 0)), none, none, none, none, some (.inr (.inr 49)), some (.inr (.inr 50)), none, none, none, none, some (.inl a12), none, none, none, none, none, none, some (.inl a19), some (.inl a20)] [.inl s0] SH mm = (if 0 ≤ (zw (a20 - a12)) ∧ (zw (a20 - a12)) < 64 then if s0 = (mm 49 ((zw (a20 - a12)).toNat)) then zcI (zL d 68 [.inr (.inr 0), .inl a20, .inl 1] SH mm) fun x sh' mm' => zR d 92 795 [none, some (.inr (.inr 0)), none, none, none, none, some (.inr (.inr 49)), some (.inr (.inr 50)), none, none, none, none, some (.inl a12), none, none, none, none, none, none, some (.inl a19), some (.inl a20)] [.inl x] sh' mm' else zok 0 mm else none) := (zR_unf d 92 [82, 138, 329, 379, 391, 475, 651, 763] 11 777 _ _ _ _).trans rfl
set_option maxRecDepth 100000 in
theorem zb_L_law_825 (d : Nat) (a12 a19 a20 s0 : Int) (mm : zMm) : zR d 92 825 [none, some (.inr (.inr 0)), none, none, none, none, some (.inr (.inr 49)), some (.inr (.inr 50)), none, none, none, none, some (.inl a12), none, none, none, none, none, none, some (.inl a19), some (.inl a20)] [.inl s0] SH mm = (if s0 = 0 then zcI (zL d 67 [.inr (.inr 0), .inl 2] SH mm) fun x sh' mm' => zR d 92 833 [none, some (.inr (.inr 0)), none, none, none, none, some (.inr (.inr 49)), some (.inr (.inr 50)), none, none, none, none, some (.inl a12), none, none, none, none, none, none, some (.inl a19), some (.inl a20)] [.inl x] sh' mm' else zok 0 mm) := (zR_unf d 92 [82, 138, 329, 379, 391, 475, 651, 763] 5 825 _ _ _ _).trans rfl
set_option maxRecDepth 100000 in
theorem zb_L_law_795 (d : Nat) (a12 a19 a20 s0 : Int) (mm : zMm) : zR d 92 795 [none, some (.inr (.inr 0)), none, none, none, none, some (.inr (.inr 49)), some (.inr (.inr 50)), none, none, none, none, some (.inl a12), none, none, none, none, none, none, some (.inl a19), some (.inl a20)] [.inl s0] SH mm = (if 0 ≤ (zw (a20 - a12)) ∧ (zw (a20 - a12)) < 64 then if s0 = (mm 50 ((zw (a20 - a12)).toNat)) then zR d 92 763 [none, some (.inr (.inr 0)), none, none, none, none, some (.inr (.inr 49)), some (.inr (.inr 50)), none, none, none, none, some (.inl a12), none, none, none, none, none, none, some (.inl a19), some (.inl (zw (a20 + 1)))] [] SH mm else zok 0 mm else none) := (zR_unf d 92 [82, 138, 329, 379, 391, 475, 651, 763] 9 795 _ _ _ _).trans rfl
set_option maxRecDepth 100000 in
theorem zb_L_law_833 (d : Nat) (a12 a19 a20 s0 : Int) (mm : zMm) : zR d 92 833 [none, some (.inr (.inr 0)), none, none, none, none, some (.inr (.inr 49)), some (.inr (.inr 50)), none, none, none, none, some (.inl a12), none, none, none, none, none, none, some (.inl a19), some (.inl a20)] [.inl s0] SH mm = (if s0 = 0 then zok 1 mm else zok 0 mm) := (zR_unf d 92 [82, 138, 329, 379, 391, 475, 651, 763] 5 833 _ _ _ _).trans rfl
end
section
theorem zw_id {x : Int} (h1 : -2147483648 ≤ x) (h2 : x < 2147483648) : zw x = x := by rw [zw_eq, zo_i ⟨h1, h2⟩]
theorem zwl_id {x : Int} (h1 : -9223372036854775808 ≤ x) (h2 : x < 9223372036854775808) : zwl x = x := by rw [zwl_eq, zo_l ⟨h1, h2⟩]
theorem zup_aux {P : Nat → Prop} : ∀ (k i : Nat), (∀ j, i ≤ j → j < i + k → P (j + 1) → P j) → P (i + k) → P i
  | 0, _, _, h => h
  | k + 1, i, hs, h => hs i (Nat.le_refl i) (by omega) (zup_aux k (i + 1) (fun j a b => hs j (by omega) (by omega)) (by rw [show i + 1 + k = i + (k + 1) by omega]; exact h))
theorem zup {P : Nat → Prop} {n : Nat} (h0 : P n) (hs : ∀ i, i < n → P (i + 1) → P i) : ∀ i, i ≤ n → P i := fun i hi =>
  zup_aux (n - i) i (fun j _ b => hs j (by omega)) (by rw [show i + (n - i) = n by omega]; exact h0)
theorem zu_s (mm : zMm) (k j : Nat) (v : Int) : zu mm k j v k j = v := if_pos ⟨rfl, rfl⟩
theorem zu_j (mm : zMm) {k j j' : Nat} (v : Int) (h : j' ≠ j) : zu mm k j v k j' = mm k j' := if_neg (fun z => h z.2)
theorem zu_k (mm : zMm) {k j k' : Nat} (v : Int) (h : k' ≠ k) : zu mm k j v k' = mm k' := zu_ne h
/-- a bit of an int -/
def zbit (x : Int) (j : Nat) : Bool := (Int32.ofInt x).toBitVec.getLsbD j
theorem zbit_of (x : Int32) (j : Nat) : zbit x.toInt j = x.toBitVec.getLsbD j := by unfold zbit; rw [Int32.ofInt_toInt]
theorem zbit_and (x y : Int) (j : Nat) : zbit (zand x y) j = (zbit x j && zbit y j) := by unfold zand; rw [zbit_of, Int32.toBitVec_and, BitVec.getLsbD_and]; rfl
theorem zbit_or (x y : Int) (j : Nat) : zbit (zor x y) j = (zbit x j || zbit y j) := by unfold zor; rw [zbit_of, Int32.toBitVec_or, BitVec.getLsbD_or]; rfl
theorem zbit_xor (x y : Int) (j : Nat) : zbit (zxor x y) j = (zbit x j ^^ zbit y j) := by unfold zxor; rw [zbit_of, Int32.toBitVec_xor, BitVec.getLsbD_xor]; rfl
theorem zbit_big (x : Int) {j : Nat} (h : 32 ≤ j) : zbit x j = false := BitVec.getLsbD_of_ge _ _ h
theorem zbit_m1 {j : Nat} (h : j < 32) : zbit (-1) j = true := by
  have : ∀ j, j < 32 → zbit (-1) j = true := by decide +kernel
  exact this j h
theorem zbit_0 (j : Nat) : zbit 0 j = false := by
  by_cases h : j < 32
  · have : ∀ j, j < 32 → zbit 0 j = false := by decide +kernel
    exact this j h
  · exact zbit_big 0 (by omega)
theorem zbit_ext {x y : Int} (hx : zr32 x) (hy : zr32 y) (h : ∀ j, j < 32 → zbit x j = zbit y j) : x = y := by
  have h1 : (Int32.ofInt x).toBitVec = (Int32.ofInt y).toBitVec := by
    apply BitVec.eq_of_getLsbD_eq
    intro j hj
    exact h j hj
  have h2 : Int32.ofInt x = Int32.ofInt y := Int32.toBitVec_inj.mp h1
  exact (zo_eq hx hy).mp h2
theorem zbit_p {k : Nat} (hk : k < 32) (j : Nat) : zbit (zshl 1 k) j = decide (j = k) := by
  by_cases h : j < 32
  · have : ∀ k, k < 32 → ∀ j, j < 32 → zbit (zshl 1 (k : Nat)) j = decide (j = k) := by decide +kernel
    exact this k hk j h
  · rw [zbit_big _ (by omega)]
    simp
    omega
theorem zshl_p {k : Nat} (hk : k < 31) : zshl 1 k = (2 : Int) ^ k := by
  have : ∀ k, k < 31 → zshl 1 (k : Nat) = (2 : Int) ^ k := by decide +kernel
  exact this k hk
theorem zr_and (x y : Int) : zr32 (zand x y) := zr_i _
theorem zr_or (x y : Int) : zr32 (zor x y) := zr_i _
theorem zr_xor (x y : Int) : zr32 (zxor x y) := zr_i _
theorem zr_shl (x y : Int) : zr32 (zshl x y) := zr_i _
theorem zr_shr (x y : Int) : zr32 (zshr x y) := zr_i _
theorem zshr_bv {x : Int} {k : Nat} (hk : k < 32) : (Int32.ofInt (zshr x k)).toBitVec = (Int32.ofInt x).toBitVec.sshiftRight k := by
  unfold zshr
  rw [Int32.ofInt_toInt, Int32.toBitVec_shiftRight]
  have : ∀ k, k < 32 → ((Int32.ofInt (k : Nat) &&& 31).toBitVec.smod 32).toNat = k := by decide +kernel
  show (Int32.ofInt x).toBitVec.sshiftRight' _ = _
  unfold BitVec.sshiftRight'
  rw [this k hk]
/-- the test of a bit -/
theorem zbit_test (x : Int) {k : Nat} (hk : k < 32) : zand (zshr x k) 1 = if zbit x k then 1 else 0 := by
  have h1 : zbit (zshr x k) 0 = zbit x k := by
    unfold zbit
    rw [zshr_bv hk, BitVec.getLsbD_sshiftRight]
    simp [hk]
  have h2 : ∀ j, zbit 1 j = decide (j = 0) := by
    intro j
    have := zbit_p (k := 0) (by decide) j
    rwa [show zshl 1 (0 : Nat) = 1 by decide +kernel] at this
  apply zbit_ext (zr_and _ _) (by split <;> exact ⟨by decide, by decide⟩)
  intro j hj
  rw [zbit_and, h2]
  by_cases h : j = 0
  · subst h
    rw [h1]
    cases zbit x k <;> simp [h2, zbit_0]
  · cases zbit x k <;> simp [h, h2, zbit_0]
/-- a set of the numbers below n -/
def mks (P : Nat → Bool) : Nat → Int
  | 0 => 0
  | n + 1 => if P n then zor (mks P n) (zshl 1 n) else mks P n
theorem mks_bit (P : Nat → Bool) : ∀ n, n ≤ 32 → ∀ j, zbit (mks P n) j = (decide (j < n) && P j)
  | 0, _, j => by simp [mks, zbit_0]
  | n + 1, h, j => by
    have ih := mks_bit P n (by omega) j
    unfold mks
    by_cases hj : j = n
    · subst hj
      cases hp : P j <;> simp [hp, ih, zbit_or, zbit_p (show j < 32 by omega)]
    · have e : decide (j < n + 1) = decide (j < n) := by
        by_cases q : j < n
        · simp [q]; omega
        · simp [q]; omega
      cases hp : P n <;> simp [ih, zbit_or, zbit_p (show n < 32 by omega), hj, e]
theorem mks_r (P : Nat → Bool) : ∀ n, zr32 (mks P n)
  | 0 => zr_0
  | n + 1 => by
    unfold mks
    split
    · exact zr_or _ _
    · exact mks_r P n
theorem mks_cong {P Q : Nat → Bool} : ∀ {n : Nat}, (∀ j, j < n → P j = Q j) → mks P n = mks Q n
  | 0, _ => rfl
  | n + 1, h => by
    unfold mks
    rw [h n (by omega), mks_cong (fun j hj => h j (by omega))]
theorem zset_eq {x : Int} {P : Nat → Bool} {n : Nat} (hn : n ≤ 32) (hx : zr32 x) (h : ∀ j, j < 32 → zbit x j = (decide (j < n) && P j)) : x = mks P n :=
  zbit_ext hx (mks_r P n) fun j hj => by rw [h j hj, mks_bit P n hn]
theorem mks_0 {P : Nat → Bool} {n : Nat} (hn : n ≤ 32) : mks P n = 0 ↔ ∀ j, j < n → P j = false := by
  constructor
  · intro h j hj
    have := mks_bit P n hn j
    rw [h, zbit_0] at this
    simpa [hj] using this.symm
  · intro h
    refine zbit_ext (mks_r P n) zr_0 fun j _ => ?_
    rw [mks_bit P n hn, zbit_0]
    by_cases hj : j < n
    · simp [h j hj]
    · simp [hj]
theorem zr_256 {x : Int} (h0 : 0 ≤ x) (h1 : x < 256) : x = mks (zbit x) 8 := by
  refine zset_eq (by decide) ⟨by omega, by omega⟩ fun j hj => ?_
  by_cases h : j < 8
  · simp [h]
  · have hb : ∀ n : Nat, n < 256 → ∀ j, j < 32 → 8 ≤ j → zbit (n : Nat) j = false := by decide +kernel
    have := hb x.toNat (by omega) j hj (by omega)
    rw [show ((x.toNat : Nat) : Int) = x by omega] at this
    simp [h, this]
theorem mks_and (P Q : Nat → Bool) {n : Nat} (hn : n ≤ 32) : zand (mks P n) (mks Q n) = mks (fun j => P j && Q j) n :=
  zset_eq hn (zr_and _ _) fun j _ => by
    rw [zbit_and, mks_bit P n hn, mks_bit Q n hn]
    cases decide (j < n) <;> simp
/-- without one of them -/
theorem mks_not (P : Nat → Bool) {n k : Nat} (hn : n ≤ 32) (hk : k < 32) : zand (mks P n) (zxor (zshl 1 k) (-1)) = mks (fun j => P j && !decide (j = k)) n :=
  zset_eq hn (zr_and _ _) fun j hj => by
    rw [zbit_and, mks_bit P n hn, zbit_xor, zbit_p hk, zbit_m1 hj]
    cases decide (j < n) <;> simp
theorem mks_andnot (P Q : Nat → Bool) {n m : Nat} (hn : n ≤ 32) (hm : m ≤ 32) : zand (mks P n) (zxor (mks Q m) (-1)) = mks (fun j => P j && !(decide (j < m) && Q j)) n :=
  zset_eq hn (zr_and _ _) fun j hj => by
    rw [zbit_and, mks_bit P n hn, zbit_xor, mks_bit Q m hm, zbit_m1 hj]
    cases decide (j < n) <;> simp
theorem mks_or1 (P : Nat → Bool) {n k : Nat} (hn : n ≤ 32) (hk : k < n) : zor (mks P n) (zshl 1 k) = mks (fun j => P j || decide (j = k)) n :=
  zset_eq hn (zr_or _ _) fun j hj => by
    rw [zbit_or, mks_bit P n hn, zbit_p (by omega)]
    by_cases h : j = k
    · subst h
      simp [hk]
    · simp [h]
theorem mks_test (P : Nat → Bool) {n k : Nat} (hn : n ≤ 32) (hk : k < n) : zand (zshr (mks P n) k) 1 = if P k then 1 else 0 := by
  rw [zbit_test _ (by omega), mks_bit P n hn]
  simp [hk]
theorem zdiv_n {a b : Int} (ha : 0 ≤ a) (ha2 : a < 2147483648) (hb : 0 < b) (hb2 : b < 2147483648) : zdiv a b = a / b := by
  have h1 := zo_i (x := a) ⟨by omega, ha2⟩
  have h2 := zo_i (x := b) ⟨by omega, hb2⟩
  unfold zdiv
  rw [Int32.toInt_div, h1, h2, Int.tdiv_eq_ediv_of_nonneg ha]
  have h3 : 0 ≤ a / b := Int.ediv_nonneg ha (by omega)
  have h4 : a / b ≤ a := Int.ediv_le_self b ha
  exact Int.bmod_eq_of_le (by omega) (by omega)
theorem zrem_n {a b : Int} (ha : 0 ≤ a) (ha2 : a < 2147483648) (hb : 0 < b) (hb2 : b < 2147483648) : zrem a b = a % b := by
  have hd := zdiv_n ha ha2 hb hb2
  unfold zdiv at hd
  have h3 : 0 ≤ a / b := Int.ediv_nonneg ha (by omega)
  have h4 : a / b ≤ a := Int.ediv_le_self b ha
  have e : Int32.ofInt a / Int32.ofInt b = Int32.ofInt (a / b) := by rw [← hd, Int32.ofInt_toInt]
  unfold zrem
  rw [e, ← Int32.ofInt_mul, ← Int32.ofInt_sub]
  have h5 : a - a / b * b = a % b := by
    have := Int.emod_add_mul_ediv a b
    rw [Int.mul_comm] at this
    omega
  have h6 : 0 ≤ a % b := Int.emod_nonneg a (by omega)
  have h7 : a % b < b := Int.emod_lt_of_pos a hb
  rw [h5]
  exact zo_i ⟨by omega, by omega⟩
end
section
/-- the number of cells is told -/
def xN (mm : zMm) : Prop := 0 ≤ mm 6 3 ∧ mm 6 3 ≤ 6
/-- a cell that lives -/
def xal (mm : zMm) (c : Nat) : Bool := decide ((c : Int) < mm 6 3) && decide (mm 8 c = 0)
theorem s_isWord (d : Nat) (a : Int) (mm : zMm) : zL (d + 1) 79 [.inl a] SH mm = zok (if 0 ≤ a ∧ a < 8 then 1 else 0) mm := by
  rw [ze_X8_isWord, zb_X8_isWord_0]
  (repeat' split) <;> first | rfl | (exfalso; omega)
theorem s_holds (d : Nat) (x : Int) (k : Nat) (hk : k < 32) (mm : zMm) : zL (d + 1) 81 [.inl x, .inl k] SH mm = zok (if zbit x k then 1 else 0) mm := by
  rw [ze_X8_holds, zb_X8_holds_0, zbit_test _ hk]
  cases zbit x k <;> rfl
theorem s_bit (d : Nat) (x : Int) (mm : zMm) : zL (d + 1) 82 [.inl x] SH mm = zok (if x = 0 then 0 else 1) mm := by
  rw [ze_X8_bit, zb_X8_bit_0]
  split <;> rfl
section X0
variable {mm : zMm}
theorem s_has (d : Nat) (a : Int) (hn : xN mm) : zL (d + 1) 2 [.inr (.inr 6), .inl a] SH mm = zok (if 0 ≤ a ∧ a < mm 6 3 then 1 else 0) mm := by
  have := hn.2
  rw [ze_X0_has, zb_X0_has_0]
  (repeat' split) <;> first | rfl | (exfalso; omega)
theorem s_kindOf (d c : Nat) (hn : xN mm) (hc : (c : Int) < mm 6 3) : zL (d + 2) 4 [.inr (.inr 6), .inl c] SH mm = zok (mm 7 c) mm := by
  have := hn.2
  rw [ze_X0_kindOf, zb_X0_kindOf_0, s_has d c hn, zcI_ok, zb_X0_kindOf_5]
  simp (disch := omega) only [if_pos, if_neg, if_true, if_false, Int.toNat_natCast]
theorem s_kindOfN (d : Nat) (a : Int) (hn : xN mm) (hc : ¬ (0 ≤ a ∧ a < mm 6 3)) : zL (d + 2) 4 [.inr (.inr 6), .inl a] SH mm = zok 3 mm := by
  rw [ze_X0_kindOf, zb_X0_kindOf_0, s_has d a hn, zcI_ok, zb_X0_kindOf_5]
  simp (disch := omega) only [if_pos, if_neg, if_true, if_false]
theorem s_isAlive (d c : Nat) (hn : xN mm) : zL (d + 2) 5 [.inr (.inr 6), .inl c] SH mm = zok (if xal mm c then 1 else 0) mm := by
  have := hn.2
  rw [ze_X0_isAlive, zb_X0_isAlive_0, s_has d c hn, zcI_ok, zb_X0_isAlive_5]
  by_cases h : (c : Int) < mm 6 3
  · by_cases h2 : mm 8 c = 0
    · rw [show xal mm c = true by unfold xal; simp [h, h2]]
      simp (disch := omega) only [if_pos, if_neg, if_true, if_false, Int.toNat_natCast]
    · rw [show xal mm c = false by unfold xal; simp [h2]]
      simp (disch := omega) only [if_pos, if_neg, if_true, if_false, Int.toNat_natCast, Bool.false_eq_true]
  · rw [show xal mm c = false by unfold xal; simp [h]]
    simp (disch := omega) only [if_pos, if_neg, if_true, if_false, Bool.false_eq_true]
theorem s_isAliveN (d : Nat) (a : Int) (hn : xN mm) (ha : ¬ (0 ≤ a ∧ a < mm 6 3)) : zL (d + 2) 5 [.inr (.inr 6), .inl a] SH mm = zok 0 mm := by
  rw [ze_X0_isAlive, zb_X0_isAlive_0, s_has d a hn, zcI_ok, zb_X0_isAlive_5]
  simp (disch := omega) only [if_pos, if_neg, if_true, if_false]
theorem s_weightOf (d c w : Nat) (hn : xN mm) (hc : (c : Int) < mm 6 3) (hw : w < 8) : zL (d + 2) 8 [.inr (.inr 6), .inl c, .inl w] SH mm = zok (mm 9 (8 * c + w)) mm := by
  have := hn.2
  rw [ze_X0_weightOf, zb_X0_weightOf_0, s_has (d) c hn, zcI_ok, zb_X0_weightOf_5]
  simp (disch := omega) only [if_pos, if_neg, if_true, if_false, s_isWord, zcI_ok, zb_X0_weightOf_12, zw_id]
  rw [show ((c : Int) * 8 + w).toNat = 8 * c + w by omega]
theorem s_living (d : Nat) (hn : xN mm) : zL (d + 3) 7 [.inr (.inr 6)] SH mm = zok (mks (xal mm) 6) mm := by
  rw [ze_X0_living, zb_X0_living_0]
  refine zup (P := fun i => zR (d + 2) 7 4 [some (.inr (.inr 6)), some (.inl (mks (xal mm) i)), some (.inl (i : Int))] [] SH mm = zok (mks (xal mm) 6) mm) (n := 6) ?_ ?_ 0 (by omega)
  · rw [zb_X0_living_4]
    rfl
  · intro i hi ih
    rw [zb_X0_living_4, if_pos (by omega), s_isAlive d i hn, zcI_ok, zb_X0_living_15]
    rw [show zw ((i : Int) + 1) = ((i + 1 : Nat) : Int) by rw [zw_id (by omega) (by omega)]; omega]
    unfold mks at ih
    cases h : xal mm i
    · rw [h] at ih
      exact ih
    · rw [h] at ih
      exact ih
/-- the words of weight above 0 -/
def xww (mm : zMm) (c w : Nat) : Bool := decide (0 < mm 9 (8 * c + w))
theorem s_weightedWords (d c : Nat) (hn : xN mm) (hc : (c : Int) < mm 6 3) : zL (d + 2) 11 [.inr (.inr 6), .inl c] SH mm = zok (mks (xww mm c) 8) mm := by
  have := hn.2
  rw [ze_X0_weightedWords, zb_X0_weightedWords_0]
  refine zup (P := fun i => zR (d + 1) 11 4 [some (.inr (.inr 6)), some (.inl c), some (.inl (mks (xww mm c) i)), some (.inl (i : Int))] [] SH mm = zok (mks (xww mm c) 8) mm) (n := 8) ?_ ?_ 0 (by omega)
  · rw [zb_X0_weightedWords_4]
    rfl
  · intro i hi ih
    rw [zb_X0_weightedWords_4, if_pos (by omega), s_has d c hn, zcI_ok, zb_X0_weightedWords_15]
    rw [show zw ((i : Int) + 1) = ((i + 1 : Nat) : Int) by rw [zw_id (by omega) (by omega)]; omega]
    unfold mks at ih
    by_cases h : 0 < mm 9 (8 * c + i)
    · rw [show xww mm c i = true from decide_eq_true h] at ih
      simp (disch := omega) only [if_pos, if_neg, if_true, if_false, zw_id]
      rw [show ((c : Int) * 8 + (i : Int)).toNat = 8 * c + i by omega]
      simp (disch := omega) only [if_pos, if_neg, if_true, if_false]
      exact ih
    · rw [show xww mm c i = false from decide_eq_false h] at ih
      simp (disch := omega) only [if_pos, if_neg, if_true, if_false, zw_id]
      rw [show ((c : Int) * 8 + (i : Int)).toNat = 8 * c + i by omega]
      simp (disch := omega) only [if_pos, if_neg, if_true, if_false]
      exact ih
theorem s_weightedWordsN (d : Nat) (a : Int) (hn : xN mm) (hc : ¬ (0 ≤ a ∧ a < mm 6 3)) : zL (d + 2) 11 [.inr (.inr 6), .inl a] SH mm = zok 0 mm := by
  rw [ze_X0_weightedWords, zb_X0_weightedWords_0, zb_X0_weightedWords_4, if_pos (by omega), s_has d a hn, zcI_ok, zb_X0_weightedWords_15]
  simp (disch := omega) only [if_pos, if_neg, if_true, if_false]
end X0
end
section
/-! the last words, as a number: 0 nothing; 1..8 a word; 9..72 two; 73..584 three -/
def wpush (e w : Nat) : Nat := if e = 0 then 1 + w else if e < 9 then 9 + 8 * (e - 1) + w else if e < 73 then 73 + 8 * (e - 9) + w else 73 + (e - 73) % 64 * 8 + w
def zsl (e : Nat) : Nat := if e = 0 then 1 else if e < 9 then e + 7 else if e < 73 then e + 55 else e + 439
def zfold (B : Nat → Int) : Nat → Nat → Nat → Nat
  | 0, _, e => e
  | c + 1, s, e => zfold B c (s + 1) (wpush e (B s).toNat)
def zend (B : Nat → Int) (u : Nat) : Nat := if u < 3 then zfold B u 0 0 else zfold B 3 (u - 3) 0
theorem wpush_lt {e w : Nat} (he : e < 585) (hw : w < 8) : wpush e w < 585 := by
  unfold wpush
  (repeat' split) <;> omega
theorem wpush_pos (e w : Nat) : 0 < wpush e w := by
  unfold wpush
  (repeat' split) <;> omega
theorem zsl_push {e w : Nat} (he : e < 585) (hw : w < 8) : zsl (wpush e w) = if zsl e * 8 + w < 1024 then zsl e * 8 + w else 512 + (zsl e * 8 + w) % 512 := by
  unfold zsl wpush
  (repeat' split) <;> omega
theorem zsl_r {e : Nat} (he : e < 585) : 1 ≤ zsl e ∧ zsl e < 1024 := by
  unfold zsl
  (repeat' split) <;> omega
theorem zsl_8 {e : Nat} : zsl e < 8 ↔ e = 0 := by
  unfold zsl
  (repeat' split) <;> omega
theorem zsl_inj {a b : Nat} (h : zsl a = zsl b) (ha : a < 585) (hb : b < 585) : a = b := by
  unfold zsl at h
  (repeat' split at h) <;> omega
theorem zfold_lt {B : Nat → Int} : ∀ {c s e : Nat}, (∀ p, s ≤ p → p < s + c → 0 ≤ B p ∧ B p < 8) → e < 585 → zfold B c s e < 585
  | 0, _, _, _, he => he
  | c + 1, s, e, h, he => by
    have h1 := h s (Nat.le_refl s) (by omega)
    exact zfold_lt (c := c) (s := s + 1) (fun p a b => h p (by omega) (by omega)) (wpush_lt he (by omega))
theorem zend_lt {B : Nat → Int} {u : Nat} (h : ∀ p, p < u → 0 ≤ B p ∧ B p < 8) : zend B u < 585 := by
  unfold zend
  split
  · exact zfold_lt (fun p _ b => h p (by omega)) (by decide)
  · exact zfold_lt (fun p _ b => h p (by omega)) (by decide)
theorem zand_m {x : Int} (h0 : 0 ≤ x) (h1 : x < 2147483648) {m : Int} (k : Nat) (hm : (Int32.ofInt m).toBitVec.toNat = 2 ^ k - 1) : zand x m = x % ((2 ^ k : Nat) : Int) := by
  obtain ⟨n, rfl⟩ : ∃ n : Nat, x = n := ⟨x.toNat, by omega⟩
  unfold zand
  rw [Int32.ofInt_eq_ofNat]
  show (nI n &&& Int32.ofInt m).toInt = _
  have hlt : n % 2 ^ k ≤ n := Nat.mod_le _ _
  rw [pk_andN (by omega) k hm, nI_toInt (by omega)]
  exact Int.natCast_emod n (2 ^ k)
theorem zand7 {x : Int} (h0 : 0 ≤ x) (h1 : x < 2147483648) : zand x 7 = x % 8 := zand_m h0 h1 3 (by decide +kernel)
theorem zand511 {x : Int} (h0 : 0 ≤ x) (h1 : x < 2147483648) : zand x 511 = x % 512 := zand_m h0 h1 9 (by decide +kernel)
theorem zand255 {x : Int} (h0 : 0 ≤ x) (h1 : x < 2147483648) : zand x 255 = x % 256 := zand_m h0 h1 8 (by decide +kernel)
theorem zshr_n {x : Int} {k : Nat} (hk : k < 32) : zshr x k = (Int32.ofInt x).toInt / ((2 ^ k : Nat) : Int) := by
  have : ∀ k, k < 32 → ((Int32.ofInt (k : Nat) &&& 31).toBitVec.smod 32).toNat = k := by decide +kernel
  unfold zshr
  rw [pk_shr _ _ k (this k hk), Int.shiftRight_eq_div_pow]
theorem zshr3 {x : Int} (h0 : 0 ≤ x) (h1 : x < 2147483648) : zshr x 3 = x / 8 := by
  have := zshr_n (x := x) (k := 3) (by decide)
  rw [zo_i ⟨by omega, h1⟩] at this
  exact this
theorem z8 {n : Nat} (h : n ≤ 6) : zshl 1 (zw (3 * (n : Int))) = ((8 ^ n : Nat) : Int) := by
  have : ∀ n, n < 7 → zshl 1 (zw (3 * ((n : Nat) : Int))) = ((8 ^ n : Nat) : Int) := by decide +kernel
  exact this n (by omega)
theorem z8m {x : Int} (h0 : 0 ≤ x) (h1 : x < 2147483648) {n : Nat} (h : n ≤ 6) : zand x (zw (zshl 1 (zw (3 * (n : Int))) - 1)) = x % ((8 ^ n : Nat) : Int) := by
  have h2 : ∀ n, n < 7 → (Int32.ofInt (zw (zshl 1 (zw (3 * ((n : Nat) : Int))) - 1))).toBitVec.toNat = 2 ^ (3 * n) - 1 := by decide +kernel
  rw [zand_m h0 h1 (3 * n) (h2 n (by omega)), Nat.pow_mul]
theorem s_slipWith (d : Nat) {e w : Nat} (he : e < 585) (hw : w < 8) (mm : zMm) : zL (d + 1) 83 [.inl (zsl e), .inl w] SH mm = zok (zsl (wpush e w)) mm := by
  have h := zsl_r he
  rw [ze_X8_slipWith, zb_X8_slipWith_0, zsl_push he hw]
  simp (disch := omega) only [zw_id]
  by_cases h1 : (zsl e : Int) * 8 + w < 1024
  · rw [if_pos h1, if_pos (by omega)]
    simp
  · rw [if_neg h1, if_neg (by omega)]
    simp (disch := omega) only [zand511, zw_id]
    simp
/-- whether a slip ends so -/
def zends (e : Nat) (words : Int) (n : Nat) : Bool := decide (8 ^ n ≤ zsl e) && decide (((zsl e % 8 ^ n : Nat) : Int) = words)
theorem s_slipEndsWith (d : Nat) {e n : Nat} (he : e < 585) (hn : n ≤ 6) (words : Int) (mm : zMm) : zL (d + 1) 84 [.inl (zsl e), .inl words, .inl n] SH mm = zok (if zends e words n then 1 else 0) mm := by
  have h := zsl_r he
  rw [ze_X8_slipEndsWith, zb_X8_slipEndsWith_0, z8m (by omega) (by omega) hn, z8 hn, ← Int.natCast_emod]
  unfold zends
  by_cases h1 : 8 ^ n ≤ zsl e
  · rw [if_neg (by omega)]
    by_cases h2 : ((zsl e % 8 ^ n : Nat) : Int) = words
    · rw [if_pos h2]
      simp [h1, h2]
    · rw [if_neg h2, decide_eq_false h2, Bool.and_false]
      rfl
  · rw [if_pos (by omega)]
    simp [h1]
section X2
variable {mm : zMm}
/-- the book -/
def xP (mm : zMm) : Prop := 0 ≤ mm 12 2 ∧ mm 12 2 ≤ 60 ∧ ∀ p : Nat, (p : Int) < mm 12 2 → 0 ≤ mm 13 p ∧ mm 13 p < 8
theorem s_isFull (d : Nat) : zL (d + 1) 24 [.inr (.inr 12)] SH mm = zok (if mm 12 2 < 60 then 0 else 1) mm := by
  rw [ze_X2_isFull, zb_X2_isFull_0]
  split <;> rfl
theorem s_phas (d : Nat) (a : Int) (hp : xP mm) : zL (d + 1) 25 [.inr (.inr 12), .inl a] SH mm = zok (if 0 ≤ a ∧ a < mm 12 2 then 1 else 0) mm := by
  have := hp.2.1
  rw [ze_X2_has, zb_X2_has_0]
  (repeat' split) <;> first | rfl | (exfalso; omega)
theorem s_wordAt (d p : Nat) (hp : xP mm) (h : (p : Int) < mm 12 2) : zL (d + 2) 27 [.inr (.inr 12), .inl p] SH mm = zok (mm 13 p) mm := by
  have := hp.2.1
  rw [ze_X2_wordAt, zb_X2_wordAt_0, s_phas d p hp, zcI_ok, zb_X2_wordAt_5]
  simp (disch := omega) only [if_pos, if_neg, if_true, if_false, Int.toNat_natCast]
theorem s_wordAtN (d : Nat) (a : Int) (hp : xP mm) (h : ¬ (0 ≤ a ∧ a < mm 12 2)) : zL (d + 2) 27 [.inr (.inr 12), .inl a] SH mm = zok (-4) mm := by
  rw [ze_X2_wordAt, zb_X2_wordAt_0, s_phas d a hp, zcI_ok, zb_X2_wordAt_5]
  simp (disch := omega) only [if_pos, if_neg, if_true, if_false]
theorem s_writerAt (d p : Nat) (hp : xP mm) (h : (p : Int) < mm 12 2) : zL (d + 2) 28 [.inr (.inr 12), .inl p] SH mm = zok (mm 14 p) mm := by
  have := hp.2.1
  rw [ze_X2_writerAt, zb_X2_writerAt_0, s_phas d p hp, zcI_ok, zb_X2_writerAt_5]
  simp (disch := omega) only [if_pos, if_neg, if_true, if_false, Int.toNat_natCast]
theorem s_pappend (d : Nat) (a b : Int) (hp : xP mm) (h : mm 12 2 < 60) : zL (d + 1) 26 [.inr (.inr 12), .inl a, .inl b] SH mm = zvd (zu (zu (zu mm 13 ((mm 12 2).toNat) a) 14 ((mm 12 2).toNat) b) 12 2 (mm 12 2 + 1)) := by
  have := hp.1
  rw [ze_X2_append, zb_X2_append_0]
  simp (disch := omega) only [if_pos, if_neg, if_true, if_false, zw_id]
/-- how many are so -/
def zcnt (P : Nat → Bool) : Nat → Int
  | 0 => 0
  | n + 1 => if P n then zcnt P n + 1 else zcnt P n
theorem zcnt_s (P : Nat → Bool) (n : Nat) : zcnt P (n + 1) = if P n then zcnt P n + 1 else zcnt P n := rfl
theorem zcnt_r (P : Nat → Bool) : ∀ n : Nat, 0 ≤ zcnt P n ∧ zcnt P n ≤ n
  | 0 => by simp [zcnt]
  | n + 1 => by
    have := zcnt_r P n
    unfold zcnt
    split <;> omega
theorem zcnt_cong {P Q : Nat → Bool} : ∀ {n : Nat}, (∀ j, j < n → P j = Q j) → zcnt P n = zcnt Q n
  | 0, _ => rfl
  | n + 1, h => by
    unfold zcnt
    rw [h n (by omega), zcnt_cong (fun j hj => h j (by omega))]
theorem s_known (d : Nat) (hp : xP mm) : zL (d + 3) 29 [.inr (.inr 12)] SH mm = zok (zcnt (fun p => decide (0 ≤ mm 14 p)) (mm 12 2).toNat) mm := by
  have h0 := hp.1
  have h60 := hp.2.1
  rw [ze_X2_known, zb_X2_known_0]
  refine zup (P := fun i => zR (d + 2) 29 4 [some (.inr (.inr 12)), some (.inl (zcnt (fun p => decide (0 ≤ mm 14 p)) i)), some (.inl (i : Int))] [] SH mm = _) (n := (mm 12 2).toNat) ?_ ?_ 0 (by omega)
  · rw [zb_X2_known_4, if_neg (by omega)]
  · intro i hi ih
    have hc := zcnt_r (fun p => decide (0 ≤ mm 14 p)) i
    rw [zb_X2_known_4, if_pos (by omega), s_writerAt d i hp (by omega), zcI_ok, zb_X2_known_17]
    rw [show zw ((i : Int) + 1) = ((i + 1 : Nat) : Int) by rw [zw_id (by omega) (by omega)]; omega]
    rw [zcnt_s] at ih
    by_cases h : mm 14 i < 0
    · rw [if_pos h]
      simp only [show ¬ (0 ≤ mm 14 i) by omega, decide_false, Bool.false_eq_true, if_false] at ih
      exact ih
    · rw [if_neg h, zw_id (by omega) (by omega)]
      simp only [show (0 ≤ mm 14 i) by omega, decide_true, if_true] at ih
      exact ih
/-- habits -/
def zhab (B Wr : Nat → Int) (a b : Int) (p : Nat) : Bool := decide (Wr p = a) && decide (B p = b)
theorem s_habitOf (d : Nat) (a b : Int) (hp : xP mm) : zL (d + 3) 30 [.inr (.inr 12), .inl a, .inl b] SH mm = zok (zcnt (zhab (mm 13) (mm 14) a b) (mm 12 2).toNat) mm := by
  have h0 := hp.1
  have h60 := hp.2.1
  rw [ze_X2_habitOf, zb_X2_habitOf_0]
  refine zup (P := fun i => zR (d + 2) 30 5 [some (.inr (.inr 12)), some (.inl a), some (.inl b), some (.inl (zcnt (zhab (mm 13) (mm 14) a b) i)), some (.inl (i : Int))] [] SH mm = _) (n := (mm 12 2).toNat) ?_ ?_ 0 (by omega)
  · rw [zb_X2_habitOf_5, if_neg (by omega)]
  · intro i hi ih
    have hc := zcnt_r (zhab (mm 13) (mm 14) a b) i
    rw [zb_X2_habitOf_5, if_pos (by omega), s_writerAt d i hp (by omega), zcI_ok, zb_X2_habitOf_20]
    rw [show zw ((i : Int) + 1) = ((i + 1 : Nat) : Int) by rw [zw_id (by omega) (by omega)]; omega]
    rw [zcnt_s] at ih
    by_cases h : mm 14 i = a
    · rw [if_pos h, s_wordAt d i hp (by omega), zcI_ok, zb_X2_habitOf_30, zw_id (by omega) (by omega)]
      rw [show zw ((i : Int) + 1) = ((i + 1 : Nat) : Int) by rw [zw_id (by omega) (by omega)]; omega]
      by_cases h2 : mm 13 i = b
      · rw [if_pos h2]
        simp only [zhab, h, h2, decide_true, Bool.and_self, if_true] at ih
        exact ih
      · rw [if_neg h2]
        simp only [zhab, h2, decide_false, Bool.and_false, Bool.false_eq_true, if_false] at ih
        exact ih
    · rw [if_neg h]
      simp only [zhab, h, decide_false, Bool.false_and, Bool.false_eq_true, if_false] at ih
      exact ih
theorem s_slipAhead_loop (d u : Nat) (hp : xP mm) (hu : (u : Int) ≤ mm 12 2) : ∀ (c s e : Nat), s + c = u → e < 585 → zR (d + 2) 32 10 [some (.inr (.inr 12)), some (.inl (u : Int)), some (.inl (zsl e : Int)), some (.inl (s : Int))] [] SH mm = zok (zsl (zfold (mm 13) c s e)) mm
  | 0, s, e, h, he => by
    have := hp.2.1
    rw [zb_X2_slipAheadOf_10, if_neg (by omega)]
    rfl
  | c + 1, s, e, h, he => by
    have h60 := hp.2.1
    have hw := hp.2.2 s (by omega)
    rw [zb_X2_slipAheadOf_10, if_pos (by omega), s_wordAt d s hp (by omega), zcI_ok, zb_X2_slipAheadOf_21]
    have e1 : mm 13 s = ((mm 13 s).toNat : Int) := by omega
    rw [e1, s_slipWith (d + 1) he (by omega), zcI_ok, zb_X2_slipAheadOf_24]
    rw [show zw ((s : Int) + 1) = ((s + 1 : Nat) : Int) by rw [zw_id (by omega) (by omega)]; omega]
    exact s_slipAhead_loop d u hp hu c (s + 1) _ (by omega) (wpush_lt he (by omega))
theorem s_max (d : Nat) (a b : Int) : zL (d + 1) 88 [.inl a, .inl b] SH mm = zok (if a < b then b else a) mm := by
  rw [ze_J9_max_7cf53, zb_J9_max_7cf53_0]
  split <;> rfl
theorem s_slipAheadOf (d u : Nat) (hp : xP mm) (hu : (u : Int) ≤ mm 12 2) : zL (d + 3) 32 [.inr (.inr 12), .inl u] SH mm = zok (zsl (zend (mm 13) u)) mm := by
  have h60 := hp.2.1
  rw [ze_X2_slipAheadOf, zb_X2_slipAheadOf_0, zw_id (by omega) (by omega), s_max, zcI_ok, zb_X2_slipAheadOf_9]
  unfold zend
  by_cases h : u < 3
  · rw [if_neg (by omega), if_pos h]
    exact s_slipAhead_loop d u hp hu u 0 0 (by omega) (by decide)
  · rw [if_neg h]
    have e1 : (if (0 : Int) < (u : Int) - 3 then (u : Int) - 3 else 0) = ((u - 3 : Nat) : Int) := by
      split <;> omega
    rw [e1]
    exact s_slipAhead_loop d u hp hu 3 (u - 3) 0 (by omega) (by decide)
theorem s_slip (d : Nat) (hp : xP mm) : zL (d + 4) 31 [.inr (.inr 12)] SH mm = zok (zsl (zend (mm 13) (mm 12 2).toNat)) mm := by
  have h0 := hp.1
  rw [ze_X2_slip, zb_X2_slip_0]
  have e : mm 12 2 = ((mm 12 2).toNat : Int) := by omega
  rw [e, s_slipAheadOf d _ hp (by omega), zcI_ok, zb_X2_slip_8]
  rw [Int.toNat_natCast]
end X2
end
section
theorem zle_nil : zle [] [] := zle.rf []
theorem zle_c {o : Option zV} {l l' : zLs} (h : zle l l') : zle (o :: l) (o :: l') := ⟨by simp [h.1], fun i v hi => by
  cases i with
  | zero => exact hi
  | succ i => exact h.2 i v hi⟩
theorem zle_n {o : Option zV} {l l' : zLs} (h : zle l l') : zle (none :: l) (o :: l') := ⟨by simp [h.1], fun i v hi => by
  cases i with
  | zero => simp at hi
  | succ i => exact h.2 i v hi⟩
/-! what may come -/
def zstands (LW LL : Nat → Int) (lim : Int) (e w i : Nat) : Bool := decide (LL i - 1 < lim) && zends e (LW i / 8) (LL i - 1).toNat && decide (LW i % 8 = w)
def zmay (F LW LL : Nat → Int) (lim : Int) (e w : Nat) : Nat → Bool
  | 0 => decide (e = 0) || zbit (F (zsl e % 8)) w
  | i + 1 => zmay F LW LL lim e w i && !zstands LW LL lim e w i
/-- the tongue -/
def zTg (F LW LL : Nat → Int) (ln : Int) : Prop := 0 ≤ ln ∧ ln ≤ 6 ∧ (∀ w : Nat, w < 8 → 0 ≤ F w ∧ F w < 256) ∧ ∀ i : Nat, (i : Int) < ln → 1 ≤ LL i ∧ LL i ≤ 4 ∧ 0 ≤ LW i ∧ LW i < 4096
theorem s_mayCome {mm : zMm} (d e : Nat) (lim : Int) (he : e < 585) (ht : zTg (mm 3) (mm 4) (mm 5) (mm 2 3)) (hlim : 0 ≤ lim ∧ lim ≤ 4) : zL (d + 2) 45 [.inr (.inr 2), .inl (zsl e), .inl lim] SH mm = zok (mks (fun w => zmay (mm 3) (mm 4) (mm 5) lim e w (mm 2 3).toNat) 8) mm := by
  obtain ⟨h0, h6, hF, hl⟩ := ht
  have hs := zsl_r he
  have key : ∀ i, i ≤ (mm 2 3).toNat → zR (d + 1) 45 25 [some (.inr (.inr 2)), some (.inl (zsl e : Int)), some (.inl lim), some (.inl (mks (fun w => zmay (mm 3) (mm 4) (mm 5) lim e w i) 8)), some (.inl (i : Int)), none] [] SH mm = zok (mks (fun w => zmay (mm 3) (mm 4) (mm 5) lim e w (mm 2 3).toNat) 8) mm := by
    refine zup ?_ ?_
    · rw [zb_X6_mayCome_25, if_neg (by omega)]
    · intro i hi ih
      obtain ⟨l1, l2, l3, l4⟩ := hl i (by omega)
      have e1 : zw ((i : Int) + 1) = ((i + 1 : Nat) : Int) := by rw [zw_id (by omega) (by omega)]; omega
      rw [zb_X6_mayCome_25]
      simp (disch := omega) only [if_pos, Int.toNat_natCast, zw_id (show -2147483648 ≤ mm 5 i - 1 by omega) (show mm 5 i - 1 < 2147483648 by omega)]
      have ek : mm 4 i % 8 = ((mm 4 i % 8).toNat : Int) := by omega
      by_cases c1 : mm 5 i - 1 < lim
      · rw [if_pos c1, zshr3 l3 (by omega)]
        have e2 : mm 5 i - 1 = ((mm 5 i - 1).toNat : Int) := by omega
        rw [e2, s_slipEndsWith d he (by omega), zcI_ok, zb_X6_mayCome_73, e1, zand7 (x := mm 4 ((i : Int)).toNat) (by rw [Int.toNat_natCast]; omega) (by rw [Int.toNat_natCast]; omega), Int.toNat_natCast]
        cases c2 : zends e (mm 4 i / 8) (mm 5 i - 1).toNat with
        | false =>
          have hp : mks (fun w => zmay (mm 3) (mm 4) (mm 5) lim e w (i + 1)) 8 = mks (fun w => zmay (mm 3) (mm 4) (mm 5) lim e w i) 8 := mks_cong fun w _ => by
            show (zmay _ _ _ _ _ _ _ && !zstands _ _ _ _ _ _) = _
            simp only [zstands, c2, Bool.and_false, Bool.false_and, Bool.not_false, Bool.and_true]
          rw [hp] at ih
          rw [if_pos (by simp)]
          exact zR_weak (by repeat first | exact zle_nil | apply zle_c | apply zle_n) ih
        | true =>
          have hp : mks (fun w => zmay (mm 3) (mm 4) (mm 5) lim e w (i + 1)) 8 = zand (mks (fun w => zmay (mm 3) (mm 4) (mm 5) lim e w i) 8) (zxor (zshl 1 (mm 4 i % 8)) (-1)) := by
            rw [ek, mks_not _ (by decide) (by omega)]
            refine mks_cong fun w _ => ?_
            show (zmay _ _ _ _ _ _ _ && !zstands _ _ _ _ _ _) = _
            have : decide (mm 4 i % 8 = (w : Int)) = decide (w = (mm 4 i % 8).toNat) := by
              by_cases q : w = (mm 4 i % 8).toNat
              · rw [decide_eq_true q, decide_eq_true (by omega)]
              · rw [decide_eq_false q, decide_eq_false (by omega)]
            simp only [zstands, c2, decide_eq_true c1, this, Bool.true_and]
          rw [hp] at ih
          rw [if_neg (by simp)]
          simp (disch := omega) only [if_pos]
          exact zR_weak (by repeat first | exact zle_nil | apply zle_c | apply zle_n) ih
      · rw [if_neg c1, e1]
        have hp : mks (fun w => zmay (mm 3) (mm 4) (mm 5) lim e w (i + 1)) 8 = mks (fun w => zmay (mm 3) (mm 4) (mm 5) lim e w i) 8 := mks_cong fun w _ => by
          show (zmay _ _ _ _ _ _ _ && !zstands _ _ _ _ _ _) = _
          simp [zstands, c1]
        rw [hp] at ih
        exact zR_weak (by repeat first | exact zle_nil | apply zle_c | apply zle_n) ih
  rw [ze_X6_mayCome, zb_X6_mayCome_0]
  by_cases h8 : e = 0
  · have : zsl e < 8 := zsl_8.mpr h8
    rw [if_pos (by omega)]
    have h := key 0 (by omega)
    have e3 : mks (fun w => zmay (mm 3) (mm 4) (mm 5) lim e w 0) 8 = 255 := by
      rw [show mks (fun w => zmay (mm 3) (mm 4) (mm 5) lim e w 0) 8 = mks (fun _ => true) 8 from mks_cong fun w _ => by simp [zmay, h8]]
      decide +kernel
    rw [e3] at h
    exact h
  · have h9 : ¬ zsl e < 8 := fun q => h8 (zsl_8.mp q)
    have e4 : zand (zsl e) 7 = ((zsl e % 8 : Nat) : Int) := by
      rw [zand7 (by omega) (by omega)]
      omega
    have hf := hF (zsl e % 8) (by omega)
    rw [if_neg (by omega), e4, if_pos (by omega), Int.toNat_natCast]
    have h := key 0 (by omega)
    have e3 : mks (fun w => zmay (mm 3) (mm 4) (mm 5) lim e w 0) 8 = mm 3 (zsl e % 8) := by
      rw [show mks (fun w => zmay (mm 3) (mm 4) (mm 5) lim e w 0) 8 = mks (zbit (mm 3 (zsl e % 8))) 8 from mks_cong fun w _ => by simp [zmay, h8]]
      exact (zr_256 hf.1 hf.2).symm
    rw [e3] at h
    exact h
/-! what can come of a cell -/
def zcome (K Wt F LW LL : Nat → Int) (ln c e w : Nat) : Bool := !decide (K c = 3) && (decide (0 < Wt (8 * c + w)) && (decide (K c = 1) || zmay F LW LL (if K c = 2 then 2 else 4) e w ln))
/-- the cells' kinds and weights -/
def zCe (K Wt Dd : Nat → Int) (n : Int) : Prop := 0 ≤ n ∧ n ≤ 6 ∧ (∀ c : Nat, 0 ≤ K c ∧ K c ≤ 3) ∧ (∀ j : Nat, 0 ≤ Wt j ∧ Wt j ≤ 9) ∧ ∀ c : Nat, Dd c = 0 ∨ Dd c = 1
section
variable {mm : zMm}
/-- the class's set of what can come -/
def xcm (mm : zMm) (c e w : Nat) : Bool := zcome (mm 7) (mm 9) (mm 3) (mm 4) (mm 5) (mm 2 3).toNat c e w
theorem s_canCome (d c e : Nat) (hc : (c : Int) < mm 6 3) (he : e < 585) (hce : zCe (mm 7) (mm 9) (mm 8) (mm 6 3)) (ht : zTg (mm 3) (mm 4) (mm 5) (mm 2 3)) : zL (d + 3) 14 [.inr (.inr 1), .inl c, .inl (zsl e)] SH mm = zok (mks (xcm mm c e) 8) mm := by
  have hn : xN mm := ⟨hce.1, hce.2.1⟩
  have hk := hce.2.2.1 c
  rw [ze_X1_canCome, zb_X1_canCome_0, s_kindOf (d) c hn hc, zcI_ok, zb_X1_canCome_8]
  by_cases k1 : mm 7 c = 1
  · rw [if_pos k1, s_weightedWords (d) c hn hc, zcI_ok, zb_X1_canCome_46]
    rw [show mks (xcm mm c e) 8 = mks (xww mm c) 8 from mks_cong fun w _ => by simp [xcm, zcome, xww, k1]]
  · rw [if_neg k1]
    by_cases k2 : mm 7 c = 2
    · rw [if_pos k2, s_weightedWords (d) c hn hc, zcI_ok, zb_X1_canCome_55, s_mayCome (d) e 2 he ht (by decide), zcI_ok, zb_X1_canCome_64, mks_and _ _ (by decide)]
      rw [show mks (xcm mm c e) 8 = mks (fun j => xww mm c j && zmay (mm 3) (mm 4) (mm 5) 2 e j (mm 2 3).toNat) 8 from mks_cong fun w _ => by simp [xcm, zcome, xww, k2]]
    · rw [if_neg k2]
      by_cases k3 : mm 7 c = 3
      · rw [if_pos k3]
        rw [show mks (xcm mm c e) 8 = 0 from (mks_0 (by decide)).mpr fun w _ => by simp [xcm, zcome, k3]]
      · rw [if_neg k3, s_weightedWords (d) c hn hc, zcI_ok, zb_X1_canCome_74, s_mayCome (d) e 4 he ht (by decide), zcI_ok, zb_X1_canCome_83, mks_and _ _ (by decide)]
        rw [show mks (xcm mm c e) 8 = mks (fun j => xww mm c j && zmay (mm 3) (mm 4) (mm 5) 4 e j (mm 2 3).toNat) 8 from mks_cong fun w _ => by simp [xcm, zcome, xww, k1, k2, k3]]
theorem s_canComeN (d : Nat) (a : Int) (e : Nat) (hc : ¬ (0 ≤ a ∧ a < mm 6 3)) (hn : xN mm) : zL (d + 3) 14 [.inr (.inr 1), .inl a, .inl (zsl e)] SH mm = zok 0 mm := by
  rw [ze_X1_canCome, zb_X1_canCome_0, s_kindOfN (d) a hn hc, zcI_ok, zb_X1_canCome_8]
  rfl
end
end
section
/-! the wheel -/
def zpo (n k seat i : Nat) : Nat := (seat + i * k) % n
def zfind (al : Nat → Bool) (n k seat : Nat) : Nat → Nat → Int
  | 0, _ => -4
  | f + 1, i => if al (zpo n k seat i) then ((zpo n k seat i : Nat) : Int) else zfind al n k seat f (i + 1)
def zliv (al : Nat → Bool) (n k seat : Nat) : Int := zfind al n k seat n 1
/-- seats: each cell on one -/
def zSe (S : Nat → Int) (n : Int) : Prop := (∀ s : Nat, (s : Int) < n → 0 ≤ S s ∧ S s < n) ∧ (∀ s t : Nat, (s : Int) < n → (t : Int) < n → S s = S t → s = t) ∧ ∀ c : Nat, (c : Int) < n → ∃ s : Nat, (s : Int) < n ∧ S s = c
theorem zfm_all : ∀ n, n < 7 → ∀ j, j < 20 → n ≠ 0 → (if zxor ((j : Nat) - 7 : Int) (n : Nat) < 0 then if zrem ((j : Nat) - 7 : Int) (n : Nat) = 0 then zrem ((j : Nat) - 7 : Int) (n : Nat) else zw (zrem ((j : Nat) - 7 : Int) (n : Nat) + (n : Nat)) else zrem ((j : Nat) - 7 : Int) (n : Nat)) = (((j : Nat) - 7 : Int) % (n : Nat)) := by decide +kernel
theorem s_floorMod {mm : zMm} (d : Nat) (x : Int) (n : Nat) (hx : -7 ≤ x ∧ x < 13) (hn : 0 < n ∧ n ≤ 6) : zL (d + 1) 87 [.inl x, .inl n] SH mm = zok (x % n) mm := by
  have h := zfm_all n (by omega) (x + 7).toNat (by omega) (by omega)
  have e : (((x + 7).toNat : Nat) : Int) - 7 = x := by omega
  rw [e] at h
  rw [ze_J9_floorMod_7cf53, zb_J9_floorMod_7cf53_0, if_neg (by omega), ← h]
  (repeat' split) <;> rfl
theorem zpo_1 (n seat i : Nat) : (((seat : Int) + i * 1) % (n : Int)) = ((zpo n 1 seat i : Nat) : Int) := by
  unfold zpo
  rw [Nat.mul_one, Int.mul_one, Int.natCast_emod, Int.natCast_add]
theorem zpo_m {n seat i : Nat} (hn : n ≤ 6) (hs : seat < n) (hi : i ≤ n) : (((seat : Int) + i * (-1)) % (n : Int)) = ((zpo n (n - 1) seat i : Nat) : Int) := by
  have : ∀ n, n < 7 → ∀ seat, seat < n → ∀ i, i < n + 1 → (((seat : Nat) + (i : Nat) * (-1) : Int) % (n : Nat)) = ((zpo n (n - 1) seat i : Nat) : Int) := by decide +kernel
  exact this n (by omega) seat hs i (by omega)
theorem zpo_lt {n k seat i : Nat} (hn : 0 < n) : zpo n k seat i < n := Nat.mod_lt _ hn
section
variable {mm : zMm}
theorem s_cellOn (d s : Nat) (hn : xN mm) (h : (s : Int) < mm 6 3) : zL (d + 2) 51 [.inr (.inr 10), .inl s] SH mm = zok (mm 11 s) mm := by
  have := hn.2
  rw [ze_X7_cellOn, zb_X7_cellOn_0, s_has d s hn, zcI_ok, zb_X7_cellOn_8]
  simp (disch := omega) only [if_pos, if_neg, if_true, if_false, Int.toNat_natCast]
theorem s_cellOnN (d : Nat) (a : Int) (hn : xN mm) (h : ¬ (0 ≤ a ∧ a < mm 6 3)) : zL (d + 2) 51 [.inr (.inr 10), .inl a] SH mm = zok (-4) mm := by
  rw [ze_X7_cellOn, zb_X7_cellOn_0, s_has d a hn, zcI_ok, zb_X7_cellOn_8]
  simp (disch := omega) only [if_pos, if_neg, if_true, if_false]
theorem s_seatOf (d s c : Nat) (hn : xN mm) (hS : zSe (mm 11) (mm 6 3)) (hs : (s : Int) < mm 6 3) (hc : mm 11 s = c) : zL (d + 3) 52 [.inr (.inr 10), .inl c] SH mm = zok s mm := by
  have h6 := hn.2
  rw [ze_X7_seatOf, zb_X7_seatOf_0]
  refine zup (P := fun i => zR (d + 2) 52 2 [some (.inr (.inr 10)), some (.inl (c : Int)), some (.inl (i : Int))] [] SH mm = zok s mm) (n := s) ?_ ?_ 0 (by omega)
  · rw [zb_X7_seatOf_2, if_pos (by omega), s_cellOn d s hn hs, zcI_ok, zb_X7_seatOf_13, if_pos hc]
  · intro i hi ih
    rw [zb_X7_seatOf_2, if_pos (by omega), s_cellOn d i hn (by omega), zcI_ok, zb_X7_seatOf_13, if_neg (fun q => by have := hS.2.1 i s (by omega) hs (by omega); omega)]
    rw [show zw ((i : Int) + 1) = ((i + 1 : Nat) : Int) by rw [zw_id (by omega) (by omega)]; omega]
    exact ih
/-- whether the cell on a seat lives -/
def xas (mm : zMm) (s : Nat) : Bool := xal mm (mm 11 s).toNat
theorem s_aliveOn (d s : Nat) (hn : xN mm) (hS : zSe (mm 11) (mm 6 3)) (hs : (s : Int) < mm 6 3) : zL (d + 2) 5 [.inr (.inr 6), .inl (mm 11 s)] SH mm = zok (if xas mm s then 1 else 0) mm := by
  have h := hS.1 s hs
  have e : mm 11 s = ((mm 11 s).toNat : Int) := by omega
  rw [e]
  exact s_isAlive d _ hn
theorem s_livingSeatPast (d seat n k : Nat) (step : Int) (hnn : mm 6 3 = n) (hn : xN mm) (hS : zSe (mm 11) (mm 6 3)) (hs : seat < n ∨ n = 0) (hst : step = 1 ∧ k = 1 ∨ step = -1 ∧ k = n - 1) : zL (d + 3) 56 [.inr (.inr 10), .inl seat, .inl step] SH mm = zok (zliv (xas mm) n k seat) mm := by
  have h6 := hn.2
  have key : ∀ (f i : Nat), i + f = n + 1 → 1 ≤ i → zR (d + 2) 56 11 [some (.inr (.inr 10)), some (.inl (seat : Int)), some (.inl step), some (.inl (n : Int)), some (.inl (i : Int)), none] [] SH mm = zok (zfind (xas mm) n k seat f i) mm := by
    intro f
    induction f with
    | zero =>
      intro i h1 h2
      rw [zb_X7_livingSeatPast_11, if_pos (by omega)]
      rfl
    | succ f ih =>
      intro i h1 h2
      have e0 : zw ((i : Int) * step) = i * step := by
        rcases hst with ⟨rfl, _⟩ | ⟨rfl, _⟩ <;> exact zw_id (by omega) (by omega)
      have e1 : zw ((seat : Int) + i * step) = seat + i * step := by
        rcases hst with ⟨rfl, _⟩ | ⟨rfl, _⟩ <;> exact zw_id (by omega) (by omega)
      have e2 : ((seat : Int) + i * step) % (n : Int) = ((zpo n k seat i : Nat) : Int) := by
        rcases hst with ⟨rfl, rfl⟩ | ⟨rfl, rfl⟩
        · exact zpo_1 n seat i
        · exact zpo_m (by omega) (by omega) (by omega)
      have hr : -7 ≤ (seat : Int) + i * step ∧ (seat : Int) + i * step < 13 := by
        rcases hst with ⟨rfl, _⟩ | ⟨rfl, _⟩ <;> omega
      have hp := zpo_lt (k := k) (seat := seat) (i := i) (show 0 < n by omega)
      rw [zb_X7_livingSeatPast_11, if_neg (by omega), if_pos (by omega), e0, e1, s_floorMod (d + 1) _ n hr (by omega), zcI_ok, e2, zb_X7_livingSeatPast_31, s_cellOn d _ hn (by omega), zcI_ok, zb_X7_livingSeatPast_47, s_aliveOn d _ hn hS (by omega), zcI_ok, zb_X7_livingSeatPast_50]
      unfold zfind
      cases ha : xas mm (zpo n k seat i) with
      | true =>
        simp only [if_true]
        rw [if_neg (by decide)]
      | false =>
        simp only [Bool.false_eq_true, if_false, if_true]
        rw [show zw ((i : Int) + 1) = ((i + 1 : Nat) : Int) by rw [zw_id (by omega) (by omega)]; omega]
        exact zR_weak (by repeat first | exact zle_nil | apply zle_c | apply zle_n) (ih (i + 1) (by omega) (by omega))
  rw [ze_X7_livingSeatPast, zb_X7_livingSeatPast_0, hnn]
  exact key n 1 (by omega) (by omega)
/-- how far the wheel goes at a step -/
def zstep1 (back : Int) (n : Nat) : Nat := if back = 0 then 1 else n - 1
theorem s_seatBehind (d seat n : Nat) (hnn : mm 6 3 = n) (hn : xN mm) (hS : zSe (mm 11) (mm 6 3)) (hs : seat < n ∨ n = 0) : zL (d + 4) 55 [.inr (.inr 10), .inl seat] SH mm = zok (zliv (xas mm) n (zstep1 (mm 10 4) n) seat) mm := by
  rw [ze_X7_seatBehind, zb_X7_seatBehind_0]
  unfold zstep1
  by_cases h : mm 10 4 = 0
  · rw [if_pos h, if_pos h, s_livingSeatPast d seat n 1 1 hnn hn hS hs (Or.inl ⟨rfl, rfl⟩), zcI_ok, zb_X7_seatBehind_17]
  · rw [if_neg h, if_neg h, s_livingSeatPast d seat n (n - 1) (-1) hnn hn hS hs (Or.inr ⟨rfl, rfl⟩), zcI_ok, zb_X7_seatBehind_17]
/-- the seat whose turn it is -/
def zturn (al : Nat → Bool) (n k st : Nat) : Int := if n = 0 then -4 else if al st then st else zliv al n k st
theorem s_seatOfTurn (d st n : Nat) (hnn : mm 6 3 = n) (hn : xN mm) (hS : zSe (mm 11) (mm 6 3)) (hst : mm 10 2 = st) (hs : st < n ∨ n = 0) : zL (d + 5) 54 [.inr (.inr 10)] SH mm = zok (zturn (xas mm) n (zstep1 (mm 10 4) n) st) mm := by
  rw [ze_X7_seatOfTurn, zb_X7_seatOfTurn_0, hst]
  unfold zturn
  by_cases h0 : n = 0
  · rw [s_cellOnN (d + 2) st hn (by omega), zcI_ok, zb_X7_seatOfTurn_12, s_isAliveN (d + 2) (-4) hn (by omega), zcI_ok, zb_X7_seatOfTurn_15, hst, if_pos rfl, s_seatBehind d st n hnn hn hS hs, zcI_ok, zb_X7_seatOfTurn_33, if_pos h0]
    subst h0
    rfl
  · rw [s_cellOn (d + 2) st hn (by omega), zcI_ok, zb_X7_seatOfTurn_12, s_aliveOn (d + 2) st hn hS (by omega), zcI_ok, zb_X7_seatOfTurn_15, hst, if_neg h0]
    cases xas mm st with
    | true =>
      simp only [if_true]
      rw [if_neg (by decide)]
    | false =>
      simp only [Bool.false_eq_true, if_false, if_true]
      rw [s_seatBehind d st n hnn hn hS hs, zcI_ok, zb_X7_seatOfTurn_33]
theorem zfind_r {al : Nat → Bool} {n k seat : Nat} (hn : 0 < n) : ∀ {f i : Nat}, zfind al n k seat f i = -4 ∨ ∃ s : Nat, zfind al n k seat f i = s ∧ s < n ∧ al s = true
  | 0, _ => Or.inl rfl
  | f + 1, i => by
    unfold zfind
    cases h : al (zpo n k seat i) with
    | true => exact Or.inr ⟨_, by simp, zpo_lt hn, h⟩
    | false =>
      simp only [Bool.false_eq_true, if_false]
      exact zfind_r hn
theorem zturn_r {al : Nat → Bool} {n k st : Nat} (hs : st < n ∨ n = 0) : zturn al n k st = -4 ∨ ∃ s : Nat, zturn al n k st = s ∧ s < n ∧ al s = true := by
  unfold zturn
  by_cases h0 : n = 0
  · rw [if_pos h0]; exact Or.inl rfl
  · rw [if_neg h0]
    cases h : al st with
    | true => exact Or.inr ⟨st, by simp, by omega, h⟩
    | false =>
      simp only [Bool.false_eq_true, if_false]
      exact zfind_r (by omega)
theorem s_goOn (d st n t : Nat) (hnn : mm 6 3 = n) (hn : xN mm) (hS : zSe (mm 11) (mm 6 3)) (hst : mm 10 2 = st) (hs : st < n ∨ n = 0) (ht : zturn (xas mm) n (zstep1 (mm 10 4) n) st = t) (htn : t < n) :
    zL (d + 6) 57 [.inr (.inr 10)] SH mm = zvd (zu (zu mm 10 2 (zliv (xas mm) n (zstep1 (mm 10 4) n) t)) 10 3 (zw (mm 10 3 + 1))) := by
  rw [ze_X7_goOn, zb_X7_goOn_0, s_seatOfTurn d st n hnn hn hS hst hs, zcI_ok, ht, zb_X7_goOn_6, s_seatBehind (d + 1) t n hnn hn hS (Or.inl htn), zcI_ok, zb_X7_goOn_9]
end
end
section
def zsum (f : Nat → Int) : Nat → Int
  | 0 => 0
  | n + 1 => zsum f n + f n
theorem zsum_s (f : Nat → Int) (n : Nat) : zsum f (n + 1) = zsum f n + f n := rfl
theorem zsum_cong {f g : Nat → Int} : ∀ {n : Nat}, (∀ j, j < n → f j = g j) → zsum f n = zsum g n
  | 0, _ => rfl
  | n + 1, h => by rw [zsum_s, zsum_s, h n (by omega), zsum_cong (fun j hj => h j (by omega))]
theorem zsum_r {f : Nat → Int} {a b : Int} (ha : a ≤ 0) (hb : 0 ≤ b) : ∀ {n : Nat}, (∀ j, j < n → a ≤ f j ∧ f j ≤ b) → n * a ≤ zsum f n ∧ zsum f n ≤ n * b
  | 0, _ => by simp [zsum]
  | n + 1, h => by
    have h1 := zsum_r ha hb (n := n) (fun j hj => h j (by omega))
    have h2 := h n (by omega)
    rw [zsum_s]
    have e1 : ((n + 1 : Nat) : Int) * a = n * a + a := by rw [Int.natCast_add, Int.add_mul]; simp
    have e2 : ((n + 1 : Nat) : Int) * b = n * b + b := by rw [Int.natCast_add, Int.add_mul]; simp
    omega
/-- the weights of a set -/
def zwt (Wt : Nat → Int) (P : Nat → Bool) (c w : Nat) : Int := if P w then Wt (8 * c + w) else 0
theorem zwt_r {Wt : Nat → Int} (hW : ∀ j : Nat, 0 ≤ Wt j ∧ Wt j ≤ 9) (P : Nat → Bool) (c : Nat) (n : Nat) : 0 ≤ zsum (zwt Wt P c) n ∧ zsum (zwt Wt P c) n ≤ n * 9 := by
  have := zsum_r (f := zwt Wt P c) (a := 0) (b := 9) (by decide) (by decide) (n := n) (fun j _ => by
    unfold zwt
    have := hW (8 * c + j)
    split <;> omega)
  simpa using this
/-- the draw -/
def zlot (x : Int) : Int := (x * 1103515245 + 12345) % 2147483648
theorem zlot_r (x : Int) : 0 ≤ zlot x ∧ zlot x < 2147483648 := by
  unfold zlot
  omega
theorem zand_low (z : Int) : zand z 2147483647 = z % 2147483648 := by
  unfold zand
  rw [pk_and (Int32.ofInt z) 31 (by decide +kernel)]
  have h : (Int32.ofInt z).toBitVec.toNat = (z % 4294967296).toNat := by
    show (BitVec.ofInt 32 z).toNat = _
    rw [BitVec.toNat_ofInt]
    rfl
  rw [h]
  have h1 : (z % 4294967296).toNat % 2 ^ 31 < 2 ^ 31 := Nat.mod_lt _ (by decide)
  rw [nI_toInt h1]
  omega
theorem zlot_x (x : Int) : zand (zw (zw (x * 1103515245) + 12345)) 2147483647 = zlot x := by
  rw [zand_low]
  unfold zw zlot
  have h1 := Int.emod_emod_of_dvd (Int.bmod (Int.bmod (x * 1103515245) 4294967296 + 12345) 4294967296) (show (2147483648 : Int) ∣ 4294967296 by decide)
  have h2 := Int.emod_emod_of_dvd (x * 1103515245 + 12345) (show (2147483648 : Int) ∣ 4294967296 by decide)
  rw [← h1, ← h2]
  congr 1
  rw [show (4294967296 : Int) = ((4294967296 : Nat) : Int) from rfl, Int.bmod_emod, Int.add_emod, Int.bmod_emod, ← Int.add_emod]
/-- the word that falls -/
def zdrw (P : Nat → Bool) (Wt : Nat → Int) (c : Nat) : Nat → Nat → Int → Nat
  | 0, w, _ => w
  | f + 1, w, v => if P w && decide (v < Wt (8 * c + w)) then w else zdrw P Wt c f (w + 1) (v - zwt Wt P c w)
section
variable {mm : zMm}
theorem s_weightOfSet (d c : Nat) (P : Nat → Bool) (hn : xN mm) (hc : (c : Int) < mm 6 3) (hW : ∀ j : Nat, 0 ≤ mm 9 j ∧ mm 9 j ≤ 9) : zL (d + 3) 10 [.inr (.inr 6), .inl c, .inl (mks P 8)] SH mm = zok (zsum (zwt (mm 9) P c) 8) mm := by
  rw [ze_X0_weightOfSet, zb_X0_weightOfSet_0]
  refine zup (P := fun i => zR (d + 2) 10 5 [some (.inr (.inr 6)), some (.inl c), some (.inl (mks P 8)), some (.inl (zsum (zwt (mm 9) P c) i)), some (.inl (i : Int))] [] SH mm = _) (n := 8) ?_ ?_ 0 (by omega)
  · rw [zb_X0_weightOfSet_5]
    rfl
  · intro i hi ih
    have hr := zwt_r hW P c i
    have hw := hW (8 * c + i)
    have e1 : zw ((i : Int) + 1) = ((i + 1 : Nat) : Int) := by rw [zw_id (by omega) (by omega)]; omega
    rw [zsum_s] at ih
    rw [zb_X0_weightOfSet_5, if_pos (by omega), s_holds (d + 1) _ i (by omega), zcI_ok, zb_X0_weightOfSet_18, mks_bit P 8 (by decide), decide_eq_true hi, Bool.true_and]
    cases hp : P i with
    | false =>
      simp only [zwt, hp, Bool.false_eq_true, if_false, Int.add_zero] at ih
      rw [if_pos (by simp), e1]
      exact ih
    | true =>
      simp only [zwt, hp, if_true] at ih
      rw [if_neg (by simp), s_weightOf d c i hn hc hi, zcI_ok, zb_X0_weightOfSet_29, e1, zw_id (by omega) (by omega)]
      exact ih
theorem s_hasEnded (d e : Nat) (he : e < 585) (hce : zCe (mm 7) (mm 9) (mm 8) (mm 6 3)) (ht : zTg (mm 3) (mm 4) (mm 5) (mm 2 3)) : zL (d + 4) 15 [.inr (.inr 1), .inl (zsl e)] SH mm = zok (if ∀ c : Nat, c < 6 → (xal mm c && decide (mks (xcm mm c e) 8 ≠ 0)) = false then 1 else 0) mm := by
  have hn : xN mm := ⟨hce.1, hce.2.1⟩
  rw [ze_X1_hasEnded, zb_X1_hasEnded_0]
  refine zup (P := fun i => (∀ c : Nat, c < i → (xal mm c && decide (mks (xcm mm c e) 8 ≠ 0)) = false) → zR (d + 3) 15 2 [some (.inr (.inr 1)), some (.inl (zsl e : Int)), some (.inl (i : Int))] [] SH mm = _) (n := 6) ?_ ?_ 0 (by omega) (fun c hc => absurd hc (by omega))
  · intro h
    rw [zb_X1_hasEnded_2, if_neg (by omega), if_pos h]
  · intro i hi ih h
    have e1 : zw ((i : Int) + 1) = ((i + 1 : Nat) : Int) := by rw [zw_id (by omega) (by omega)]; omega
    rw [zb_X1_hasEnded_2, if_pos (by omega), s_isAlive (d + 1) i hn, zcI_ok, zb_X1_hasEnded_16]
    cases ha : xal mm i with
    | false =>
      rw [if_pos (by simp), e1]
      exact ih (fun c hc => by
        by_cases q : c = i
        · subst q; rw [ha]; rfl
        · exact h c (by omega))
    | true =>
      have hlt : (i : Int) < mm 6 3 := by
        unfold xal at ha
        simp only [Bool.and_eq_true, decide_eq_true_eq] at ha
        exact ha.1
      rw [if_neg (by simp), s_canCome d i e hlt he hce ht, zcI_ok, zb_X1_hasEnded_25]
      by_cases hm : mks (xcm mm i e) 8 = 0
      · rw [if_pos hm, e1]
        exact ih (fun c hc => by
          by_cases q : c = i
          · subst q; rw [ha]; simp [hm]
          · exact h c (by omega))
      · rw [if_neg hm, if_neg (fun q => by have := q i hi; rw [ha] at this; simp [hm] at this)]
/-- likelihood -/
def zlik (B Wr : Nat → Int) (n : Nat) (b : Int) (c : Nat) : Int := 16 * (zcnt (zhab B Wr c b) n + 1) / (zsum (fun w => zcnt (zhab B Wr c w) n) 8 + 8)
/-- the likeliest -/
def zbst (K : Nat → Int) (lik : Nat → Int) : Nat → Int × Int
  | 0 => (-4, -1)
  | c + 1 => if K c ≠ 3 ∧ (zbst K lik c).2 < lik c then ((c : Int), lik c) else zbst K lik c
theorem zbst_s (K : Nat → Int) (lik : Nat → Int) (c : Nat) : zbst K lik (c + 1) = if K c ≠ 3 ∧ (zbst K lik c).2 < lik c then ((c : Int), lik c) else zbst K lik c := rfl
end
end
section
theorem zdrw_s (P : Nat → Bool) (Wt : Nat → Int) (c f w : Nat) (v : Int) : zdrw P Wt c (f + 1) w v = if P w && decide (v < Wt (8 * c + w)) then w else zdrw P Wt c f (w + 1) (v - zwt Wt P c w) := rfl
theorem zsum_le {f : Nat → Int} (h : ∀ j, 0 ≤ f j) : ∀ {m n : Nat}, m ≤ n → zsum f m ≤ zsum f n := by
  intro m n hmn
  induction n with
  | zero => rw [show m = 0 by omega]; exact Int.le_refl _
  | succ n ih =>
    by_cases q : m = n + 1
    · rw [q]; exact Int.le_refl _
    · have := ih (by omega)
      have := h n
      rw [zsum_s]
      omega
section
variable {mm : zMm}
theorem s_drawn_loop (d c : Nat) (P : Nat → Bool) (hn : xN mm) (hc : (c : Int) < mm 6 3) (hW : ∀ j : Nat, 0 ≤ mm 9 j ∧ mm 9 j ≤ 9) : ∀ (f i : Nat) (v w : Int), i + f = 8 → 0 ≤ v → v < zsum (zwt (mm 9) P c) 8 - zsum (zwt (mm 9) P c) i →
    zR (d + 2) 17 53 [some (.inr (.inr 1)), some (.inl (c : Int)), some (.inl (mks P 8)), none, some (.inl v), some (.inl w), some (.inl (i : Int))] [] SH mm = zok (zdrw P (mm 9) c f i v) mm
  | 0, i, v, w, h, h0, hv => by
    obtain rfl : i = 8 := by omega
    omega
  | f + 1, i, v, w, h, h0, hv => by
    have hr := zwt_r hW P c 8
    have hr2 := zwt_r hW P c i
    have hw := hW (8 * c + i)
    have e1 : zw ((i : Int) + 1) = ((i + 1 : Nat) : Int) := by rw [zw_id (by omega) (by omega)]; omega
    have ih := s_drawn_loop d c P hn hc hW f (i + 1)
    have es : zsum (zwt (mm 9) P c) (i + 1) = zsum (zwt (mm 9) P c) i + zwt (mm 9) P c i := zsum_s _ _
    rw [es] at ih
    rw [zb_X1_drawnWord_53, if_pos (by omega), if_neg (by omega), s_holds (d + 1) _ i (by omega), zcI_ok, zb_X1_drawnWord_71, mks_bit P 8 (by decide), decide_eq_true (show i < 8 by omega), Bool.true_and, zdrw_s]
    cases hp : P i with
    | false =>
      have e2 : zwt (mm 9) P c i = 0 := by unfold zwt; rw [hp]; rfl
      rw [e2] at ih ⊢
      rw [if_pos (by simp), e1, ih v w (by omega) h0 (by omega)]
      simp
    | true =>
      have e2 : zwt (mm 9) P c i = mm 9 (8 * c + i) := by unfold zwt; rw [hp]; rfl
      rw [e2] at ih ⊢
      rw [if_neg (by simp), s_weightOf d c i hn hc (by omega), zcI_ok, zb_X1_drawnWord_86, e1, zw_id (by omega) (by omega)]
      by_cases hv2 : v < mm 9 (8 * c + i)
      · rw [Bool.true_and, decide_eq_true hv2, if_pos rfl, zb_X1_drawnWord_53]
        by_cases q : ((i + 1 : Nat) : Int) < 8
        · rw [if_pos q, if_pos (by omega)]
        · rw [if_neg q]
      · rw [Bool.true_and, decide_eq_false hv2, if_neg (by simp)]
        exact ih _ _ (by omega) (by omega) (by omega)
theorem s_drawnWord (d c : Nat) (P : Nat → Bool) (hn : xN mm) (hc : (c : Int) < mm 6 3) (hW : ∀ j : Nat, 0 ≤ mm 9 j ∧ mm 9 j ≤ 9) (ht : 0 < zsum (zwt (mm 9) P c) 8) : zL (d + 4) 17 [.inr (.inr 1), .inl c, .inl (mks P 8)] SH mm = zok (zdrw P (mm 9) c 8 0 (zlot (mm 1 4) / 65536 % zsum (zwt (mm 9) P c) 8)) (zu mm 1 4 (zlot (mm 1 4))) := by
  have hr := zwt_r hW P c 8
  have hl := zlot_r (mm 1 4)
  have e9 : zu mm 1 4 (zlot (mm 1 4)) 9 = mm 9 := zu_k _ _ (by decide)
  have e6 : zu mm 1 4 (zlot (mm 1 4)) 6 = mm 6 := zu_k _ _ (by decide)
  have hn2 : xN (zu mm 1 4 (zlot (mm 1 4))) := by unfold xN; rw [e6]; exact hn
  have hw := s_weightOfSet (mm := zu mm 1 4 (zlot (mm 1 4))) d c P hn2 (by rw [e6]; exact hc) (by rw [e9]; exact hW)
  rw [e9] at hw
  have e16 : zshr (zlot (mm 1 4)) 16 = zlot (mm 1 4) / 65536 := by
    have := zshr_n (x := zlot (mm 1 4)) (k := 16) (by decide)
    rw [zo_i ⟨by omega, hl.2⟩] at this
    exact this
  have hl16 : 0 ≤ zlot (mm 1 4) / 65536 ∧ zlot (mm 1 4) / 65536 < 2147483648 := by omega
  have hm := Int.emod_lt_of_pos (zlot (mm 1 4) / 65536) ht
  have hm0 := Int.emod_nonneg (zlot (mm 1 4) / 65536) (show zsum (zwt (mm 9) P c) 8 ≠ 0 by omega)
  rw [ze_X1_drawnWord, zb_X1_drawnWord_0, zlot_x, hw, zcI_ok, zb_X1_drawnWord_27, if_pos ht, if_neg (by omega), zu_s, e16, zrem_n hl16.1 hl16.2 ht (by omega)]
  have key := s_drawn_loop (mm := zu mm 1 4 (zlot (mm 1 4))) (d + 1) c P hn2 (by rw [e6]; exact hc) (by rw [e9]; exact hW) 8 0 (zlot (mm 1 4) / 65536 % zsum (zwt (mm 9) P c) 8) 0 (by omega) hm0 (by rw [e9]; show _ < _ - 0; omega)
  rw [e9] at key
  exact zR_weak (by repeat first | exact zle_nil | apply zle_c | apply zle_n) key
/-- the end of the book -/
def xe (mm : zMm) : Nat := zend (mm 13) (mm 12 2).toNat
theorem xe_lt (hp : xP mm) : xe mm < 585 := zend_lt fun p hp2 => hp.2.2 p (by have := hp.1; omega)
/-- a word of the set has weight -/
theorem zset_w {K Wt F LW LL : Nat → Int} {ln c e : Nat} (hW : ∀ j : Nat, 0 ≤ Wt j ∧ Wt j ≤ 9) (h : mks (zcome K Wt F LW LL ln c e) 8 ≠ 0) : 0 < zsum (zwt Wt (zcome K Wt F LW LL ln c e) c) 8 := by
  have h1 : ¬ ∀ j, j < 8 → zcome K Wt F LW LL ln c e j = false := fun q => h ((mks_0 (by decide)).mpr q)
  have h2 : ∃ j, j < 8 ∧ zcome K Wt F LW LL ln c e j = true := by
    apply Classical.byContradiction
    intro q
    exact h1 fun j hj => by
      cases hz : zcome K Wt F LW LL ln c e j with
      | false => rfl
      | true => exact absurd ⟨j, hj, hz⟩ q
  obtain ⟨j, hj, hz⟩ := h2
  have hpos : 0 < Wt (8 * c + j) := by
    unfold zcome at hz
    simp only [Bool.and_eq_true, decide_eq_true_eq] at hz
    exact hz.2.1
  have hnn : ∀ i, 0 ≤ zwt Wt (zcome K Wt F LW LL ln c e) c i := fun i => by
    unfold zwt
    have := hW (8 * c + i)
    split <;> omega
  have h3 := zsum_le hnn (show j + 1 ≤ 8 by omega)
  have h4 := zsum_le hnn (show 0 ≤ j by omega)
  rw [zsum_s] at h3
  have h5 : zwt Wt (zcome K Wt F LW LL ln c e) c j = Wt (8 * c + j) := by unfold zwt; rw [hz]; rfl
  have h6 : zsum (zwt Wt (zcome K Wt F LW LL ln c e) c) 0 = 0 := rfl
  omega
theorem s_addDrawnWord (d st n t : Nat) (hnn : mm 6 3 = n) (hS : zSe (mm 11) (mm 6 3)) (hst : mm 10 2 = st) (hs : st < n ∨ n = 0) (ht : zturn (xas mm) n (zstep1 (mm 10 4) n) st = t) (htn : t < n) (hp : xP mm) (hce : zCe (mm 7) (mm 9) (mm 8) (mm 6 3)) (htg : zTg (mm 3) (mm 4) (mm 5) (mm 2 3)) :
    zL (d + 6) 16 [.inr (.inr 1)] SH mm = zvd (if mks (xcm mm (mm 11 t).toNat (xe mm)) 8 ≠ 0 ∧ mm 12 2 < 60 then
      zu (zu (zu (zu mm 1 4 (zlot (mm 1 4))) 13 (mm 12 2).toNat (zdrw (xcm mm (mm 11 t).toNat (xe mm)) (mm 9) (mm 11 t).toNat 8 0 (zlot (mm 1 4) / 65536 % zsum (zwt (mm 9) (xcm mm (mm 11 t).toNat (xe mm)) (mm 11 t).toNat) 8))) 14 (mm 12 2).toNat (mm 11 t)) 12 2 (mm 12 2 + 1) else mm) := by
  have hn : xN mm := ⟨hce.1, hce.2.1⟩
  have hct := hS.1 t (by omega)
  have ec : mm 11 t = ((mm 11 t).toNat : Int) := by omega
  have he := xe_lt hp
  rw [ze_X1_addDrawnWord, zb_X1_addDrawnWord_0, s_seatOfTurn d st n hnn hn hS hst hs, zcI_ok, ht, zb_X1_addDrawnWord_11, s_cellOn (d + 3) t hn (by omega), zcI_ok, zb_X1_addDrawnWord_14, s_slip (d + 1) hp, zcI_ok, zb_X1_addDrawnWord_24]
  show zcI (zL (d + 5) 14 [.inr (.inr 1), .inl (mm 11 t), .inl (zsl (xe mm))] SH mm) _ = _
  rw [ec, s_canCome (d + 2) _ (xe mm) (by omega) he hce htg, zcI_ok, zb_X1_addDrawnWord_27, Int.toNat_natCast]
  by_cases h0 : mks (xcm mm (mm 11 t).toNat (xe mm)) 8 = 0
  · rw [if_pos h0, if_neg (fun q => q.1 h0)]
  · rw [if_neg h0, s_isFull (d + 4), zcI_ok, zb_X1_addDrawnWord_39]
    by_cases h60 : mm 12 2 < 60
    · have hw : 0 < zsum (zwt (mm 9) (xcm mm (mm 11 t).toNat (xe mm)) (mm 11 t).toNat) 8 := zset_w hce.2.2.2.1 h0
      rw [if_pos h60, if_pos rfl, if_pos ⟨h0, h60⟩, s_drawnWord (d + 1) _ _ hn (by omega) hce.2.2.2.1 hw, zcI_ok, zb_X1_addDrawnWord_52]
      have e12 : zu mm 1 4 (zlot (mm 1 4)) 12 = mm 12 := zu_k _ _ (by decide)
      have e13 : zu mm 1 4 (zlot (mm 1 4)) 13 = mm 13 := zu_k _ _ (by decide)
      rw [s_pappend (mm := zu mm 1 4 (zlot (mm 1 4))) (d + 4) _ _ (by unfold xP; rw [e12, e13]; exact hp) (by rw [e12]; exact h60), zcV_vd, zb_X1_addDrawnWord_56, e12]
    · rw [if_neg h60, if_neg (by decide), if_neg (fun q => h60 q.2)]
end
end
section
/-- the first that is so; below 0: none is -/
def zfst (P : Nat → Bool) : Nat → Nat → Int
  | 0, _ => -4
  | f + 1, i => if P i then (i : Int) else zfst P f (i + 1)
theorem zfst_s (P : Nat → Bool) (f i : Nat) : zfst P (f + 1) i = if P i then (i : Int) else zfst P f (i + 1) := rfl
theorem zfst_cong {P Q : Nat → Bool} : ∀ {f i : Nat}, (∀ j, i ≤ j → j < i + f → P j = Q j) → zfst P f i = zfst Q f i
  | 0, _, _ => rfl
  | f + 1, i, h => by rw [zfst_s, zfst_s, h i (Nat.le_refl i) (by omega), zfst_cong (fun j a b => h j (by omega) (by omega))]
theorem zfst_r (P : Nat → Bool) : ∀ (f i : Nat), zfst P f i = -4 ∨ ∃ j : Nat, zfst P f i = j ∧ i ≤ j ∧ j < i + f ∧ P j = true
  | 0, _ => Or.inl rfl
  | f + 1, i => by
    rw [zfst_s]
    cases h : P i with
    | true => exact Or.inr ⟨i, by simp, Nat.le_refl i, by omega, h⟩
    | false =>
      rcases zfst_r P f (i + 1) with h1 | ⟨j, h1, h2, h3, h4⟩
      · exact Or.inl (by simpa using h1)
      · exact Or.inr ⟨j, by simpa using h1, by omega, by omega, h4⟩
/-- the digits of a number, the last first, are the words that end at a place -/
def zdig (B : Nat → Int) : Nat → Nat → Int → Bool
  | _, 0, _ => true
  | p, n + 1, r => decide (B p = r % 8) && zdig B (p - 1) n (r / 8)
/-- a line ends at a place -/
def zlm (B LW LL : Nat → Int) (p l : Nat) : Bool := decide (LL l ≤ (p : Int) + 1) && zdig B p (LL l).toNat (LW l)
/-- the first line that ends at a place -/
def zline (B LW LL : Nat → Int) (ln p : Nat) : Int := zfst (zlm B LW LL p) ln 0
/-- lines are no longer than they say -/
def zTl (LW LL : Nat → Int) (ln : Int) : Prop := ∀ i : Nat, (i : Int) < ln → LW i < ((8 ^ (LL i).toNat : Nat) : Int)
/-- the last four words as a number -/
def zfour (B : Nat → Int) (p : Nat) : Int := if p = 0 then B 0 else if p = 1 then B 0 * 8 + B 1 else if p = 2 then (B 0 * 8 + B 1) * 8 + B 2 else ((B (p - 3) * 8 + B (p - 2)) * 8 + B (p - 1)) * 8 + B p
theorem zfour_r {B : Nat → Int} {p : Nat} (hB : ∀ q, q ≤ p → 0 ≤ B q ∧ B q < 8) : 0 ≤ zfour B p ∧ zfour B p < 4096 := by
  have h0 := hB p (Nat.le_refl p)
  have h1 := hB (p - 1) (by omega)
  have h2 := hB (p - 2) (by omega)
  have h3 := hB (p - 3) (by omega)
  unfold zfour
  by_cases q0 : p = 0
  · subst q0
    simp only [if_true]
    omega
  · by_cases q1 : p = 1
    · subst q1
      simp only [if_true, q0, if_false]
      have h1 : 0 ≤ B 0 ∧ B 0 < 8 := h1
      omega
    · by_cases q2 : p = 2
      · subst q2
        simp only [if_true, q0, q1, if_false]
        have h1 : 0 ≤ B 1 ∧ B 1 < 8 := h1
        have h2 : 0 ≤ B 0 ∧ B 0 < 8 := h2
        omega
      · simp only [q0, q1, q2, if_false]
        omega
theorem zfour_x {B : Nat → Int} {p n : Nat} {W : Int} (hB : ∀ q, q ≤ p → 0 ≤ B q ∧ B q < 8) (h1 : 1 ≤ n) (h4 : n ≤ 4) (hp : n ≤ p + 1) (hW0 : 0 ≤ W) (hW : W < ((8 ^ n : Nat) : Int)) : decide (zfour B p % ((8 ^ n : Nat) : Int) = W) = zdig B p n W := by
  have b0 := hB p (Nat.le_refl p)
  have b1 := hB (p - 1) (by omega)
  have b2 := hB (p - 2) (by omega)
  have b3 := hB (p - 3) (by omega)
  have e2 : p - 1 - 1 = p - 2 := by omega
  have e3 : p - 2 - 1 = p - 3 := by omega
  have key : ∀ (P Q : Prop) [Decidable P] [Decidable Q], (P ↔ Q) → decide P = decide Q := fun P Q _ _ h => decide_eq_decide.mpr h
  have x1 : p = 0 ∨ p = 1 ∨ p = 2 ∨ 3 ≤ p := by omega
  have x2 : n = 1 ∨ n = 2 ∨ n = 3 ∨ n = 4 := by omega
  rcases x2 with rfl | rfl | rfl | rfl
  · have hW : W < 8 := hW
    show decide (_ % (8 : Int) = W) = (decide (B p = W % 8) && true)
    rw [Bool.and_true]
    apply key
    rcases x1 with rfl | rfl | rfl | x
    · unfold zfour; simp only [if_true]; omega
    · unfold zfour; simp only [if_true, if_false, show ¬ (1 = 0) by decide]; omega
    · unfold zfour; simp only [if_true, if_false, show ¬ (2 = 0) by decide, show ¬ (2 = 1) by decide]; omega
    · unfold zfour; simp only [if_false, show ¬ (p = 0) by omega, show ¬ (p = 1) by omega, show ¬ (p = 2) by omega]; omega
  · have hW : W < 64 := hW
    show decide (_ % (64 : Int) = W) = (decide (B p = W % 8) && (decide (B (p - 1) = W / 8 % 8) && true))
    rw [Bool.and_true, ← Bool.decide_and]
    apply key
    rcases x1 with rfl | rfl | rfl | x
    · omega
    · unfold zfour; simp only [if_true, if_false, show ¬ (1 = 0) by decide]; simp only [show 1 - 1 = 0 from rfl] at *; omega
    · unfold zfour; simp only [if_true, if_false, show ¬ (2 = 0) by decide, show ¬ (2 = 1) by decide]; simp only [show 2 - 1 = 1 from rfl] at *; omega
    · unfold zfour; simp only [if_false, show ¬ (p = 0) by omega, show ¬ (p = 1) by omega, show ¬ (p = 2) by omega]; omega
  · have hW : W < 512 := hW
    show decide (_ % (512 : Int) = W) = (decide (B p = W % 8) && (decide (B (p - 1) = W / 8 % 8) && (decide (B (p - 1 - 1) = W / 8 / 8 % 8) && true)))
    rw [Bool.and_true, ← Bool.decide_and, ← Bool.decide_and, e2]
    apply key
    rcases x1 with rfl | rfl | rfl | x
    · omega
    · omega
    · unfold zfour; simp only [if_true, if_false, show ¬ (2 = 0) by decide, show ¬ (2 = 1) by decide]; simp only [show 2 - 1 = 1 from rfl, show 2 - 2 = 0 from rfl] at *; omega
    · unfold zfour; simp only [if_false, show ¬ (p = 0) by omega, show ¬ (p = 1) by omega, show ¬ (p = 2) by omega]; omega
  · have hW : W < 4096 := hW
    show decide (_ % (4096 : Int) = W) = (decide (B p = W % 8) && (decide (B (p - 1) = W / 8 % 8) && (decide (B (p - 1 - 1) = W / 8 / 8 % 8) && (decide (B (p - 1 - 1 - 1) = W / 8 / 8 / 8 % 8) && true))))
    rw [Bool.and_true, ← Bool.decide_and, ← Bool.decide_and, ← Bool.decide_and, e2, e3]
    apply key
    rcases x1 with rfl | rfl | rfl | x
    · omega
    · omega
    · omega
    · unfold zfour; simp only [if_false, show ¬ (p = 0) by omega, show ¬ (p = 1) by omega, show ¬ (p = 2) by omega]; omega
section
variable {mm : zMm}
theorem s_lineAtEndOf (d : Nat) (v len : Int) (hv : 0 ≤ v ∧ v < 4096) (ht : zTg (mm 3) (mm 4) (mm 5) (mm 2 3)) : zL (d + 1) 46 [.inr (.inr 2), .inl v, .inl len] SH mm = zok (zfst (fun l => decide (mm 5 l ≤ len) && decide (v % ((8 ^ (mm 5 l).toNat : Nat) : Int) = mm 4 l)) (mm 2 3).toNat 0) mm := by
  obtain ⟨h0, h6, hF, hl⟩ := ht
  have key : ∀ (f i : Nat), i + f = (mm 2 3).toNat → zR d 46 2 [some (.inr (.inr 2)), some (.inl v), some (.inl len), some (.inl (i : Int)), none] [] SH mm = zok (zfst (fun l => decide (mm 5 l ≤ len) && decide (v % ((8 ^ (mm 5 l).toNat : Nat) : Int) = mm 4 l)) f i) mm := by
    intro f
    induction f with
    | zero =>
      intro i h
      rw [zb_X6_lineAtEndOf_2, if_neg (by omega)]
      rfl
    | succ f ih =>
      intro i h
      obtain ⟨l1, l2, l3, l4⟩ := hl i (by omega)
      have e1 : zw ((i : Int) + 1) = ((i + 1 : Nat) : Int) := by rw [zw_id (by omega) (by omega)]; omega
      have e2 : mm 5 i = ((mm 5 i).toNat : Int) := by omega
      rw [zb_X6_lineAtEndOf_2, zfst_s]
      simp (disch := omega) only [if_pos, Int.toNat_natCast]
      have e3 : zand v (zw (zshl 1 (zw (3 * mm 5 i)) - 1)) = v % ((8 ^ (mm 5 i).toNat : Nat) : Int) := by
        have := z8m (x := v) hv.1 (by omega) (n := (mm 5 i).toNat) (by omega)
        rw [← e2] at this
        exact this
      rw [e3, e1]
      by_cases c1 : len < mm 5 i
      · rw [if_pos c1, decide_eq_false (show ¬ (mm 5 i ≤ len) by omega)]
        exact zR_weak (by repeat first | exact zle_nil | apply zle_c | apply zle_n) (ih (i + 1) (by omega))
      · rw [if_neg c1, decide_eq_true (show mm 5 i ≤ len by omega)]
        by_cases c2 : v % ((8 ^ (mm 5 i).toNat : Nat) : Int) = mm 4 i
        · rw [if_pos c2, decide_eq_true c2]
          rfl
        · rw [if_neg c2, decide_eq_false c2]
          exact zR_weak (by repeat first | exact zle_nil | apply zle_c | apply zle_n) (ih (i + 1) (by omega))
  rw [ze_X6_lineAtEndOf, zb_X6_lineAtEndOf_0]
  exact key _ 0 (by omega)
theorem s_lineEnding_step (d p s : Nat) (acc : Int) (hp : xP mm) (hs : s ≤ p) (hp2 : (p : Int) < mm 12 2) (ha : 0 ≤ acc ∧ acc < 512) : zR (d + 2) 18 12 [some (.inr (.inr 1)), some (.inl (p : Int)), some (.inl acc), some (.inl (s : Int))] [] SH mm = zR (d + 2) 18 12 [some (.inr (.inr 1)), some (.inl (p : Int)), some (.inl (acc * 8 + mm 13 s)), some (.inl ((s + 1 : Nat) : Int))] [] SH mm := by
  have h1 := hp.2.1
  have h2 := hp.2.2 s (by omega)
  rw [zb_X1_lineEndingAt_12, if_neg (by omega), s_wordAt d s hp (by omega), zcI_ok, zb_X1_lineEndingAt_29, zw_id (x := acc * 8) (by omega) (by omega), zw_id (by omega) (by omega), zw_id (by omega) (by omega)]
  rfl
theorem s_lineEndingAt (d p : Nat) (hp : xP mm) (hp2 : (p : Int) < mm 12 2) (ht : zTg (mm 3) (mm 4) (mm 5) (mm 2 3)) (hl : zTl (mm 4) (mm 5) (mm 2 3)) : zL (d + 3) 18 [.inr (.inr 1), .inl p] SH mm = zok (zline (mm 13) (mm 4) (mm 5) (mm 2 3).toNat p) mm := by
  have h60 := hp.2.1
  have hB : ∀ q, q ≤ p → 0 ≤ mm 13 q ∧ mm 13 q < 8 := fun q hq => hp.2.2 q (by omega)
  have hr := zfour_r hB
  have fin : zR (d + 2) 18 12 [some (.inr (.inr 1)), some (.inl (p : Int)), some (.inl (zfour (mm 13) p)), some (.inl ((p + 1 : Nat) : Int))] [] SH mm = zok (zline (mm 13) (mm 4) (mm 5) (mm 2 3).toNat p) mm := by
    rw [zb_X1_lineEndingAt_12, if_pos (by omega), zw_id (by omega) (by omega), s_lineAtEndOf (d + 1) _ _ hr ht, zcI_ok, zb_X1_lineEndingAt_48]
    refine congrArg (fun x => zok x mm) ?_
    unfold zline
    refine zfst_cong fun l _ hl2 => ?_
    obtain ⟨l1, l2, l3, l4⟩ := ht.2.2.2 l (by have := ht.1; omega)
    have := hl l (by have := ht.1; omega)
    unfold zlm
    by_cases c : mm 5 l ≤ (p : Int) + 1
    · rw [zfour_x hB (by omega) (by omega) (by omega) l3 this]
    · rw [decide_eq_false c]
      rfl
  rw [ze_X1_lineEndingAt, zb_X1_lineEndingAt_0, zw_id (x := (p : Int) + 1) (by omega) (by omega), zw_id (by omega) (by omega), s_max, zcI_ok, zb_X1_lineEndingAt_11]
  have b0 := hB p (Nat.le_refl p)
  have b1 := hB (p - 1) (by omega)
  have b2 := hB (p - 2) (by omega)
  have b3 := hB (p - 3) (by omega)
  by_cases x0 : p = 0
  · subst x0
    rw [if_neg (by decide)]
    refine (s_lineEnding_step d 0 0 0 hp (by omega) hp2 (by omega)).trans ?_
    rw [show (0 : Int) * 8 + mm 13 0 = zfour (mm 13) 0 by unfold zfour; simp]
    exact fin
  · by_cases x1 : p = 1
    · subst x1
      rw [if_neg (by decide)]
      refine (s_lineEnding_step d 1 0 0 hp (by omega) hp2 (by omega)).trans ?_
      rw [s_lineEnding_step d 1 1 _ hp (by omega) hp2 (by simp only [show 1 - 1 = 0 from rfl] at *; omega)]
      have e : (0 * 8 + mm 13 0) * 8 + mm 13 1 = zfour (mm 13) 1 := by unfold zfour; simp
      rw [e]
      exact fin
    · by_cases x2 : p = 2
      · subst x2
        rw [if_neg (by decide)]
        simp only [show 2 - 1 = 1 from rfl, show 2 - 2 = 0 from rfl] at *
        refine (s_lineEnding_step d 2 0 0 hp (by omega) hp2 (by omega)).trans ?_
        rw [s_lineEnding_step d 2 1 _ hp (by omega) hp2 (by omega), s_lineEnding_step d 2 2 _ hp (by omega) hp2 (by omega)]
        have e : ((0 * 8 + mm 13 0) * 8 + mm 13 1) * 8 + mm 13 2 = zfour (mm 13) 2 := by unfold zfour; simp
        rw [e]
        exact fin
      · have e0 : (if (0 : Int) < (p : Int) + 1 - 4 then (p : Int) + 1 - 4 else 0) = ((p - 3 : Nat) : Int) := by split <;> omega
        rw [e0, s_lineEnding_step d p (p - 3) 0 hp (by omega) hp2 (by omega), show p - 3 + 1 = p - 2 by omega, s_lineEnding_step d p (p - 2) _ hp (by omega) hp2 (by omega), show p - 2 + 1 = p - 1 by omega, s_lineEnding_step d p (p - 1) _ hp (by omega) hp2 (by omega), show p - 1 + 1 = p by omega, s_lineEnding_step d p p _ hp (by omega) hp2 (by omega)]
        have e : (((0 * 8 + mm 13 (p - 3)) * 8 + mm 13 (p - 2)) * 8 + mm 13 (p - 1)) * 8 + mm 13 p = zfour (mm 13) p := by
          unfold zfour
          rw [if_neg x0, if_neg x1, if_neg x2]
          simp
        rw [e]
        exact fin
/-- the first place at which a line ends -/
def zfle (B LW LL : Nat → Int) (ln n : Nat) : Int := zfst (fun p => decide (0 ≤ zline B LW LL ln p)) n 0
theorem s_firstLineEnd (d : Nat) (hp : xP mm) (ht : zTg (mm 3) (mm 4) (mm 5) (mm 2 3)) (hl : zTl (mm 4) (mm 5) (mm 2 3)) : zL (d + 4) 19 [.inr (.inr 1)] SH mm = zok (zfle (mm 13) (mm 4) (mm 5) (mm 2 3).toNat (mm 12 2).toNat) mm := by
  have h0 := hp.1
  have h60 := hp.2.1
  have key : ∀ (f i : Nat), i + f = (mm 12 2).toNat → zR (d + 3) 19 2 [some (.inr (.inr 1)), some (.inl (i : Int))] [] SH mm = zok (zfst (fun p => decide (0 ≤ zline (mm 13) (mm 4) (mm 5) (mm 2 3).toNat p)) f i) mm := by
    intro f
    induction f with
    | zero =>
      intro i h
      rw [zb_X1_firstLineEnd_2, if_neg (by omega)]
      rfl
    | succ f ih =>
      intro i h
      have e1 : zw ((i : Int) + 1) = ((i + 1 : Nat) : Int) := by rw [zw_id (by omega) (by omega)]; omega
      rw [zb_X1_firstLineEnd_2, if_pos (by omega), s_lineEndingAt d i hp (by omega) ht hl, zcI_ok, zb_X1_firstLineEnd_18, zfst_s, e1]
      by_cases c : zline (mm 13) (mm 4) (mm 5) (mm 2 3).toNat i < 0
      · rw [if_pos c, decide_eq_false (by omega)]
        exact ih (i + 1) (by omega)
      · rw [if_neg c, decide_eq_true (by omega)]
        rfl
  rw [ze_X1_firstLineEnd, zb_X1_firstLineEnd_0]
  exact key _ 0 (by omega)
/-- what a writer could have written else -/
def zelse (cm : Nat → Nat → Nat → Bool) (B : Nat → Int) (c p : Nat) : Int := zand (mks (cm c (zend B p)) 8) (zxor (zshl 1 (B p)) (-1))
/-- who could have prevented it -/
def zprv (cm : Nat → Nat → Nat → Bool) (B Wr : Nat → Int) : Nat → Nat → Int → Int
  | 0, _, a => a
  | f + 1, p, a => zprv cm B Wr f (p + 1) (if 0 ≤ Wr p ∧ zelse cm B (Wr p).toNat p ≠ 0 then zor a (zshl 1 (Wr p)) else a)
/-- the writers are cells -/
def zWr (Wr : Nat → Int) (n k : Int) : Prop := ∀ p : Nat, (p : Int) < n → Wr p = -4 ∨ (0 ≤ Wr p ∧ Wr p < k)
theorem s_couldHave (d c p : Nat) (hc : (c : Int) < mm 6 3) (hp : xP mm) (hp2 : (p : Int) < mm 12 2) (hce : zCe (mm 7) (mm 9) (mm 8) (mm 6 3)) (ht : zTg (mm 3) (mm 4) (mm 5) (mm 2 3)) : zL (d + 4) 21 [.inr (.inr 1), .inl c, .inl p] SH mm = zok (if zelse (xcm mm) (mm 13) c p = 0 then 0 else 1) mm := by
  have he : zend (mm 13) p < 585 := zend_lt fun q hq => hp.2.2 q (by omega)
  rw [ze_X1_couldHaveWrittenElse, zb_X1_couldHaveWrittenElse_0, s_wordAt (d + 1) p hp hp2, zcI_ok, zb_X1_couldHaveWrittenElse_9, s_slipAheadOf d p hp (by omega), zcI_ok, zb_X1_couldHaveWrittenElse_21, s_canCome d c _ hc he hce ht, zcI_ok, zb_X1_couldHaveWrittenElse_24]
  unfold zelse
  split <;> rfl
theorem s_preventers (d p : Nat) (hp : xP mm) (hp2 : (p : Int) < mm 12 2) (hce : zCe (mm 7) (mm 9) (mm 8) (mm 6 3)) (ht : zTg (mm 3) (mm 4) (mm 5) (mm 2 3)) (hl : zTl (mm 4) (mm 5) (mm 2 3)) (hw : zWr (mm 14) (mm 12 2) (mm 6 3)) (l : Nat) (hz : zline (mm 13) (mm 4) (mm 5) (mm 2 3).toNat p = l) : zL (d + 5) 20 [.inr (.inr 1), .inl p] SH mm = zok (zprv (xcm mm) (mm 13) (mm 14) (mm 5 l).toNat (p + 1 - (mm 5 l).toNat) 0) mm := by
  have h60 := hp.2.1
  have h1 : (l : Int) < mm 2 3 ∧ mm 5 l ≤ (p : Int) + 1 := by
    have h2 := zfst_r (zlm (mm 13) (mm 4) (mm 5) p) (mm 2 3).toNat 0
    unfold zline at hz
    rcases h2 with h2 | ⟨j, h2, h3, h4, h5⟩
    · omega
    · obtain rfl : j = l := by omega
      refine ⟨by omega, ?_⟩
      unfold zlm at h5
      rw [Bool.and_eq_true] at h5
      exact of_decide_eq_true h5.1
  obtain ⟨l1, l2, l3, l4⟩ := ht.2.2.2 l h1.1
  have h6 := ht.2.1
  have key : ∀ (f i : Nat) (a : Int), i + f = p + 1 → zR (d + 4) 20 22 [some (.inr (.inr 1)), some (.inl (p : Int)), none, some (.inl a), some (.inl (i : Int)), none] [] SH mm = zok (zprv (xcm mm) (mm 13) (mm 14) f i a) mm := by
    intro f
    induction f with
    | zero =>
      intro i a h
      rw [zb_X1_preventers_22, if_pos (by omega)]
      rfl
    | succ f ih =>
      intro i a h
      have e1 : zw ((i : Int) + 1) = ((i + 1 : Nat) : Int) := by rw [zw_id (by omega) (by omega)]; omega
      have ww := hw i (by omega)
      rw [zb_X1_preventers_22, if_neg (by omega), s_writerAt (d + 2) i hp (by omega), zcI_ok, zb_X1_preventers_37, e1]
      have iha := ih (i + 1)
      show _ = zok (zprv (xcm mm) (mm 13) (mm 14) f (i + 1) (if 0 ≤ mm 14 i ∧ zelse (xcm mm) (mm 13) (mm 14 i).toNat i ≠ 0 then zor a (zshl 1 (mm 14 i)) else a)) mm
      by_cases c : mm 14 i < 0
      · rw [if_pos c, if_neg (fun q => by omega)]
        exact zR_weak (by repeat first | exact zle_nil | apply zle_c | apply zle_n) (iha a (by omega))
      · have e2 : mm 14 i = ((mm 14 i).toNat : Int) := by omega
        have hc := s_couldHave d (mm 14 i).toNat i (by omega) hp (by omega) hce ht
        rw [← e2] at hc
        rw [if_neg c, hc, zcI_ok, zb_X1_preventers_52, e1]
        by_cases c2 : zelse (xcm mm) (mm 13) (mm 14 i).toNat i = 0
        · rw [if_pos c2, if_pos rfl, if_neg (fun q => q.2 c2)]
          exact zR_weak (by repeat first | exact zle_nil | apply zle_c | apply zle_n) (iha a (by omega))
        · rw [if_neg c2, if_neg (by decide), if_pos ⟨by omega, c2⟩]
          exact zR_weak (by repeat first | exact zle_nil | apply zle_c | apply zle_n) (iha _ (by omega))
  rw [ze_X1_preventers, zb_X1_preventers_0, s_lineEndingAt (d + 1) p hp hp2 ht hl, zcI_ok, zb_X1_preventers_9, hz]
  have hlen : zL (d + 4) 47 [.inr (.inr 2), .inl (l : Int)] SH mm = zok (mm 5 l) mm := by
    rw [ze_X6_lengthOfLine, zb_X6_lengthOfLine_0]
    simp (disch := omega) only [if_pos, if_neg, Int.toNat_natCast]
  rw [hlen, zcI_ok, zb_X1_preventers_12, zw_id (x := (p : Int) + 1) (by omega) (by omega), zw_id (by omega) (by omega), show (p : Int) + 1 - mm 5 l = ((p + 1 - (mm 5 l).toNat : Nat) : Int) by omega]
  exact zR_weak (by repeat first | exact zle_nil | apply zle_c | apply zle_n) (key _ _ 0 (by omega))
end
end
section
section
variable {mm : zMm}
theorem s_changeFollowing (d w : Nat) (v : Int) (hw : w < 8) : zL (d + 1) 43 [.inr (.inr 2), .inl w, .inl v] SH mm = zok (mm 3 w) (zu mm 3 w v) := by
  rw [ze_X6_changeFollowing, zb_X6_changeFollowing_0]
  simp (disch := omega) only [if_pos, if_neg, Int.toNat_natCast]
theorem s_appendLine (d : Nat) (a b : Int) (h : 0 ≤ mm 2 3 ∧ mm 2 3 ≤ 6) : zL (d + 1) 44 [.inr (.inr 2), .inl a, .inl b] SH mm = if mm 2 3 < 6 then zok (mm 2 3) (zu (zu (zu mm 4 (mm 2 3).toNat a) 5 (mm 2 3).toNat b) 2 3 (mm 2 3 + 1)) else zok (-3) mm := by
  rw [ze_X6_appendLine, zb_X6_appendLine_0, if_neg (by omega)]
  by_cases c : mm 2 3 < 6
  · simp (disch := omega) only [if_pos, if_neg, zw_id]
    rw [show mm 2 3 + 1 - 1 = mm 2 3 by omega]
  · rw [if_neg c, if_neg c]
theorem s_cappend (d : Nat) (a : Int) (h : 0 ≤ mm 6 3 ∧ mm 6 3 ≤ 6) : zL (d + 1) 3 [.inr (.inr 6), .inl a] SH mm = if mm 6 3 < 6 then zok (mm 6 3) (zu (zu mm 7 (mm 6 3).toNat a) 6 3 (mm 6 3 + 1)) else zok (-3) mm := by
  rw [ze_X0_append, zb_X0_append_0, if_neg (by omega)]
  by_cases c : mm 6 3 < 6
  · simp (disch := omega) only [if_pos, if_neg, zw_id]
    rw [show mm 6 3 + 1 - 1 = mm 6 3 by omega]
  · rw [if_neg c, if_neg c]
theorem s_changeDead (d c : Nat) (a : Int) (hn : xN mm) (hc : (c : Int) < mm 6 3) (ha : a = 0 ∨ a = 1) (hd : mm 8 c = 0 ∨ mm 8 c = 1) : zL (d + 2) 6 [.inr (.inr 6), .inl c, .inl a] SH mm = zok (mm 8 c) (zu mm 8 c a) := by
  have := hn.2
  rw [ze_X0_changeDead, zb_X0_changeDead_0, s_has d c hn, zcI_ok, zb_X0_changeDead_5, if_pos (show 0 ≤ (c : Int) ∧ (c : Int) < mm 6 3 by omega), if_neg (by decide), if_pos (by omega), if_pos ⟨by omega, ha⟩, Int.toNat_natCast, if_pos hd]
theorem s_changeWeight (d c w : Nat) (a : Int) (hn : xN mm) (hc : (c : Int) < mm 6 3) (hw : w < 8) : zL (d + 2) 9 [.inr (.inr 6), .inl c, .inl w, .inl a] SH mm = zok (mm 9 (8 * c + w)) (zu mm 9 (8 * c + w) a) := by
  have := hn.2
  rw [ze_X0_changeWeight, zb_X0_changeWeight_0, s_has d c hn, zcI_ok, zb_X0_changeWeight_5, if_pos (show 0 ≤ (c : Int) ∧ (c : Int) < mm 6 3 by omega), if_neg (by decide), s_isWord, zcI_ok, zb_X0_changeWeight_12, if_pos (show 0 ≤ (w : Int) ∧ (w : Int) < 8 by omega), if_neg (by decide)]
  simp (disch := omega) only [zw_id, if_pos]
  rw [show ((c : Int) * 8 + w).toNat = 8 * c + w by omega]
theorem s_takeSeat (d c : Nat) (hc : c < 6) : zL (d + 1) 50 [.inr (.inr 10), .inl c] SH mm = zvd (zu mm 11 c c) := by
  rw [ze_X7_takeSeat, zb_X7_takeSeat_0]
  simp (disch := omega) only [if_pos, if_neg, Int.toNat_natCast]
theorem s_changeSeats (d s t a b : Nat) (hn : xN mm) (hS : zSe (mm 11) (mm 6 3)) (hs : (s : Int) < mm 6 3) (ht : (t : Int) < mm 6 3) (ha : mm 11 s = a) (hb : mm 11 t = b) : zL (d + 4) 53 [.inr (.inr 10), .inl a, .inl b] SH mm = zvd (zu (zu mm 11 s b) 11 t a) := by
  have := hn.2
  rw [ze_X7_changeSeats, zb_X7_changeSeats_0, s_seatOf d s a hn hS hs ha, zcI_ok, zb_X7_changeSeats_5, s_seatOf d t b hn hS ht hb, zcI_ok, zb_X7_changeSeats_11, s_has (d + 2) s hn, zcI_ok, zb_X7_changeSeats_21, if_pos (show 0 ≤ (s : Int) ∧ (s : Int) < mm 6 3 by omega), if_neg (by decide), s_has (d + 2) t hn, zcI_ok, zb_X7_changeSeats_33, if_pos (show 0 ≤ (t : Int) ∧ (t : Int) < mm 6 3 by omega), if_neg (by decide)]
  simp (disch := omega) only [if_pos, if_neg, Int.toNat_natCast]

/-- all that an image keeps, copied (K) -/
def zkK (mm : zMm) : zMm := fun k j => if k = 15 then (if j = 4 then mm 1 4 else mm 15 j) else if k = 16 then (if j = 3 then mm 2 3 else mm 16 j) else if k = 17 then (if j < 8 then mm 3 j else mm 17 j) else if k = 18 then (if j < 6 then mm 4 j else mm 18 j) else if k = 19 then (if j < 6 then mm 5 j else mm 19 j) else if k = 20 then (if j = 3 then mm 6 3 else mm 20 j) else if k = 21 then (if j < 6 then mm 7 j else mm 21 j) else if k = 22 then (if j < 6 then mm 8 j else mm 22 j) else if k = 23 then (if j < 48 then mm 9 j else mm 23 j) else if k = 24 then (if 2 ≤ j ∧ j ≤ 4 then mm 10 j else mm 24 j) else if k = 25 then (if j < 6 then mm 11 j else mm 25 j) else if k = 26 then (if j = 2 then mm 12 2 else mm 26 j) else if k = 27 then (if j < 60 then mm 13 j else mm 27 j) else if k = 28 then (if j < 60 then mm 14 j else mm 28 j) else mm k j
/-- the cells' copy, so far -/
def zkqK (mm : zMm) (i : Nat) : zMm := fun k j => if k = 21 ∧ j < i then mm 7 j else if k = 22 ∧ j < i then mm 8 j else mm k j
theorem zkqK_s (mm : zMm) (i : Nat) : zu (zu (zkqK mm i) 21 i (mm 7 i)) 22 i (mm 8 i) = zkqK mm (i + 1) := by
  funext k j
  unfold zu zkqK
  by_cases k1 : k = 21
  · subst k1
    by_cases q : j = i
    · subst q; simp
    · by_cases r : j < i
      · simp [q, r, show j < i + 1 by omega]
      · simp [q, r, show ¬ j < i + 1 by omega]
  · by_cases k2 : k = 22
    · subst k2
      by_cases q : j = i
      · subst q; simp
      · by_cases r : j < i
        · simp [q, r, show j < i + 1 by omega]
        · simp [q, r, show ¬ j < i + 1 by omega]
    · simp [k1, k2]
theorem s_copyFromX0K (d : Nat) (hd : ∀ c : Nat, mm 8 c = 0 ∨ mm 8 c = 1) : zL (d + 1) 1 [.inr (.inr 20), .inr (.inr 6)] SH mm = zvd (zu (zcp (zkqK mm 6) 9 0 23 0 48) 20 3 (mm 6 3)) := by
  rw [ze_X0_copyFromK, zb_X0_copyFromK_0]
  have e0 : zkqK mm 0 = mm := by funext k j; simp [zkqK]
  suffices key : zR d 1 2 [some (.inr (.inr 20)), some (.inr (.inr 6)), some (.inl ((0 : Nat) : Int))] [] SH (zkqK mm 0) = zvd (zu (zcp (zkqK mm 6) 9 0 23 0 48) 20 3 (mm 6 3)) by
    rw [e0] at key
    exact key
  refine zup (P := fun i => zR d 1 2 [some (.inr (.inr 20)), some (.inr (.inr 6)), some (.inl (i : Int))] [] SH (zkqK mm i) = _) (n := 6) ?_ ?_ 0 (by omega)
  · rw [zb_X0_copyFromK_2, if_neg (by decide)]
    rfl
  · intro i hi ih
    have e1 : zw ((i : Int) + 1) = ((i + 1 : Nat) : Int) := by rw [zw_id (by omega) (by omega)]; omega
    have x1 : zkqK mm i 7 i = mm 7 i := by unfold zkqK; simp
    have x2 : zkqK mm i 8 i = mm 8 i := by unfold zkqK; simp
    rw [zb_X0_copyFromK_2, Int.toNat_natCast, x1, x2, zkqK_s, e1, if_pos (by omega), if_pos (by omega), if_pos (by omega), if_pos (by omega), if_pos ⟨by omega, hd i⟩]
    exact ih
theorem s_copyFromX1K (d : Nat) (hd : ∀ c : Nat, mm 8 c = 0 ∨ mm 8 c = 1) (hb : mm 10 4 = 0 ∨ mm 10 4 = 1) : zL (d + 2) 13 [.inr (.inr 15), .inr (.inr 1)] SH mm = zvd (zkK mm) := by
  rw [ze_X1_copyFromK, zb_X1_copyFromK_0, ze_X6_copyFromK, zb_X6_copyFromK_0, zcV_vd, zb_X1_copyFromK_11, s_copyFromX0K d (by
    intro c
    simpa [zu, zcp] using hd c), zcV_vd, zb_X1_copyFromK_22, ze_X7_copyFromK, zb_X7_copyFromK_0, if_pos (by simpa [zu, zcp, zkqK] using hb), zcV_vd, zb_X1_copyFromK_33, ze_X2_copyFromK, zb_X2_copyFromK_0, zcV_vd, zb_X1_copyFromK_44]
  refine congrArg zvd ?_
  funext k j
  by_cases q15 : k = 15
  · subst q15
    by_cases r : j = 4
    · subst r; simp [zkK, zu, zcp, zkqK]
    · simp [zkK, zu, zcp, zkqK, r]
  by_cases q16 : k = 16
  · subst q16
    by_cases r : j = 3
    · subst r; simp [zkK, zu, zcp, zkqK]
    · simp [zkK, zu, zcp, zkqK, r]
  by_cases q17 : k = 17
  · subst q17
    by_cases r : j < 8
    · simp [zkK, zu, zcp, zkqK, r]
    · simp [zkK, zu, zcp, zkqK, r]
  by_cases q18 : k = 18
  · subst q18
    by_cases r : j < 6
    · simp [zkK, zu, zcp, zkqK, r]
    · simp [zkK, zu, zcp, zkqK, r]
  by_cases q19 : k = 19
  · subst q19
    by_cases r : j < 6
    · simp [zkK, zu, zcp, zkqK, r]
    · simp [zkK, zu, zcp, zkqK, r]
  by_cases q20 : k = 20
  · subst q20
    by_cases r : j = 3
    · subst r; simp [zkK, zu, zcp, zkqK]
    · simp [zkK, zu, zcp, zkqK, r]
  by_cases q21 : k = 21
  · subst q21
    by_cases r : j < 6
    · simp [zkK, zu, zcp, zkqK, r]
    · simp [zkK, zu, zcp, zkqK, r]
  by_cases q22 : k = 22
  · subst q22
    by_cases r : j < 6
    · simp [zkK, zu, zcp, zkqK, r]
    · simp [zkK, zu, zcp, zkqK, r]
  by_cases q23 : k = 23
  · subst q23
    by_cases r : j < 48
    · simp [zkK, zu, zcp, zkqK, r]
    · simp [zkK, zu, zcp, zkqK, r]
  by_cases q24 : k = 24
  · subst q24
    by_cases r2 : j = 2
    · subst r2; simp [zkK, zu, zcp, zkqK]
    · by_cases r3 : j = 3
      · subst r3; simp [zkK, zu, zcp, zkqK]
      · by_cases r4 : j = 4
        · subst r4; simp [zkK, zu, zcp, zkqK]
        · simp [zkK, zu, zcp, zkqK, r2, r3, r4, show ¬ (2 ≤ j ∧ j ≤ 4) by omega]
  by_cases q25 : k = 25
  · subst q25
    by_cases r : j < 6
    · simp [zkK, zu, zcp, zkqK, r]
    · simp [zkK, zu, zcp, zkqK, r]
  by_cases q26 : k = 26
  · subst q26
    by_cases r : j = 2
    · subst r; simp [zkK, zu, zcp, zkqK]
    · simp [zkK, zu, zcp, zkqK, r]
  by_cases q27 : k = 27
  · subst q27
    by_cases r : j < 60
    · simp [zkK, zu, zcp, zkqK, r]
    · simp [zkK, zu, zcp, zkqK, r]
  by_cases q28 : k = 28
  · subst q28
    by_cases r : j < 60
    · simp [zkK, zu, zcp, zkqK, r]
    · simp [zkK, zu, zcp, zkqK, r]
  simp [zkK, zu, zcp, zkqK, q15, q16, q17, q18, q19, q20, q21, q22, q23, q24, q25, q26, q27, q28]
/-- all that an image keeps, copied (N) -/
def zkN (mm : zMm) : zMm := fun k j => if k = 1 then (if j = 4 then mm 15 4 else mm 1 j) else if k = 2 then (if j = 3 then mm 16 3 else mm 2 j) else if k = 3 then (if j < 8 then mm 17 j else mm 3 j) else if k = 4 then (if j < 6 then mm 18 j else mm 4 j) else if k = 5 then (if j < 6 then mm 19 j else mm 5 j) else if k = 6 then (if j = 3 then mm 20 3 else mm 6 j) else if k = 7 then (if j < 6 then mm 21 j else mm 7 j) else if k = 8 then (if j < 6 then mm 22 j else mm 8 j) else if k = 9 then (if j < 48 then mm 23 j else mm 9 j) else if k = 10 then (if 2 ≤ j ∧ j ≤ 4 then mm 24 j else mm 10 j) else if k = 11 then (if j < 6 then mm 25 j else mm 11 j) else if k = 12 then (if j = 2 then mm 26 2 else mm 12 j) else if k = 13 then (if j < 60 then mm 27 j else mm 13 j) else if k = 14 then (if j < 60 then mm 28 j else mm 14 j) else mm k j
/-- the cells' copy, so far -/
def zkqN (mm : zMm) (i : Nat) : zMm := fun k j => if k = 7 ∧ j < i then mm 21 j else if k = 8 ∧ j < i then mm 22 j else mm k j
theorem zkqN_s (mm : zMm) (i : Nat) : zu (zu (zkqN mm i) 7 i (mm 21 i)) 8 i (mm 22 i) = zkqN mm (i + 1) := by
  funext k j
  unfold zu zkqN
  by_cases k1 : k = 7
  · subst k1
    by_cases q : j = i
    · subst q; simp
    · by_cases r : j < i
      · simp [q, r, show j < i + 1 by omega]
      · simp [q, r, show ¬ j < i + 1 by omega]
  · by_cases k2 : k = 8
    · subst k2
      by_cases q : j = i
      · subst q; simp
      · by_cases r : j < i
        · simp [q, r, show j < i + 1 by omega]
        · simp [q, r, show ¬ j < i + 1 by omega]
    · simp [k1, k2]
theorem s_copyFromX0N (d : Nat) (hd : ∀ c : Nat, mm 22 c = 0 ∨ mm 22 c = 1) : zL (d + 1) 1 [.inr (.inr 6), .inr (.inr 20)] SH mm = zvd (zu (zcp (zkqN mm 6) 23 0 9 0 48) 6 3 (mm 20 3)) := by
  rw [ze_X0_copyFromN, zb_X0_copyFromN_0]
  have e0 : zkqN mm 0 = mm := by funext k j; simp [zkqN]
  suffices key : zR d 1 2 [some (.inr (.inr 6)), some (.inr (.inr 20)), some (.inl ((0 : Nat) : Int))] [] SH (zkqN mm 0) = zvd (zu (zcp (zkqN mm 6) 23 0 9 0 48) 6 3 (mm 20 3)) by
    rw [e0] at key
    exact key
  refine zup (P := fun i => zR d 1 2 [some (.inr (.inr 6)), some (.inr (.inr 20)), some (.inl (i : Int))] [] SH (zkqN mm i) = _) (n := 6) ?_ ?_ 0 (by omega)
  · rw [zb_X0_copyFromN_2, if_neg (by decide)]
    rfl
  · intro i hi ih
    have e1 : zw ((i : Int) + 1) = ((i + 1 : Nat) : Int) := by rw [zw_id (by omega) (by omega)]; omega
    have x1 : zkqN mm i 21 i = mm 21 i := by unfold zkqN; simp
    have x2 : zkqN mm i 22 i = mm 22 i := by unfold zkqN; simp
    rw [zb_X0_copyFromN_2, Int.toNat_natCast, x1, x2, zkqN_s, e1, if_pos (by omega), if_pos (by omega), if_pos (by omega), if_pos (by omega), if_pos ⟨by omega, hd i⟩]
    exact ih
theorem s_copyFromX1N (d : Nat) (hd : ∀ c : Nat, mm 22 c = 0 ∨ mm 22 c = 1) (hb : mm 24 4 = 0 ∨ mm 24 4 = 1) : zL (d + 2) 13 [.inr (.inr 1), .inr (.inr 15)] SH mm = zvd (zkN mm) := by
  rw [ze_X1_copyFromN, zb_X1_copyFromN_0, ze_X6_copyFromN, zb_X6_copyFromN_0, zcV_vd, zb_X1_copyFromN_11, s_copyFromX0N d (by
    intro c
    simpa [zu, zcp] using hd c), zcV_vd, zb_X1_copyFromN_22, ze_X7_copyFromN, zb_X7_copyFromN_0, if_pos (by simpa [zu, zcp, zkqN] using hb), zcV_vd, zb_X1_copyFromN_33, ze_X2_copyFromN, zb_X2_copyFromN_0, zcV_vd, zb_X1_copyFromN_44]
  refine congrArg zvd ?_
  funext k j
  by_cases q1 : k = 1
  · subst q1
    by_cases r : j = 4
    · subst r; simp [zkN, zu, zcp, zkqN]
    · simp [zkN, zu, zcp, zkqN, r]
  by_cases q2 : k = 2
  · subst q2
    by_cases r : j = 3
    · subst r; simp [zkN, zu, zcp, zkqN]
    · simp [zkN, zu, zcp, zkqN, r]
  by_cases q3 : k = 3
  · subst q3
    by_cases r : j < 8
    · simp [zkN, zu, zcp, zkqN, r]
    · simp [zkN, zu, zcp, zkqN, r]
  by_cases q4 : k = 4
  · subst q4
    by_cases r : j < 6
    · simp [zkN, zu, zcp, zkqN, r]
    · simp [zkN, zu, zcp, zkqN, r]
  by_cases q5 : k = 5
  · subst q5
    by_cases r : j < 6
    · simp [zkN, zu, zcp, zkqN, r]
    · simp [zkN, zu, zcp, zkqN, r]
  by_cases q6 : k = 6
  · subst q6
    by_cases r : j = 3
    · subst r; simp [zkN, zu, zcp, zkqN]
    · simp [zkN, zu, zcp, zkqN, r]
  by_cases q7 : k = 7
  · subst q7
    by_cases r : j < 6
    · simp [zkN, zu, zcp, zkqN, r]
    · simp [zkN, zu, zcp, zkqN, r]
  by_cases q8 : k = 8
  · subst q8
    by_cases r : j < 6
    · simp [zkN, zu, zcp, zkqN, r]
    · simp [zkN, zu, zcp, zkqN, r]
  by_cases q9 : k = 9
  · subst q9
    by_cases r : j < 48
    · simp [zkN, zu, zcp, zkqN, r]
    · simp [zkN, zu, zcp, zkqN, r]
  by_cases q10 : k = 10
  · subst q10
    by_cases r2 : j = 2
    · subst r2; simp [zkN, zu, zcp, zkqN]
    · by_cases r3 : j = 3
      · subst r3; simp [zkN, zu, zcp, zkqN]
      · by_cases r4 : j = 4
        · subst r4; simp [zkN, zu, zcp, zkqN]
        · simp [zkN, zu, zcp, zkqN, r2, r3, r4, show ¬ (2 ≤ j ∧ j ≤ 4) by omega]
  by_cases q11 : k = 11
  · subst q11
    by_cases r : j < 6
    · simp [zkN, zu, zcp, zkqN, r]
    · simp [zkN, zu, zcp, zkqN, r]
  by_cases q12 : k = 12
  · subst q12
    by_cases r : j = 2
    · subst r; simp [zkN, zu, zcp, zkqN]
    · simp [zkN, zu, zcp, zkqN, r]
  by_cases q13 : k = 13
  · subst q13
    by_cases r : j < 60
    · simp [zkN, zu, zcp, zkqN, r]
    · simp [zkN, zu, zcp, zkqN, r]
  by_cases q14 : k = 14
  · subst q14
    by_cases r : j < 60
    · simp [zkN, zu, zcp, zkqN, r]
    · simp [zkN, zu, zcp, zkqN, r]
  simp [zkN, zu, zcp, zkqN, q1, q2, q3, q4, q5, q6, q7, q8, q9, q10, q11, q12, q13, q14]
end
end
section
theorem zcnt_lt {P : Nat → Bool} {c : Nat} (h : P c = false) : ∀ {n : Nat}, c < n → zcnt P n < n
  | n + 1, hn => by
    have := zcnt_r P n
    rw [zcnt_s]
    by_cases q : c = n
    · subst q
      rw [h]
      simp only [Bool.false_eq_true, if_false]
      omega
    · have := zcnt_lt h (show c < n by omega)
      split <;> omega
theorem zcnt_up {P : Nat → Bool} {c : Nat} (h : P c = false) : ∀ {n : Nat}, c < n → zcnt (fun x => P x || decide (x = c)) n = zcnt P n + 1
  | n + 1, hn => by
    rw [zcnt_s, zcnt_s]
    by_cases q : c = n
    · subst q
      rw [h, zcnt_cong (P := fun x => P x || decide (x = c)) (Q := P) (fun j hj => by simp [show j ≠ c by omega])]
      simp
    · rw [zcnt_up h (show c < n by omega)]
      simp only [show decide (n = c) = false by simp; omega, Bool.or_false]
      split <;> omega
/-- the states found: the row of them, how many, which -/
def zQ := (Nat → Nat) × Nat × (Nat → Bool)
def zqn (st : zQ) (c : Nat) : zQ := if st.2.2 c then st else (fun i => if i = st.2.1 then c else st.1 i, st.2.1 + 1, fun x => st.2.2 x || decide (x = c))
def zQok (st : zQ) : Prop := (st.2.1 : Int) = zcnt st.2.2 3510 ∧ ∀ i, i < st.2.1 → st.1 i < 3510
theorem zqn_ok {st : zQ} {c : Nat} (h : zQok st) (hc : c < 3510) : zQok (zqn st c) := by
  unfold zqn
  cases hp : st.2.2 c with
  | true => simpa using h
  | false =>
    simp only [Bool.false_eq_true, if_false]
    refine ⟨?_, fun i hi => ?_⟩
    · show ((st.2.1 + 1 : Nat) : Int) = zcnt (fun x => st.2.2 x || decide (x = c)) 3510
      rw [zcnt_up hp hc, ← h.1]
      omega
    · show (if i = st.2.1 then c else st.1 i) < 3510
      have hi : i < st.2.1 + 1 := hi
      split
      · exact hc
      · exact h.2 i (by omega)
theorem zQ_lt {st : zQ} {c : Nat} (h : zQok st) (hc : c < 3510) (hp : st.2.2 c = false) : st.2.1 < 3510 := by
  have := zcnt_lt hp hc
  have := h.1
  omega
/-- what is looked at of a memory beside the search's own rows -/
def zFr (m mm : zMm) : Prop := ∀ k, k ≠ 33 → k ≠ 34 → k ≠ 35 → m k = mm k
theorem zFr_r (mm : zMm) : zFr mm mm := fun _ _ _ _ => rfl
theorem zFr_t {a b c : zMm} (h : zFr a b) (h2 : zFr b c) : zFr a c := fun k x y z => (h k x y z).trans (h2 k x y z)
/-- the class's rows of the search -/
def zCS (st : zQ) (m : zMm) : Prop := m 33 2 = st.2.1 ∧ (∀ i, i < st.2.1 → m 34 i = zsl (st.1 i / 6)) ∧ ∀ e, e < 585 → m 35 (zsl e) = mks (fun s => st.2.2 (6 * e + s)) 6
theorem mks_64 (P : Nat → Bool) : 0 ≤ mks P 6 ∧ mks P 6 < 64 := by
  unfold mks mks mks mks mks mks mks
  cases P 0 <;> cases P 1 <;> cases P 2 <;> cases P 3 <;> cases P 4 <;> cases P 5 <;> decide +kernel
theorem zi2b_id {x : Int} (h0 : 0 ≤ x) (h1 : x < 128) : zi2b x = x := by
  have : ∀ n, n < 128 → zi2b (n : Nat) = (n : Nat) := by decide +kernel
  obtain ⟨n, rfl⟩ : ∃ n : Nat, x = n := ⟨x.toNat, by omega⟩
  exact this n (by omega)
theorem s_note (d e s : Nat) (st : zQ) (m : zMm) (he : e < 585) (hs : s < 6) (ho : zQok st) (h : zCS st m) : ∃ m', zL (d + 2) 38 [.inr (.inr 33), .inl (zsl e), .inl s] SH m = zvd m' ∧ zCS (zqn st (6 * e + s)) m' ∧ zFr m' m := by
  obtain ⟨h1, h2, h3⟩ := h
  have hr := zsl_r he
  have hz := mks_64 (fun s => st.2.2 (6 * e + s))
  by_cases hp : st.2.2 (6 * e + s) = true
  · have hle : (st.2.1 : Int) ≤ 3510 := by rw [ho.1]; exact (zcnt_r _ _).2
    refine ⟨m, ?_, ?_, zFr_r m⟩
    · rw [ze_X3_note, zb_X3_note_0, if_neg (by omega), if_pos (by omega), h1, if_neg (by omega)]
      by_cases c : (st.2.1 : Int) < 3510
      · rw [if_pos c, if_pos (by omega), Int.toNat_natCast, h3 e he, s_holds d _ s (by omega), zcI_ok, zb_X3_note_41, mks_bit _ 6 (by decide), hp, decide_eq_true hs]
        rfl
      · rw [if_neg c]
    · unfold zqn
      rw [hp]
      exact (⟨h1, h2, h3⟩ : zCS st m)
  · have hp : st.2.2 (6 * e + s) = false := by simpa using hp
    have hlt := zQ_lt ho (show 6 * e + s < 3510 by omega) hp
    have es : zi2b (zshl 1 (s : Int)) = zshl 1 s := by
      have : ∀ s, s < 6 → zi2b (zshl 1 ((s : Nat) : Int)) = zshl 1 (s : Nat) := by decide +kernel
      exact this s hs
    have hz2 := mks_64 (fun j => st.2.2 (6 * e + j) || decide (j = s))
    refine ⟨zu (zu (zu m 35 (zsl e) (mks (fun j => st.2.2 (6 * e + j) || decide (j = s)) 6)) 34 st.2.1 (zsl e)) 33 2 ((st.2.1 : Int) + 1), ?_, ?_, ?_⟩
    · rw [ze_X3_note, zb_X3_note_0, if_neg (by omega), if_pos (by omega), h1, if_neg (by omega), if_pos (by omega), if_pos (by omega), Int.toNat_natCast, h3 e he, s_holds d _ s (by omega), zcI_ok, zb_X3_note_41, mks_bit _ 6 (by decide), hp, Bool.and_false, if_pos (by simp), if_pos (by omega), if_pos (by omega), h1, if_pos (by omega), Int.toNat_natCast, Int.toNat_natCast, h3 e he, es, mks_or1 _ (by decide) hs, zi2b_id hz2.1 (by omega), zi2b_id hz2.1 (by omega), zw_id (by omega) (by omega)]
    · unfold zqn
      rw [hp]
      simp only [Bool.false_eq_true, if_false]
      refine ⟨?_, fun i hi => ?_, fun e' he' => ?_⟩
      · rw [zu_s]
        show (st.2.1 : Int) + 1 = ((st.2.1 + 1 : Nat) : Int)
        omega
      · show zu _ 33 2 _ 34 i = ((zsl ((if i = st.2.1 then 6 * e + s else st.1 i) / 6) : Nat) : Int)
        have hi : i < st.2.1 + 1 := hi
        rw [zu_k _ _ (by decide)]
        by_cases q : i = st.2.1
        · rw [q, zu_s, if_pos rfl, show (6 * e + s) / 6 = e by omega]
        · rw [zu_j _ _ q, if_neg q, zu_k _ _ (by decide)]
          exact h2 i (by omega)
      · show zu _ 33 2 _ 35 (zsl e') = mks (fun s' => st.2.2 (6 * e' + s') || decide (6 * e' + s' = 6 * e + s)) 6
        rw [zu_k _ _ (by decide), zu_k _ _ (by decide)]
        by_cases q : e' = e
        · subst q
          rw [zu_s]
          exact mks_cong fun j _ => by simp
        · rw [zu_j _ _ (fun z => q (zsl_inj z he' he)), h3 e' he']
          exact mks_cong fun j hj => by simp [show ¬ (6 * e' + j = 6 * e + s) by omega]
    · intro k k3 k4 k5
      rw [zu_k _ _ k3, zu_k _ _ k4, zu_k _ _ k5]
/-- what comes of a state -/
def zspw (cm : Nat → Bool) (e nx : Nat) : Nat → Nat → zQ → zQ
  | 0, _, st => st
  | f + 1, w, st => zspw cm e nx f (w + 1) (if cm w then zqn st (6 * wpush e w + nx) else st)
theorem zspw_s (cm : Nat → Bool) (e nx f w : Nat) (st : zQ) : zspw cm e nx (f + 1) w st = zspw cm e nx f (w + 1) (if cm w then zqn st (6 * wpush e w + nx) else st) := rfl
def zspr (cm : Nat → Bool) (e nx : Nat) (st : zQ) : zQ := zspw cm e nx 8 0 (if mks cm 8 = 0 then zqn st (6 * e + nx) else st)
theorem zspw_ok {cm : Nat → Bool} {e nx : Nat} (he : e < 585) (hx : nx < 6) : ∀ {f w : Nat} {st : zQ}, w + f = 8 → zQok st → zQok (zspw cm e nx f w st)
  | 0, _, _, _, h => h
  | f + 1, w, st, hw, h => by
    rw [zspw_s]
    refine zspw_ok he hx (by omega) ?_
    split
    · exact zqn_ok h (by have := wpush_lt he (show w < 8 by omega); omega)
    · exact h
theorem zspr_ok {cm : Nat → Bool} {e nx : Nat} {st : zQ} (he : e < 585) (hx : nx < 6) (h : zQok st) : zQok (zspr cm e nx st) := by
  unfold zspr
  refine zspw_ok he hx rfl ?_
  split
  · exact zqn_ok h (by omega)
  · exact h
theorem s_spread_loop (d e nx : Nat) (cm : Nat → Bool) (he : e < 585) (hx : nx < 6) : ∀ (f w : Nat) (st : zQ) (m : zMm), w + f = 8 → zQok st → zCS st m → ∃ m', zR (d + 2) 37 30 [some (.inr (.inr 33)), none, some (.inl (zsl e : Int)), none, some (.inl (nx : Int)), some (.inl (mks cm 8)), some (.inl (w : Int))] [] SH m = zvd m' ∧ zCS (zspw cm e nx f w st) m' ∧ zFr m' m
  | 0, w, st, m, h, ho, hc => ⟨m, by rw [zb_X3_spread_30, if_neg (by omega)], hc, zFr_r m⟩
  | f + 1, w, st, m, h, ho, hc => by
    have e1 : zw ((w : Int) + 1) = ((w + 1 : Nat) : Int) := by rw [zw_id (by omega) (by omega)]; omega
    rw [zb_X3_spread_30, if_pos (by omega), s_holds (d + 1) _ w (by omega), zcI_ok, zb_X3_spread_44, mks_bit cm 8 (by decide), decide_eq_true (show w < 8 by omega), Bool.true_and, e1, zspw_s]
    cases hp : cm w with
    | false =>
      rw [if_pos (by simp)]
      simp only [Bool.false_eq_true, if_false]
      exact s_spread_loop d e nx cm he hx f (w + 1) st m (by omega) ho hc
    | true =>
      rw [if_neg (by simp), s_slipWith (d + 1) he (by omega), zcI_ok, zb_X3_spread_54]
      simp only [if_true]
      have hw := wpush_lt he (show w < 8 by omega)
      obtain ⟨m1, x1, x2, x3⟩ := s_note d (wpush e w) nx st m hw hx ho hc
      rw [x1, zcV_vd, zb_X3_spread_59, e1]
      obtain ⟨m2, y1, y2, y3⟩ := s_spread_loop d e nx cm he hx f (w + 1) (zqn st (6 * wpush e w + nx)) m1 (by omega) (zqn_ok ho (by omega)) x2
      exact ⟨m2, y1, y2, zFr_t y3 x3⟩
section
variable {mm : zMm}
theorem f_canCome (d c e : Nat) {m : zMm} (hf : zFr m mm) (hc : (c : Int) < mm 6 3) (he : e < 585) (hce : zCe (mm 7) (mm 9) (mm 8) (mm 6 3)) (ht : zTg (mm 3) (mm 4) (mm 5) (mm 2 3)) : zL (d + 3) 14 [.inr (.inr 1), .inl c, .inl (zsl e)] SH m = zok (mks (xcm mm c e) 8) m := by
  have g : ∀ k, k < 33 → m k = mm k := fun k hk => hf k (by omega) (by omega) (by omega)
  have := s_canCome (mm := m) d c e (by rw [g 6 (by decide)]; exact hc) he (by rw [g 6 (by decide), g 7 (by decide), g 8 (by decide), g 9 (by decide)]; exact hce) (by rw [g 2 (by decide), g 3 (by decide), g 4 (by decide), g 5 (by decide)]; exact ht)
  unfold xcm at this ⊢
  rw [g 2 (by decide), g 3 (by decide), g 4 (by decide), g 5 (by decide), g 7 (by decide), g 9 (by decide)] at this
  exact this
theorem s_spread (d e s nx : Nat) (st : zQ) (m : zMm) (hf : zFr m mm) (hs : (s : Int) < mm 6 3) (he : e < 585) (hx : nx < 6) (hS : zSe (mm 11) (mm 6 3)) (hce : zCe (mm 7) (mm 9) (mm 8) (mm 6 3)) (ht : zTg (mm 3) (mm 4) (mm 5) (mm 2 3)) (ho : zQok st) (hc : zCS st m) : ∃ m', zL (d + 4) 37 [.inr (.inr 33), .inr (.inr 1), .inl (zsl e), .inl s, .inl nx] SH m = zvd m' ∧ zCS (zspr (xcm mm (mm 11 s).toNat e) e nx st) m' ∧ zFr m' m := by
  have g : ∀ k, k < 33 → m k = mm k := fun k hk => hf k (by omega) (by omega) (by omega)
  have hn : xN m := by unfold xN; rw [g 6 (by decide)]; exact ⟨hce.1, hce.2.1⟩
  have h11 := hS.1 s hs
  have e11 : mm 11 s = ((mm 11 s).toNat : Int) := by omega
  have hcc := f_canCome (mm := mm) d (mm 11 s).toNat e hf (by omega) he hce ht
  rw [← e11] at hcc
  rw [ze_X3_spread, zb_X3_spread_0, s_cellOn (mm := m) (d + 1) s hn (by rw [g 6 (by decide)]; exact hs), zcI_ok, zb_X3_spread_9, g 11 (by decide), hcc, zcI_ok, zb_X3_spread_13]
  unfold zspr
  by_cases c : mks (xcm mm (mm 11 s).toNat e) 8 = 0
  · obtain ⟨m1, x1, x2, x3⟩ := s_note (d + 1) e nx st m he hx ho hc
    rw [if_pos c, if_pos c, x1, zcV_vd, zb_X3_spread_27]
    obtain ⟨m2, y1, y2, y3⟩ := s_spread_loop (d + 1) e nx (xcm mm (mm 11 s).toNat e) he hx 8 0 _ m1 rfl (zqn_ok ho (show 6 * e + nx < 3510 by omega)) x2
    exact ⟨m2, zR_weak (by repeat first | exact zle_nil | apply zle_c | apply zle_n) y1, y2, zFr_t y3 x3⟩
  · rw [if_neg c, if_neg c]
    obtain ⟨m2, y1, y2, y3⟩ := s_spread_loop (d + 1) e nx (xcm mm (mm 11 s).toNat e) he hx 8 0 st m rfl ho hc
    exact ⟨m2, zR_weak (by repeat first | exact zle_nil | apply zle_c | apply zle_n) y1, y2, y3⟩
/-- the book can't go on -/
def zover (al : Nat → Bool) (cm : Nat → Nat → Nat → Bool) (e : Nat) : Bool := decide (∀ c : Nat, c < 6 → (al c && decide (mks (cm c e) 8 ≠ 0)) = false)
def zaim (al : Nat → Bool) (cm : Nat → Nat → Nat → Bool) (words : Int) (n e : Nat) : Bool := if n = 0 then zover al cm e else zends e words n
theorem f_over (d e : Nat) {m : zMm} (hf : zFr m mm) (he : e < 585) (hce : zCe (mm 7) (mm 9) (mm 8) (mm 6 3)) (ht : zTg (mm 3) (mm 4) (mm 5) (mm 2 3)) : zL (d + 4) 15 [.inr (.inr 1), .inl (zsl e)] SH m = zok (if zover (xal mm) (xcm mm) e then 1 else 0) m := by
  have g : ∀ k, k < 33 → m k = mm k := fun k hk => hf k (by omega) (by omega) (by omega)
  have e1 : xal m = xal mm := by unfold xal; rw [g 6 (by decide), g 8 (by decide)]
  have e2 : xcm m = xcm mm := by unfold xcm; rw [g 2 (by decide), g 3 (by decide), g 4 (by decide), g 5 (by decide), g 7 (by decide), g 9 (by decide)]
  have := s_hasEnded (mm := m) d e he (by rw [g 6 (by decide), g 7 (by decide), g 8 (by decide), g 9 (by decide)]; exact hce) (by rw [g 2 (by decide), g 3 (by decide), g 4 (by decide), g 5 (by decide)]; exact ht)
  rw [e1, e2] at this
  rw [this]
  unfold zover
  simp only [decide_eq_true_eq]
theorem s_hasAim (d first : Nat) (words : Int) (n : Nat) (hn : n ≤ 3) (st : zQ) (m : zMm) (hf : zFr m mm) (hce : zCe (mm 7) (mm 9) (mm 8) (mm 6 3)) (ht : zTg (mm 3) (mm 4) (mm 5) (mm 2 3)) (ho : zQok st) (hc : zCS st m) (h1 : first ≤ st.2.1) : zL (d + 5) 35 [.inr (.inr 33), .inr (.inr 1), .inl first, .inl (st.2.1 : Int), .inl words, .inl n] SH m = zok (if 0 ≤ zfst (fun i => zaim (xal mm) (xcm mm) words n (st.1 i / 6)) (st.2.1 - first) first then 1 else 0) m := by
  have hle : (st.2.1 : Int) ≤ 3510 := by rw [ho.1]; exact (zcnt_r _ _).2
  have key : ∀ (f i : Nat), i + f = st.2.1 → zR (d + 4) 35 3 [some (.inr (.inr 33)), some (.inr (.inr 1)), none, some (.inl (st.2.1 : Int)), some (.inl words), some (.inl (n : Int)), some (.inl (i : Int))] [] SH m = zok (if 0 ≤ zfst (fun i => zaim (xal mm) (xcm mm) words n (st.1 i / 6)) f i then 1 else 0) m := by
    intro f
    induction f with
    | zero =>
      intro i h
      rw [zb_X3_hasAim_3, if_neg (by omega)]
      rfl
    | succ f ih =>
      intro i h
      have e1 : zw ((i : Int) + 1) = ((i + 1 : Nat) : Int) := by rw [zw_id (by omega) (by omega)]; omega
      have hq := ho.2 i (by omega)
      have hs : zL (d + 4) 36 [.inr (.inr 33), .inl (i : Int)] SH m = zok (zsl (st.1 i / 6)) m := by
        rw [ze_X3_slipAt, zb_X3_slipAt_0]
        simp (disch := omega) only [if_pos, if_neg, Int.toNat_natCast]
        rw [hc.2.1 i (by omega)]
      rw [zb_X3_hasAim_3, if_pos (by omega), zfst_s]
      by_cases c : n = 0
      · rw [if_pos (by omega), hs, zcI_ok, zb_X3_hasAim_21, f_over (mm := mm) d _ hf (by omega) hce ht, zcI_ok, zb_X3_hasAim_24, e1]
        unfold zaim
        rw [if_pos c]
        cases hz : zover (xal mm) (xcm mm) (st.1 i / 6) with
        | true => 
          rw [if_pos rfl, if_neg (by decide), if_pos rfl, if_pos (by omega)]
        | false =>
          simp only [Bool.false_eq_true, if_false, if_true]
          rw [ih (i + 1) (by omega)]
          rfl
      · rw [if_neg (by omega), hs, zcI_ok, zb_X3_hasAim_36, s_slipEndsWith (d + 3) (by omega) (by omega), zcI_ok, zb_X3_hasAim_43, e1]
        unfold zaim
        rw [if_neg c]
        cases hz : zends (st.1 i / 6) words n with
        | true => 
          rw [if_pos rfl, if_neg (by decide), if_pos rfl, if_pos (by omega)]
        | false =>
          simp only [Bool.false_eq_true, if_false, if_true]
          rw [ih (i + 1) (by omega)]
          rfl
  rw [ze_X3_hasAim, zb_X3_hasAim_0]
  exact zR_weak (by repeat first | exact zle_nil | apply zle_c | apply zle_n) (key (st.2.1 - first) first (by omega))
end
end
section
theorem zfind_n {al : Nat → Bool} {n k seat : Nat} : ∀ {f i : Nat}, zfind al n k seat f i = -4 → ∀ j, i ≤ j → j < i + f → al (zpo n k seat j) = false
  | 0, i, _, j, a, b => absurd b (by omega)
  | f + 1, i, h, j, a, b => by
    unfold zfind at h
    cases q : al (zpo n k seat i) with
    | true =>
      rw [q] at h
      simp only [if_true] at h
      omega
    | false =>
      rw [q] at h
      simp only [Bool.false_eq_true, if_false] at h
      by_cases r : j = i
      · rw [r]; exact q
      · exact zfind_n h j (by omega) (by omega)
/-- behind a seat whose cell lives there is one whose cell lives -/
theorem zliv_al {al : Nat → Bool} {n k s : Nat} (hs : s < n) (ha : al s = true) : ∃ t : Nat, zliv al n k s = t ∧ t < n ∧ al t = true := by
  rcases zfind_r (al := al) (n := n) (k := k) (seat := s) (show 0 < n by omega) (f := n) (i := 1) with h | h
  · have := zfind_n h n (by omega) (by omega)
    have e : zpo n k s n = s := by
      unfold zpo
      rw [Nat.add_mul_mod_self_left, Nat.mod_eq_of_lt hs]
    rw [e, ha] at this
    cases this
  · exact h
/-- a turn's states, from one on -/
def zlev (cm : Nat → Nat → Bool) (nx : Nat) : Nat → Nat → zQ → zQ
  | 0, _, st => st
  | f + 1, i, st => zlev cm nx f (i + 1) (zspr (cm (st.1 i / 6)) (st.1 i / 6) nx st)
theorem zlev_s (cm : Nat → Nat → Bool) (nx f i : Nat) (st : zQ) : zlev cm nx (f + 1) i st = zlev cm nx f (i + 1) (zspr (cm (st.1 i / 6)) (st.1 i / 6) nx st) := rfl
/-- growing: what is found stays -/
def zQg (a b : zQ) : Prop := a.2.1 ≤ b.2.1 ∧ ∀ i, i < a.2.1 → b.1 i = a.1 i
theorem zQg_r (a : zQ) : zQg a a := ⟨Nat.le_refl _, fun _ _ => rfl⟩
theorem zQg_t {a b c : zQ} (h : zQg a b) (h2 : zQg b c) : zQg a c := ⟨Nat.le_trans h.1 h2.1, fun i hi => (h2.2 i (Nat.lt_of_lt_of_le hi h.1)).trans (h.2 i hi)⟩
theorem zqn_g (st : zQ) (c : Nat) : zQg st (zqn st c) := by
  unfold zqn
  cases hp : st.2.2 c with
  | true => exact zQg_r st
  | false =>
    refine ⟨Nat.le_succ _, fun i hi => ?_⟩
    show (if i = st.2.1 then c else st.1 i) = st.1 i
    rw [if_neg (by omega)]
theorem zspw_g {cm : Nat → Bool} {e nx : Nat} : ∀ {f w : Nat} {st : zQ}, zQg st (zspw cm e nx f w st)
  | 0, _, st => zQg_r st
  | f + 1, w, st => by
    rw [zspw_s]
    refine zQg_t ?_ zspw_g
    split
    · exact zqn_g _ _
    · exact zQg_r st
theorem zspr_g {cm : Nat → Bool} {e nx : Nat} {st : zQ} : zQg st (zspr cm e nx st) := by
  unfold zspr
  refine zQg_t ?_ zspw_g
  split
  · exact zqn_g _ _
  · exact zQg_r st
theorem zlev_ok {cm : Nat → Nat → Bool} {nx : Nat} (hx : nx < 6) : ∀ {f i : Nat} {st : zQ}, i + f ≤ st.2.1 → zQok st → zQok (zlev cm nx f i st)
  | 0, _, _, _, h => h
  | f + 1, i, st, hi, h => by
    rw [zlev_s]
    have := h.2 i (by omega)
    have g := zspr_g (cm := cm (st.1 i / 6)) (e := st.1 i / 6) (nx := nx) (st := st)
    exact zlev_ok hx (by have := g.1; omega) (zspr_ok (by omega) hx h)
theorem zlev_g {cm : Nat → Nat → Bool} {nx : Nat} : ∀ {f i : Nat} {st : zQ}, zQg st (zlev cm nx f i st)
  | 0, _, st => zQg_r st
  | f + 1, i, st => by
    rw [zlev_s]
    exact zQg_t zspr_g zlev_g
/-- the fewest turns -/
def zftn (cm : Nat → Nat → Nat → Bool) (aim : Nat → Bool) (nxt : Nat → Nat) : Nat → Nat → Nat → Nat → zQ → Int
  | 0, _, _, _, _ => -4
  | f + 1, t, s, first, st => if 0 ≤ zfst (fun i => aim (st.1 i / 6)) (st.2.1 - first) first then (t : Int) else zftn cm aim nxt f (t + 1) (nxt s) st.2.1 (zlev (cm s) (nxt s) (st.2.1 - first) first st)
section
variable {mm : zMm}
theorem s_level (d s nx last t : Nat) (words n : Int) (hs : (s : Int) < mm 6 3) (hx : nx < 6) (hS : zSe (mm 11) (mm 6 3)) (hce : zCe (mm 7) (mm 9) (mm 8) (mm 6 3)) (ht : zTg (mm 3) (mm 4) (mm 5) (mm 2 3)) (hl : last ≤ 3510) (ht30 : t ≤ 30) : ∀ (f i : Nat) (st : zQ) (m : zMm), i + f = last → last ≤ st.2.1 → zFr m mm → zQok st → zCS st m →
    ∃ m', zR (d + 5) 34 113 [some (.inr (.inr 33)), some (.inr (.inr 1)), some (.inl words), some (.inl n), some (.inl (s : Int)), none, some (.inl (t : Int)), some (.inl (last : Int)), some (.inl (nx : Int)), some (.inl (i : Int))] [] SH m = zR (d + 5) 34 68 [some (.inr (.inr 33)), some (.inr (.inr 1)), some (.inl words), some (.inl n), some (.inl (nx : Int)), some (.inl (last : Int)), some (.inl ((t + 1 : Nat) : Int)), some (.inl (last : Int)), some (.inl (nx : Int)), some (.inl (last : Int))] [] SH m' ∧ zCS (zlev (fun e => xcm mm (mm 11 s).toNat e) nx f i st) m' ∧ zFr m' mm
  | 0, i, st, m, h, h2, hf, ho, hc => by
    obtain rfl : i = last := by omega
    exact ⟨m, by rw [zb_X3_fewestTurns_113, if_neg (by omega), show zw ((t : Int) + 1) = ((t + 1 : Nat) : Int) by rw [zw_id (by omega) (by omega)]; omega], hc, hf⟩
  | f + 1, i, st, m, h, h2, hf, ho, hc => by
    have e1 : zw ((i : Int) + 1) = ((i + 1 : Nat) : Int) := by rw [zw_id (by omega) (by omega)]; omega
    have hq := ho.2 i (by omega)
    have hsl : zL (d + 5) 36 [.inr (.inr 33), .inl (i : Int)] SH m = zok (zsl (st.1 i / 6)) m := by
      rw [ze_X3_slipAt, zb_X3_slipAt_0]
      simp (disch := omega) only [if_pos, if_neg, Int.toNat_natCast]
      rw [hc.2.1 i (by omega)]
    obtain ⟨m1, x1, x2, x3⟩ := s_spread (mm := mm) (d + 1) (st.1 i / 6) s nx st m hf hs (by omega) hx hS hce ht ho hc
    have g := zspr_g (cm := xcm mm (mm 11 s).toNat (st.1 i / 6)) (e := st.1 i / 6) (nx := nx) (st := st)
    obtain ⟨m2, y1, y2, y3⟩ := s_level d s nx last t words n hs hx hS hce ht hl ht30 f (i + 1) _ m1 (by omega) (Nat.le_trans h2 g.1) (zFr_t x3 hf) (zspr_ok (by omega) hx ho) x2
    refine ⟨m2, ?_, y2, y3⟩
    rw [zb_X3_fewestTurns_113, if_pos (by omega), hsl, zcI_ok, zb_X3_fewestTurns_128, x1, zcV_vd, zb_X3_fewestTurns_135, e1]
    exact y1
theorem f_seatBehind (d s n : Nat) {m : zMm} (hf : zFr m mm) (hnn : mm 6 3 = n) (hn : xN mm) (hS : zSe (mm 11) (mm 6 3)) (hs : s < n) : zL (d + 4) 55 [.inr (.inr 10), .inl s] SH m = zok (zliv (xas mm) n (zstep1 (mm 10 4) n) s) m := by
  have g : ∀ k, k < 33 → m k = mm k := fun k hk => hf k (by omega) (by omega) (by omega)
  have e1 : xas m = xas mm := by unfold xas xal; rw [g 6 (by decide), g 8 (by decide), g 11 (by decide)]
  have := s_seatBehind (mm := m) d s n (by rw [g 6 (by decide)]; exact hnn) (by unfold xN; rw [g 6 (by decide)]; exact hn) (by rw [g 6 (by decide), g 11 (by decide)]; exact hS) (Or.inl hs)
  rw [e1, g 10 (by decide)] at this
  exact this
theorem s_turns (d n : Nat) (words : Int) (k : Nat) (hk : k ≤ 3) (hnn : mm 6 3 = n) (hS : zSe (mm 11) (mm 6 3)) (hce : zCe (mm 7) (mm 9) (mm 8) (mm 6 3)) (ht : zTg (mm 3) (mm 4) (mm 5) (mm 2 3)) : ∀ (f t s first : Nat) (st : zQ) (m : zMm) (j8 j9 : Option zV), t + f = 31 → s < n → xas mm s = true → first ≤ st.2.1 → zFr m mm → zQok st → zCS st m →
    ∃ m', zR (d + 5) 34 68 [some (.inr (.inr 33)), some (.inr (.inr 1)), some (.inl words), some (.inl (k : Int)), some (.inl (s : Int)), some (.inl (first : Int)), some (.inl (t : Int)), none, none, none] [] SH m = zok (zftn (fun s e => xcm mm (mm 11 s).toNat e) (zaim (xal mm) (xcm mm) words k) (fun s => (zliv (xas mm) n (zstep1 (mm 10 4) n) s).toNat) f t s first st) m' ∧ zFr m' mm
  | 0, t, s, first, st, m, j8, j9, h, hs, hal, h1, hf, ho, hc => ⟨m, by rw [zb_X3_fewestTurns_68, if_pos (by omega)]; rfl, hf⟩
  | f + 1, t, s, first, st, m, j8, j9, h, hs, hal, h1, hf, ho, hc => by
    have hn : xN mm := ⟨hce.1, hce.2.1⟩
    have hn6 := hn.2
    have hle : (st.2.1 : Int) ≤ 3510 := by rw [ho.1]; exact (zcnt_r _ _).2
    rw [zb_X3_fewestTurns_68, if_neg (by omega), hc.1, s_hasAim (mm := mm) d first words k hk st m hf hce ht ho hc h1, zcI_ok, zb_X3_fewestTurns_92]
    unfold zftn
    by_cases c : 0 ≤ zfst (fun i => zaim (xal mm) (xcm mm) words k (st.1 i / 6)) (st.2.1 - first) first
    · rw [if_pos c, if_neg (by decide), if_pos c]
      exact ⟨m, rfl, hf⟩
    · obtain ⟨nx, e2, e3, e4⟩ := zliv_al (k := zstep1 (mm 10 4) n) hs hal
      rw [if_neg c, if_pos rfl, if_neg c, f_seatBehind (mm := mm) (d + 1) s n hf hnn hn hS hs, zcI_ok, zb_X3_fewestTurns_107, e2]
      simp only [e2, Int.toNat_natCast]
      obtain ⟨m1, x1, x2, x3⟩ := s_level (mm := mm) d s nx st.2.1 t words k (by omega) (by omega) hS hce ht (by omega) (by omega) (st.2.1 - first) first st m (by omega) (Nat.le_refl _) hf ho hc
      have g := zlev_g (cm := fun e => xcm mm (mm 11 s).toNat e) (nx := nx) (f := st.2.1 - first) (i := first) (st := st)
      have ok := zlev_ok (cm := fun e => xcm mm (mm 11 s).toNat e) (nx := nx) (show nx < 6 by omega) (f := st.2.1 - first) (i := first) (st := st) (by omega) ho
      obtain ⟨m2, y1, y2⟩ := s_turns d n words k hk hnn hS hce ht f (t + 1) nx st.2.1 _ m1 none none (by omega) e3 e4 g.1 x3 ok x2
      refine ⟨m2, ?_, y2⟩
      exact zR_weak (by repeat first | exact zle_nil | apply zle_c | apply zle_n) (x1.trans (zR_weak (by repeat first | exact zle_nil | apply zle_c | apply zle_n) y1))
end
end
section
theorem zw_dec (n : Nat) (h : n < 2147483647) : zw (((n + 1 : Nat) : Int) - 1) = (n : Int) := by rw [zw_id (by omega) (by omega)]; omega
theorem zw_inc (n : Nat) (h : n < 2147483647) : zw ((n : Int) + 1) = ((n + 1 : Nat) : Int) := by rw [zw_id (by omega) (by omega)]; omega
/-- a word's weight, times its worth -/
def zfw (Wt : Nat → Int) (P : Nat → Bool) (c : Nat) (V : Nat → Int) (w : Nat) : Int := if P w then Wt (8 * c + w) * V w else 0
theorem zfw_f {Wt : Nat → Int} {P : Nat → Bool} {c : Nat} {V : Nat → Int} {w : Nat} (h : P w = false) : zfw Wt P c V w = 0 := by unfold zfw; rw [h]; rfl
theorem zfw_t {Wt : Nat → Int} {P : Nat → Bool} {c : Nat} {V : Nat → Int} {w : Nat} (h : P w = true) : zfw Wt P c V w = Wt (8 * c + w) * V w := by unfold zfw; rw [h]; rfl
theorem zwt_f {Wt : Nat → Int} {P : Nat → Bool} {c w : Nat} (h : P w = false) : zwt Wt P c w = 0 := by unfold zwt; rw [h]; rfl
theorem zwt_t {Wt : Nat → Int} {P : Nat → Bool} {c w : Nat} (h : P w = true) : zwt Wt P c w = Wt (8 * c + w) := by unfold zwt; rw [h]; rfl
theorem zsum_mul {f g : Nat → Int} (h : ∀ j, 0 ≤ f j ∧ f j ≤ 1000 * g j) : ∀ n : Nat, 0 ≤ zsum f n ∧ zsum f n ≤ 1000 * zsum g n
  | 0 => by simp [zsum]
  | n + 1 => by
    have h1 := zsum_mul h n
    have h2 := h n
    rw [zsum_s, zsum_s]
    omega
theorem zfw_r {Wt : Nat → Int} (hW : ∀ j : Nat, 0 ≤ Wt j ∧ Wt j ≤ 9) {P : Nat → Bool} {c : Nat} {V : Nat → Int} (hV : ∀ w, 0 ≤ V w ∧ V w ≤ 1000) (w : Nat) : 0 ≤ zfw Wt P c V w ∧ zfw Wt P c V w ≤ 1000 * zwt Wt P c w := by
  have h1 := hW (8 * c + w)
  have hv := hV w
  cases h : P w with
  | false => rw [zfw_f h, zwt_f h]; decide
  | true =>
    rw [zfw_t h, zwt_t h]
    have := Int.mul_nonneg h1.1 hv.1
    have h3 := Int.mul_le_mul_of_nonneg_left hv.2 h1.1
    omega
/-- how soon a word comes -/
def zsoon (cm : Nat → Nat → Nat → Bool) (Wt : Nat → Int) (S : Nat → Nat) (nxt : Nat → Nat) (word : Nat) : Nat → Nat → Nat → Int
  | 0, _, _ => 0
  | n + 1, s, e => if mks (cm (S s) e) 8 = 0 then zsoon cm Wt S nxt word n (nxt s) e else zsum (zfw Wt (cm (S s) e) (S s) (fun w => if w = word then 1000 else zsoon cm Wt S nxt word n (nxt s) (wpush e w))) 8 / zsum (zwt Wt (cm (S s) e) (S s)) 8
theorem zsoon_s (cm : Nat → Nat → Nat → Bool) (Wt : Nat → Int) (S : Nat → Nat) (nxt : Nat → Nat) (word n s e : Nat) : zsoon cm Wt S nxt word (n + 1) s e = if mks (cm (S s) e) 8 = 0 then zsoon cm Wt S nxt word n (nxt s) e else zsum (zfw Wt (cm (S s) e) (S s) (fun w => if w = word then 1000 else zsoon cm Wt S nxt word n (nxt s) (wpush e w))) 8 / zsum (zwt Wt (cm (S s) e) (S s)) 8 := rfl
theorem zsoon_r {cm : Nat → Nat → Nat → Bool} {Wt : Nat → Int} {S nxt : Nat → Nat} {word : Nat} (hW : ∀ j : Nat, 0 ≤ Wt j ∧ Wt j ≤ 9) : ∀ n s e : Nat, 0 ≤ zsoon cm Wt S nxt word n s e ∧ zsoon cm Wt S nxt word n s e ≤ 1000
  | 0, _, _ => by simp [zsoon]
  | n + 1, s, e => by
    rw [zsoon_s]
    split
    · exact zsoon_r hW n _ _
    · have h := zsum_mul (zfw_r hW (P := cm (S s) e) (c := S s) (V := fun w => if w = word then 1000 else zsoon cm Wt S nxt word n (nxt s) (wpush e w)) (fun w => by
        show 0 ≤ (if w = word then (1000 : Int) else _) ∧ (if w = word then (1000 : Int) else _) ≤ 1000
        split
        · exact ⟨by decide, by decide⟩
        · exact zsoon_r hW n _ _)) 8
      have hg := zwt_r hW (cm (S s) e) (S s) 8
      refine ⟨Int.ediv_nonneg h.1 hg.1, ?_⟩
      by_cases q : zsum (zwt Wt (cm (S s) e) (S s)) 8 = 0
      · rw [q, Int.ediv_zero]
        decide
      · exact Int.ediv_le_of_le_mul (by omega) h.2
/-- what can come has weight -/
def zcmw (cm : Nat → Nat → Nat → Bool) (Wt : Nat → Int) : Prop := ∀ c e w, cm c e w = true → 0 < Wt (8 * c + w)
theorem zcmw_p {cm : Nat → Nat → Nat → Bool} {Wt : Nat → Int} (hW : ∀ j : Nat, 0 ≤ Wt j ∧ Wt j ≤ 9) (h : zcmw cm Wt) {c e : Nat} (h0 : mks (cm c e) 8 ≠ 0) : 0 < zsum (zwt Wt (cm c e) c) 8 := by
  have h1 : ¬ ∀ j, j < 8 → cm c e j = false := fun q => h0 ((mks_0 (by decide)).mpr q)
  have h2 : ∃ j, j < 8 ∧ cm c e j = true := by
    apply Classical.byContradiction
    intro q
    exact h1 fun j hj => by
      cases hz : cm c e j with
      | false => rfl
      | true => exact absurd ⟨j, hj, hz⟩ q
  obtain ⟨j, hj, hz⟩ := h2
  have hpos := h c e j hz
  have hnn : ∀ i, 0 ≤ zwt Wt (cm c e) c i := fun i => by
    unfold zwt
    have := hW (8 * c + i)
    split <;> omega
  have h3 := zsum_le hnn (show j + 1 ≤ 8 by omega)
  have h4 := zsum_le hnn (show 0 ≤ j by omega)
  rw [zsum_s] at h3
  have h5 : zwt Wt (cm c e) c j = Wt (8 * c + j) := by unfold zwt; rw [hz]; rfl
  have h6 : zsum (zwt Wt (cm c e) c) 0 = 0 := rfl
  omega
section
variable {mm : zMm}
theorem xcm_w : zcmw (xcm mm) (mm 9) := by
  intro c e w h
  unfold xcm zcome at h
  simp only [Bool.and_eq_true, decide_eq_true_eq] at h
  exact h.2.1
/-- the seats' cells; the seat behind -/
def xS (mm : zMm) (s : Nat) : Nat := (mm 11 s).toNat
def xnx (mm : zMm) (s : Nat) : Nat := (zliv (xas mm) (mm 6 3).toNat (zstep1 (mm 10 4) (mm 6 3).toNat) s).toNat
theorem s_soon_loop (D n word c e nx : Nat) (P : Nat → Bool) (V : Nat → Int) (hD : 5 ≤ D) (hw : word < 8) (h5 : n < 5) (he : e < 585) (hn : xN mm) (hc : (c : Int) < mm 6 3) (hW : ∀ j : Nat, 0 ≤ mm 9 j ∧ mm 9 j ≤ 9) (hV : ∀ w, 0 ≤ V w ∧ V w ≤ 1000) (hpos : 0 < zsum (zwt (mm 9) P c) 8) (hv : V word = 1000)
    (hcall : ∀ w, w < 8 → w ≠ word → zL D 85 [.inr (.inr 1), .inl nx, .inl (zsl (wpush e w)), .inl word, .inl n] SH mm = zok (V w) mm) :
    zR D 85 70 [some (.inr (.inr 1)), none, some (.inl (zsl e : Int)), some (.inl (word : Int)), some (.inl ((n + 1 : Nat) : Int)), some (.inl (c : Int)), some (.inl (nx : Int)), some (.inl (mks P 8)), some (.inl 0), some (.inl 0), some (.inl 0), none, none] [] SH mm = zok (zsum (zfw (mm 9) P c V) 8 / zsum (zwt (mm 9) P c) 8) mm := by
  obtain ⟨D, rfl⟩ : ∃ D', D = D' + 5 := ⟨D - 5, by omega⟩
  have hft := zfw_r hW (P := P) (c := c) hV
  have hf8 := zsum_mul hft
  have key : ∀ i, i ≤ 8 → zR (D + 5) 85 70 [some (.inr (.inr 1)), none, some (.inl (zsl e : Int)), some (.inl (word : Int)), some (.inl ((n + 1 : Nat) : Int)), some (.inl (c : Int)), some (.inl (nx : Int)), some (.inl (mks P 8)), some (.inl (zsum (zfw (mm 9) P c V) i)), some (.inl (zsum (zwt (mm 9) P c) i)), some (.inl (i : Int)), none, none] [] SH mm = zok (zsum (zfw (mm 9) P c V) 8 / zsum (zwt (mm 9) P c) 8) mm := by
    refine zup ?_ ?_
    · have h8 := hf8 8
      have hg8 := zwt_r hW P c 8
      rw [zb_X8_soonWithin_70, if_neg (by decide), if_pos hpos, if_neg (by omega), zdiv_n h8.1 (by omega) hpos (by omega)]
    · intro i hi ihl
      rw [zsum_s, zsum_s] at ihl
      rw [zb_X8_soonWithin_70, if_pos (by omega), s_holds (D + 4) _ i (by omega), zcI_ok, zb_X8_soonWithin_84, mks_bit _ 8 (by decide), decide_eq_true (show i < 8 by omega), Bool.true_and, zw_inc i (by omega)]
      have hgi := zwt_r hW P c i
      have hfi := hf8 i
      have hti := hft i
      have hwi := hW (8 * c + i)
      cases hp : P i with
      | false =>
        rw [zfw_f hp, zwt_f hp, Int.add_zero, Int.add_zero] at ihl
        rw [if_pos (by simp)]
        exact ihl
      | true =>
        rw [zfw_t hp, zwt_t hp] at ihl hti
        rw [if_neg (by simp)]
        by_cases q : i = word
        · subst q
          rw [hv] at ihl hti
          rw [if_pos rfl, s_weightOf (D + 3) c i hn hc (by omega), zcI_ok, zb_X8_soonWithin_129, zw_inc i (by omega), zw_id (x := mm 9 (8 * c + i) * 1000) (by omega) (by omega), zw_id (by omega) (by omega), zw_id (by omega) (by omega)]
          exact zR_weak (by repeat first | exact zle_nil | apply zle_c | apply zle_n) ihl
        · rw [if_neg (by omega), s_slipWith (D + 4) he (by omega), zcI_ok, zb_X8_soonWithin_108, zw_dec n (by omega), hcall i (by omega) q, zcI_ok, zb_X8_soonWithin_116, s_weightOf (D + 3) c i hn hc (by omega), zcI_ok, zb_X8_soonWithin_129, zw_inc i (by omega), zw_id (x := mm 9 (8 * c + i) * V i) (by omega) (by omega), zw_id (by omega) (by omega), zw_id (by omega) (by omega)]
          exact zR_weak (by repeat first | exact zle_nil | apply zle_c | apply zle_n) ihl
  exact key 0 (by omega)
theorem s_soonWithin (d word N : Nat) (hw : word < 8) (hnn : mm 6 3 = N) (hS : zSe (mm 11) (mm 6 3)) (hce : zCe (mm 7) (mm 9) (mm 8) (mm 6 3)) (ht : zTg (mm 3) (mm 4) (mm 5) (mm 2 3)) : ∀ (n s e : Nat), n ≤ 5 → s < N → xas mm s = true → e < 585 → zL (d + 5 + n) 85 [.inr (.inr 1), .inl s, .inl (zsl e), .inl word, .inl n] SH mm = zok (zsoon (xcm mm) (mm 9) (xS mm) (xnx mm) word n s e) mm
  | 0, s, e, h5, hs, ha, he => by
    rw [show d + 5 + 0 = d + 4 + 1 by omega, ze_X8_soonWithin, zb_X8_soonWithin_0, if_pos (by decide)]
    rfl
  | n + 1, s, e, h5, hs, ha, he => by
    have hn : xN mm := ⟨hce.1, hce.2.1⟩
    have hn6 := hn.2
    have hW := hce.2.2.2.1
    have h11 := hS.1 s (by omega)
    have e11 : mm 11 s = ((xS mm s : Nat) : Int) := by unfold xS; omega
    have hc : ((xS mm s : Nat) : Int) < mm 6 3 := by omega
    obtain ⟨nx, e2, e3, e4⟩ := zliv_al (k := zstep1 (mm 10 4) N) hs ha
    have enx : xnx mm s = nx := by unfold xnx; rw [hnn, Int.toNat_natCast, e2, Int.toNat_natCast]
    have ih := s_soonWithin d word N hw hnn hS hce ht n
    have hcm := s_canCome (mm := mm) (d + 2 + n) (xS mm s) e hc he hce ht
    rw [show d + 5 + (n + 1) = d + 5 + n + 1 by omega, ze_X8_soonWithin, zb_X8_soonWithin_0, if_neg (by omega), if_neg (by omega), show d + 5 + n = d + 3 + n + 2 by omega, s_cellOn (d + 3 + n) s hn (by omega), zcI_ok, zb_X8_soonWithin_22, show d + 3 + n + 2 = d + 1 + n + 4 by omega, s_seatBehind (d + 1 + n) s N hnn hn hS (Or.inl hs), e2, zcI_ok, zb_X8_soonWithin_32, e11, show d + 1 + n + 4 = d + 2 + n + 3 by omega, hcm, zcI_ok, zb_X8_soonWithin_41, zw_dec n (by omega), zsoon_s, enx, show d + 2 + n + 3 = d + 5 + n by omega]
    by_cases c0 : mks (xcm mm (xS mm s) e) 8 = 0
    · rw [if_pos c0, if_pos c0, ih nx e (by omega) e3 e4 he, zcI_ok, zb_X8_soonWithin_60]
    · rw [if_neg c0, if_neg c0]
      have hpos := zcmw_p hW xcm_w c0
      exact zR_weak (by repeat first | exact zle_nil | apply zle_c | apply zle_n) (s_soon_loop (mm := mm) (d + 5 + n) n word (xS mm s) e nx (xcm mm (xS mm s) e) (fun w => if w = word then 1000 else zsoon (xcm mm) (mm 9) (xS mm) (xnx mm) word n nx (wpush e w)) (by omega) hw (by omega) he hn hc hW (fun w => by
        show 0 ≤ (if w = word then (1000 : Int) else _) ∧ (if w = word then (1000 : Int) else _) ≤ 1000
        split
        · exact ⟨by decide, by decide⟩
        · exact zsoon_r hW n _ _) hpos (if_pos rfl) (fun w hw8 hne => by
        show _ = zok (if w = word then 1000 else _) mm
        rw [if_neg hne]
        exact ih nx _ (by omega) e3 e4 (wpush_lt he hw8)))
/-- the common divisor, tried downwards -/
def zgd (a b : Int) : Nat → Int
  | 0 => 1
  | n + 1 => if n = 0 then 1 else if a % ((n + 1 : Nat) : Int) = 0 ∧ b % ((n + 1 : Nat) : Int) = 0 then ((n + 1 : Nat) : Int) else zgd a b n
end
end
section
/-- what holds of the class's rows -/
def xI (mm : zMm) : Prop := (zCe (mm 7) (mm 9) (mm 8) (mm 6 3)) ∧ (zTg (mm 3) (mm 4) (mm 5) (mm 2 3)) ∧ (zTl (mm 4) (mm 5) (mm 2 3)) ∧ (zSe (mm 11) (mm 6 3)) ∧ (0 ≤ mm 10 2 ∧ (mm 10 2 < mm 6 3 ∨ mm 10 2 = 0)) ∧ (mm 10 4 = 0 ∨ mm 10 4 = 1) ∧ (xP mm) ∧ (zWr (mm 14) (mm 12 2) (mm 6 3)) ∧ (∀ j : Nat, mm 6 3 * 8 ≤ j → j < 48 → mm 9 j = 1) ∧ (∀ c : Nat, mm 6 3 ≤ c → mm 8 c = 0) ∧ (0 ≤ mm 1 4 ∧ mm 1 4 < 2147483648)
theorem xI.ce {mm : zMm} (h : xI mm) : zCe (mm 7) (mm 9) (mm 8) (mm 6 3) := h.1
theorem xI.tg {mm : zMm} (h : xI mm) : zTg (mm 3) (mm 4) (mm 5) (mm 2 3) := h.2.1
theorem xI.tl {mm : zMm} (h : xI mm) : zTl (mm 4) (mm 5) (mm 2 3) := h.2.2.1
theorem xI.se {mm : zMm} (h : xI mm) : zSe (mm 11) (mm 6 3) := h.2.2.2.1
theorem xI.st {mm : zMm} (h : xI mm) : 0 ≤ mm 10 2 ∧ (mm 10 2 < mm 6 3 ∨ mm 10 2 = 0) := h.2.2.2.2.1
theorem xI.bk {mm : zMm} (h : xI mm) : mm 10 4 = 0 ∨ mm 10 4 = 1 := h.2.2.2.2.2.1
theorem xI.pg {mm : zMm} (h : xI mm) : xP mm := h.2.2.2.2.2.2.1
theorem xI.wr {mm : zMm} (h : xI mm) : zWr (mm 14) (mm 12 2) (mm 6 3) := h.2.2.2.2.2.2.2.1
theorem xI.wo {mm : zMm} (h : xI mm) : ∀ j : Nat, mm 6 3 * 8 ≤ j → j < 48 → mm 9 j = 1 := h.2.2.2.2.2.2.2.2.1
theorem xI.dd {mm : zMm} (h : xI mm) : ∀ c : Nat, mm 6 3 ≤ c → mm 8 c = 0 := h.2.2.2.2.2.2.2.2.2.1
theorem xI.lt {mm : zMm} (h : xI mm) : 0 ≤ mm 1 4 ∧ mm 1 4 < 2147483648 := h.2.2.2.2.2.2.2.2.2.2
def zrow (words n most : Int) : Bool := decide (1 ≤ n ∧ n ≤ most ∧ 0 ≤ words ∧ words < ((8 ^ n.toNat : Nat) : Int))
def xlv (mm : zMm) : Int := zcnt (xal mm) (mm 6 3).toNat
end
section
def zpc (n : Nat) : Int := ((n % 2 + n / 2 % 2 + n / 4 % 2 + n / 8 % 2 + n / 16 % 2 + n / 32 % 2 : Nat) : Int)
theorem s_bitCountN (d n : Nat) (hn : n < 64) (mm : zMm) : zL (d + 1) 86 [.inl n] SH mm = zok (zpc n) mm := by
  rw [ze_J6_bitCount_0f7a4, zb_J6_bitCount_0f7a4_0]
  refine congrArg (fun x => zok x mm) ?_
  revert n
  decide +kernel
theorem zpc_mks (P : Nat → Bool) : zpc (mks P 6).toNat = zcnt P 6 := by
  unfold mks mks mks mks mks mks mks zcnt zcnt zcnt zcnt zcnt zcnt zcnt
  cases P 0 <;> cases P 1 <;> cases P 2 <;> cases P 3 <;> cases P 4 <;> cases P 5 <;> decide +kernel
theorem s_bitCount (d : Nat) (P : Nat → Bool) (mm : zMm) : zL (d + 1) 86 [.inl (mks P 6)] SH mm = zok (zcnt P 6) mm := by
  have h := mks_64 P
  have := s_bitCountN d (mks P 6).toNat (by omega) mm
  rw [show (((mks P 6).toNat : Nat) : Int) = mks P 6 by omega, zpc_mks] at this
  exact this
theorem zcnt_ge {P : Nat → Bool} {n : Nat} (h : ∀ j, n ≤ j → P j = false) : ∀ k, zcnt P (n + k) = zcnt P n
  | 0 => rfl
  | k + 1 => by
    show zcnt P (n + k + 1) = _
    rw [zcnt_s, h (n + k) (by omega), zcnt_ge h k]
    rfl
theorem xlv_6 {mm : zMm} (h : 0 ≤ mm 6 3 ∧ mm 6 3 ≤ 6) : zcnt (xal mm) 6 = xlv mm := by
  unfold xlv
  have := zcnt_ge (P := xal mm) (n := (mm 6 3).toNat) (fun j hj => by
    unfold xal
    rw [decide_eq_false (by omega), Bool.false_and]) (6 - (mm 6 3).toNat)
  rw [show (mm 6 3).toNat + (6 - (mm 6 3).toNat) = 6 by omega] at this
  exact this
theorem s_isRowOfWords (d : Nat) (words n most : Int) (hm : most ≤ 6) (mm : zMm) : zL (d + 1) 80 [.inl words, .inl n, .inl most] SH mm = zok (if zrow words n most then 1 else 0) mm := by
  unfold zrow
  simp only [decide_eq_true_eq]
  rw [ze_X8_isRowOfWords, zb_X8_isRowOfWords_0]
  by_cases h : 1 ≤ n ∧ n ≤ most
  · rw [if_neg (by omega), if_neg (by omega), z8e h.1 (by omega)]
    (repeat' split) <;> first | rfl | (exfalso; omega)
  · rw [if_neg (show ¬ (1 ≤ n ∧ n ≤ most ∧ 0 ≤ words ∧ words < ((8 ^ n.toNat : Nat) : Int)) from fun q => h ⟨q.1, q.2.1⟩)]
    by_cases c : n < 1
    · rw [if_pos c]
    · rw [if_neg c, if_pos (by omega)]
/-- nothing found -/
def zq0 : zQ := (fun _ => 0, 0, fun _ => false)
theorem zq0_ok : zQok zq0 := by
  have : ∀ n, zcnt (fun _ => false) n = 0 := by
    intro n
    induction n with
    | zero => rfl
    | succ n ih => rw [zcnt_s, ih]; rfl
  exact ⟨by show ((0 : Nat) : Int) = _; exact (this 3510).symm, fun i hi => absurd hi (Nat.not_lt_zero i)⟩
/-- the search, cleared so far -/
def zclr (mm : zMm) (i : Nat) : zMm := fun k j => if k = 35 ∧ j < i then 0 else if k = 33 ∧ j = 2 then 0 else mm k j
theorem zclr_s (mm : zMm) (i : Nat) : zu (zclr mm i) 35 i 0 = zclr mm (i + 1) := by
  funext k j
  unfold zu zclr
  by_cases k1 : k = 35
  · subst k1
    by_cases q : j = i
    · subst q; simp
    · by_cases r : j < i
      · simp [q, r, show j < i + 1 by omega]
      · simp [q, r, show ¬ j < i + 1 by omega]
  · simp [k1]
section
variable {mm : zMm}
theorem s_fewestTurnsN (d : Nat) (words : Int) (k N st : Nat) (hN : mm 6 3 = N) (hst : mm 10 2 = st) (hI : xI mm) (ht : zturn (xas mm) N (zstep1 (mm 10 4) N) st = -4) : zL (d + 6) 34 [.inr (.inr 33), .inr (.inr 1), .inl words, .inl k] SH mm = zok (-4) mm := by
  have hn : xN mm := ⟨hI.ce.1, hI.ce.2.1⟩
  have hs := hI.st
  rw [ze_X3_fewestTurns, zb_X3_fewestTurns_0, s_seatOfTurn d st N hN hn hI.se hst (by omega), zcI_ok, zb_X3_fewestTurns_7, ht, if_pos (by decide)]
theorem s_fewestTurns (d : Nat) (words : Int) (k N st t : Nat) (hk : k ≤ 3) (hN : mm 6 3 = N) (hst : mm 10 2 = st) (hI : xI mm) (ht : zturn (xas mm) N (zstep1 (mm 10 4) N) st = t) (htn : t < N) (hal : xas mm t = true) : ∃ m', zL (d + 6) 34 [.inr (.inr 33), .inr (.inr 1), .inl words, .inl k] SH mm = zok (zftn (fun s e => xcm mm (mm 11 s).toNat e) (zaim (xal mm) (xcm mm) words k) (fun s => (zliv (xas mm) N (zstep1 (mm 10 4) N) s).toNat) 31 0 t 0 (zqn zq0 (6 * xe mm + t))) m' ∧ zFr m' mm := by
  have hn : xN mm := ⟨hI.ce.1, hI.ce.2.1⟩
  have hn6 := hn.2
  have hs := hI.st
  have he := xe_lt hI.pg
  have hf0 : zFr (zclr mm 1024) mm := fun k a b c => by
    funext j
    unfold zclr
    rw [if_neg (fun q => c q.1), if_neg (fun q => a q.1)]
  have hc0 : zCS zq0 (zclr mm 1024) := by
    refine ⟨rfl, fun i hi => absurd hi (Nat.not_lt_zero i), fun e he => ?_⟩
    have := zsl_r he
    show (if 35 = 35 ∧ zsl e < 1024 then (0 : Int) else _) = _
    rw [if_pos ⟨rfl, this.2⟩]
    exact ((mks_0 (P := fun _ => false) (n := 6) (by decide)).mpr (fun _ _ => rfl)).symm
  obtain ⟨m1, x1, x2, x3⟩ := s_note (d + 3) (xe mm) t zq0 (zclr mm 1024) he (by omega) zq0_ok hc0
  obtain ⟨m2, y1, y2⟩ := s_turns (mm := mm) d N words k hk hN hI.se hI.ce hI.tg 31 0 t 0 (zqn zq0 (6 * xe mm + t)) m1 none none rfl htn hal (Nat.zero_le _) (zFr_t x3 hf0) (zqn_ok zq0_ok (by omega)) x2
  refine ⟨m2, ?_, y2⟩
  have e13 : zclr mm 1024 13 = mm 13 := hf0 13 (by decide) (by decide) (by decide)
  have e12 : zclr mm 1024 12 = mm 12 := hf0 12 (by decide) (by decide) (by decide)
  have hsl := s_slip (mm := zclr mm 1024) (d + 1) (by unfold xP; rw [e12, e13]; exact hI.pg)
  rw [e12, e13] at hsl
  have key : ∀ i : Nat, i ≤ 1024 → zR (d + 5) 34 25 [some (.inr (.inr 33)), some (.inr (.inr 1)), some (.inl words), some (.inl (k : Int)), some (.inl (t : Int)), some (.inl (i : Int)), none, none, none, none] [] SH (zclr mm i) = zok (zftn (fun s e => xcm mm (mm 11 s).toNat e) (zaim (xal mm) (xcm mm) words k) (fun s => (zliv (xas mm) N (zstep1 (mm 10 4) N) s).toNat) 31 0 t 0 (zqn zq0 (6 * xe mm + t))) m2 := by
    refine zup ?_ ?_
    · rw [zb_X3_fewestTurns_25, if_neg (by decide), hsl, zcI_ok, zb_X3_fewestTurns_57]
      refine (congrArg (fun r => zcV r _) x1).trans ?_
      rw [zcV_vd, zb_X3_fewestTurns_62]
      exact zR_weak (by repeat first | exact zle_nil | apply zle_c | apply zle_n) y1
    · intro i hi ih
      rw [zb_X3_fewestTurns_25, if_pos (by omega), if_pos (by omega), Int.toNat_natCast, show zi2b 0 = 0 by decide +kernel, zclr_s, zw_inc i (by omega)]
      exact ih
  have e0 : zclr mm 0 = zu mm 33 2 0 := by
    funext k j
    unfold zclr zu
    simp
  have k0 := key 0 (by omega)
  rw [e0] at k0
  rw [ze_X3_fewestTurns, zb_X3_fewestTurns_0, s_seatOfTurn d st N hN hn hI.se hst (by omega), zcI_ok, zb_X3_fewestTurns_7, ht, if_neg (by omega)]
  exact k0
end
end
