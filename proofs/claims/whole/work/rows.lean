section
-- ===== PART A: goes FIRST, ahead of the names: the tables' words, and 'selects' of the private methods out of them =====
/-- a private method of a class that the tables say can be made, by its rows of tables_1 -/
def lw_okq (q : MethodName × Nat) : Prop := (q.1.cls ≠ "java/lang/invoke/MethodHandle" ∧ q.1.cls ≠ "java/lang/invoke/VarHandle") ∧ Cond.instantiable q.1.cls q.2 ∈ tables_1 ∧ Cond.privateMethod q.1 ∈ tables_1 ∧ Cond.instanceMethod q.1 ∈ tables_1
theorem lw_p0 : lw_okq (⟨"CosetCoder", "fail", "(I)I"⟩, 5) := ⟨⟨by decide +kernel, by decide +kernel⟩, List.mem_of_getElem? (i := 9) (by decide +kernel), List.mem_of_getElem? (i := 76) (by decide +kernel), List.mem_of_getElem? (i := 77) (by decide +kernel)⟩
theorem lw_p1 : lw_okq (⟨"CosetCoder", "saveState", "()V"⟩, 5) := ⟨⟨by decide +kernel, by decide +kernel⟩, List.mem_of_getElem? (i := 9) (by decide +kernel), List.mem_of_getElem? (i := 80) (by decide +kernel), List.mem_of_getElem? (i := 81) (by decide +kernel)⟩
theorem lw_p2 : lw_okq (⟨"CosetCoder", "dropOldest", "()V"⟩, 5) := ⟨⟨by decide +kernel, by decide +kernel⟩, List.mem_of_getElem? (i := 9) (by decide +kernel), List.mem_of_getElem? (i := 84) (by decide +kernel), List.mem_of_getElem? (i := 85) (by decide +kernel)⟩
theorem lw_p3 : lw_okq (⟨"CosetCoder$State", "copyFrom", "(LCosetCoder$State;)V"⟩, 4) := ⟨⟨by decide +kernel, by decide +kernel⟩, List.mem_of_getElem? (i := 17) (by decide +kernel), List.mem_of_getElem? (i := 88) (by decide +kernel), List.mem_of_getElem? (i := 89) (by decide +kernel)⟩
theorem lw_p4 : lw_okq (⟨"CosetCoder", "isWord", "(I)Z"⟩, 5) := ⟨⟨by decide +kernel, by decide +kernel⟩, List.mem_of_getElem? (i := 9) (by decide +kernel), List.mem_of_getElem? (i := 96) (by decide +kernel), List.mem_of_getElem? (i := 97) (by decide +kernel)⟩
theorem lw_p5 : lw_okq (⟨"CosetCoder", "allPositions", "()I"⟩, 5) := ⟨⟨by decide +kernel, by decide +kernel⟩, List.mem_of_getElem? (i := 9) (by decide +kernel), List.mem_of_getElem? (i := 100) (by decide +kernel), List.mem_of_getElem? (i := 101) (by decide +kernel)⟩
theorem lw_p6 : lw_okq (⟨"CosetCoder$State", "put", "(IIZ)V"⟩, 4) := ⟨⟨by decide +kernel, by decide +kernel⟩, List.mem_of_getElem? (i := 17) (by decide +kernel), List.mem_of_getElem? (i := 104) (by decide +kernel), List.mem_of_getElem? (i := 105) (by decide +kernel)⟩
theorem lw_p7 : lw_okq (⟨"CosetCoder", "isRowNumber", "(I)Z"⟩, 5) := ⟨⟨by decide +kernel, by decide +kernel⟩, List.mem_of_getElem? (i := 9) (by decide +kernel), List.mem_of_getElem? (i := 112) (by decide +kernel), List.mem_of_getElem? (i := 113) (by decide +kernel)⟩
theorem lw_p8 : lw_okq (⟨"CosetCoder$Basis", "clear", "()V"⟩, 2) := ⟨⟨by decide +kernel, by decide +kernel⟩, List.mem_of_getElem? (i := 43) (by decide +kernel), List.mem_of_getElem? (i := 120) (by decide +kernel), List.mem_of_getElem? (i := 121) (by decide +kernel)⟩
theorem lw_p9 : lw_okq (⟨"CosetCoder$Basis", "extend", "(I)Z"⟩, 2) := ⟨⟨by decide +kernel, by decide +kernel⟩, List.mem_of_getElem? (i := 43) (by decide +kernel), List.mem_of_getElem? (i := 124) (by decide +kernel), List.mem_of_getElem? (i := 125) (by decide +kernel)⟩
theorem lw_p10 : lw_okq (⟨"CosetCoder", "rankOfKind", "(I)I"⟩, 5) := ⟨⟨by decide +kernel, by decide +kernel⟩, List.mem_of_getElem? (i := 9) (by decide +kernel), List.mem_of_getElem? (i := 143) (by decide +kernel), List.mem_of_getElem? (i := 144) (by decide +kernel)⟩
theorem lw_p11 : lw_okq (⟨"CosetCoder", "extendBasis", "(ZI)I"⟩, 5) := ⟨⟨by decide +kernel, by decide +kernel⟩, List.mem_of_getElem? (i := 9) (by decide +kernel), List.mem_of_getElem? (i := 147) (by decide +kernel), List.mem_of_getElem? (i := 148) (by decide +kernel)⟩
theorem lw_p12 : lw_okq (⟨"CosetCoder", "syndrome", "(IZ)I"⟩, 5) := ⟨⟨by decide +kernel, by decide +kernel⟩, List.mem_of_getElem? (i := 9) (by decide +kernel), List.mem_of_getElem? (i := 155) (by decide +kernel), List.mem_of_getElem? (i := 156) (by decide +kernel)⟩
theorem lw_p13 : lw_okq (⟨"CosetCoder", "hiddenBits", "(I)I"⟩, 5) := ⟨⟨by decide +kernel, by decide +kernel⟩, List.mem_of_getElem? (i := 9) (by decide +kernel), List.mem_of_getElem? (i := 177) (by decide +kernel), List.mem_of_getElem? (i := 178) (by decide +kernel)⟩
theorem lw_p14 : lw_okq (⟨"CosetCoder", "isCodewordOf", "(II)Z"⟩, 5) := ⟨⟨by decide +kernel, by decide +kernel⟩, List.mem_of_getElem? (i := 9) (by decide +kernel), List.mem_of_getElem? (i := 188) (by decide +kernel), List.mem_of_getElem? (i := 189) (by decide +kernel)⟩
theorem lw_p15 : lw_okq (⟨"CosetCoder", "isCodeword", "(I)Z"⟩, 5) := ⟨⟨by decide +kernel, by decide +kernel⟩, List.mem_of_getElem? (i := 9) (by decide +kernel), List.mem_of_getElem? (i := 192) (by decide +kernel), List.mem_of_getElem? (i := 193) (by decide +kernel)⟩
def lw_privs_1 : List (MethodName × Nat) := [(⟨"CosetCoder", "fail", "(I)I"⟩, 5), (⟨"CosetCoder", "saveState", "()V"⟩, 5), (⟨"CosetCoder", "dropOldest", "()V"⟩, 5), (⟨"CosetCoder$State", "copyFrom", "(LCosetCoder$State;)V"⟩, 4), (⟨"CosetCoder", "isWord", "(I)Z"⟩, 5), (⟨"CosetCoder", "allPositions", "()I"⟩, 5), (⟨"CosetCoder$State", "put", "(IIZ)V"⟩, 4), (⟨"CosetCoder", "isRowNumber", "(I)Z"⟩, 5), (⟨"CosetCoder$Basis", "clear", "()V"⟩, 2), (⟨"CosetCoder$Basis", "extend", "(I)Z"⟩, 2), (⟨"CosetCoder", "rankOfKind", "(I)I"⟩, 5), (⟨"CosetCoder", "extendBasis", "(ZI)I"⟩, 5), (⟨"CosetCoder", "syndrome", "(IZ)I"⟩, 5), (⟨"CosetCoder", "hiddenBits", "(I)I"⟩, 5), (⟨"CosetCoder", "isCodewordOf", "(II)Z"⟩, 5), (⟨"CosetCoder", "isCodeword", "(I)Z"⟩, 5)]
theorem lw_r1 : ∀ q ∈ lw_privs_1, lw_okq q := List.forall_mem_cons.mpr ⟨lw_p0, List.forall_mem_cons.mpr ⟨lw_p1, List.forall_mem_cons.mpr ⟨lw_p2, List.forall_mem_cons.mpr ⟨lw_p3, List.forall_mem_cons.mpr ⟨lw_p4, List.forall_mem_cons.mpr ⟨lw_p5, List.forall_mem_cons.mpr ⟨lw_p6, List.forall_mem_cons.mpr ⟨lw_p7, List.forall_mem_cons.mpr ⟨lw_p8, List.forall_mem_cons.mpr ⟨lw_p9, List.forall_mem_cons.mpr ⟨lw_p10, List.forall_mem_cons.mpr ⟨lw_p11, List.forall_mem_cons.mpr ⟨lw_p12, List.forall_mem_cons.mpr ⟨lw_p13, List.forall_mem_cons.mpr ⟨lw_p14, List.forall_mem_cons.mpr ⟨lw_p15, fun _ h => absurd h List.not_mem_nil⟩⟩⟩⟩⟩⟩⟩⟩⟩⟩⟩⟩⟩⟩⟩⟩
theorem lw_p16 : lw_okq (⟨"CosetCoder", "leastDistance", "(I)I"⟩, 5) := ⟨⟨by decide +kernel, by decide +kernel⟩, List.mem_of_getElem? (i := 9) (by decide +kernel), List.mem_of_getElem? (i := 204) (by decide +kernel), List.mem_of_getElem? (i := 205) (by decide +kernel)⟩
theorem lw_p17 : lw_okq (⟨"CosetCoder", "leastFatalErrors", "()I"⟩, 5) := ⟨⟨by decide +kernel, by decide +kernel⟩, List.mem_of_getElem? (i := 9) (by decide +kernel), List.mem_of_getElem? (i := 216) (by decide +kernel), List.mem_of_getElem? (i := 217) (by decide +kernel)⟩
theorem lw_p18 : lw_okq (⟨"CosetCoder", "leakedBits", "(I)I"⟩, 5) := ⟨⟨by decide +kernel, by decide +kernel⟩, List.mem_of_getElem? (i := 9) (by decide +kernel), List.mem_of_getElem? (i := 224) (by decide +kernel), List.mem_of_getElem? (i := 225) (by decide +kernel)⟩
theorem lw_p19 : lw_okq (⟨"CosetCoder", "isSize", "(I)Z"⟩, 5) := ⟨⟨by decide +kernel, by decide +kernel⟩, List.mem_of_getElem? (i := 9) (by decide +kernel), List.mem_of_getElem? (i := 232) (by decide +kernel), List.mem_of_getElem? (i := 233) (by decide +kernel)⟩
theorem lw_p20 : lw_okq (⟨"CosetCoder", "leakiestSet", "(I)I"⟩, 5) := ⟨⟨by decide +kernel, by decide +kernel⟩, List.mem_of_getElem? (i := 9) (by decide +kernel), List.mem_of_getElem? (i := 236) (by decide +kernel), List.mem_of_getElem? (i := 237) (by decide +kernel)⟩
theorem lw_p21 : lw_okq (⟨"CosetCoder", "leastSizeLeaking", "(I)I"⟩, 5) := ⟨⟨by decide +kernel, by decide +kernel⟩, List.mem_of_getElem? (i := 9) (by decide +kernel), List.mem_of_getElem? (i := 248) (by decide +kernel), List.mem_of_getElem? (i := 249) (by decide +kernel)⟩
theorem lw_p22 : lw_okq (⟨"CosetCoder", "isObservation", "(II)Z"⟩, 5) := ⟨⟨by decide +kernel, by decide +kernel⟩, List.mem_of_getElem? (i := 9) (by decide +kernel), List.mem_of_getElem? (i := 260) (by decide +kernel), List.mem_of_getElem? (i := 261) (by decide +kernel)⟩
theorem lw_p23 : lw_okq (⟨"CosetCoder", "messagesFitting", "(II)J"⟩, 5) := ⟨⟨by decide +kernel, by decide +kernel⟩, List.mem_of_getElem? (i := 9) (by decide +kernel), List.mem_of_getElem? (i := 264) (by decide +kernel), List.mem_of_getElem? (i := 265) (by decide +kernel)⟩
theorem lw_p24 : lw_okq (⟨"CosetCoder", "messageRows", "()I"⟩, 5) := ⟨⟨by decide +kernel, by decide +kernel⟩, List.mem_of_getElem? (i := 9) (by decide +kernel), List.mem_of_getElem? (i := 282) (by decide +kernel), List.mem_of_getElem? (i := 283) (by decide +kernel)⟩
theorem lw_p25 : lw_okq (⟨"CosetCoderModel", "fails", "(I)I"⟩, 9) := ⟨⟨by decide +kernel, by decide +kernel⟩, List.mem_of_getElem? (i := 307) (by decide +kernel), List.mem_of_getElem? (i := 345) (by decide +kernel), List.mem_of_getElem? (i := 346) (by decide +kernel)⟩
theorem lw_p26 : lw_okq (⟨"CosetCoderModel", "saves", "()V"⟩, 9) := ⟨⟨by decide +kernel, by decide +kernel⟩, List.mem_of_getElem? (i := 307) (by decide +kernel), List.mem_of_getElem? (i := 356) (by decide +kernel), List.mem_of_getElem? (i := 357) (by decide +kernel)⟩
theorem lw_p27 : lw_okq (⟨"CosetCoderModel", "isWord", "(I)Z"⟩, 9) := ⟨⟨by decide +kernel, by decide +kernel⟩, List.mem_of_getElem? (i := 307) (by decide +kernel), List.mem_of_getElem? (i := 364) (by decide +kernel), List.mem_of_getElem? (i := 365) (by decide +kernel)⟩
theorem lw_p28 : lw_okq (⟨"CosetCoderModel", "words", "()I"⟩, 9) := ⟨⟨by decide +kernel, by decide +kernel⟩, List.mem_of_getElem? (i := 307) (by decide +kernel), List.mem_of_getElem? (i := 368) (by decide +kernel), List.mem_of_getElem? (i := 369) (by decide +kernel)⟩
theorem lw_p29 : lw_okq (⟨"CosetCoderModel", "isRow", "(I)Z"⟩, 9) := ⟨⟨by decide +kernel, by decide +kernel⟩, List.mem_of_getElem? (i := 307) (by decide +kernel), List.mem_of_getElem? (i := 376) (by decide +kernel), List.mem_of_getElem? (i := 377) (by decide +kernel)⟩
theorem lw_p30 : lw_okq (⟨"CosetCoderModel", "removes", "(I)V"⟩, 9) := ⟨⟨by decide +kernel, by decide +kernel⟩, List.mem_of_getElem? (i := 307) (by decide +kernel), List.mem_of_getElem? (i := 380) (by decide +kernel), List.mem_of_getElem? (i := 381) (by decide +kernel)⟩
theorem lw_p31 : lw_okq (⟨"CosetCoderModel", "isDependent", "(I)Z"⟩, 9) := ⟨⟨by decide +kernel, by decide +kernel⟩, List.mem_of_getElem? (i := 307) (by decide +kernel), List.mem_of_getElem? (i := 388) (by decide +kernel), List.mem_of_getElem? (i := 389) (by decide +kernel)⟩
def lw_privs_2 : List (MethodName × Nat) := [(⟨"CosetCoder", "leastDistance", "(I)I"⟩, 5), (⟨"CosetCoder", "leastFatalErrors", "()I"⟩, 5), (⟨"CosetCoder", "leakedBits", "(I)I"⟩, 5), (⟨"CosetCoder", "isSize", "(I)Z"⟩, 5), (⟨"CosetCoder", "leakiestSet", "(I)I"⟩, 5), (⟨"CosetCoder", "leastSizeLeaking", "(I)I"⟩, 5), (⟨"CosetCoder", "isObservation", "(II)Z"⟩, 5), (⟨"CosetCoder", "messagesFitting", "(II)J"⟩, 5), (⟨"CosetCoder", "messageRows", "()I"⟩, 5), (⟨"CosetCoderModel", "fails", "(I)I"⟩, 9), (⟨"CosetCoderModel", "saves", "()V"⟩, 9), (⟨"CosetCoderModel", "isWord", "(I)Z"⟩, 9), (⟨"CosetCoderModel", "words", "()I"⟩, 9), (⟨"CosetCoderModel", "isRow", "(I)Z"⟩, 9), (⟨"CosetCoderModel", "removes", "(I)V"⟩, 9), (⟨"CosetCoderModel", "isDependent", "(I)Z"⟩, 9)]
theorem lw_r2 : ∀ q ∈ lw_privs_2, lw_okq q := List.forall_mem_cons.mpr ⟨lw_p16, List.forall_mem_cons.mpr ⟨lw_p17, List.forall_mem_cons.mpr ⟨lw_p18, List.forall_mem_cons.mpr ⟨lw_p19, List.forall_mem_cons.mpr ⟨lw_p20, List.forall_mem_cons.mpr ⟨lw_p21, List.forall_mem_cons.mpr ⟨lw_p22, List.forall_mem_cons.mpr ⟨lw_p23, List.forall_mem_cons.mpr ⟨lw_p24, List.forall_mem_cons.mpr ⟨lw_p25, List.forall_mem_cons.mpr ⟨lw_p26, List.forall_mem_cons.mpr ⟨lw_p27, List.forall_mem_cons.mpr ⟨lw_p28, List.forall_mem_cons.mpr ⟨lw_p29, List.forall_mem_cons.mpr ⟨lw_p30, List.forall_mem_cons.mpr ⟨lw_p31, fun _ h => absurd h List.not_mem_nil⟩⟩⟩⟩⟩⟩⟩⟩⟩⟩⟩⟩⟩⟩⟩⟩
theorem lw_p32 : lw_okq (⟨"CosetCoderModel", "rankOf", "(II)I"⟩, 9) := ⟨⟨by decide +kernel, by decide +kernel⟩, List.mem_of_getElem? (i := 307) (by decide +kernel), List.mem_of_getElem? (i := 404) (by decide +kernel), List.mem_of_getElem? (i := 405) (by decide +kernel)⟩
theorem lw_p33 : lw_okq (⟨"CosetCoderModel", "syndrome", "(II)I"⟩, 9) := ⟨⟨by decide +kernel, by decide +kernel⟩, List.mem_of_getElem? (i := 307) (by decide +kernel), List.mem_of_getElem? (i := 412) (by decide +kernel), List.mem_of_getElem? (i := 413) (by decide +kernel)⟩
theorem lw_p34 : lw_okq (⟨"CosetCoderModel", "codewordMany", "()I"⟩, 9) := ⟨⟨by decide +kernel, by decide +kernel⟩, List.mem_of_getElem? (i := 307) (by decide +kernel), List.mem_of_getElem? (i := 427) (by decide +kernel), List.mem_of_getElem? (i := 428) (by decide +kernel)⟩
theorem lw_p35 : lw_okq (⟨"CosetCoderModel", "laysMessages", "()V"⟩, 9) := ⟨⟨by decide +kernel, by decide +kernel⟩, List.mem_of_getElem? (i := 307) (by decide +kernel), List.mem_of_getElem? (i := 431) (by decide +kernel), List.mem_of_getElem? (i := 432) (by decide +kernel)⟩
theorem lw_p36 : lw_okq (⟨"CosetCoderModel", "meets", "(II)I"⟩, 9) := ⟨⟨by decide +kernel, by decide +kernel⟩, List.mem_of_getElem? (i := 307) (by decide +kernel), List.mem_of_getElem? (i := 439) (by decide +kernel), List.mem_of_getElem? (i := 440) (by decide +kernel)⟩
theorem lw_p37 : lw_okq (⟨"CosetCoderModel", "choiceMany", "(I)I"⟩, 9) := ⟨⟨by decide +kernel, by decide +kernel⟩, List.mem_of_getElem? (i := 307) (by decide +kernel), List.mem_of_getElem? (i := 447) (by decide +kernel), List.mem_of_getElem? (i := 448) (by decide +kernel)⟩
theorem lw_p38 : lw_okq (⟨"CosetCoderModel", "decoded", "(I)I"⟩, 9) := ⟨⟨by decide +kernel, by decide +kernel⟩, List.mem_of_getElem? (i := 307) (by decide +kernel), List.mem_of_getElem? (i := 459) (by decide +kernel), List.mem_of_getElem? (i := 460) (by decide +kernel)⟩
theorem lw_p39 : lw_okq (⟨"CosetCoderModel", "nearest", "(I)I"⟩, 9) := ⟨⟨by decide +kernel, by decide +kernel⟩, List.mem_of_getElem? (i := 307) (by decide +kernel), List.mem_of_getElem? (i := 463) (by decide +kernel), List.mem_of_getElem? (i := 464) (by decide +kernel)⟩
theorem lw_p40 : lw_okq (⟨"CosetCoderModel", "leakageOf", "(I)I"⟩, 9) := ⟨⟨by decide +kernel, by decide +kernel⟩, List.mem_of_getElem? (i := 307) (by decide +kernel), List.mem_of_getElem? (i := 479) (by decide +kernel), List.mem_of_getElem? (i := 480) (by decide +kernel)⟩
theorem lw_p41 : lw_okq (⟨"CosetCoderModel", "lost", "(II)I"⟩, 9) := ⟨⟨by decide +kernel, by decide +kernel⟩, List.mem_of_getElem? (i := 307) (by decide +kernel), List.mem_of_getElem? (i := 483) (by decide +kernel), List.mem_of_getElem? (i := 484) (by decide +kernel)⟩
theorem lw_p42 : lw_okq (⟨"CosetCoderModel", "isSize", "(I)Z"⟩, 9) := ⟨⟨by decide +kernel, by decide +kernel⟩, List.mem_of_getElem? (i := 307) (by decide +kernel), List.mem_of_getElem? (i := 491) (by decide +kernel), List.mem_of_getElem? (i := 492) (by decide +kernel)⟩
theorem lw_p43 : lw_okq (⟨"CosetCoderModel", "worstOf", "(I)I"⟩, 9) := ⟨⟨by decide +kernel, by decide +kernel⟩, List.mem_of_getElem? (i := 307) (by decide +kernel), List.mem_of_getElem? (i := 495) (by decide +kernel), List.mem_of_getElem? (i := 496) (by decide +kernel)⟩
theorem lw_p44 : lw_okq (⟨"CosetCoderModel", "isObservation", "(II)Z"⟩, 9) := ⟨⟨by decide +kernel, by decide +kernel⟩, List.mem_of_getElem? (i := 307) (by decide +kernel), List.mem_of_getElem? (i := 515) (by decide +kernel), List.mem_of_getElem? (i := 516) (by decide +kernel)⟩
theorem lw_p45 : lw_okq (⟨"CosetCoderModel", "isKnown", "(II)Z"⟩, 9) := ⟨⟨by decide +kernel, by decide +kernel⟩, List.mem_of_getElem? (i := 307) (by decide +kernel), List.mem_of_getElem? (i := 527) (by decide +kernel), List.mem_of_getElem? (i := 528) (by decide +kernel)⟩
theorem lw_p46 : lw_okq (⟨"CosetCoderModel", "mix", "(I)V"⟩, 9) := ⟨⟨by decide +kernel, by decide +kernel⟩, List.mem_of_getElem? (i := 307) (by decide +kernel), List.mem_of_getElem? (i := 540) (by decide +kernel), List.mem_of_getElem? (i := 541) (by decide +kernel)⟩
def lw_privs_3 : List (MethodName × Nat) := [(⟨"CosetCoderModel", "rankOf", "(II)I"⟩, 9), (⟨"CosetCoderModel", "syndrome", "(II)I"⟩, 9), (⟨"CosetCoderModel", "codewordMany", "()I"⟩, 9), (⟨"CosetCoderModel", "laysMessages", "()V"⟩, 9), (⟨"CosetCoderModel", "meets", "(II)I"⟩, 9), (⟨"CosetCoderModel", "choiceMany", "(I)I"⟩, 9), (⟨"CosetCoderModel", "decoded", "(I)I"⟩, 9), (⟨"CosetCoderModel", "nearest", "(I)I"⟩, 9), (⟨"CosetCoderModel", "leakageOf", "(I)I"⟩, 9), (⟨"CosetCoderModel", "lost", "(II)I"⟩, 9), (⟨"CosetCoderModel", "isSize", "(I)Z"⟩, 9), (⟨"CosetCoderModel", "worstOf", "(I)I"⟩, 9), (⟨"CosetCoderModel", "isObservation", "(II)Z"⟩, 9), (⟨"CosetCoderModel", "isKnown", "(II)Z"⟩, 9), (⟨"CosetCoderModel", "mix", "(I)V"⟩, 9)]
theorem lw_r3 : ∀ q ∈ lw_privs_3, lw_okq q := List.forall_mem_cons.mpr ⟨lw_p32, List.forall_mem_cons.mpr ⟨lw_p33, List.forall_mem_cons.mpr ⟨lw_p34, List.forall_mem_cons.mpr ⟨lw_p35, List.forall_mem_cons.mpr ⟨lw_p36, List.forall_mem_cons.mpr ⟨lw_p37, List.forall_mem_cons.mpr ⟨lw_p38, List.forall_mem_cons.mpr ⟨lw_p39, List.forall_mem_cons.mpr ⟨lw_p40, List.forall_mem_cons.mpr ⟨lw_p41, List.forall_mem_cons.mpr ⟨lw_p42, List.forall_mem_cons.mpr ⟨lw_p43, List.forall_mem_cons.mpr ⟨lw_p44, List.forall_mem_cons.mpr ⟨lw_p45, List.forall_mem_cons.mpr ⟨lw_p46, fun _ h => absurd h List.not_mem_nil⟩⟩⟩⟩⟩⟩⟩⟩⟩⟩⟩⟩⟩⟩⟩
def lw_privs : List (MethodName × Nat) := lw_privs_1 ++ (lw_privs_2 ++ (lw_privs_3))
def lw_tbl : List Cond := k2_sels lw_privs ++ tables_1
theorem lw_privs_ok : ∀ q ∈ lw_privs, lw_okq q := by
  show ∀ q ∈ lw_privs_1 ++ (lw_privs_2 ++ (lw_privs_3)), lw_okq q
  exact List.forall_mem_append.mpr ⟨lw_r1, List.forall_mem_append.mpr ⟨lw_r2, lw_r3⟩⟩
-- ===== end of PART A; then your names; then what follows =====
end
section
/-! ===== BEGIN words of one list among another's, by their places ===== -/
theorem goodIn_r {big : List Cond} (ws : List Cond) (ps : List Nat) (hp : ws = ps.filterMap (fun i => big[i]?)) (h : ws.all goodWord = true) : GoodIn big ws := by
  intro w hw
  have h1 := List.all_eq_true.mp h w hw
  rw [hp] at hw
  obtain ⟨i, -, hi⟩ := List.mem_filterMap.mp hw
  have hm : w ∈ big := by first | exact List.mem_of_getElem? hi | exact List.getElem?_mem hi
  exact ⟨hm, good_of_word h1⟩
theorem goodIn_app {big a b : List Cond} (ha : GoodIn big a) (hb : GoodIn big b) : GoodIn big (a ++ b) := fun w h => (List.mem_append.mp h).elim (ha w) (hb w)
theorem goodIn_ca {big a b : List Cond} {c : Cond} (ha : GoodIn big (c :: a)) (hb : GoodIn big b) : GoodIn big (c :: (a ++ b)) := fun w h => (List.mem_cons.mp h).elim (fun e => ha w (List.mem_cons.mpr (Or.inl e))) (fun h => (List.mem_append.mp h).elim (fun h => ha w (List.mem_cons.mpr (Or.inr h))) (hb w))
theorem goodIn_sub {big ws : List Cond} (hm : ∀ w ∈ ws, w ∈ big) (h : ws.all goodWord = true) : GoodIn big ws := fun w hw => ⟨hm w hw, good_of_word (List.all_eq_true.mp h w hw)⟩
/-! ===== END ===== -/

/-! ===== BEGIN printed: names, fields, word lists, decode rows ===== -/
def RX0 : String := "CosetCoder$Basis"
def TX0 : u_T := fun k => match k with
  | 0 => ("CosetCoder$Basis", "vectors", "[I", true)
  | _ => ("CosetCoder$Basis", "count", "I", false)
def tyX0 : Nat → FieldType := fun k => match k with
  | 0 => .array .int
  | _ => .int
abbrev wsX00 : List Cond := u_ws RX0 TX0 2
theorem nmX0 : ∀ a, a < 2 → ∀ b, b < 2 → a ≠ b → (TX0 a).2.1 ≠ (TX0 b).2.1 := by decide +kernel
theorem tyX0_ok : ∀ k, k < 2 → parseFieldDescriptor (TX0 k).2.2.1 = some (tyX0 k) := by decide +kernel
abbrev cX0_init : ByteArray := prog_2_method_1_code
def yX0_init : MethodName := ⟨RX0, "<init>", "()V"⟩
abbrev cX0_clear : ByteArray := prog_2_method_2_code
def yX0_clear : MethodName := ⟨RX0, "clear", "()V"⟩
abbrev cX0_extend : ByteArray := prog_2_method_3_code
def yX0_extend : MethodName := ⟨RX0, "extend", "(I)Z"⟩
def RX1 : String := "CosetCoder$State"
def TX1 : u_T := fun k => match k with
  | 0 => ("CosetCoder$State", "length", "I", false)
  | 1 => ("CosetCoder$State", "size", "I", false)
  | 2 => ("CosetCoder$State", "words", "[I", true)
  | _ => ("CosetCoder$State", "checks", "[Z", true)
def tyX1 : Nat → FieldType := fun k => match k with
  | 0 => .int
  | 1 => .int
  | 2 => .array .int
  | _ => .array .boolean
abbrev wsX10 : List Cond := u_ws RX1 TX1 4
theorem nmX1 : ∀ a, a < 4 → ∀ b, b < 4 → a ≠ b → (TX1 a).2.1 ≠ (TX1 b).2.1 := by decide +kernel
theorem tyX1_ok : ∀ k, k < 4 → parseFieldDescriptor (TX1 k).2.2.1 = some (tyX1 k) := by decide +kernel
abbrev cX1_init : ByteArray := prog_3_method_1_code
def yX1_init : MethodName := ⟨RX1, "<init>", "()V"⟩
abbrev cX1_put : ByteArray := prog_3_method_2_code
def yX1_put : MethodName := ⟨RX1, "put", "(IIZ)V"⟩
abbrev cX1_copyFrom : ByteArray := prog_3_method_3_code
def yX1_copyFrom : MethodName := ⟨RX1, "copyFrom", "(LCosetCoder$State;)V"⟩
def RX2 : String := "CosetCoder"
def TX2 : u_T := fun k => match k with
  | 0 => ("CosetCoder", "state", "LCosetCoder$State;", true)
  | 1 => ("CosetCoder", "saved", "[LCosetCoder$State;", true)
  | 2 => ("CosetCoder", "savedCount", "I", false)
  | 3 => ("CosetCoder", "errors", "[I", true)
  | _ => ("CosetCoder", "basis", "LCosetCoder$Basis;", true)
def tyX2 : Nat → FieldType := fun k => match k with
  | 0 => .object "CosetCoder$State"
  | 1 => .array (.object "CosetCoder$State")
  | 2 => .int
  | 3 => .array .int
  | _ => .object "CosetCoder$Basis"
abbrev wsX20 : List Cond := u_ws RX2 TX2 5
theorem nmX2 : ∀ a, a < 5 → ∀ b, b < 5 → a ≠ b → (TX2 a).2.1 ≠ (TX2 b).2.1 := by decide +kernel
theorem tyX2_ok : ∀ k, k < 5 → parseFieldDescriptor (TX2 k).2.2.1 = some (tyX2 k) := by decide +kernel
abbrev cX2_init : ByteArray := prog_1_method_1_code
def yX2_init : MethodName := ⟨RX2, "<init>", "()V"⟩
abbrev cX2_setLength : ByteArray := prog_1_method_2_code
def yX2_setLength : MethodName := ⟨RX2, "setLength", "(I)I"⟩
abbrev cX2_addRow : ByteArray := prog_1_method_3_code
def yX2_addRow : MethodName := ⟨RX2, "addRow", "(II)I"⟩
abbrev cX2_removeRow : ByteArray := prog_1_method_4_code
def yX2_removeRow : MethodName := ⟨RX2, "removeRow", "(I)I"⟩
abbrev cX2_removeDependentRows : ByteArray := prog_1_method_5_code
def yX2_removeDependentRows : MethodName := ⟨RX2, "removeDependentRows", "()I"⟩
abbrev cX2_row : ByteArray := prog_1_method_6_code
def yX2_row : MethodName := ⟨RX2, "row", "(I)I"⟩
abbrev cX2_isCheck : ByteArray := prog_1_method_7_code
def yX2_isCheck : MethodName := ⟨RX2, "isCheck", "(I)I"⟩
abbrev cX2_rank : ByteArray := prog_1_method_8_code
def yX2_rank : MethodName := ⟨RX2, "rank", "(I)I"⟩
abbrev cX2_message : ByteArray := prog_1_method_9_code
def yX2_message : MethodName := ⟨RX2, "message", "(I)I"⟩
abbrev cX2_checkValue : ByteArray := prog_1_method_10_code
def yX2_checkValue : MethodName := ⟨RX2, "checkValue", "(I)I"⟩
abbrev cX2_codewords : ByteArray := prog_1_method_11_code
def yX2_codewords : MethodName := ⟨RX2, "codewords", "()I"⟩
abbrev cX2_messages : ByteArray := prog_1_method_12_code
def yX2_messages : MethodName := ⟨RX2, "messages", "()I"⟩
abbrev cX2_choices : ByteArray := prog_1_method_13_code
def yX2_choices : MethodName := ⟨RX2, "choices", "(I)I"⟩
abbrev cX2_encode : ByteArray := prog_1_method_14_code
def yX2_encode : MethodName := ⟨RX2, "encode", "(II)I"⟩
abbrev cX2_decode : ByteArray := prog_1_method_15_code
def yX2_decode : MethodName := ⟨RX2, "decode", "(I)I"⟩
abbrev cX2_distance : ByteArray := prog_1_method_16_code
def yX2_distance : MethodName := ⟨RX2, "distance", "(I)I"⟩
abbrev cX2_weakness : ByteArray := prog_1_method_17_code
def yX2_weakness : MethodName := ⟨RX2, "weakness", "()I"⟩
abbrev cX2_leakage : ByteArray := prog_1_method_18_code
def yX2_leakage : MethodName := ⟨RX2, "leakage", "(I)I"⟩
abbrev cX2_worstLeakage : ByteArray := prog_1_method_19_code
def yX2_worstLeakage : MethodName := ⟨RX2, "worstLeakage", "(I)I"⟩
abbrev cX2_worstSet : ByteArray := prog_1_method_20_code
def yX2_worstSet : MethodName := ⟨RX2, "worstSet", "(I)I"⟩
abbrev cX2_threshold : ByteArray := prog_1_method_21_code
def yX2_threshold : MethodName := ⟨RX2, "threshold", "()I"⟩
abbrev cX2_leastSize : ByteArray := prog_1_method_22_code
def yX2_leastSize : MethodName := ⟨RX2, "leastSize", "(I)I"⟩
abbrev cX2_possibleMessages : ByteArray := prog_1_method_23_code
def yX2_possibleMessages : MethodName := ⟨RX2, "possibleMessages", "(II)I"⟩
abbrev cX2_possibleMessage : ByteArray := prog_1_method_24_code
def yX2_possibleMessage : MethodName := ⟨RX2, "possibleMessage", "(III)I"⟩
abbrev cX2_knownCombinations : ByteArray := prog_1_method_25_code
def yX2_knownCombinations : MethodName := ⟨RX2, "knownCombinations", "(I)I"⟩
abbrev cX2_undo : ByteArray := prog_1_method_26_code
def yX2_undo : MethodName := ⟨RX2, "undo", "()I"⟩
abbrev cX2_errorCount : ByteArray := prog_1_method_27_code
def yX2_errorCount : MethodName := ⟨RX2, "errorCount", "(I)I"⟩
abbrev cX2_digest : ByteArray := prog_1_method_28_code
def yX2_digest : MethodName := ⟨RX2, "digest", "()J"⟩
abbrev cX2_mix : ByteArray := prog_1_method_29_code
def yX2_mix : MethodName := ⟨RX2, "mix", "(JI)J"⟩
abbrev cX2_fail : ByteArray := prog_1_method_30_code
def yX2_fail : MethodName := ⟨RX2, "fail", "(I)I"⟩
abbrev cX2_saveState : ByteArray := prog_1_method_31_code
def yX2_saveState : MethodName := ⟨RX2, "saveState", "()V"⟩
abbrev cX2_dropOldest : ByteArray := prog_1_method_32_code
def yX2_dropOldest : MethodName := ⟨RX2, "dropOldest", "()V"⟩
abbrev cX2_allPositions : ByteArray := prog_1_method_33_code
def yX2_allPositions : MethodName := ⟨RX2, "allPositions", "()I"⟩
abbrev cX2_isWord : ByteArray := prog_1_method_34_code
def yX2_isWord : MethodName := ⟨RX2, "isWord", "(I)Z"⟩
abbrev cX2_isRowNumber : ByteArray := prog_1_method_35_code
def yX2_isRowNumber : MethodName := ⟨RX2, "isRowNumber", "(I)Z"⟩
abbrev cX2_isSize : ByteArray := prog_1_method_36_code
def yX2_isSize : MethodName := ⟨RX2, "isSize", "(I)Z"⟩
abbrev cX2_isObservation : ByteArray := prog_1_method_37_code
def yX2_isObservation : MethodName := ⟨RX2, "isObservation", "(II)Z"⟩
abbrev cX2_isMessage : ByteArray := prog_1_method_38_code
def yX2_isMessage : MethodName := ⟨RX2, "isMessage", "(I)Z"⟩
abbrev cX2_messageRows : ByteArray := prog_1_method_39_code
def yX2_messageRows : MethodName := ⟨RX2, "messageRows", "()I"⟩
abbrev cX2_syndrome : ByteArray := prog_1_method_40_code
def yX2_syndrome : MethodName := ⟨RX2, "syndrome", "(IZ)I"⟩
abbrev cX2_isCodeword : ByteArray := prog_1_method_41_code
def yX2_isCodeword : MethodName := ⟨RX2, "isCodeword", "(I)Z"⟩
abbrev cX2_isCodewordOf : ByteArray := prog_1_method_42_code
def yX2_isCodewordOf : MethodName := ⟨RX2, "isCodewordOf", "(II)Z"⟩
abbrev cX2_leastDistance : ByteArray := prog_1_method_43_code
def yX2_leastDistance : MethodName := ⟨RX2, "leastDistance", "(I)I"⟩
abbrev cX2_leastFatalErrors : ByteArray := prog_1_method_44_code
def yX2_leastFatalErrors : MethodName := ⟨RX2, "leastFatalErrors", "()I"⟩
abbrev cX2_rankOfKind : ByteArray := prog_1_method_45_code
def yX2_rankOfKind : MethodName := ⟨RX2, "rankOfKind", "(I)I"⟩
abbrev cX2_extendBasis : ByteArray := prog_1_method_46_code
def yX2_extendBasis : MethodName := ⟨RX2, "extendBasis", "(ZI)I"⟩
abbrev cX2_hiddenBits : ByteArray := prog_1_method_47_code
def yX2_hiddenBits : MethodName := ⟨RX2, "hiddenBits", "(I)I"⟩
abbrev cX2_leakedBits : ByteArray := prog_1_method_48_code
def yX2_leakedBits : MethodName := ⟨RX2, "leakedBits", "(I)I"⟩
abbrev cX2_leakiestSet : ByteArray := prog_1_method_49_code
def yX2_leakiestSet : MethodName := ⟨RX2, "leakiestSet", "(I)I"⟩
abbrev cX2_leastSizeLeaking : ByteArray := prog_1_method_50_code
def yX2_leastSizeLeaking : MethodName := ⟨RX2, "leastSizeLeaking", "(I)I"⟩
abbrev cX2_messagesFitting : ByteArray := prog_1_method_51_code
def yX2_messagesFitting : MethodName := ⟨RX2, "messagesFitting", "(II)J"⟩
def RX3 : String := "CosetCoderModel"
def TX3 : u_T := fun k => match k with
  | 0 => ("CosetCoderModel", "now", "[I", true)
  | 1 => ("CosetCoderModel", "past", "[I", true)
  | 2 => ("CosetCoderModel", "saved", "I", false)
  | 3 => ("CosetCoderModel", "errors", "[I", true)
  | 4 => ("CosetCoderModel", "left", "[I", true)
  | 5 => ("CosetCoderModel", "messageOf", "[I", true)
  | 6 => ("CosetCoderModel", "met", "[Z", true)
  | 7 => ("CosetCoderModel", "parityOf", "[I", true)
  | _ => ("CosetCoderModel", "hash", "J", false)
def tyX3 : Nat → FieldType := fun k => match k with
  | 0 => .array .int
  | 1 => .array .int
  | 2 => .int
  | 3 => .array .int
  | 4 => .array .int
  | 5 => .array .int
  | 6 => .array .boolean
  | 7 => .array .int
  | _ => .long
abbrev wsX30 : List Cond := u_ws RX3 TX3 9
theorem nmX3 : ∀ a, a < 9 → ∀ b, b < 9 → a ≠ b → (TX3 a).2.1 ≠ (TX3 b).2.1 := by decide +kernel
theorem tyX3_ok : ∀ k, k < 9 → parseFieldDescriptor (TX3 k).2.2.1 = some (tyX3 k) := by decide +kernel
abbrev cX3_init : ByteArray := prog_5_method_1_code
def yX3_init : MethodName := ⟨RX3, "<init>", "()V"⟩
abbrev cX3_within : ByteArray := prog_5_method_3_code
def yX3_within : MethodName := ⟨RX3, "within", "(III)Z"⟩
abbrev cX3_fails : ByteArray := prog_5_method_4_code
def yX3_fails : MethodName := ⟨RX3, "fails", "(I)I"⟩
abbrev cX3_words : ByteArray := prog_5_method_5_code
def yX3_words : MethodName := ⟨RX3, "words", "()I"⟩
abbrev cX3_isWord : ByteArray := prog_5_method_6_code
def yX3_isWord : MethodName := ⟨RX3, "isWord", "(I)Z"⟩
abbrev cX3_isRow : ByteArray := prog_5_method_7_code
def yX3_isRow : MethodName := ⟨RX3, "isRow", "(I)Z"⟩
abbrev cX3_ones : ByteArray := prog_5_method_8_code
def yX3_ones : MethodName := ⟨RX3, "ones", "(I)I"⟩
abbrev cX3_saves : ByteArray := prog_5_method_9_code
def yX3_saves : MethodName := ⟨RX3, "saves", "()V"⟩
abbrev cX3_undo : ByteArray := prog_5_method_10_code
def yX3_undo : MethodName := ⟨RX3, "undo", "()I"⟩
abbrev cX3_setLength : ByteArray := prog_5_method_11_code
def yX3_setLength : MethodName := ⟨RX3, "setLength", "(I)I"⟩
abbrev cX3_addRow : ByteArray := prog_5_method_12_code
def yX3_addRow : MethodName := ⟨RX3, "addRow", "(II)I"⟩
abbrev cX3_removes : ByteArray := prog_5_method_13_code
def yX3_removes : MethodName := ⟨RX3, "removes", "(I)V"⟩
abbrev cX3_removeRow : ByteArray := prog_5_method_14_code
def yX3_removeRow : MethodName := ⟨RX3, "removeRow", "(I)I"⟩
abbrev cX3_isDependent : ByteArray := prog_5_method_15_code
def yX3_isDependent : MethodName := ⟨RX3, "isDependent", "(I)Z"⟩
abbrev cX3_removeDependentRows : ByteArray := prog_5_method_16_code
def yX3_removeDependentRows : MethodName := ⟨RX3, "removeDependentRows", "()I"⟩
abbrev cX3_row : ByteArray := prog_5_method_17_code
def yX3_row : MethodName := ⟨RX3, "row", "(I)I"⟩
abbrev cX3_isCheck : ByteArray := prog_5_method_18_code
def yX3_isCheck : MethodName := ⟨RX3, "isCheck", "(I)I"⟩
abbrev cX3_rankOf : ByteArray := prog_5_method_19_code
def yX3_rankOf : MethodName := ⟨RX3, "rankOf", "(II)I"⟩
abbrev cX3_rank : ByteArray := prog_5_method_20_code
def yX3_rank : MethodName := ⟨RX3, "rank", "(I)I"⟩
abbrev cX3_syndrome : ByteArray := prog_5_method_21_code
def yX3_syndrome : MethodName := ⟨RX3, "syndrome", "(II)I"⟩
abbrev cX3_message : ByteArray := prog_5_method_22_code
def yX3_message : MethodName := ⟨RX3, "message", "(I)I"⟩
abbrev cX3_checkValue : ByteArray := prog_5_method_23_code
def yX3_checkValue : MethodName := ⟨RX3, "checkValue", "(I)I"⟩
abbrev cX3_laysMessages : ByteArray := prog_5_method_24_code
def yX3_laysMessages : MethodName := ⟨RX3, "laysMessages", "()V"⟩
abbrev cX3_meets : ByteArray := prog_5_method_25_code
def yX3_meets : MethodName := ⟨RX3, "meets", "(II)I"⟩
abbrev cX3_codewordMany : ByteArray := prog_5_method_26_code
def yX3_codewordMany : MethodName := ⟨RX3, "codewordMany", "()I"⟩
abbrev cX3_codewords : ByteArray := prog_5_method_27_code
def yX3_codewords : MethodName := ⟨RX3, "codewords", "()I"⟩
abbrev cX3_messages : ByteArray := prog_5_method_28_code
def yX3_messages : MethodName := ⟨RX3, "messages", "()I"⟩
abbrev cX3_choiceMany : ByteArray := prog_5_method_29_code
def yX3_choiceMany : MethodName := ⟨RX3, "choiceMany", "(I)I"⟩
abbrev cX3_choices : ByteArray := prog_5_method_30_code
def yX3_choices : MethodName := ⟨RX3, "choices", "(I)I"⟩
abbrev cX3_encode : ByteArray := prog_5_method_31_code
def yX3_encode : MethodName := ⟨RX3, "encode", "(II)I"⟩
abbrev cX3_nearest : ByteArray := prog_5_method_32_code
def yX3_nearest : MethodName := ⟨RX3, "nearest", "(I)I"⟩
abbrev cX3_decoded : ByteArray := prog_5_method_33_code
def yX3_decoded : MethodName := ⟨RX3, "decoded", "(I)I"⟩
abbrev cX3_decode : ByteArray := prog_5_method_34_code
def yX3_decode : MethodName := ⟨RX3, "decode", "(I)I"⟩
abbrev cX3_distance : ByteArray := prog_5_method_35_code
def yX3_distance : MethodName := ⟨RX3, "distance", "(I)I"⟩
abbrev cX3_weakness : ByteArray := prog_5_method_36_code
def yX3_weakness : MethodName := ⟨RX3, "weakness", "()I"⟩
abbrev cX3_lost : ByteArray := prog_5_method_37_code
def yX3_lost : MethodName := ⟨RX3, "lost", "(II)I"⟩
abbrev cX3_leakageOf : ByteArray := prog_5_method_38_code
def yX3_leakageOf : MethodName := ⟨RX3, "leakageOf", "(I)I"⟩
abbrev cX3_leakage : ByteArray := prog_5_method_39_code
def yX3_leakage : MethodName := ⟨RX3, "leakage", "(I)I"⟩
abbrev cX3_worstOf : ByteArray := prog_5_method_40_code
def yX3_worstOf : MethodName := ⟨RX3, "worstOf", "(I)I"⟩
abbrev cX3_isSize : ByteArray := prog_5_method_41_code
def yX3_isSize : MethodName := ⟨RX3, "isSize", "(I)Z"⟩
abbrev cX3_worstLeakage : ByteArray := prog_5_method_42_code
def yX3_worstLeakage : MethodName := ⟨RX3, "worstLeakage", "(I)I"⟩
abbrev cX3_worstSet : ByteArray := prog_5_method_43_code
def yX3_worstSet : MethodName := ⟨RX3, "worstSet", "(I)I"⟩
abbrev cX3_threshold : ByteArray := prog_5_method_44_code
def yX3_threshold : MethodName := ⟨RX3, "threshold", "()I"⟩
abbrev cX3_leastSize : ByteArray := prog_5_method_45_code
def yX3_leastSize : MethodName := ⟨RX3, "leastSize", "(I)I"⟩
abbrev cX3_isObservation : ByteArray := prog_5_method_46_code
def yX3_isObservation : MethodName := ⟨RX3, "isObservation", "(II)Z"⟩
abbrev cX3_possibleMessages : ByteArray := prog_5_method_47_code
def yX3_possibleMessages : MethodName := ⟨RX3, "possibleMessages", "(II)I"⟩
abbrev cX3_possibleMessage : ByteArray := prog_5_method_48_code
def yX3_possibleMessage : MethodName := ⟨RX3, "possibleMessage", "(III)I"⟩
abbrev cX3_isKnown : ByteArray := prog_5_method_49_code
def yX3_isKnown : MethodName := ⟨RX3, "isKnown", "(II)Z"⟩
abbrev cX3_knownCombinations : ByteArray := prog_5_method_50_code
def yX3_knownCombinations : MethodName := ⟨RX3, "knownCombinations", "(I)I"⟩
abbrev cX3_errorCount : ByteArray := prog_5_method_51_code
def yX3_errorCount : MethodName := ⟨RX3, "errorCount", "(I)I"⟩
abbrev cX3_mix : ByteArray := prog_5_method_52_code
def yX3_mix : MethodName := ⟨RX3, "mix", "(I)V"⟩
abbrev cX3_digest : ByteArray := prog_5_method_53_code
def yX3_digest : MethodName := ⟨RX3, "digest", "()J"⟩
def RJ6 : String := "java/lang/Integer"
def TJ6 : u_T := fun k => match k with
  | _ => ("", "", "", false)
def tyJ6 : Nat → FieldType := fun k => match k with
  | _ => .int
abbrev wsJ60 : List Cond := u_ws RJ6 TJ6 0
theorem nmJ6 : ∀ a, a < 0 → ∀ b, b < 0 → a ≠ b → (TJ6 a).2.1 ≠ (TJ6 b).2.1 := by decide +kernel
theorem tyJ6_ok : ∀ k, k < 0 → parseFieldDescriptor (TJ6 k).2.2.1 = some (tyJ6 k) := by decide +kernel
abbrev cJ6_bitCount_0f7a4 : ByteArray := prog_6_method_49_code
def yJ6_bitCount_0f7a4 : MethodName := ⟨RJ6, "bitCount", "(I)I"⟩
def RJ13 : String := "java/lang/Long"
def TJ13 : u_T := fun k => match k with
  | _ => ("", "", "", false)
def tyJ13 : Nat → FieldType := fun k => match k with
  | _ => .int
abbrev wsJ130 : List Cond := u_ws RJ13 TJ13 0
theorem nmJ13 : ∀ a, a < 0 → ∀ b, b < 0 → a ≠ b → (TJ13 a).2.1 ≠ (TJ13 b).2.1 := by decide +kernel
theorem tyJ13_ok : ∀ k, k < 0 → parseFieldDescriptor (TJ13 k).2.2.1 = some (tyJ13 k) := by decide +kernel
abbrev cJ13_bitCount_95d88 : ByteArray := prog_7_method_50_code
def yJ13_bitCount_95d88 : MethodName := ⟨RJ13, "bitCount", "(J)I"⟩
def RJ9 : String := "java/lang/Math"
def TJ9 : u_T := fun k => match k with
  | _ => ("", "", "", false)
def tyJ9 : Nat → FieldType := fun k => match k with
  | _ => .int
abbrev wsJ90 : List Cond := u_ws RJ9 TJ9 0
theorem nmJ9 : ∀ a, a < 0 → ∀ b, b < 0 → a ≠ b → (TJ9 a).2.1 ≠ (TJ9 b).2.1 := by decide +kernel
theorem tyJ9_ok : ∀ k, k < 0 → parseFieldDescriptor (TJ9 k).2.2.1 = some (tyJ9 k) := by decide +kernel
abbrev cJ9_min_7cf53 : ByteArray := prog_8_method_69_code
def yJ9_min_7cf53 : MethodName := ⟨RJ9, "min", "(II)I"⟩
def RL : String := "CosetCoderLaw"
abbrev cL_law : ByteArray := code
def yL_law : MethodName := ⟨RL, "law", "([I)Z"⟩
def wsX0_init : List Cond := .code yX0_init cX0_init 1 none :: ([.methodLink RX0 3 objectInit, .instanceMethod objectInit, .code objectInit ⟨#[0xb1]⟩ 1 none, .arrayClass .int, .fieldLink RX0 9 "CosetCoder$Basis" "vectors" "[I", .fieldLink RX0 15 "CosetCoder$Basis" "count" "I"] ++ wsX00)
def wsX0_clear : List Cond := .code yX0_clear cX0_clear 1 none :: ([.fieldLink RX0 15 "CosetCoder$Basis" "count" "I"] ++ wsX00)
def wsX0_extend : List Cond := .code yX0_extend cX0_extend 4 (some .boolean) :: ([.fieldLink RX0 15 "CosetCoder$Basis" "count" "I", .fieldLink RX0 9 "CosetCoder$Basis" "vectors" "[I", .methodLink RX0 19 Lib.Math.min.name, .static Lib.Math.min.name, .initialized "java/lang/Math", .code Lib.Math.min.name Lib.Math.min.code 2 (some .int)] ++ wsX00)
def wsX1_init : List Cond := .code yX1_init cX1_init 1 none :: ([.methodLink RX1 3 objectInit, .instanceMethod objectInit, .code objectInit ⟨#[0xb1]⟩ 1 none, .fieldLink RX1 9 "CosetCoder$State" "length" "I", .fieldLink RX1 15 "CosetCoder$State" "size" "I", .arrayClass .int, .fieldLink RX1 18 "CosetCoder$State" "words" "[I", .arrayClass .boolean, .fieldLink RX1 22 "CosetCoder$State" "checks" "[Z"] ++ wsX10)
def wsX1_put : List Cond := .code yX1_put cX1_put 4 none :: ([.fieldLink RX1 18 "CosetCoder$State" "words" "[I", .fieldLink RX1 22 "CosetCoder$State" "checks" "[Z"] ++ wsX10)
def wsX1_copyFrom : List Cond := .code yX1_copyFrom cX1_copyFrom 3 none :: ([.fieldLink RX1 9 "CosetCoder$State" "length" "I", .fieldLink RX1 15 "CosetCoder$State" "size" "I", .fieldLink RX1 18 "CosetCoder$State" "words" "[I", .fieldLink RX1 22 "CosetCoder$State" "checks" "[Z"] ++ wsX10)
def wsX2_init_r1 : List Cond := [Cond.methodLink RX2 3 objectInit, Cond.instanceMethod objectInit, Cond.code objectInit ⟨#[0xb1]⟩ 1 none, Cond.classLink RX2 9 RX1, Cond.instantiable RX1 4, Cond.initialized RX1, Cond.fieldLink RX2 12 "CosetCoder" "state" "LCosetCoder$State;", Cond.fieldLink RX2 16 "CosetCoder" "saved" "[LCosetCoder$State;", Cond.fieldLink RX2 20 "CosetCoder" "savedCount" "I", Cond.arrayClass .int, Cond.fieldLink RX2 24 "CosetCoder" "errors" "[I", Cond.classLink RX2 28 RX0, Cond.instantiable RX0 2, Cond.initialized RX0, Cond.fieldLink RX2 31 "CosetCoder" "basis" "LCosetCoder$Basis;", Cond.instanceMethod yX1_init, Cond.code yX1_init cX1_init 1 none, Cond.methodLink RX1 3 objectInit, Cond.fieldLink RX1 9 "CosetCoder$State" "length" "I", Cond.fieldLink RX1 15 "CosetCoder$State" "size" "I", Cond.fieldLink RX1 18 "CosetCoder$State" "words" "[I", Cond.arrayClass .boolean, Cond.fieldLink RX1 22 "CosetCoder$State" "checks" "[Z", Cond.instanceMethod yX0_init]
def wsX2_init_r2 : List Cond := [Cond.code yX0_init cX0_init 1 none, Cond.methodLink RX0 3 objectInit, Cond.fieldLink RX0 9 "CosetCoder$Basis" "vectors" "[I", Cond.fieldLink RX0 15 "CosetCoder$Basis" "count" "I"]
def wsX2_init : List Cond := .code yX2_init cX2_init 2 none :: ((wsX2_init_r1 ++ wsX2_init_r2) ++ wsX10 ++ wsX20 ++ wsX00)
def wsX2_fail : List Cond := .code yX2_fail cX2_fail 3 (some .int) :: ([.fieldLink RX2 24 "CosetCoder" "errors" "[I"] ++ wsX20)
def wsX2_dropOldest : List Cond := .code yX2_dropOldest cX2_dropOldest 3 none :: ([.fieldLink RX2 16 "CosetCoder" "saved" "[LCosetCoder$State;", .fieldLink RX2 20 "CosetCoder" "savedCount" "I"] ++ wsX20)
def wsX2_saveState : List Cond := .code yX2_saveState cX2_saveState 1 none :: ([.fieldLink RX2 20 "CosetCoder" "savedCount" "I", .fieldLink RX2 16 "CosetCoder" "saved" "[LCosetCoder$State;", .fieldLink RX2 12 "CosetCoder" "state" "LCosetCoder$State;", .methodLink RX2 158 yX2_dropOldest, .instanceMethod yX2_dropOldest, .selects RX2 yX2_dropOldest yX2_dropOldest, .initialized RX2, .code yX2_dropOldest cX2_dropOldest 3 none, .instanceMethod yX1_copyFrom, .initialized RX1, .selects RX1 yX1_copyFrom yX1_copyFrom, .code yX1_copyFrom cX1_copyFrom 3 none, .fieldLink RX1 9 "CosetCoder$State" "length" "I", .fieldLink RX1 15 "CosetCoder$State" "size" "I", .fieldLink RX1 18 "CosetCoder$State" "words" "[I", .fieldLink RX1 22 "CosetCoder$State" "checks" "[Z"] ++ wsX20 ++ wsX10)
def wsX2_setLength_r1 : List Cond := [Cond.fieldLink RX2 12 "CosetCoder" "state" "LCosetCoder$State;", Cond.methodLink RX2 35 yX2_fail, Cond.instanceMethod yX2_fail, Cond.selects RX2 yX2_fail yX2_fail, Cond.initialized RX2, Cond.code yX2_fail cX2_fail 3 (some .int), Cond.fieldLink RX2 24 "CosetCoder" "errors" "[I", Cond.methodLink RX2 39 yX2_saveState, Cond.instanceMethod yX2_saveState, Cond.selects RX2 yX2_saveState yX2_saveState, Cond.code yX2_saveState cX2_saveState 1 none, Cond.fieldLink RX2 20 "CosetCoder" "savedCount" "I", Cond.fieldLink RX2 16 "CosetCoder" "saved" "[LCosetCoder$State;", Cond.methodLink RX2 158 yX2_dropOldest, Cond.instanceMethod yX2_dropOldest, Cond.selects RX2 yX2_dropOldest yX2_dropOldest, Cond.code yX2_dropOldest cX2_dropOldest 3 none, Cond.instanceMethod yX1_copyFrom, Cond.initialized RX1, Cond.selects RX1 yX1_copyFrom yX1_copyFrom, Cond.code yX1_copyFrom cX1_copyFrom 3 none, Cond.fieldLink RX1 9 "CosetCoder$State" "length" "I", Cond.fieldLink RX1 15 "CosetCoder$State" "size" "I", Cond.fieldLink RX1 18 "CosetCoder$State" "words" "[I"]
def wsX2_setLength_r2 : List Cond := [Cond.fieldLink RX1 22 "CosetCoder$State" "checks" "[Z"]
def wsX2_setLength : List Cond := .code yX2_setLength cX2_setLength 3 (some .int) :: ((wsX2_setLength_r1 ++ wsX2_setLength_r2) ++ wsX20 ++ wsX10)
def wsX2_allPositions : List Cond := .code yX2_allPositions cX2_allPositions 1 (some .int) :: ([.fieldLink RX2 12 "CosetCoder" "state" "LCosetCoder$State;"] ++ wsX20 ++ wsX10)
def wsX2_isWord : List Cond := .code yX2_isWord cX2_isWord 2 (some .boolean) :: ([.methodLink RX2 79 yX2_allPositions, .instanceMethod yX2_allPositions, .selects RX2 yX2_allPositions yX2_allPositions, .initialized RX2, .code yX2_allPositions cX2_allPositions 1 (some .int), .fieldLink RX2 12 "CosetCoder" "state" "LCosetCoder$State;"] ++ wsX20 ++ wsX10)
def wsX2_addRow_r1 : List Cond := [Cond.fieldLink RX2 12 "CosetCoder" "state" "LCosetCoder$State;", Cond.methodLink RX2 48 yX2_isWord, Cond.instanceMethod yX2_isWord, Cond.selects RX2 yX2_isWord yX2_isWord, Cond.initialized RX2, Cond.code yX2_isWord cX2_isWord 2 (some .boolean), Cond.methodLink RX2 79 yX2_allPositions, Cond.instanceMethod yX2_allPositions, Cond.selects RX2 yX2_allPositions yX2_allPositions, Cond.code yX2_allPositions cX2_allPositions 1 (some .int), Cond.methodLink RX2 35 yX2_fail, Cond.instanceMethod yX2_fail, Cond.selects RX2 yX2_fail yX2_fail, Cond.code yX2_fail cX2_fail 3 (some .int), Cond.fieldLink RX2 24 "CosetCoder" "errors" "[I", Cond.methodLink RX2 39 yX2_saveState, Cond.instanceMethod yX2_saveState, Cond.selects RX2 yX2_saveState yX2_saveState, Cond.code yX2_saveState cX2_saveState 1 none, Cond.fieldLink RX2 20 "CosetCoder" "savedCount" "I", Cond.fieldLink RX2 16 "CosetCoder" "saved" "[LCosetCoder$State;", Cond.methodLink RX2 158 yX2_dropOldest, Cond.instanceMethod yX2_dropOldest, Cond.selects RX2 yX2_dropOldest yX2_dropOldest]
def wsX2_addRow_r2 : List Cond := [Cond.code yX2_dropOldest cX2_dropOldest 3 none, Cond.instanceMethod yX1_copyFrom, Cond.initialized RX1, Cond.selects RX1 yX1_copyFrom yX1_copyFrom, Cond.code yX1_copyFrom cX1_copyFrom 3 none, Cond.fieldLink RX1 9 "CosetCoder$State" "length" "I", Cond.fieldLink RX1 15 "CosetCoder$State" "size" "I", Cond.fieldLink RX1 18 "CosetCoder$State" "words" "[I", Cond.fieldLink RX1 22 "CosetCoder$State" "checks" "[Z", Cond.instanceMethod yX1_put, Cond.selects RX1 yX1_put yX1_put, Cond.code yX1_put cX1_put 4 none]
def wsX2_addRow : List Cond := .code yX2_addRow cX2_addRow 3 (some .int) :: ((wsX2_addRow_r1 ++ wsX2_addRow_r2) ++ wsX20 ++ wsX10)
def wsX2_isRowNumber : List Cond := .code yX2_isRowNumber cX2_isRowNumber 2 (some .boolean) :: ([.fieldLink RX2 12 "CosetCoder" "state" "LCosetCoder$State;"] ++ wsX20 ++ wsX10)
def wsX2_removeRow_r1 : List Cond := [Cond.fieldLink RX2 12 "CosetCoder" "state" "LCosetCoder$State;", Cond.methodLink RX2 56 yX2_isRowNumber, Cond.instanceMethod yX2_isRowNumber, Cond.selects RX2 yX2_isRowNumber yX2_isRowNumber, Cond.initialized RX2, Cond.code yX2_isRowNumber cX2_isRowNumber 2 (some .boolean), Cond.methodLink RX2 35 yX2_fail, Cond.instanceMethod yX2_fail, Cond.selects RX2 yX2_fail yX2_fail, Cond.code yX2_fail cX2_fail 3 (some .int), Cond.fieldLink RX2 24 "CosetCoder" "errors" "[I", Cond.methodLink RX2 39 yX2_saveState, Cond.instanceMethod yX2_saveState, Cond.selects RX2 yX2_saveState yX2_saveState, Cond.code yX2_saveState cX2_saveState 1 none, Cond.fieldLink RX2 20 "CosetCoder" "savedCount" "I", Cond.fieldLink RX2 16 "CosetCoder" "saved" "[LCosetCoder$State;", Cond.methodLink RX2 158 yX2_dropOldest, Cond.instanceMethod yX2_dropOldest, Cond.selects RX2 yX2_dropOldest yX2_dropOldest, Cond.code yX2_dropOldest cX2_dropOldest 3 none, Cond.instanceMethod yX1_copyFrom, Cond.initialized RX1, Cond.selects RX1 yX1_copyFrom yX1_copyFrom]
def wsX2_removeRow_r2 : List Cond := [Cond.code yX1_copyFrom cX1_copyFrom 3 none, Cond.fieldLink RX1 9 "CosetCoder$State" "length" "I", Cond.fieldLink RX1 15 "CosetCoder$State" "size" "I", Cond.fieldLink RX1 18 "CosetCoder$State" "words" "[I", Cond.fieldLink RX1 22 "CosetCoder$State" "checks" "[Z", Cond.instanceMethod yX1_put, Cond.selects RX1 yX1_put yX1_put, Cond.code yX1_put cX1_put 4 none]
def wsX2_removeRow : List Cond := .code yX2_removeRow cX2_removeRow 3 (some .int) :: ((wsX2_removeRow_r1 ++ wsX2_removeRow_r2) ++ wsX20 ++ wsX10)
def wsX2_removeDependentRows_r1 : List Cond := [Cond.fieldLink RX2 31 "CosetCoder" "basis" "LCosetCoder$Basis;", Cond.fieldLink RX2 12 "CosetCoder" "state" "LCosetCoder$State;", Cond.methodLink RX2 39 yX2_saveState, Cond.instanceMethod yX2_saveState, Cond.selects RX2 yX2_saveState yX2_saveState, Cond.initialized RX2, Cond.code yX2_saveState cX2_saveState 1 none, Cond.fieldLink RX2 20 "CosetCoder" "savedCount" "I", Cond.fieldLink RX2 16 "CosetCoder" "saved" "[LCosetCoder$State;", Cond.methodLink RX2 158 yX2_dropOldest, Cond.instanceMethod yX2_dropOldest, Cond.selects RX2 yX2_dropOldest yX2_dropOldest, Cond.code yX2_dropOldest cX2_dropOldest 3 none, Cond.instanceMethod yX1_copyFrom, Cond.initialized RX1, Cond.selects RX1 yX1_copyFrom yX1_copyFrom, Cond.code yX1_copyFrom cX1_copyFrom 3 none, Cond.fieldLink RX1 9 "CosetCoder$State" "length" "I", Cond.fieldLink RX1 15 "CosetCoder$State" "size" "I", Cond.fieldLink RX1 18 "CosetCoder$State" "words" "[I", Cond.fieldLink RX1 22 "CosetCoder$State" "checks" "[Z", Cond.instanceMethod yX0_clear, Cond.initialized RX0, Cond.selects RX0 yX0_clear yX0_clear]
def wsX2_removeDependentRows_r2 : List Cond := [Cond.code yX0_clear cX0_clear 1 none, Cond.fieldLink RX0 15 "CosetCoder$Basis" "count" "I", Cond.instanceMethod yX0_extend, Cond.selects RX0 yX0_extend yX0_extend, Cond.code yX0_extend cX0_extend 4 (some .boolean), Cond.fieldLink RX0 9 "CosetCoder$Basis" "vectors" "[I", Cond.methodLink RX0 19 Lib.Math.min.name, Cond.static Lib.Math.min.name, Cond.initialized "java/lang/Math", Cond.code Lib.Math.min.name Lib.Math.min.code 2 (some .int), Cond.instanceMethod yX1_put, Cond.selects RX1 yX1_put yX1_put, Cond.code yX1_put cX1_put 4 none]
def wsX2_removeDependentRows : List Cond := .code yX2_removeDependentRows cX2_removeDependentRows 4 (some .int) :: ((wsX2_removeDependentRows_r1 ++ wsX2_removeDependentRows_r2) ++ wsX20 ++ wsX10 ++ wsX00)
def wsX2_row : List Cond := .code yX2_row cX2_row 2 (some .int) :: ([.fieldLink RX2 12 "CosetCoder" "state" "LCosetCoder$State;", .methodLink RX2 56 yX2_isRowNumber, .instanceMethod yX2_isRowNumber, .selects RX2 yX2_isRowNumber yX2_isRowNumber, .initialized RX2, .code yX2_isRowNumber cX2_isRowNumber 2 (some .boolean), .methodLink RX2 35 yX2_fail, .instanceMethod yX2_fail, .selects RX2 yX2_fail yX2_fail, .code yX2_fail cX2_fail 3 (some .int), .fieldLink RX2 24 "CosetCoder" "errors" "[I"] ++ wsX20 ++ wsX10)
def wsX2_isCheck : List Cond := .code yX2_isCheck cX2_isCheck 2 (some .int) :: ([.fieldLink RX2 12 "CosetCoder" "state" "LCosetCoder$State;", .methodLink RX2 56 yX2_isRowNumber, .instanceMethod yX2_isRowNumber, .selects RX2 yX2_isRowNumber yX2_isRowNumber, .initialized RX2, .code yX2_isRowNumber cX2_isRowNumber 2 (some .boolean), .methodLink RX2 35 yX2_fail, .instanceMethod yX2_fail, .selects RX2 yX2_fail yX2_fail, .code yX2_fail cX2_fail 3 (some .int), .fieldLink RX2 24 "CosetCoder" "errors" "[I"] ++ wsX20 ++ wsX10)
def wsX2_extendBasis : List Cond := .code yX2_extendBasis cX2_extendBasis 5 (some .int) :: ([.fieldLink RX2 12 "CosetCoder" "state" "LCosetCoder$State;", .fieldLink RX2 31 "CosetCoder" "basis" "LCosetCoder$Basis;", .instanceMethod yX0_extend, .initialized RX0, .selects RX0 yX0_extend yX0_extend, .code yX0_extend cX0_extend 4 (some .boolean), .fieldLink RX0 15 "CosetCoder$Basis" "count" "I", .fieldLink RX0 9 "CosetCoder$Basis" "vectors" "[I", .methodLink RX0 19 Lib.Math.min.name, .static Lib.Math.min.name, .initialized "java/lang/Math", .code Lib.Math.min.name Lib.Math.min.code 2 (some .int)] ++ wsX20 ++ wsX10 ++ wsX00)
def wsX2_rankOfKind : List Cond := .code yX2_rankOfKind cX2_rankOfKind 3 (some .int) :: ([.fieldLink RX2 31 "CosetCoder" "basis" "LCosetCoder$Basis;", .instanceMethod yX0_clear, .initialized RX0, .selects RX0 yX0_clear yX0_clear, .code yX0_clear cX0_clear 1 none, .fieldLink RX0 15 "CosetCoder$Basis" "count" "I", .methodLink RX2 79 yX2_allPositions, .instanceMethod yX2_allPositions, .selects RX2 yX2_allPositions yX2_allPositions, .initialized RX2, .code yX2_allPositions cX2_allPositions 1 (some .int), .fieldLink RX2 12 "CosetCoder" "state" "LCosetCoder$State;", .methodLink RX2 161 yX2_extendBasis, .instanceMethod yX2_extendBasis, .selects RX2 yX2_extendBasis yX2_extendBasis, .code yX2_extendBasis cX2_extendBasis 5 (some .int), .instanceMethod yX0_extend, .selects RX0 yX0_extend yX0_extend, .code yX0_extend cX0_extend 4 (some .boolean), .fieldLink RX0 9 "CosetCoder$Basis" "vectors" "[I", .methodLink RX0 19 Lib.Math.min.name, .static Lib.Math.min.name, .initialized "java/lang/Math", .code Lib.Math.min.name Lib.Math.min.code 2 (some .int)] ++ wsX20 ++ wsX00 ++ wsX10)
def wsX2_rank_r1 : List Cond := [Cond.methodLink RX2 35 yX2_fail, Cond.instanceMethod yX2_fail, Cond.selects RX2 yX2_fail yX2_fail, Cond.initialized RX2, Cond.code yX2_fail cX2_fail 3 (some .int), Cond.fieldLink RX2 24 "CosetCoder" "errors" "[I", Cond.methodLink RX2 72 yX2_rankOfKind, Cond.instanceMethod yX2_rankOfKind, Cond.selects RX2 yX2_rankOfKind yX2_rankOfKind, Cond.code yX2_rankOfKind cX2_rankOfKind 3 (some .int), Cond.fieldLink RX2 31 "CosetCoder" "basis" "LCosetCoder$Basis;", Cond.instanceMethod yX0_clear, Cond.initialized RX0, Cond.selects RX0 yX0_clear yX0_clear, Cond.code yX0_clear cX0_clear 1 none, Cond.fieldLink RX0 15 "CosetCoder$Basis" "count" "I", Cond.methodLink RX2 79 yX2_allPositions, Cond.instanceMethod yX2_allPositions, Cond.selects RX2 yX2_allPositions yX2_allPositions, Cond.code yX2_allPositions cX2_allPositions 1 (some .int), Cond.fieldLink RX2 12 "CosetCoder" "state" "LCosetCoder$State;", Cond.methodLink RX2 161 yX2_extendBasis, Cond.instanceMethod yX2_extendBasis, Cond.selects RX2 yX2_extendBasis yX2_extendBasis]
def wsX2_rank_r2 : List Cond := [Cond.code yX2_extendBasis cX2_extendBasis 5 (some .int), Cond.instanceMethod yX0_extend, Cond.selects RX0 yX0_extend yX0_extend, Cond.code yX0_extend cX0_extend 4 (some .boolean), Cond.fieldLink RX0 9 "CosetCoder$Basis" "vectors" "[I", Cond.methodLink RX0 19 Lib.Math.min.name, Cond.static Lib.Math.min.name, Cond.initialized "java/lang/Math", Cond.code Lib.Math.min.name Lib.Math.min.code 2 (some .int)]
def wsX2_rank : List Cond := .code yX2_rank cX2_rank 2 (some .int) :: ((wsX2_rank_r1 ++ wsX2_rank_r2) ++ wsX20 ++ wsX00 ++ wsX10)
def wsJ6_bitCount_0f7a4 : List Cond := .code yJ6_bitCount_0f7a4 cJ6_bitCount_0f7a4 1 (some .int) :: ([.constant RJ6 265 (1431655765), .constant RJ6 266 (858993459), .constant RJ6 267 (252645135)])
def wsX2_syndrome : List Cond := .code yX2_syndrome cX2_syndrome 6 (some .int) :: ([.fieldLink RX2 12 "CosetCoder" "state" "LCosetCoder$State;", .methodLink RX2 96 yJ6_bitCount_0f7a4, .static yJ6_bitCount_0f7a4, .initialized RJ6, .code yJ6_bitCount_0f7a4 cJ6_bitCount_0f7a4 1 (some .int), .constant RJ6 265 (1431655765), .constant RJ6 266 (858993459), .constant RJ6 267 (252645135)] ++ wsX20 ++ wsX10)
def wsX2_message_r1 : List Cond := [Cond.methodLink RX2 48 yX2_isWord, Cond.instanceMethod yX2_isWord, Cond.selects RX2 yX2_isWord yX2_isWord, Cond.initialized RX2, Cond.code yX2_isWord cX2_isWord 2 (some .boolean), Cond.methodLink RX2 79 yX2_allPositions, Cond.instanceMethod yX2_allPositions, Cond.selects RX2 yX2_allPositions yX2_allPositions, Cond.code yX2_allPositions cX2_allPositions 1 (some .int), Cond.fieldLink RX2 12 "CosetCoder" "state" "LCosetCoder$State;", Cond.methodLink RX2 35 yX2_fail, Cond.instanceMethod yX2_fail, Cond.selects RX2 yX2_fail yX2_fail, Cond.code yX2_fail cX2_fail 3 (some .int), Cond.fieldLink RX2 24 "CosetCoder" "errors" "[I", Cond.methodLink RX2 75 yX2_syndrome, Cond.instanceMethod yX2_syndrome, Cond.selects RX2 yX2_syndrome yX2_syndrome, Cond.code yX2_syndrome cX2_syndrome 6 (some .int), Cond.methodLink RX2 96 yJ6_bitCount_0f7a4, Cond.static yJ6_bitCount_0f7a4, Cond.initialized RJ6, Cond.code yJ6_bitCount_0f7a4 cJ6_bitCount_0f7a4 1 (some .int), Cond.constant RJ6 265 (1431655765)]
def wsX2_message_r2 : List Cond := [Cond.constant RJ6 266 (858993459), Cond.constant RJ6 267 (252645135)]
def wsX2_message : List Cond := .code yX2_message cX2_message 2 (some .int) :: ((wsX2_message_r1 ++ wsX2_message_r2) ++ wsX20 ++ wsX10)
def wsX2_checkValue_r1 : List Cond := [Cond.methodLink RX2 48 yX2_isWord, Cond.instanceMethod yX2_isWord, Cond.selects RX2 yX2_isWord yX2_isWord, Cond.initialized RX2, Cond.code yX2_isWord cX2_isWord 2 (some .boolean), Cond.methodLink RX2 79 yX2_allPositions, Cond.instanceMethod yX2_allPositions, Cond.selects RX2 yX2_allPositions yX2_allPositions, Cond.code yX2_allPositions cX2_allPositions 1 (some .int), Cond.fieldLink RX2 12 "CosetCoder" "state" "LCosetCoder$State;", Cond.methodLink RX2 35 yX2_fail, Cond.instanceMethod yX2_fail, Cond.selects RX2 yX2_fail yX2_fail, Cond.code yX2_fail cX2_fail 3 (some .int), Cond.fieldLink RX2 24 "CosetCoder" "errors" "[I", Cond.methodLink RX2 75 yX2_syndrome, Cond.instanceMethod yX2_syndrome, Cond.selects RX2 yX2_syndrome yX2_syndrome, Cond.code yX2_syndrome cX2_syndrome 6 (some .int), Cond.methodLink RX2 96 yJ6_bitCount_0f7a4, Cond.static yJ6_bitCount_0f7a4, Cond.initialized RJ6, Cond.code yJ6_bitCount_0f7a4 cJ6_bitCount_0f7a4 1 (some .int), Cond.constant RJ6 265 (1431655765)]
def wsX2_checkValue_r2 : List Cond := [Cond.constant RJ6 266 (858993459), Cond.constant RJ6 267 (252645135)]
def wsX2_checkValue : List Cond := .code yX2_checkValue cX2_checkValue 2 (some .int) :: ((wsX2_checkValue_r1 ++ wsX2_checkValue_r2) ++ wsX20 ++ wsX10)
def wsX2_codewords_r1 : List Cond := [Cond.fieldLink RX2 12 "CosetCoder" "state" "LCosetCoder$State;", Cond.methodLink RX2 72 yX2_rankOfKind, Cond.instanceMethod yX2_rankOfKind, Cond.selects RX2 yX2_rankOfKind yX2_rankOfKind, Cond.initialized RX2, Cond.code yX2_rankOfKind cX2_rankOfKind 3 (some .int), Cond.fieldLink RX2 31 "CosetCoder" "basis" "LCosetCoder$Basis;", Cond.instanceMethod yX0_clear, Cond.initialized RX0, Cond.selects RX0 yX0_clear yX0_clear, Cond.code yX0_clear cX0_clear 1 none, Cond.fieldLink RX0 15 "CosetCoder$Basis" "count" "I", Cond.methodLink RX2 79 yX2_allPositions, Cond.instanceMethod yX2_allPositions, Cond.selects RX2 yX2_allPositions yX2_allPositions, Cond.code yX2_allPositions cX2_allPositions 1 (some .int), Cond.methodLink RX2 161 yX2_extendBasis, Cond.instanceMethod yX2_extendBasis, Cond.selects RX2 yX2_extendBasis yX2_extendBasis, Cond.code yX2_extendBasis cX2_extendBasis 5 (some .int), Cond.instanceMethod yX0_extend, Cond.selects RX0 yX0_extend yX0_extend, Cond.code yX0_extend cX0_extend 4 (some .boolean), Cond.fieldLink RX0 9 "CosetCoder$Basis" "vectors" "[I"]
def wsX2_codewords_r2 : List Cond := [Cond.methodLink RX0 19 Lib.Math.min.name, Cond.static Lib.Math.min.name, Cond.initialized "java/lang/Math", Cond.code Lib.Math.min.name Lib.Math.min.code 2 (some .int)]
def wsX2_codewords : List Cond := .code yX2_codewords cX2_codewords 1 (some .int) :: ((wsX2_codewords_r1 ++ wsX2_codewords_r2) ++ wsX20 ++ wsX10 ++ wsX00)
def wsX2_hiddenBits : List Cond := .code yX2_hiddenBits cX2_hiddenBits 2 (some .int) :: ([.fieldLink RX2 31 "CosetCoder" "basis" "LCosetCoder$Basis;", .instanceMethod yX0_clear, .initialized RX0, .selects RX0 yX0_clear yX0_clear, .code yX0_clear cX0_clear 1 none, .fieldLink RX0 15 "CosetCoder$Basis" "count" "I", .methodLink RX2 161 yX2_extendBasis, .instanceMethod yX2_extendBasis, .selects RX2 yX2_extendBasis yX2_extendBasis, .initialized RX2, .code yX2_extendBasis cX2_extendBasis 5 (some .int), .fieldLink RX2 12 "CosetCoder" "state" "LCosetCoder$State;", .instanceMethod yX0_extend, .selects RX0 yX0_extend yX0_extend, .code yX0_extend cX0_extend 4 (some .boolean), .fieldLink RX0 9 "CosetCoder$Basis" "vectors" "[I", .methodLink RX0 19 Lib.Math.min.name, .static Lib.Math.min.name, .initialized "java/lang/Math", .code Lib.Math.min.name Lib.Math.min.code 2 (some .int)] ++ wsX20 ++ wsX00 ++ wsX10)
def wsX2_messages_r1 : List Cond := [Cond.methodLink RX2 79 yX2_allPositions, Cond.instanceMethod yX2_allPositions, Cond.selects RX2 yX2_allPositions yX2_allPositions, Cond.initialized RX2, Cond.code yX2_allPositions cX2_allPositions 1 (some .int), Cond.fieldLink RX2 12 "CosetCoder" "state" "LCosetCoder$State;", Cond.methodLink RX2 83 yX2_hiddenBits, Cond.instanceMethod yX2_hiddenBits, Cond.selects RX2 yX2_hiddenBits yX2_hiddenBits, Cond.code yX2_hiddenBits cX2_hiddenBits 2 (some .int), Cond.fieldLink RX2 31 "CosetCoder" "basis" "LCosetCoder$Basis;", Cond.instanceMethod yX0_clear, Cond.initialized RX0, Cond.selects RX0 yX0_clear yX0_clear, Cond.code yX0_clear cX0_clear 1 none, Cond.fieldLink RX0 15 "CosetCoder$Basis" "count" "I", Cond.methodLink RX2 161 yX2_extendBasis, Cond.instanceMethod yX2_extendBasis, Cond.selects RX2 yX2_extendBasis yX2_extendBasis, Cond.code yX2_extendBasis cX2_extendBasis 5 (some .int), Cond.instanceMethod yX0_extend, Cond.selects RX0 yX0_extend yX0_extend, Cond.code yX0_extend cX0_extend 4 (some .boolean), Cond.fieldLink RX0 9 "CosetCoder$Basis" "vectors" "[I"]
def wsX2_messages_r2 : List Cond := [Cond.methodLink RX0 19 Lib.Math.min.name, Cond.static Lib.Math.min.name, Cond.initialized "java/lang/Math", Cond.code Lib.Math.min.name Lib.Math.min.code 2 (some .int)]
def wsX2_messages : List Cond := .code yX2_messages cX2_messages 1 (some .int) :: ((wsX2_messages_r1 ++ wsX2_messages_r2) ++ wsX20 ++ wsX10 ++ wsX00)
def wsX2_isMessage : List Cond := .code yX2_isMessage cX2_isMessage 1 (some .boolean) :: ([])
def wsX2_isCodeword : List Cond := .code yX2_isCodeword cX2_isCodeword 2 (some .boolean) :: ([.methodLink RX2 75 yX2_syndrome, .instanceMethod yX2_syndrome, .selects RX2 yX2_syndrome yX2_syndrome, .initialized RX2, .code yX2_syndrome cX2_syndrome 6 (some .int), .fieldLink RX2 12 "CosetCoder" "state" "LCosetCoder$State;", .methodLink RX2 96 yJ6_bitCount_0f7a4, .static yJ6_bitCount_0f7a4, .initialized RJ6, .code yJ6_bitCount_0f7a4 cJ6_bitCount_0f7a4 1 (some .int), .constant RJ6 265 (1431655765), .constant RJ6 266 (858993459), .constant RJ6 267 (252645135)] ++ wsX20 ++ wsX10)
def wsX2_isCodewordOf : List Cond := .code yX2_isCodewordOf cX2_isCodewordOf 3 (some .boolean) :: ([.methodLink RX2 101 yX2_isCodeword, .instanceMethod yX2_isCodeword, .selects RX2 yX2_isCodeword yX2_isCodeword, .initialized RX2, .code yX2_isCodeword cX2_isCodeword 2 (some .boolean), .methodLink RX2 75 yX2_syndrome, .instanceMethod yX2_syndrome, .selects RX2 yX2_syndrome yX2_syndrome, .code yX2_syndrome cX2_syndrome 6 (some .int), .fieldLink RX2 12 "CosetCoder" "state" "LCosetCoder$State;", .methodLink RX2 96 yJ6_bitCount_0f7a4, .static yJ6_bitCount_0f7a4, .initialized RJ6, .code yJ6_bitCount_0f7a4 cJ6_bitCount_0f7a4 1 (some .int), .constant RJ6 265 (1431655765), .constant RJ6 266 (858993459), .constant RJ6 267 (252645135)] ++ wsX20 ++ wsX10)
def wsX2_choices_r1 : List Cond := [Cond.methodLink RX2 86 yX2_isMessage, Cond.static yX2_isMessage, Cond.initialized RX2, Cond.code yX2_isMessage cX2_isMessage 1 (some .boolean), Cond.methodLink RX2 35 yX2_fail, Cond.instanceMethod yX2_fail, Cond.selects RX2 yX2_fail yX2_fail, Cond.code yX2_fail cX2_fail 3 (some .int), Cond.fieldLink RX2 24 "CosetCoder" "errors" "[I", Cond.methodLink RX2 79 yX2_allPositions, Cond.instanceMethod yX2_allPositions, Cond.selects RX2 yX2_allPositions yX2_allPositions, Cond.code yX2_allPositions cX2_allPositions 1 (some .int), Cond.fieldLink RX2 12 "CosetCoder" "state" "LCosetCoder$State;", Cond.methodLink RX2 89 yX2_isCodewordOf, Cond.instanceMethod yX2_isCodewordOf, Cond.selects RX2 yX2_isCodewordOf yX2_isCodewordOf, Cond.code yX2_isCodewordOf cX2_isCodewordOf 3 (some .boolean), Cond.methodLink RX2 101 yX2_isCodeword, Cond.instanceMethod yX2_isCodeword, Cond.selects RX2 yX2_isCodeword yX2_isCodeword, Cond.code yX2_isCodeword cX2_isCodeword 2 (some .boolean), Cond.methodLink RX2 75 yX2_syndrome, Cond.instanceMethod yX2_syndrome]
def wsX2_choices_r2 : List Cond := [Cond.selects RX2 yX2_syndrome yX2_syndrome, Cond.code yX2_syndrome cX2_syndrome 6 (some .int), Cond.methodLink RX2 96 yJ6_bitCount_0f7a4, Cond.static yJ6_bitCount_0f7a4, Cond.initialized RJ6, Cond.code yJ6_bitCount_0f7a4 cJ6_bitCount_0f7a4 1 (some .int), Cond.constant RJ6 265 (1431655765), Cond.constant RJ6 266 (858993459), Cond.constant RJ6 267 (252645135)]
def wsX2_choices : List Cond := .code yX2_choices cX2_choices 4 (some .int) :: ((wsX2_choices_r1 ++ wsX2_choices_r2) ++ wsX20 ++ wsX10)
def wsX2_encode_r1 : List Cond := [Cond.methodLink RX2 86 yX2_isMessage, Cond.static yX2_isMessage, Cond.initialized RX2, Cond.code yX2_isMessage cX2_isMessage 1 (some .boolean), Cond.methodLink RX2 35 yX2_fail, Cond.instanceMethod yX2_fail, Cond.selects RX2 yX2_fail yX2_fail, Cond.code yX2_fail cX2_fail 3 (some .int), Cond.fieldLink RX2 24 "CosetCoder" "errors" "[I", Cond.methodLink RX2 79 yX2_allPositions, Cond.instanceMethod yX2_allPositions, Cond.selects RX2 yX2_allPositions yX2_allPositions, Cond.code yX2_allPositions cX2_allPositions 1 (some .int), Cond.fieldLink RX2 12 "CosetCoder" "state" "LCosetCoder$State;", Cond.methodLink RX2 89 yX2_isCodewordOf, Cond.instanceMethod yX2_isCodewordOf, Cond.selects RX2 yX2_isCodewordOf yX2_isCodewordOf, Cond.code yX2_isCodewordOf cX2_isCodewordOf 3 (some .boolean), Cond.methodLink RX2 101 yX2_isCodeword, Cond.instanceMethod yX2_isCodeword, Cond.selects RX2 yX2_isCodeword yX2_isCodeword, Cond.code yX2_isCodeword cX2_isCodeword 2 (some .boolean), Cond.methodLink RX2 75 yX2_syndrome, Cond.instanceMethod yX2_syndrome]
def wsX2_encode_r2 : List Cond := [Cond.selects RX2 yX2_syndrome yX2_syndrome, Cond.code yX2_syndrome cX2_syndrome 6 (some .int), Cond.methodLink RX2 96 yJ6_bitCount_0f7a4, Cond.static yJ6_bitCount_0f7a4, Cond.initialized RJ6, Cond.code yJ6_bitCount_0f7a4 cJ6_bitCount_0f7a4 1 (some .int), Cond.constant RJ6 265 (1431655765), Cond.constant RJ6 266 (858993459), Cond.constant RJ6 267 (252645135)]
def wsX2_encode : List Cond := .code yX2_encode cX2_encode 5 (some .int) :: ((wsX2_encode_r1 ++ wsX2_encode_r2) ++ wsX20 ++ wsX10)
def wsX2_leastDistance : List Cond := .code yX2_leastDistance cX2_leastDistance 5 (some .int) :: ([.methodLink RX2 96 yJ6_bitCount_0f7a4, .static yJ6_bitCount_0f7a4, .initialized RJ6, .code yJ6_bitCount_0f7a4 cJ6_bitCount_0f7a4 1 (some .int), .constant RJ6 265 (1431655765), .constant RJ6 266 (858993459), .constant RJ6 267 (252645135), .methodLink RX2 79 yX2_allPositions, .instanceMethod yX2_allPositions, .selects RX2 yX2_allPositions yX2_allPositions, .initialized RX2, .code yX2_allPositions cX2_allPositions 1 (some .int), .fieldLink RX2 12 "CosetCoder" "state" "LCosetCoder$State;", .methodLink RX2 101 yX2_isCodeword, .instanceMethod yX2_isCodeword, .selects RX2 yX2_isCodeword yX2_isCodeword, .code yX2_isCodeword cX2_isCodeword 2 (some .boolean), .methodLink RX2 75 yX2_syndrome, .instanceMethod yX2_syndrome, .selects RX2 yX2_syndrome yX2_syndrome, .code yX2_syndrome cX2_syndrome 6 (some .int)] ++ wsX20 ++ wsX10)
def wsX2_decode_r1 : List Cond := [Cond.methodLink RX2 48 yX2_isWord, Cond.instanceMethod yX2_isWord, Cond.selects RX2 yX2_isWord yX2_isWord, Cond.initialized RX2, Cond.code yX2_isWord cX2_isWord 2 (some .boolean), Cond.methodLink RX2 79 yX2_allPositions, Cond.instanceMethod yX2_allPositions, Cond.selects RX2 yX2_allPositions yX2_allPositions, Cond.code yX2_allPositions cX2_allPositions 1 (some .int), Cond.fieldLink RX2 12 "CosetCoder" "state" "LCosetCoder$State;", Cond.methodLink RX2 35 yX2_fail, Cond.instanceMethod yX2_fail, Cond.selects RX2 yX2_fail yX2_fail, Cond.code yX2_fail cX2_fail 3 (some .int), Cond.fieldLink RX2 24 "CosetCoder" "errors" "[I", Cond.methodLink RX2 93 yX2_leastDistance, Cond.instanceMethod yX2_leastDistance, Cond.selects RX2 yX2_leastDistance yX2_leastDistance, Cond.code yX2_leastDistance cX2_leastDistance 5 (some .int), Cond.methodLink RX2 96 yJ6_bitCount_0f7a4, Cond.static yJ6_bitCount_0f7a4, Cond.initialized RJ6, Cond.code yJ6_bitCount_0f7a4 cJ6_bitCount_0f7a4 1 (some .int), Cond.constant RJ6 265 (1431655765)]
def wsX2_decode_r2 : List Cond := [Cond.constant RJ6 266 (858993459), Cond.constant RJ6 267 (252645135), Cond.methodLink RX2 101 yX2_isCodeword, Cond.instanceMethod yX2_isCodeword, Cond.selects RX2 yX2_isCodeword yX2_isCodeword, Cond.code yX2_isCodeword cX2_isCodeword 2 (some .boolean), Cond.methodLink RX2 75 yX2_syndrome, Cond.instanceMethod yX2_syndrome, Cond.selects RX2 yX2_syndrome yX2_syndrome, Cond.code yX2_syndrome cX2_syndrome 6 (some .int)]
def wsX2_decode : List Cond := .code yX2_decode cX2_decode 6 (some .int) :: ((wsX2_decode_r1 ++ wsX2_decode_r2) ++ wsX20 ++ wsX10)
def wsX2_distance_r1 : List Cond := [Cond.methodLink RX2 48 yX2_isWord, Cond.instanceMethod yX2_isWord, Cond.selects RX2 yX2_isWord yX2_isWord, Cond.initialized RX2, Cond.code yX2_isWord cX2_isWord 2 (some .boolean), Cond.methodLink RX2 79 yX2_allPositions, Cond.instanceMethod yX2_allPositions, Cond.selects RX2 yX2_allPositions yX2_allPositions, Cond.code yX2_allPositions cX2_allPositions 1 (some .int), Cond.fieldLink RX2 12 "CosetCoder" "state" "LCosetCoder$State;", Cond.methodLink RX2 35 yX2_fail, Cond.instanceMethod yX2_fail, Cond.selects RX2 yX2_fail yX2_fail, Cond.code yX2_fail cX2_fail 3 (some .int), Cond.fieldLink RX2 24 "CosetCoder" "errors" "[I", Cond.methodLink RX2 93 yX2_leastDistance, Cond.instanceMethod yX2_leastDistance, Cond.selects RX2 yX2_leastDistance yX2_leastDistance, Cond.code yX2_leastDistance cX2_leastDistance 5 (some .int), Cond.methodLink RX2 96 yJ6_bitCount_0f7a4, Cond.static yJ6_bitCount_0f7a4, Cond.initialized RJ6, Cond.code yJ6_bitCount_0f7a4 cJ6_bitCount_0f7a4 1 (some .int), Cond.constant RJ6 265 (1431655765)]
def wsX2_distance_r2 : List Cond := [Cond.constant RJ6 266 (858993459), Cond.constant RJ6 267 (252645135), Cond.methodLink RX2 101 yX2_isCodeword, Cond.instanceMethod yX2_isCodeword, Cond.selects RX2 yX2_isCodeword yX2_isCodeword, Cond.code yX2_isCodeword cX2_isCodeword 2 (some .boolean), Cond.methodLink RX2 75 yX2_syndrome, Cond.instanceMethod yX2_syndrome, Cond.selects RX2 yX2_syndrome yX2_syndrome, Cond.code yX2_syndrome cX2_syndrome 6 (some .int)]
def wsX2_distance : List Cond := .code yX2_distance cX2_distance 2 (some .int) :: ((wsX2_distance_r1 ++ wsX2_distance_r2) ++ wsX20 ++ wsX10)
def wsX2_leastFatalErrors : List Cond := .code yX2_leastFatalErrors cX2_leastFatalErrors 4 (some .int) :: ([.methodLink RX2 79 yX2_allPositions, .instanceMethod yX2_allPositions, .selects RX2 yX2_allPositions yX2_allPositions, .initialized RX2, .code yX2_allPositions cX2_allPositions 1 (some .int), .fieldLink RX2 12 "CosetCoder" "state" "LCosetCoder$State;", .methodLink RX2 96 yJ6_bitCount_0f7a4, .static yJ6_bitCount_0f7a4, .initialized RJ6, .code yJ6_bitCount_0f7a4 cJ6_bitCount_0f7a4 1 (some .int), .constant RJ6 265 (1431655765), .constant RJ6 266 (858993459), .constant RJ6 267 (252645135), .methodLink RX2 101 yX2_isCodeword, .instanceMethod yX2_isCodeword, .selects RX2 yX2_isCodeword yX2_isCodeword, .code yX2_isCodeword cX2_isCodeword 2 (some .boolean), .methodLink RX2 75 yX2_syndrome, .instanceMethod yX2_syndrome, .selects RX2 yX2_syndrome yX2_syndrome, .code yX2_syndrome cX2_syndrome 6 (some .int)] ++ wsX20 ++ wsX10)
def wsX2_weakness_r1 : List Cond := [Cond.methodLink RX2 104 yX2_leastFatalErrors, Cond.instanceMethod yX2_leastFatalErrors, Cond.selects RX2 yX2_leastFatalErrors yX2_leastFatalErrors, Cond.initialized RX2, Cond.code yX2_leastFatalErrors cX2_leastFatalErrors 4 (some .int), Cond.methodLink RX2 79 yX2_allPositions, Cond.instanceMethod yX2_allPositions, Cond.selects RX2 yX2_allPositions yX2_allPositions, Cond.code yX2_allPositions cX2_allPositions 1 (some .int), Cond.fieldLink RX2 12 "CosetCoder" "state" "LCosetCoder$State;", Cond.methodLink RX2 96 yJ6_bitCount_0f7a4, Cond.static yJ6_bitCount_0f7a4, Cond.initialized RJ6, Cond.code yJ6_bitCount_0f7a4 cJ6_bitCount_0f7a4 1 (some .int), Cond.constant RJ6 265 (1431655765), Cond.constant RJ6 266 (858993459), Cond.constant RJ6 267 (252645135), Cond.methodLink RX2 101 yX2_isCodeword, Cond.instanceMethod yX2_isCodeword, Cond.selects RX2 yX2_isCodeword yX2_isCodeword, Cond.code yX2_isCodeword cX2_isCodeword 2 (some .boolean), Cond.methodLink RX2 75 yX2_syndrome, Cond.instanceMethod yX2_syndrome, Cond.selects RX2 yX2_syndrome yX2_syndrome]
def wsX2_weakness_r2 : List Cond := [Cond.code yX2_syndrome cX2_syndrome 6 (some .int)]
def wsX2_weakness : List Cond := .code yX2_weakness cX2_weakness 1 (some .int) :: ((wsX2_weakness_r1 ++ wsX2_weakness_r2) ++ wsX20 ++ wsX10)
def wsX2_leakedBits_r1 : List Cond := [Cond.methodLink RX2 79 yX2_allPositions, Cond.instanceMethod yX2_allPositions, Cond.selects RX2 yX2_allPositions yX2_allPositions, Cond.initialized RX2, Cond.code yX2_allPositions cX2_allPositions 1 (some .int), Cond.fieldLink RX2 12 "CosetCoder" "state" "LCosetCoder$State;", Cond.methodLink RX2 83 yX2_hiddenBits, Cond.instanceMethod yX2_hiddenBits, Cond.selects RX2 yX2_hiddenBits yX2_hiddenBits, Cond.code yX2_hiddenBits cX2_hiddenBits 2 (some .int), Cond.fieldLink RX2 31 "CosetCoder" "basis" "LCosetCoder$Basis;", Cond.instanceMethod yX0_clear, Cond.initialized RX0, Cond.selects RX0 yX0_clear yX0_clear, Cond.code yX0_clear cX0_clear 1 none, Cond.fieldLink RX0 15 "CosetCoder$Basis" "count" "I", Cond.methodLink RX2 161 yX2_extendBasis, Cond.instanceMethod yX2_extendBasis, Cond.selects RX2 yX2_extendBasis yX2_extendBasis, Cond.code yX2_extendBasis cX2_extendBasis 5 (some .int), Cond.instanceMethod yX0_extend, Cond.selects RX0 yX0_extend yX0_extend, Cond.code yX0_extend cX0_extend 4 (some .boolean), Cond.fieldLink RX0 9 "CosetCoder$Basis" "vectors" "[I"]
def wsX2_leakedBits_r2 : List Cond := [Cond.methodLink RX0 19 Lib.Math.min.name, Cond.static Lib.Math.min.name, Cond.initialized "java/lang/Math", Cond.code Lib.Math.min.name Lib.Math.min.code 2 (some .int)]
def wsX2_leakedBits : List Cond := .code yX2_leakedBits cX2_leakedBits 2 (some .int) :: ((wsX2_leakedBits_r1 ++ wsX2_leakedBits_r2) ++ wsX20 ++ wsX10 ++ wsX00)
def wsX2_leakage_r1 : List Cond := [Cond.methodLink RX2 48 yX2_isWord, Cond.instanceMethod yX2_isWord, Cond.selects RX2 yX2_isWord yX2_isWord, Cond.initialized RX2, Cond.code yX2_isWord cX2_isWord 2 (some .boolean), Cond.methodLink RX2 79 yX2_allPositions, Cond.instanceMethod yX2_allPositions, Cond.selects RX2 yX2_allPositions yX2_allPositions, Cond.code yX2_allPositions cX2_allPositions 1 (some .int), Cond.fieldLink RX2 12 "CosetCoder" "state" "LCosetCoder$State;", Cond.methodLink RX2 35 yX2_fail, Cond.instanceMethod yX2_fail, Cond.selects RX2 yX2_fail yX2_fail, Cond.code yX2_fail cX2_fail 3 (some .int), Cond.fieldLink RX2 24 "CosetCoder" "errors" "[I", Cond.methodLink RX2 107 yX2_leakedBits, Cond.instanceMethod yX2_leakedBits, Cond.selects RX2 yX2_leakedBits yX2_leakedBits, Cond.code yX2_leakedBits cX2_leakedBits 2 (some .int), Cond.methodLink RX2 83 yX2_hiddenBits, Cond.instanceMethod yX2_hiddenBits, Cond.selects RX2 yX2_hiddenBits yX2_hiddenBits, Cond.code yX2_hiddenBits cX2_hiddenBits 2 (some .int), Cond.fieldLink RX2 31 "CosetCoder" "basis" "LCosetCoder$Basis;"]
def wsX2_leakage_r2 : List Cond := [Cond.instanceMethod yX0_clear, Cond.initialized RX0, Cond.selects RX0 yX0_clear yX0_clear, Cond.code yX0_clear cX0_clear 1 none, Cond.fieldLink RX0 15 "CosetCoder$Basis" "count" "I", Cond.methodLink RX2 161 yX2_extendBasis, Cond.instanceMethod yX2_extendBasis, Cond.selects RX2 yX2_extendBasis yX2_extendBasis, Cond.code yX2_extendBasis cX2_extendBasis 5 (some .int), Cond.instanceMethod yX0_extend, Cond.selects RX0 yX0_extend yX0_extend, Cond.code yX0_extend cX0_extend 4 (some .boolean), Cond.fieldLink RX0 9 "CosetCoder$Basis" "vectors" "[I", Cond.methodLink RX0 19 Lib.Math.min.name, Cond.static Lib.Math.min.name, Cond.initialized "java/lang/Math", Cond.code Lib.Math.min.name Lib.Math.min.code 2 (some .int)]
def wsX2_leakage : List Cond := .code yX2_leakage cX2_leakage 2 (some .int) :: ((wsX2_leakage_r1 ++ wsX2_leakage_r2) ++ wsX20 ++ wsX10 ++ wsX00)
def wsX2_isSize : List Cond := .code yX2_isSize cX2_isSize 2 (some .boolean) :: ([.fieldLink RX2 12 "CosetCoder" "state" "LCosetCoder$State;"] ++ wsX20 ++ wsX10)
def wsX2_leakiestSet_r1 : List Cond := [Cond.methodLink RX2 79 yX2_allPositions, Cond.instanceMethod yX2_allPositions, Cond.selects RX2 yX2_allPositions yX2_allPositions, Cond.initialized RX2, Cond.code yX2_allPositions cX2_allPositions 1 (some .int), Cond.fieldLink RX2 12 "CosetCoder" "state" "LCosetCoder$State;", Cond.methodLink RX2 96 yJ6_bitCount_0f7a4, Cond.static yJ6_bitCount_0f7a4, Cond.initialized RJ6, Cond.code yJ6_bitCount_0f7a4 cJ6_bitCount_0f7a4 1 (some .int), Cond.constant RJ6 265 (1431655765), Cond.constant RJ6 266 (858993459), Cond.constant RJ6 267 (252645135), Cond.methodLink RX2 83 yX2_hiddenBits, Cond.instanceMethod yX2_hiddenBits, Cond.selects RX2 yX2_hiddenBits yX2_hiddenBits, Cond.code yX2_hiddenBits cX2_hiddenBits 2 (some .int), Cond.fieldLink RX2 31 "CosetCoder" "basis" "LCosetCoder$Basis;", Cond.instanceMethod yX0_clear, Cond.initialized RX0, Cond.selects RX0 yX0_clear yX0_clear, Cond.code yX0_clear cX0_clear 1 none, Cond.fieldLink RX0 15 "CosetCoder$Basis" "count" "I", Cond.methodLink RX2 161 yX2_extendBasis]
def wsX2_leakiestSet_r2 : List Cond := [Cond.instanceMethod yX2_extendBasis, Cond.selects RX2 yX2_extendBasis yX2_extendBasis, Cond.code yX2_extendBasis cX2_extendBasis 5 (some .int), Cond.instanceMethod yX0_extend, Cond.selects RX0 yX0_extend yX0_extend, Cond.code yX0_extend cX0_extend 4 (some .boolean), Cond.fieldLink RX0 9 "CosetCoder$Basis" "vectors" "[I", Cond.methodLink RX0 19 Lib.Math.min.name, Cond.static Lib.Math.min.name, Cond.initialized "java/lang/Math", Cond.code Lib.Math.min.name Lib.Math.min.code 2 (some .int)]
def wsX2_leakiestSet : List Cond := .code yX2_leakiestSet cX2_leakiestSet 7 (some .int) :: ((wsX2_leakiestSet_r1 ++ wsX2_leakiestSet_r2) ++ wsX20 ++ wsX10 ++ wsX00)
def wsX2_worstLeakage_r1 : List Cond := [Cond.methodLink RX2 110 yX2_isSize, Cond.instanceMethod yX2_isSize, Cond.selects RX2 yX2_isSize yX2_isSize, Cond.initialized RX2, Cond.code yX2_isSize cX2_isSize 2 (some .boolean), Cond.fieldLink RX2 12 "CosetCoder" "state" "LCosetCoder$State;", Cond.methodLink RX2 35 yX2_fail, Cond.instanceMethod yX2_fail, Cond.selects RX2 yX2_fail yX2_fail, Cond.code yX2_fail cX2_fail 3 (some .int), Cond.fieldLink RX2 24 "CosetCoder" "errors" "[I", Cond.methodLink RX2 113 yX2_leakiestSet, Cond.instanceMethod yX2_leakiestSet, Cond.selects RX2 yX2_leakiestSet yX2_leakiestSet, Cond.code yX2_leakiestSet cX2_leakiestSet 7 (some .int), Cond.methodLink RX2 79 yX2_allPositions, Cond.instanceMethod yX2_allPositions, Cond.selects RX2 yX2_allPositions yX2_allPositions, Cond.code yX2_allPositions cX2_allPositions 1 (some .int), Cond.methodLink RX2 96 yJ6_bitCount_0f7a4, Cond.static yJ6_bitCount_0f7a4, Cond.initialized RJ6, Cond.code yJ6_bitCount_0f7a4 cJ6_bitCount_0f7a4 1 (some .int), Cond.constant RJ6 265 (1431655765)]
def wsX2_worstLeakage_r2 : List Cond := [Cond.constant RJ6 266 (858993459), Cond.constant RJ6 267 (252645135), Cond.methodLink RX2 83 yX2_hiddenBits, Cond.instanceMethod yX2_hiddenBits, Cond.selects RX2 yX2_hiddenBits yX2_hiddenBits, Cond.code yX2_hiddenBits cX2_hiddenBits 2 (some .int), Cond.fieldLink RX2 31 "CosetCoder" "basis" "LCosetCoder$Basis;", Cond.instanceMethod yX0_clear, Cond.initialized RX0, Cond.selects RX0 yX0_clear yX0_clear, Cond.code yX0_clear cX0_clear 1 none, Cond.fieldLink RX0 15 "CosetCoder$Basis" "count" "I", Cond.methodLink RX2 161 yX2_extendBasis, Cond.instanceMethod yX2_extendBasis, Cond.selects RX2 yX2_extendBasis yX2_extendBasis, Cond.code yX2_extendBasis cX2_extendBasis 5 (some .int), Cond.instanceMethod yX0_extend, Cond.selects RX0 yX0_extend yX0_extend, Cond.code yX0_extend cX0_extend 4 (some .boolean), Cond.fieldLink RX0 9 "CosetCoder$Basis" "vectors" "[I", Cond.methodLink RX0 19 Lib.Math.min.name, Cond.static Lib.Math.min.name, Cond.initialized "java/lang/Math", Cond.code Lib.Math.min.name Lib.Math.min.code 2 (some .int)]
def wsX2_worstLeakage_r3 : List Cond := [Cond.methodLink RX2 107 yX2_leakedBits, Cond.instanceMethod yX2_leakedBits, Cond.selects RX2 yX2_leakedBits yX2_leakedBits, Cond.code yX2_leakedBits cX2_leakedBits 2 (some .int)]
def wsX2_worstLeakage : List Cond := .code yX2_worstLeakage cX2_worstLeakage 2 (some .int) :: ((wsX2_worstLeakage_r1 ++ (wsX2_worstLeakage_r2 ++ wsX2_worstLeakage_r3)) ++ wsX20 ++ wsX10 ++ wsX00)
def wsX2_worstSet_r1 : List Cond := [Cond.methodLink RX2 110 yX2_isSize, Cond.instanceMethod yX2_isSize, Cond.selects RX2 yX2_isSize yX2_isSize, Cond.initialized RX2, Cond.code yX2_isSize cX2_isSize 2 (some .boolean), Cond.fieldLink RX2 12 "CosetCoder" "state" "LCosetCoder$State;", Cond.methodLink RX2 35 yX2_fail, Cond.instanceMethod yX2_fail, Cond.selects RX2 yX2_fail yX2_fail, Cond.code yX2_fail cX2_fail 3 (some .int), Cond.fieldLink RX2 24 "CosetCoder" "errors" "[I", Cond.methodLink RX2 113 yX2_leakiestSet, Cond.instanceMethod yX2_leakiestSet, Cond.selects RX2 yX2_leakiestSet yX2_leakiestSet, Cond.code yX2_leakiestSet cX2_leakiestSet 7 (some .int), Cond.methodLink RX2 79 yX2_allPositions, Cond.instanceMethod yX2_allPositions, Cond.selects RX2 yX2_allPositions yX2_allPositions, Cond.code yX2_allPositions cX2_allPositions 1 (some .int), Cond.methodLink RX2 96 yJ6_bitCount_0f7a4, Cond.static yJ6_bitCount_0f7a4, Cond.initialized RJ6, Cond.code yJ6_bitCount_0f7a4 cJ6_bitCount_0f7a4 1 (some .int), Cond.constant RJ6 265 (1431655765)]
def wsX2_worstSet_r2 : List Cond := [Cond.constant RJ6 266 (858993459), Cond.constant RJ6 267 (252645135), Cond.methodLink RX2 83 yX2_hiddenBits, Cond.instanceMethod yX2_hiddenBits, Cond.selects RX2 yX2_hiddenBits yX2_hiddenBits, Cond.code yX2_hiddenBits cX2_hiddenBits 2 (some .int), Cond.fieldLink RX2 31 "CosetCoder" "basis" "LCosetCoder$Basis;", Cond.instanceMethod yX0_clear, Cond.initialized RX0, Cond.selects RX0 yX0_clear yX0_clear, Cond.code yX0_clear cX0_clear 1 none, Cond.fieldLink RX0 15 "CosetCoder$Basis" "count" "I", Cond.methodLink RX2 161 yX2_extendBasis, Cond.instanceMethod yX2_extendBasis, Cond.selects RX2 yX2_extendBasis yX2_extendBasis, Cond.code yX2_extendBasis cX2_extendBasis 5 (some .int), Cond.instanceMethod yX0_extend, Cond.selects RX0 yX0_extend yX0_extend, Cond.code yX0_extend cX0_extend 4 (some .boolean), Cond.fieldLink RX0 9 "CosetCoder$Basis" "vectors" "[I", Cond.methodLink RX0 19 Lib.Math.min.name, Cond.static Lib.Math.min.name, Cond.initialized "java/lang/Math", Cond.code Lib.Math.min.name Lib.Math.min.code 2 (some .int)]
def wsX2_worstSet : List Cond := .code yX2_worstSet cX2_worstSet 2 (some .int) :: ((wsX2_worstSet_r1 ++ wsX2_worstSet_r2) ++ wsX20 ++ wsX10 ++ wsX00)
def wsX2_leastSizeLeaking_r1 : List Cond := [Cond.methodLink RX2 79 yX2_allPositions, Cond.instanceMethod yX2_allPositions, Cond.selects RX2 yX2_allPositions yX2_allPositions, Cond.initialized RX2, Cond.code yX2_allPositions cX2_allPositions 1 (some .int), Cond.fieldLink RX2 12 "CosetCoder" "state" "LCosetCoder$State;", Cond.methodLink RX2 83 yX2_hiddenBits, Cond.instanceMethod yX2_hiddenBits, Cond.selects RX2 yX2_hiddenBits yX2_hiddenBits, Cond.code yX2_hiddenBits cX2_hiddenBits 2 (some .int), Cond.fieldLink RX2 31 "CosetCoder" "basis" "LCosetCoder$Basis;", Cond.instanceMethod yX0_clear, Cond.initialized RX0, Cond.selects RX0 yX0_clear yX0_clear, Cond.code yX0_clear cX0_clear 1 none, Cond.fieldLink RX0 15 "CosetCoder$Basis" "count" "I", Cond.methodLink RX2 161 yX2_extendBasis, Cond.instanceMethod yX2_extendBasis, Cond.selects RX2 yX2_extendBasis yX2_extendBasis, Cond.code yX2_extendBasis cX2_extendBasis 5 (some .int), Cond.instanceMethod yX0_extend, Cond.selects RX0 yX0_extend yX0_extend, Cond.code yX0_extend cX0_extend 4 (some .boolean), Cond.fieldLink RX0 9 "CosetCoder$Basis" "vectors" "[I"]
def wsX2_leastSizeLeaking_r2 : List Cond := [Cond.methodLink RX0 19 Lib.Math.min.name, Cond.static Lib.Math.min.name, Cond.initialized "java/lang/Math", Cond.code Lib.Math.min.name Lib.Math.min.code 2 (some .int), Cond.methodLink RX2 96 yJ6_bitCount_0f7a4, Cond.static yJ6_bitCount_0f7a4, Cond.initialized RJ6, Cond.code yJ6_bitCount_0f7a4 cJ6_bitCount_0f7a4 1 (some .int), Cond.constant RJ6 265 (1431655765), Cond.constant RJ6 266 (858993459), Cond.constant RJ6 267 (252645135)]
def wsX2_leastSizeLeaking : List Cond := .code yX2_leastSizeLeaking cX2_leastSizeLeaking 7 (some .int) :: ((wsX2_leastSizeLeaking_r1 ++ wsX2_leastSizeLeaking_r2) ++ wsX20 ++ wsX10 ++ wsX00)
def wsX2_threshold_r1 : List Cond := [Cond.fieldLink RX2 12 "CosetCoder" "state" "LCosetCoder$State;", Cond.methodLink RX2 116 yX2_leastSizeLeaking, Cond.instanceMethod yX2_leastSizeLeaking, Cond.selects RX2 yX2_leastSizeLeaking yX2_leastSizeLeaking, Cond.initialized RX2, Cond.code yX2_leastSizeLeaking cX2_leastSizeLeaking 7 (some .int), Cond.methodLink RX2 79 yX2_allPositions, Cond.instanceMethod yX2_allPositions, Cond.selects RX2 yX2_allPositions yX2_allPositions, Cond.code yX2_allPositions cX2_allPositions 1 (some .int), Cond.methodLink RX2 83 yX2_hiddenBits, Cond.instanceMethod yX2_hiddenBits, Cond.selects RX2 yX2_hiddenBits yX2_hiddenBits, Cond.code yX2_hiddenBits cX2_hiddenBits 2 (some .int), Cond.fieldLink RX2 31 "CosetCoder" "basis" "LCosetCoder$Basis;", Cond.instanceMethod yX0_clear, Cond.initialized RX0, Cond.selects RX0 yX0_clear yX0_clear, Cond.code yX0_clear cX0_clear 1 none, Cond.fieldLink RX0 15 "CosetCoder$Basis" "count" "I", Cond.methodLink RX2 161 yX2_extendBasis, Cond.instanceMethod yX2_extendBasis, Cond.selects RX2 yX2_extendBasis yX2_extendBasis, Cond.code yX2_extendBasis cX2_extendBasis 5 (some .int)]
def wsX2_threshold_r2 : List Cond := [Cond.instanceMethod yX0_extend, Cond.selects RX0 yX0_extend yX0_extend, Cond.code yX0_extend cX0_extend 4 (some .boolean), Cond.fieldLink RX0 9 "CosetCoder$Basis" "vectors" "[I", Cond.methodLink RX0 19 Lib.Math.min.name, Cond.static Lib.Math.min.name, Cond.initialized "java/lang/Math", Cond.code Lib.Math.min.name Lib.Math.min.code 2 (some .int), Cond.methodLink RX2 96 yJ6_bitCount_0f7a4, Cond.static yJ6_bitCount_0f7a4, Cond.initialized RJ6, Cond.code yJ6_bitCount_0f7a4 cJ6_bitCount_0f7a4 1 (some .int), Cond.constant RJ6 265 (1431655765), Cond.constant RJ6 266 (858993459), Cond.constant RJ6 267 (252645135)]
def wsX2_threshold : List Cond := .code yX2_threshold cX2_threshold 2 (some .int) :: ((wsX2_threshold_r1 ++ wsX2_threshold_r2) ++ wsX20 ++ wsX10 ++ wsX00)
def wsX2_leastSize_r1 : List Cond := [Cond.methodLink RX2 35 yX2_fail, Cond.instanceMethod yX2_fail, Cond.selects RX2 yX2_fail yX2_fail, Cond.initialized RX2, Cond.code yX2_fail cX2_fail 3 (some .int), Cond.fieldLink RX2 24 "CosetCoder" "errors" "[I", Cond.methodLink RX2 116 yX2_leastSizeLeaking, Cond.instanceMethod yX2_leastSizeLeaking, Cond.selects RX2 yX2_leastSizeLeaking yX2_leastSizeLeaking, Cond.code yX2_leastSizeLeaking cX2_leastSizeLeaking 7 (some .int), Cond.methodLink RX2 79 yX2_allPositions, Cond.instanceMethod yX2_allPositions, Cond.selects RX2 yX2_allPositions yX2_allPositions, Cond.code yX2_allPositions cX2_allPositions 1 (some .int), Cond.fieldLink RX2 12 "CosetCoder" "state" "LCosetCoder$State;", Cond.methodLink RX2 83 yX2_hiddenBits, Cond.instanceMethod yX2_hiddenBits, Cond.selects RX2 yX2_hiddenBits yX2_hiddenBits, Cond.code yX2_hiddenBits cX2_hiddenBits 2 (some .int), Cond.fieldLink RX2 31 "CosetCoder" "basis" "LCosetCoder$Basis;", Cond.instanceMethod yX0_clear, Cond.initialized RX0, Cond.selects RX0 yX0_clear yX0_clear, Cond.code yX0_clear cX0_clear 1 none]
def wsX2_leastSize_r2 : List Cond := [Cond.fieldLink RX0 15 "CosetCoder$Basis" "count" "I", Cond.methodLink RX2 161 yX2_extendBasis, Cond.instanceMethod yX2_extendBasis, Cond.selects RX2 yX2_extendBasis yX2_extendBasis, Cond.code yX2_extendBasis cX2_extendBasis 5 (some .int), Cond.instanceMethod yX0_extend, Cond.selects RX0 yX0_extend yX0_extend, Cond.code yX0_extend cX0_extend 4 (some .boolean), Cond.fieldLink RX0 9 "CosetCoder$Basis" "vectors" "[I", Cond.methodLink RX0 19 Lib.Math.min.name, Cond.static Lib.Math.min.name, Cond.initialized "java/lang/Math", Cond.code Lib.Math.min.name Lib.Math.min.code 2 (some .int), Cond.methodLink RX2 96 yJ6_bitCount_0f7a4, Cond.static yJ6_bitCount_0f7a4, Cond.initialized RJ6, Cond.code yJ6_bitCount_0f7a4 cJ6_bitCount_0f7a4 1 (some .int), Cond.constant RJ6 265 (1431655765), Cond.constant RJ6 266 (858993459), Cond.constant RJ6 267 (252645135)]
def wsX2_leastSize : List Cond := .code yX2_leastSize cX2_leastSize 2 (some .int) :: ((wsX2_leastSize_r1 ++ wsX2_leastSize_r2) ++ wsX20 ++ wsX10 ++ wsX00)
def wsX2_isObservation : List Cond := .code yX2_isObservation cX2_isObservation 3 (some .boolean) :: ([.methodLink RX2 48 yX2_isWord, .instanceMethod yX2_isWord, .selects RX2 yX2_isWord yX2_isWord, .initialized RX2, .code yX2_isWord cX2_isWord 2 (some .boolean), .methodLink RX2 79 yX2_allPositions, .instanceMethod yX2_allPositions, .selects RX2 yX2_allPositions yX2_allPositions, .code yX2_allPositions cX2_allPositions 1 (some .int), .fieldLink RX2 12 "CosetCoder" "state" "LCosetCoder$State;"] ++ wsX20 ++ wsX10)
def wsX2_messagesFitting : List Cond := .code yX2_messagesFitting cX2_messagesFitting 6 (some .long) :: ([.methodLink RX2 79 yX2_allPositions, .instanceMethod yX2_allPositions, .selects RX2 yX2_allPositions yX2_allPositions, .initialized RX2, .code yX2_allPositions cX2_allPositions 1 (some .int), .fieldLink RX2 12 "CosetCoder" "state" "LCosetCoder$State;", .methodLink RX2 101 yX2_isCodeword, .instanceMethod yX2_isCodeword, .selects RX2 yX2_isCodeword yX2_isCodeword, .code yX2_isCodeword cX2_isCodeword 2 (some .boolean), .methodLink RX2 75 yX2_syndrome, .instanceMethod yX2_syndrome, .selects RX2 yX2_syndrome yX2_syndrome, .code yX2_syndrome cX2_syndrome 6 (some .int), .methodLink RX2 96 yJ6_bitCount_0f7a4, .static yJ6_bitCount_0f7a4, .initialized RJ6, .code yJ6_bitCount_0f7a4 cJ6_bitCount_0f7a4 1 (some .int), .constant RJ6 265 (1431655765), .constant RJ6 266 (858993459), .constant RJ6 267 (252645135)] ++ wsX20 ++ wsX10)
def wsJ13_bitCount_95d88 : List Cond := .code yJ13_bitCount_95d88 cJ13_bitCount_95d88 2 (some .int) :: ([.constantLong RJ13 314 (6148914691236517205), .constantLong RJ13 316 (3689348814741910323), .constantLong RJ13 318 (1085102592571150095)])
def wsX2_possibleMessages_r1 : List Cond := [Cond.methodLink RX2 119 yX2_isObservation, Cond.instanceMethod yX2_isObservation, Cond.selects RX2 yX2_isObservation yX2_isObservation, Cond.initialized RX2, Cond.code yX2_isObservation cX2_isObservation 3 (some .boolean), Cond.methodLink RX2 48 yX2_isWord, Cond.instanceMethod yX2_isWord, Cond.selects RX2 yX2_isWord yX2_isWord, Cond.code yX2_isWord cX2_isWord 2 (some .boolean), Cond.methodLink RX2 79 yX2_allPositions, Cond.instanceMethod yX2_allPositions, Cond.selects RX2 yX2_allPositions yX2_allPositions, Cond.code yX2_allPositions cX2_allPositions 1 (some .int), Cond.fieldLink RX2 12 "CosetCoder" "state" "LCosetCoder$State;", Cond.methodLink RX2 35 yX2_fail, Cond.instanceMethod yX2_fail, Cond.selects RX2 yX2_fail yX2_fail, Cond.code yX2_fail cX2_fail 3 (some .int), Cond.fieldLink RX2 24 "CosetCoder" "errors" "[I", Cond.methodLink RX2 122 yX2_messagesFitting, Cond.instanceMethod yX2_messagesFitting, Cond.selects RX2 yX2_messagesFitting yX2_messagesFitting, Cond.code yX2_messagesFitting cX2_messagesFitting 6 (some .long), Cond.methodLink RX2 101 yX2_isCodeword]
def wsX2_possibleMessages_r2 : List Cond := [Cond.instanceMethod yX2_isCodeword, Cond.selects RX2 yX2_isCodeword yX2_isCodeword, Cond.code yX2_isCodeword cX2_isCodeword 2 (some .boolean), Cond.methodLink RX2 75 yX2_syndrome, Cond.instanceMethod yX2_syndrome, Cond.selects RX2 yX2_syndrome yX2_syndrome, Cond.code yX2_syndrome cX2_syndrome 6 (some .int), Cond.methodLink RX2 96 yJ6_bitCount_0f7a4, Cond.static yJ6_bitCount_0f7a4, Cond.initialized RJ6, Cond.code yJ6_bitCount_0f7a4 cJ6_bitCount_0f7a4 1 (some .int), Cond.constant RJ6 265 (1431655765), Cond.constant RJ6 266 (858993459), Cond.constant RJ6 267 (252645135), Cond.methodLink RX2 126 yJ13_bitCount_95d88, Cond.static yJ13_bitCount_95d88, Cond.initialized RJ13, Cond.code yJ13_bitCount_95d88 cJ13_bitCount_95d88 2 (some .int), Cond.constantLong RJ13 314 (6148914691236517205), Cond.constantLong RJ13 316 (3689348814741910323), Cond.constantLong RJ13 318 (1085102592571150095)]
def wsX2_possibleMessages : List Cond := .code yX2_possibleMessages cX2_possibleMessages 3 (some .int) :: ((wsX2_possibleMessages_r1 ++ wsX2_possibleMessages_r2) ++ wsX20 ++ wsX10)
def wsX2_possibleMessage_r1 : List Cond := [Cond.methodLink RX2 119 yX2_isObservation, Cond.instanceMethod yX2_isObservation, Cond.selects RX2 yX2_isObservation yX2_isObservation, Cond.initialized RX2, Cond.code yX2_isObservation cX2_isObservation 3 (some .boolean), Cond.methodLink RX2 48 yX2_isWord, Cond.instanceMethod yX2_isWord, Cond.selects RX2 yX2_isWord yX2_isWord, Cond.code yX2_isWord cX2_isWord 2 (some .boolean), Cond.methodLink RX2 79 yX2_allPositions, Cond.instanceMethod yX2_allPositions, Cond.selects RX2 yX2_allPositions yX2_allPositions, Cond.code yX2_allPositions cX2_allPositions 1 (some .int), Cond.fieldLink RX2 12 "CosetCoder" "state" "LCosetCoder$State;", Cond.methodLink RX2 35 yX2_fail, Cond.instanceMethod yX2_fail, Cond.selects RX2 yX2_fail yX2_fail, Cond.code yX2_fail cX2_fail 3 (some .int), Cond.fieldLink RX2 24 "CosetCoder" "errors" "[I", Cond.methodLink RX2 122 yX2_messagesFitting, Cond.instanceMethod yX2_messagesFitting, Cond.selects RX2 yX2_messagesFitting yX2_messagesFitting, Cond.code yX2_messagesFitting cX2_messagesFitting 6 (some .long), Cond.methodLink RX2 101 yX2_isCodeword]
def wsX2_possibleMessage_r2 : List Cond := [Cond.instanceMethod yX2_isCodeword, Cond.selects RX2 yX2_isCodeword yX2_isCodeword, Cond.code yX2_isCodeword cX2_isCodeword 2 (some .boolean), Cond.methodLink RX2 75 yX2_syndrome, Cond.instanceMethod yX2_syndrome, Cond.selects RX2 yX2_syndrome yX2_syndrome, Cond.code yX2_syndrome cX2_syndrome 6 (some .int), Cond.methodLink RX2 96 yJ6_bitCount_0f7a4, Cond.static yJ6_bitCount_0f7a4, Cond.initialized RJ6, Cond.code yJ6_bitCount_0f7a4 cJ6_bitCount_0f7a4 1 (some .int), Cond.constant RJ6 265 (1431655765), Cond.constant RJ6 266 (858993459), Cond.constant RJ6 267 (252645135)]
def wsX2_possibleMessage : List Cond := .code yX2_possibleMessage cX2_possibleMessage 8 (some .int) :: ((wsX2_possibleMessage_r1 ++ wsX2_possibleMessage_r2) ++ wsX20 ++ wsX10)
def wsX2_messageRows : List Cond := .code yX2_messageRows cX2_messageRows 3 (some .int) :: ([.fieldLink RX2 12 "CosetCoder" "state" "LCosetCoder$State;"] ++ wsX20 ++ wsX10)
def wsX2_knownCombinations_r1 : List Cond := [Cond.methodLink RX2 48 yX2_isWord, Cond.instanceMethod yX2_isWord, Cond.selects RX2 yX2_isWord yX2_isWord, Cond.initialized RX2, Cond.code yX2_isWord cX2_isWord 2 (some .boolean), Cond.methodLink RX2 79 yX2_allPositions, Cond.instanceMethod yX2_allPositions, Cond.selects RX2 yX2_allPositions yX2_allPositions, Cond.code yX2_allPositions cX2_allPositions 1 (some .int), Cond.fieldLink RX2 12 "CosetCoder" "state" "LCosetCoder$State;", Cond.methodLink RX2 35 yX2_fail, Cond.instanceMethod yX2_fail, Cond.selects RX2 yX2_fail yX2_fail, Cond.code yX2_fail cX2_fail 3 (some .int), Cond.fieldLink RX2 24 "CosetCoder" "errors" "[I", Cond.methodLink RX2 83 yX2_hiddenBits, Cond.instanceMethod yX2_hiddenBits, Cond.selects RX2 yX2_hiddenBits yX2_hiddenBits, Cond.code yX2_hiddenBits cX2_hiddenBits 2 (some .int), Cond.fieldLink RX2 31 "CosetCoder" "basis" "LCosetCoder$Basis;", Cond.instanceMethod yX0_clear, Cond.initialized RX0, Cond.selects RX0 yX0_clear yX0_clear, Cond.code yX0_clear cX0_clear 1 none]
def wsX2_knownCombinations_r2 : List Cond := [Cond.fieldLink RX0 15 "CosetCoder$Basis" "count" "I", Cond.methodLink RX2 161 yX2_extendBasis, Cond.instanceMethod yX2_extendBasis, Cond.selects RX2 yX2_extendBasis yX2_extendBasis, Cond.code yX2_extendBasis cX2_extendBasis 5 (some .int), Cond.instanceMethod yX0_extend, Cond.selects RX0 yX0_extend yX0_extend, Cond.code yX0_extend cX0_extend 4 (some .boolean), Cond.fieldLink RX0 9 "CosetCoder$Basis" "vectors" "[I", Cond.methodLink RX0 19 Lib.Math.min.name, Cond.static Lib.Math.min.name, Cond.initialized "java/lang/Math", Cond.code Lib.Math.min.name Lib.Math.min.code 2 (some .int), Cond.methodLink RX2 131 yX2_messageRows, Cond.instanceMethod yX2_messageRows, Cond.selects RX2 yX2_messageRows yX2_messageRows, Cond.code yX2_messageRows cX2_messageRows 3 (some .int)]
def wsX2_knownCombinations : List Cond := .code yX2_knownCombinations cX2_knownCombinations 3 (some .int) :: ((wsX2_knownCombinations_r1 ++ wsX2_knownCombinations_r2) ++ wsX20 ++ wsX10 ++ wsX00)
def wsX2_undo : List Cond := .code yX2_undo cX2_undo 1 (some .int) :: ([.fieldLink RX2 20 "CosetCoder" "savedCount" "I", .fieldLink RX2 12 "CosetCoder" "state" "LCosetCoder$State;", .fieldLink RX2 16 "CosetCoder" "saved" "[LCosetCoder$State;", .methodLink RX2 35 yX2_fail, .instanceMethod yX2_fail, .selects RX2 yX2_fail yX2_fail, .initialized RX2, .code yX2_fail cX2_fail 3 (some .int), .fieldLink RX2 24 "CosetCoder" "errors" "[I", .instanceMethod yX1_copyFrom, .initialized RX1, .selects RX1 yX1_copyFrom yX1_copyFrom, .code yX1_copyFrom cX1_copyFrom 3 none, .fieldLink RX1 9 "CosetCoder$State" "length" "I", .fieldLink RX1 15 "CosetCoder$State" "size" "I", .fieldLink RX1 18 "CosetCoder$State" "words" "[I", .fieldLink RX1 22 "CosetCoder$State" "checks" "[Z"] ++ wsX20 ++ wsX10)
def wsX2_errorCount : List Cond := .code yX2_errorCount cX2_errorCount 2 (some .int) :: ([.fieldLink RX2 24 "CosetCoder" "errors" "[I", .methodLink RX2 35 yX2_fail, .instanceMethod yX2_fail, .selects RX2 yX2_fail yX2_fail, .initialized RX2, .code yX2_fail cX2_fail 3 (some .int)] ++ wsX20)
def wsX2_mix : List Cond := .code yX2_mix cX2_mix 3 (some .long) :: ([.constantLong RX2 156 (31)])
def wsX2_digest_r1 : List Cond := [Cond.constantLong RX2 138 (2687), Cond.fieldLink RX2 24 "CosetCoder" "errors" "[I", Cond.fieldLink RX2 12 "CosetCoder" "state" "LCosetCoder$State;", Cond.fieldLink RX2 20 "CosetCoder" "savedCount" "I", Cond.methodLink RX2 140 yX2_mix, Cond.static yX2_mix, Cond.initialized RX2, Cond.code yX2_mix cX2_mix 3 (some .long), Cond.constantLong RX2 156 (31), Cond.methodLink RX2 72 yX2_rankOfKind, Cond.instanceMethod yX2_rankOfKind, Cond.selects RX2 yX2_rankOfKind yX2_rankOfKind, Cond.code yX2_rankOfKind cX2_rankOfKind 3 (some .int), Cond.fieldLink RX2 31 "CosetCoder" "basis" "LCosetCoder$Basis;", Cond.instanceMethod yX0_clear, Cond.initialized RX0, Cond.selects RX0 yX0_clear yX0_clear, Cond.code yX0_clear cX0_clear 1 none, Cond.fieldLink RX0 15 "CosetCoder$Basis" "count" "I", Cond.methodLink RX2 79 yX2_allPositions, Cond.instanceMethod yX2_allPositions, Cond.selects RX2 yX2_allPositions yX2_allPositions, Cond.code yX2_allPositions cX2_allPositions 1 (some .int), Cond.methodLink RX2 161 yX2_extendBasis]
def wsX2_digest_r2 : List Cond := [Cond.instanceMethod yX2_extendBasis, Cond.selects RX2 yX2_extendBasis yX2_extendBasis, Cond.code yX2_extendBasis cX2_extendBasis 5 (some .int), Cond.instanceMethod yX0_extend, Cond.selects RX0 yX0_extend yX0_extend, Cond.code yX0_extend cX0_extend 4 (some .boolean), Cond.fieldLink RX0 9 "CosetCoder$Basis" "vectors" "[I", Cond.methodLink RX0 19 Lib.Math.min.name, Cond.static Lib.Math.min.name, Cond.initialized "java/lang/Math", Cond.code Lib.Math.min.name Lib.Math.min.code 2 (some .int), Cond.methodLink RX2 144 yX2_codewords, Cond.instanceMethod yX2_codewords, Cond.selects RX2 yX2_codewords yX2_codewords, Cond.code yX2_codewords cX2_codewords 1 (some .int), Cond.methodLink RX2 147 yX2_messages, Cond.instanceMethod yX2_messages, Cond.selects RX2 yX2_messages yX2_messages, Cond.code yX2_messages cX2_messages 1 (some .int), Cond.methodLink RX2 83 yX2_hiddenBits, Cond.instanceMethod yX2_hiddenBits, Cond.selects RX2 yX2_hiddenBits yX2_hiddenBits, Cond.code yX2_hiddenBits cX2_hiddenBits 2 (some .int), Cond.methodLink RX2 150 yX2_threshold]
def wsX2_digest_r3 : List Cond := [Cond.instanceMethod yX2_threshold, Cond.selects RX2 yX2_threshold yX2_threshold, Cond.code yX2_threshold cX2_threshold 2 (some .int), Cond.methodLink RX2 116 yX2_leastSizeLeaking, Cond.instanceMethod yX2_leastSizeLeaking, Cond.selects RX2 yX2_leastSizeLeaking yX2_leastSizeLeaking, Cond.code yX2_leastSizeLeaking cX2_leastSizeLeaking 7 (some .int), Cond.methodLink RX2 96 yJ6_bitCount_0f7a4, Cond.static yJ6_bitCount_0f7a4, Cond.initialized RJ6, Cond.code yJ6_bitCount_0f7a4 cJ6_bitCount_0f7a4 1 (some .int), Cond.constant RJ6 265 (1431655765), Cond.constant RJ6 266 (858993459), Cond.constant RJ6 267 (252645135), Cond.methodLink RX2 153 yX2_weakness, Cond.instanceMethod yX2_weakness, Cond.selects RX2 yX2_weakness yX2_weakness, Cond.code yX2_weakness cX2_weakness 1 (some .int), Cond.methodLink RX2 104 yX2_leastFatalErrors, Cond.instanceMethod yX2_leastFatalErrors, Cond.selects RX2 yX2_leastFatalErrors yX2_leastFatalErrors, Cond.code yX2_leastFatalErrors cX2_leastFatalErrors 4 (some .int), Cond.methodLink RX2 101 yX2_isCodeword, Cond.instanceMethod yX2_isCodeword]
def wsX2_digest_r4 : List Cond := [Cond.selects RX2 yX2_isCodeword yX2_isCodeword, Cond.code yX2_isCodeword cX2_isCodeword 2 (some .boolean), Cond.methodLink RX2 75 yX2_syndrome, Cond.instanceMethod yX2_syndrome, Cond.selects RX2 yX2_syndrome yX2_syndrome, Cond.code yX2_syndrome cX2_syndrome 6 (some .int), Cond.methodLink RX2 113 yX2_leakiestSet, Cond.instanceMethod yX2_leakiestSet, Cond.selects RX2 yX2_leakiestSet yX2_leakiestSet, Cond.code yX2_leakiestSet cX2_leakiestSet 7 (some .int), Cond.methodLink RX2 107 yX2_leakedBits, Cond.instanceMethod yX2_leakedBits, Cond.selects RX2 yX2_leakedBits yX2_leakedBits, Cond.code yX2_leakedBits cX2_leakedBits 2 (some .int)]
def wsX2_digest : List Cond := .code yX2_digest cX2_digest 5 (some .long) :: ((wsX2_digest_r1 ++ (wsX2_digest_r2 ++ (wsX2_digest_r3 ++ wsX2_digest_r4))) ++ wsX20 ++ wsX10 ++ wsX00)
def wsX3_init : List Cond := .code yX3_init cX3_init 1 none :: ([.methodLink RX3 1 objectInit, .instanceMethod objectInit, .code objectInit ⟨#[0xb1]⟩ 1 none, .arrayClass .int, .fieldLink RX3 7 "CosetCoderModel" "now" "[I", .fieldLink RX3 13 "CosetCoderModel" "past" "[I", .fieldLink RX3 16 "CosetCoderModel" "errors" "[I", .fieldLink RX3 19 "CosetCoderModel" "left" "[I", .fieldLink RX3 22 "CosetCoderModel" "messageOf" "[I", .arrayClass .boolean, .fieldLink RX3 25 "CosetCoderModel" "met" "[Z", .fieldLink RX3 29 "CosetCoderModel" "parityOf" "[I"] ++ wsX30)
def wsX3_within : List Cond := .code yX3_within cX3_within 3 (some .boolean) :: ([])
def wsX3_fails : List Cond := .code yX3_fails cX3_fails 2 (some .int) :: ([.fieldLink RX3 16 "CosetCoderModel" "errors" "[I"] ++ wsX30)
def wsX3_words : List Cond := .code yX3_words cX3_words 1 (some .int) :: ([.fieldLink RX3 7 "CosetCoderModel" "now" "[I"] ++ wsX30)
def wsX3_isWord : List Cond := .code yX3_isWord cX3_isWord 2 (some .boolean) :: ([.methodLink RX3 32 yX3_words, .instanceMethod yX3_words, .selects RX3 yX3_words yX3_words, .initialized RX3, .code yX3_words cX3_words 1 (some .int), .fieldLink RX3 7 "CosetCoderModel" "now" "[I", .methodLink RX3 36 yX3_within, .static yX3_within, .code yX3_within cX3_within 3 (some .boolean)] ++ wsX30)
def wsX3_isRow : List Cond := .code yX3_isRow cX3_isRow 2 (some .boolean) :: ([.fieldLink RX3 7 "CosetCoderModel" "now" "[I", .methodLink RX3 36 yX3_within, .static yX3_within, .initialized RX3, .code yX3_within cX3_within 3 (some .boolean)] ++ wsX30)
def wsX3_ones : List Cond := .code yX3_ones cX3_ones 3 (some .int) :: ([])
def wsX3_saves : List Cond := .code yX3_saves cX3_saves 2 none :: ([.fieldLink RX3 40 "CosetCoderModel" "saved" "I", .fieldLink RX3 13 "CosetCoderModel" "past" "[I", .fieldLink RX3 7 "CosetCoderModel" "now" "[I"] ++ wsX30)
def wsX3_undo : List Cond := .code yX3_undo cX3_undo 2 (some .int) :: ([.fieldLink RX3 40 "CosetCoderModel" "saved" "I", .fieldLink RX3 7 "CosetCoderModel" "now" "[I", .fieldLink RX3 13 "CosetCoderModel" "past" "[I", .methodLink RX3 44 yX3_fails, .instanceMethod yX3_fails, .selects RX3 yX3_fails yX3_fails, .initialized RX3, .code yX3_fails cX3_fails 2 (some .int), .fieldLink RX3 16 "CosetCoderModel" "errors" "[I"] ++ wsX30)
def wsX3_setLength : List Cond := .code yX3_setLength cX3_setLength 3 (some .int) :: ([.fieldLink RX3 7 "CosetCoderModel" "now" "[I", .methodLink RX3 36 yX3_within, .static yX3_within, .initialized RX3, .code yX3_within cX3_within 3 (some .boolean), .methodLink RX3 44 yX3_fails, .instanceMethod yX3_fails, .selects RX3 yX3_fails yX3_fails, .code yX3_fails cX3_fails 2 (some .int), .fieldLink RX3 16 "CosetCoderModel" "errors" "[I", .methodLink RX3 48 yX3_saves, .instanceMethod yX3_saves, .selects RX3 yX3_saves yX3_saves, .code yX3_saves cX3_saves 2 none, .fieldLink RX3 40 "CosetCoderModel" "saved" "I", .fieldLink RX3 13 "CosetCoderModel" "past" "[I"] ++ wsX30)
def wsX3_addRow : List Cond := .code yX3_addRow cX3_addRow 3 (some .int) :: ([.fieldLink RX3 7 "CosetCoderModel" "now" "[I", .methodLink RX3 51 yX3_isWord, .instanceMethod yX3_isWord, .selects RX3 yX3_isWord yX3_isWord, .initialized RX3, .code yX3_isWord cX3_isWord 2 (some .boolean), .methodLink RX3 32 yX3_words, .instanceMethod yX3_words, .selects RX3 yX3_words yX3_words, .code yX3_words cX3_words 1 (some .int), .methodLink RX3 36 yX3_within, .static yX3_within, .code yX3_within cX3_within 3 (some .boolean), .methodLink RX3 44 yX3_fails, .instanceMethod yX3_fails, .selects RX3 yX3_fails yX3_fails, .code yX3_fails cX3_fails 2 (some .int), .fieldLink RX3 16 "CosetCoderModel" "errors" "[I", .methodLink RX3 48 yX3_saves, .instanceMethod yX3_saves, .selects RX3 yX3_saves yX3_saves, .code yX3_saves cX3_saves 2 none, .fieldLink RX3 40 "CosetCoderModel" "saved" "I", .fieldLink RX3 13 "CosetCoderModel" "past" "[I"] ++ wsX30)
def wsX3_removes : List Cond := .code yX3_removes cX3_removes 3 none :: ([.fieldLink RX3 7 "CosetCoderModel" "now" "[I"] ++ wsX30)
def wsX3_removeRow : List Cond := .code yX3_removeRow cX3_removeRow 2 (some .int) :: ([.fieldLink RX3 7 "CosetCoderModel" "now" "[I", .methodLink RX3 55 yX3_isRow, .instanceMethod yX3_isRow, .selects RX3 yX3_isRow yX3_isRow, .initialized RX3, .code yX3_isRow cX3_isRow 2 (some .boolean), .methodLink RX3 36 yX3_within, .static yX3_within, .code yX3_within cX3_within 3 (some .boolean), .methodLink RX3 44 yX3_fails, .instanceMethod yX3_fails, .selects RX3 yX3_fails yX3_fails, .code yX3_fails cX3_fails 2 (some .int), .fieldLink RX3 16 "CosetCoderModel" "errors" "[I", .methodLink RX3 48 yX3_saves, .instanceMethod yX3_saves, .selects RX3 yX3_saves yX3_saves, .code yX3_saves cX3_saves 2 none, .fieldLink RX3 40 "CosetCoderModel" "saved" "I", .fieldLink RX3 13 "CosetCoderModel" "past" "[I", .methodLink RX3 58 yX3_removes, .instanceMethod yX3_removes, .selects RX3 yX3_removes yX3_removes, .code yX3_removes cX3_removes 3 none] ++ wsX30)
def wsX3_isDependent : List Cond := .code yX3_isDependent cX3_isDependent 5 (some .boolean) :: ([.fieldLink RX3 7 "CosetCoderModel" "now" "[I"] ++ wsX30)
def wsX3_removeDependentRows : List Cond := .code yX3_removeDependentRows cX3_removeDependentRows 3 (some .int) :: ([.fieldLink RX3 7 "CosetCoderModel" "now" "[I", .methodLink RX3 48 yX3_saves, .instanceMethod yX3_saves, .selects RX3 yX3_saves yX3_saves, .initialized RX3, .code yX3_saves cX3_saves 2 none, .fieldLink RX3 40 "CosetCoderModel" "saved" "I", .fieldLink RX3 13 "CosetCoderModel" "past" "[I", .methodLink RX3 62 yX3_isDependent, .instanceMethod yX3_isDependent, .selects RX3 yX3_isDependent yX3_isDependent, .code yX3_isDependent cX3_isDependent 5 (some .boolean), .methodLink RX3 58 yX3_removes, .instanceMethod yX3_removes, .selects RX3 yX3_removes yX3_removes, .code yX3_removes cX3_removes 3 none] ++ wsX30)
def wsX3_row : List Cond := .code yX3_row cX3_row 2 (some .int) :: ([.fieldLink RX3 7 "CosetCoderModel" "now" "[I", .methodLink RX3 55 yX3_isRow, .instanceMethod yX3_isRow, .selects RX3 yX3_isRow yX3_isRow, .initialized RX3, .code yX3_isRow cX3_isRow 2 (some .boolean), .methodLink RX3 36 yX3_within, .static yX3_within, .code yX3_within cX3_within 3 (some .boolean), .methodLink RX3 44 yX3_fails, .instanceMethod yX3_fails, .selects RX3 yX3_fails yX3_fails, .code yX3_fails cX3_fails 2 (some .int), .fieldLink RX3 16 "CosetCoderModel" "errors" "[I"] ++ wsX30)
def wsX3_isCheck : List Cond := .code yX3_isCheck cX3_isCheck 2 (some .int) :: ([.fieldLink RX3 7 "CosetCoderModel" "now" "[I", .methodLink RX3 55 yX3_isRow, .instanceMethod yX3_isRow, .selects RX3 yX3_isRow yX3_isRow, .initialized RX3, .code yX3_isRow cX3_isRow 2 (some .boolean), .methodLink RX3 36 yX3_within, .static yX3_within, .code yX3_within cX3_within 3 (some .boolean), .methodLink RX3 44 yX3_fails, .instanceMethod yX3_fails, .selects RX3 yX3_fails yX3_fails, .code yX3_fails cX3_fails 2 (some .int), .fieldLink RX3 16 "CosetCoderModel" "errors" "[I"] ++ wsX30)
def wsX3_rankOf : List Cond := .code yX3_rankOf cX3_rankOf 7 (some .int) :: ([.fieldLink RX3 7 "CosetCoderModel" "now" "[I", .fieldLink RX3 19 "CosetCoderModel" "left" "[I"] ++ wsX30)
def wsX3_rank : List Cond := .code yX3_rank cX3_rank 2 (some .int) :: ([.methodLink RX3 36 yX3_within, .static yX3_within, .initialized RX3, .code yX3_within cX3_within 3 (some .boolean), .methodLink RX3 32 yX3_words, .instanceMethod yX3_words, .selects RX3 yX3_words yX3_words, .code yX3_words cX3_words 1 (some .int), .fieldLink RX3 7 "CosetCoderModel" "now" "[I", .methodLink RX3 65 yX3_rankOf, .instanceMethod yX3_rankOf, .selects RX3 yX3_rankOf yX3_rankOf, .code yX3_rankOf cX3_rankOf 7 (some .int), .fieldLink RX3 19 "CosetCoderModel" "left" "[I", .methodLink RX3 44 yX3_fails, .instanceMethod yX3_fails, .selects RX3 yX3_fails yX3_fails, .code yX3_fails cX3_fails 2 (some .int), .fieldLink RX3 16 "CosetCoderModel" "errors" "[I"] ++ wsX30)
def wsX3_syndrome : List Cond := .code yX3_syndrome cX3_syndrome 6 (some .int) :: ([.fieldLink RX3 7 "CosetCoderModel" "now" "[I", .methodLink RX3 69 yX3_ones, .static yX3_ones, .initialized RX3, .code yX3_ones cX3_ones 3 (some .int)] ++ wsX30)
def wsX3_message_r1 : List Cond := [Cond.methodLink RX3 51 yX3_isWord, Cond.instanceMethod yX3_isWord, Cond.selects RX3 yX3_isWord yX3_isWord, Cond.initialized RX3, Cond.code yX3_isWord cX3_isWord 2 (some .boolean), Cond.methodLink RX3 32 yX3_words, Cond.instanceMethod yX3_words, Cond.selects RX3 yX3_words yX3_words, Cond.code yX3_words cX3_words 1 (some .int), Cond.fieldLink RX3 7 "CosetCoderModel" "now" "[I", Cond.methodLink RX3 36 yX3_within, Cond.static yX3_within, Cond.code yX3_within cX3_within 3 (some .boolean), Cond.methodLink RX3 72 yX3_syndrome, Cond.instanceMethod yX3_syndrome, Cond.selects RX3 yX3_syndrome yX3_syndrome, Cond.code yX3_syndrome cX3_syndrome 6 (some .int), Cond.methodLink RX3 69 yX3_ones, Cond.static yX3_ones, Cond.code yX3_ones cX3_ones 3 (some .int), Cond.methodLink RX3 44 yX3_fails, Cond.instanceMethod yX3_fails, Cond.selects RX3 yX3_fails yX3_fails, Cond.code yX3_fails cX3_fails 2 (some .int)]
def wsX3_message_r2 : List Cond := [Cond.fieldLink RX3 16 "CosetCoderModel" "errors" "[I"]
def wsX3_message : List Cond := .code yX3_message cX3_message 2 (some .int) :: ((wsX3_message_r1 ++ wsX3_message_r2) ++ wsX30)
def wsX3_checkValue_r1 : List Cond := [Cond.methodLink RX3 51 yX3_isWord, Cond.instanceMethod yX3_isWord, Cond.selects RX3 yX3_isWord yX3_isWord, Cond.initialized RX3, Cond.code yX3_isWord cX3_isWord 2 (some .boolean), Cond.methodLink RX3 32 yX3_words, Cond.instanceMethod yX3_words, Cond.selects RX3 yX3_words yX3_words, Cond.code yX3_words cX3_words 1 (some .int), Cond.fieldLink RX3 7 "CosetCoderModel" "now" "[I", Cond.methodLink RX3 36 yX3_within, Cond.static yX3_within, Cond.code yX3_within cX3_within 3 (some .boolean), Cond.methodLink RX3 72 yX3_syndrome, Cond.instanceMethod yX3_syndrome, Cond.selects RX3 yX3_syndrome yX3_syndrome, Cond.code yX3_syndrome cX3_syndrome 6 (some .int), Cond.methodLink RX3 69 yX3_ones, Cond.static yX3_ones, Cond.code yX3_ones cX3_ones 3 (some .int), Cond.methodLink RX3 44 yX3_fails, Cond.instanceMethod yX3_fails, Cond.selects RX3 yX3_fails yX3_fails, Cond.code yX3_fails cX3_fails 2 (some .int)]
def wsX3_checkValue_r2 : List Cond := [Cond.fieldLink RX3 16 "CosetCoderModel" "errors" "[I"]
def wsX3_checkValue : List Cond := .code yX3_checkValue cX3_checkValue 2 (some .int) :: ((wsX3_checkValue_r1 ++ wsX3_checkValue_r2) ++ wsX30)
def wsX3_laysMessages : List Cond := .code yX3_laysMessages cX3_laysMessages 2 none :: ([.fieldLink RX3 22 "CosetCoderModel" "messageOf" "[I", .methodLink RX3 32 yX3_words, .instanceMethod yX3_words, .selects RX3 yX3_words yX3_words, .initialized RX3, .code yX3_words cX3_words 1 (some .int), .fieldLink RX3 7 "CosetCoderModel" "now" "[I", .methodLink RX3 72 yX3_syndrome, .instanceMethod yX3_syndrome, .selects RX3 yX3_syndrome yX3_syndrome, .code yX3_syndrome cX3_syndrome 6 (some .int), .methodLink RX3 69 yX3_ones, .static yX3_ones, .code yX3_ones cX3_ones 3 (some .int)] ++ wsX30)
def wsX3_meets : List Cond := .code yX3_meets cX3_meets 5 (some .int) :: ([.fieldLink RX3 25 "CosetCoderModel" "met" "[Z", .fieldLink RX3 22 "CosetCoderModel" "messageOf" "[I", .methodLink RX3 75 yX3_laysMessages, .instanceMethod yX3_laysMessages, .selects RX3 yX3_laysMessages yX3_laysMessages, .initialized RX3, .code yX3_laysMessages cX3_laysMessages 2 none, .methodLink RX3 32 yX3_words, .instanceMethod yX3_words, .selects RX3 yX3_words yX3_words, .code yX3_words cX3_words 1 (some .int), .fieldLink RX3 7 "CosetCoderModel" "now" "[I", .methodLink RX3 72 yX3_syndrome, .instanceMethod yX3_syndrome, .selects RX3 yX3_syndrome yX3_syndrome, .code yX3_syndrome cX3_syndrome 6 (some .int), .methodLink RX3 69 yX3_ones, .static yX3_ones, .code yX3_ones cX3_ones 3 (some .int)] ++ wsX30)
def wsX3_codewordMany : List Cond := .code yX3_codewordMany cX3_codewordMany 3 (some .int) :: ([.fieldLink RX3 22 "CosetCoderModel" "messageOf" "[I", .methodLink RX3 75 yX3_laysMessages, .instanceMethod yX3_laysMessages, .selects RX3 yX3_laysMessages yX3_laysMessages, .initialized RX3, .code yX3_laysMessages cX3_laysMessages 2 none, .methodLink RX3 32 yX3_words, .instanceMethod yX3_words, .selects RX3 yX3_words yX3_words, .code yX3_words cX3_words 1 (some .int), .fieldLink RX3 7 "CosetCoderModel" "now" "[I", .methodLink RX3 72 yX3_syndrome, .instanceMethod yX3_syndrome, .selects RX3 yX3_syndrome yX3_syndrome, .code yX3_syndrome cX3_syndrome 6 (some .int), .methodLink RX3 69 yX3_ones, .static yX3_ones, .code yX3_ones cX3_ones 3 (some .int)] ++ wsX30)
def wsX3_codewords : List Cond := .code yX3_codewords cX3_codewords 1 (some .int) :: ([.methodLink RX3 78 yX3_codewordMany, .instanceMethod yX3_codewordMany, .selects RX3 yX3_codewordMany yX3_codewordMany, .initialized RX3, .code yX3_codewordMany cX3_codewordMany 3 (some .int), .fieldLink RX3 22 "CosetCoderModel" "messageOf" "[I", .methodLink RX3 75 yX3_laysMessages, .instanceMethod yX3_laysMessages, .selects RX3 yX3_laysMessages yX3_laysMessages, .code yX3_laysMessages cX3_laysMessages 2 none, .methodLink RX3 32 yX3_words, .instanceMethod yX3_words, .selects RX3 yX3_words yX3_words, .code yX3_words cX3_words 1 (some .int), .fieldLink RX3 7 "CosetCoderModel" "now" "[I", .methodLink RX3 72 yX3_syndrome, .instanceMethod yX3_syndrome, .selects RX3 yX3_syndrome yX3_syndrome, .code yX3_syndrome cX3_syndrome 6 (some .int), .methodLink RX3 69 yX3_ones, .static yX3_ones, .code yX3_ones cX3_ones 3 (some .int)] ++ wsX30)
def wsX3_messages : List Cond := .code yX3_messages cX3_messages 1 (some .int) :: ([.methodLink RX3 81 yX3_meets, .instanceMethod yX3_meets, .selects RX3 yX3_meets yX3_meets, .initialized RX3, .code yX3_meets cX3_meets 5 (some .int), .fieldLink RX3 25 "CosetCoderModel" "met" "[Z", .fieldLink RX3 22 "CosetCoderModel" "messageOf" "[I", .methodLink RX3 75 yX3_laysMessages, .instanceMethod yX3_laysMessages, .selects RX3 yX3_laysMessages yX3_laysMessages, .code yX3_laysMessages cX3_laysMessages 2 none, .methodLink RX3 32 yX3_words, .instanceMethod yX3_words, .selects RX3 yX3_words yX3_words, .code yX3_words cX3_words 1 (some .int), .fieldLink RX3 7 "CosetCoderModel" "now" "[I", .methodLink RX3 72 yX3_syndrome, .instanceMethod yX3_syndrome, .selects RX3 yX3_syndrome yX3_syndrome, .code yX3_syndrome cX3_syndrome 6 (some .int), .methodLink RX3 69 yX3_ones, .static yX3_ones, .code yX3_ones cX3_ones 3 (some .int)] ++ wsX30)
def wsX3_choiceMany : List Cond := .code yX3_choiceMany cX3_choiceMany 4 (some .int) :: ([.fieldLink RX3 22 "CosetCoderModel" "messageOf" "[I", .methodLink RX3 75 yX3_laysMessages, .instanceMethod yX3_laysMessages, .selects RX3 yX3_laysMessages yX3_laysMessages, .initialized RX3, .code yX3_laysMessages cX3_laysMessages 2 none, .methodLink RX3 32 yX3_words, .instanceMethod yX3_words, .selects RX3 yX3_words yX3_words, .code yX3_words cX3_words 1 (some .int), .fieldLink RX3 7 "CosetCoderModel" "now" "[I", .methodLink RX3 72 yX3_syndrome, .instanceMethod yX3_syndrome, .selects RX3 yX3_syndrome yX3_syndrome, .code yX3_syndrome cX3_syndrome 6 (some .int), .methodLink RX3 69 yX3_ones, .static yX3_ones, .code yX3_ones cX3_ones 3 (some .int)] ++ wsX30)
def wsX3_choices_r1 : List Cond := [Cond.methodLink RX3 36 yX3_within, Cond.static yX3_within, Cond.initialized RX3, Cond.code yX3_within cX3_within 3 (some .boolean), Cond.methodLink RX3 84 yX3_choiceMany, Cond.instanceMethod yX3_choiceMany, Cond.selects RX3 yX3_choiceMany yX3_choiceMany, Cond.code yX3_choiceMany cX3_choiceMany 4 (some .int), Cond.fieldLink RX3 22 "CosetCoderModel" "messageOf" "[I", Cond.methodLink RX3 75 yX3_laysMessages, Cond.instanceMethod yX3_laysMessages, Cond.selects RX3 yX3_laysMessages yX3_laysMessages, Cond.code yX3_laysMessages cX3_laysMessages 2 none, Cond.methodLink RX3 32 yX3_words, Cond.instanceMethod yX3_words, Cond.selects RX3 yX3_words yX3_words, Cond.code yX3_words cX3_words 1 (some .int), Cond.fieldLink RX3 7 "CosetCoderModel" "now" "[I", Cond.methodLink RX3 72 yX3_syndrome, Cond.instanceMethod yX3_syndrome, Cond.selects RX3 yX3_syndrome yX3_syndrome, Cond.code yX3_syndrome cX3_syndrome 6 (some .int), Cond.methodLink RX3 69 yX3_ones, Cond.static yX3_ones]
def wsX3_choices_r2 : List Cond := [Cond.code yX3_ones cX3_ones 3 (some .int), Cond.methodLink RX3 44 yX3_fails, Cond.instanceMethod yX3_fails, Cond.selects RX3 yX3_fails yX3_fails, Cond.code yX3_fails cX3_fails 2 (some .int), Cond.fieldLink RX3 16 "CosetCoderModel" "errors" "[I"]
def wsX3_choices : List Cond := .code yX3_choices cX3_choices 2 (some .int) :: ((wsX3_choices_r1 ++ wsX3_choices_r2) ++ wsX30)
def wsX3_encode_r1 : List Cond := [Cond.fieldLink RX3 22 "CosetCoderModel" "messageOf" "[I", Cond.methodLink RX3 36 yX3_within, Cond.static yX3_within, Cond.initialized RX3, Cond.code yX3_within cX3_within 3 (some .boolean), Cond.methodLink RX3 44 yX3_fails, Cond.instanceMethod yX3_fails, Cond.selects RX3 yX3_fails yX3_fails, Cond.code yX3_fails cX3_fails 2 (some .int), Cond.fieldLink RX3 16 "CosetCoderModel" "errors" "[I", Cond.methodLink RX3 75 yX3_laysMessages, Cond.instanceMethod yX3_laysMessages, Cond.selects RX3 yX3_laysMessages yX3_laysMessages, Cond.code yX3_laysMessages cX3_laysMessages 2 none, Cond.methodLink RX3 32 yX3_words, Cond.instanceMethod yX3_words, Cond.selects RX3 yX3_words yX3_words, Cond.code yX3_words cX3_words 1 (some .int), Cond.fieldLink RX3 7 "CosetCoderModel" "now" "[I", Cond.methodLink RX3 72 yX3_syndrome, Cond.instanceMethod yX3_syndrome, Cond.selects RX3 yX3_syndrome yX3_syndrome, Cond.code yX3_syndrome cX3_syndrome 6 (some .int), Cond.methodLink RX3 69 yX3_ones]
def wsX3_encode_r2 : List Cond := [Cond.static yX3_ones, Cond.code yX3_ones cX3_ones 3 (some .int)]
def wsX3_encode : List Cond := .code yX3_encode cX3_encode 5 (some .int) :: ((wsX3_encode_r1 ++ wsX3_encode_r2) ++ wsX30)
def wsX3_nearest : List Cond := .code yX3_nearest cX3_nearest 5 (some .int) :: ([.fieldLink RX3 22 "CosetCoderModel" "messageOf" "[I", .methodLink RX3 32 yX3_words, .instanceMethod yX3_words, .selects RX3 yX3_words yX3_words, .initialized RX3, .code yX3_words cX3_words 1 (some .int), .fieldLink RX3 7 "CosetCoderModel" "now" "[I", .methodLink RX3 69 yX3_ones, .static yX3_ones, .code yX3_ones cX3_ones 3 (some .int)] ++ wsX30)
def wsX3_decoded : List Cond := .code yX3_decoded cX3_decoded 5 (some .int) :: ([.fieldLink RX3 22 "CosetCoderModel" "messageOf" "[I", .methodLink RX3 87 yX3_nearest, .instanceMethod yX3_nearest, .selects RX3 yX3_nearest yX3_nearest, .initialized RX3, .code yX3_nearest cX3_nearest 5 (some .int), .methodLink RX3 32 yX3_words, .instanceMethod yX3_words, .selects RX3 yX3_words yX3_words, .code yX3_words cX3_words 1 (some .int), .fieldLink RX3 7 "CosetCoderModel" "now" "[I", .methodLink RX3 69 yX3_ones, .static yX3_ones, .code yX3_ones cX3_ones 3 (some .int)] ++ wsX30)
def wsX3_decode_r1 : List Cond := [Cond.methodLink RX3 51 yX3_isWord, Cond.instanceMethod yX3_isWord, Cond.selects RX3 yX3_isWord yX3_isWord, Cond.initialized RX3, Cond.code yX3_isWord cX3_isWord 2 (some .boolean), Cond.methodLink RX3 32 yX3_words, Cond.instanceMethod yX3_words, Cond.selects RX3 yX3_words yX3_words, Cond.code yX3_words cX3_words 1 (some .int), Cond.fieldLink RX3 7 "CosetCoderModel" "now" "[I", Cond.methodLink RX3 36 yX3_within, Cond.static yX3_within, Cond.code yX3_within cX3_within 3 (some .boolean), Cond.methodLink RX3 44 yX3_fails, Cond.instanceMethod yX3_fails, Cond.selects RX3 yX3_fails yX3_fails, Cond.code yX3_fails cX3_fails 2 (some .int), Cond.fieldLink RX3 16 "CosetCoderModel" "errors" "[I", Cond.methodLink RX3 75 yX3_laysMessages, Cond.instanceMethod yX3_laysMessages, Cond.selects RX3 yX3_laysMessages yX3_laysMessages, Cond.code yX3_laysMessages cX3_laysMessages 2 none, Cond.fieldLink RX3 22 "CosetCoderModel" "messageOf" "[I", Cond.methodLink RX3 72 yX3_syndrome]
def wsX3_decode_r2 : List Cond := [Cond.instanceMethod yX3_syndrome, Cond.selects RX3 yX3_syndrome yX3_syndrome, Cond.code yX3_syndrome cX3_syndrome 6 (some .int), Cond.methodLink RX3 69 yX3_ones, Cond.static yX3_ones, Cond.code yX3_ones cX3_ones 3 (some .int), Cond.methodLink RX3 90 yX3_decoded, Cond.instanceMethod yX3_decoded, Cond.selects RX3 yX3_decoded yX3_decoded, Cond.code yX3_decoded cX3_decoded 5 (some .int), Cond.methodLink RX3 87 yX3_nearest, Cond.instanceMethod yX3_nearest, Cond.selects RX3 yX3_nearest yX3_nearest, Cond.code yX3_nearest cX3_nearest 5 (some .int)]
def wsX3_decode : List Cond := .code yX3_decode cX3_decode 3 (some .int) :: ((wsX3_decode_r1 ++ wsX3_decode_r2) ++ wsX30)
def wsX3_distance_r1 : List Cond := [Cond.methodLink RX3 51 yX3_isWord, Cond.instanceMethod yX3_isWord, Cond.selects RX3 yX3_isWord yX3_isWord, Cond.initialized RX3, Cond.code yX3_isWord cX3_isWord 2 (some .boolean), Cond.methodLink RX3 32 yX3_words, Cond.instanceMethod yX3_words, Cond.selects RX3 yX3_words yX3_words, Cond.code yX3_words cX3_words 1 (some .int), Cond.fieldLink RX3 7 "CosetCoderModel" "now" "[I", Cond.methodLink RX3 36 yX3_within, Cond.static yX3_within, Cond.code yX3_within cX3_within 3 (some .boolean), Cond.methodLink RX3 44 yX3_fails, Cond.instanceMethod yX3_fails, Cond.selects RX3 yX3_fails yX3_fails, Cond.code yX3_fails cX3_fails 2 (some .int), Cond.fieldLink RX3 16 "CosetCoderModel" "errors" "[I", Cond.methodLink RX3 75 yX3_laysMessages, Cond.instanceMethod yX3_laysMessages, Cond.selects RX3 yX3_laysMessages yX3_laysMessages, Cond.code yX3_laysMessages cX3_laysMessages 2 none, Cond.fieldLink RX3 22 "CosetCoderModel" "messageOf" "[I", Cond.methodLink RX3 72 yX3_syndrome]
def wsX3_distance_r2 : List Cond := [Cond.instanceMethod yX3_syndrome, Cond.selects RX3 yX3_syndrome yX3_syndrome, Cond.code yX3_syndrome cX3_syndrome 6 (some .int), Cond.methodLink RX3 69 yX3_ones, Cond.static yX3_ones, Cond.code yX3_ones cX3_ones 3 (some .int), Cond.methodLink RX3 87 yX3_nearest, Cond.instanceMethod yX3_nearest, Cond.selects RX3 yX3_nearest yX3_nearest, Cond.code yX3_nearest cX3_nearest 5 (some .int)]
def wsX3_distance : List Cond := .code yX3_distance cX3_distance 2 (some .int) :: ((wsX3_distance_r1 ++ wsX3_distance_r2) ++ wsX30)
def wsX3_weakness_r1 : List Cond := [Cond.fieldLink RX3 22 "CosetCoderModel" "messageOf" "[I", Cond.methodLink RX3 75 yX3_laysMessages, Cond.instanceMethod yX3_laysMessages, Cond.selects RX3 yX3_laysMessages yX3_laysMessages, Cond.initialized RX3, Cond.code yX3_laysMessages cX3_laysMessages 2 none, Cond.methodLink RX3 32 yX3_words, Cond.instanceMethod yX3_words, Cond.selects RX3 yX3_words yX3_words, Cond.code yX3_words cX3_words 1 (some .int), Cond.fieldLink RX3 7 "CosetCoderModel" "now" "[I", Cond.methodLink RX3 72 yX3_syndrome, Cond.instanceMethod yX3_syndrome, Cond.selects RX3 yX3_syndrome yX3_syndrome, Cond.code yX3_syndrome cX3_syndrome 6 (some .int), Cond.methodLink RX3 69 yX3_ones, Cond.static yX3_ones, Cond.code yX3_ones cX3_ones 3 (some .int), Cond.methodLink RX3 90 yX3_decoded, Cond.instanceMethod yX3_decoded, Cond.selects RX3 yX3_decoded yX3_decoded, Cond.code yX3_decoded cX3_decoded 5 (some .int), Cond.methodLink RX3 87 yX3_nearest, Cond.instanceMethod yX3_nearest]
def wsX3_weakness_r2 : List Cond := [Cond.selects RX3 yX3_nearest yX3_nearest, Cond.code yX3_nearest cX3_nearest 5 (some .int)]
def wsX3_weakness : List Cond := .code yX3_weakness cX3_weakness 6 (some .int) :: ((wsX3_weakness_r1 ++ wsX3_weakness_r2) ++ wsX30)
def wsX3_lost : List Cond := .code yX3_lost cX3_lost 4 (some .int) :: ([.methodLink RX3 32 yX3_words, .instanceMethod yX3_words, .selects RX3 yX3_words yX3_words, .initialized RX3, .code yX3_words cX3_words 1 (some .int), .fieldLink RX3 7 "CosetCoderModel" "now" "[I", .methodLink RX3 65 yX3_rankOf, .instanceMethod yX3_rankOf, .selects RX3 yX3_rankOf yX3_rankOf, .code yX3_rankOf cX3_rankOf 7 (some .int), .fieldLink RX3 19 "CosetCoderModel" "left" "[I"] ++ wsX30)
def wsX3_leakageOf : List Cond := .code yX3_leakageOf cX3_leakageOf 2 (some .int) :: ([.methodLink RX3 93 yX3_lost, .instanceMethod yX3_lost, .selects RX3 yX3_lost yX3_lost, .initialized RX3, .code yX3_lost cX3_lost 4 (some .int), .methodLink RX3 32 yX3_words, .instanceMethod yX3_words, .selects RX3 yX3_words yX3_words, .code yX3_words cX3_words 1 (some .int), .fieldLink RX3 7 "CosetCoderModel" "now" "[I", .methodLink RX3 65 yX3_rankOf, .instanceMethod yX3_rankOf, .selects RX3 yX3_rankOf yX3_rankOf, .code yX3_rankOf cX3_rankOf 7 (some .int), .fieldLink RX3 19 "CosetCoderModel" "left" "[I"] ++ wsX30)
def wsX3_leakage_r1 : List Cond := [Cond.methodLink RX3 51 yX3_isWord, Cond.instanceMethod yX3_isWord, Cond.selects RX3 yX3_isWord yX3_isWord, Cond.initialized RX3, Cond.code yX3_isWord cX3_isWord 2 (some .boolean), Cond.methodLink RX3 32 yX3_words, Cond.instanceMethod yX3_words, Cond.selects RX3 yX3_words yX3_words, Cond.code yX3_words cX3_words 1 (some .int), Cond.fieldLink RX3 7 "CosetCoderModel" "now" "[I", Cond.methodLink RX3 36 yX3_within, Cond.static yX3_within, Cond.code yX3_within cX3_within 3 (some .boolean), Cond.methodLink RX3 96 yX3_leakageOf, Cond.instanceMethod yX3_leakageOf, Cond.selects RX3 yX3_leakageOf yX3_leakageOf, Cond.code yX3_leakageOf cX3_leakageOf 2 (some .int), Cond.methodLink RX3 93 yX3_lost, Cond.instanceMethod yX3_lost, Cond.selects RX3 yX3_lost yX3_lost, Cond.code yX3_lost cX3_lost 4 (some .int), Cond.methodLink RX3 65 yX3_rankOf, Cond.instanceMethod yX3_rankOf, Cond.selects RX3 yX3_rankOf yX3_rankOf]
def wsX3_leakage_r2 : List Cond := [Cond.code yX3_rankOf cX3_rankOf 7 (some .int), Cond.fieldLink RX3 19 "CosetCoderModel" "left" "[I", Cond.methodLink RX3 44 yX3_fails, Cond.instanceMethod yX3_fails, Cond.selects RX3 yX3_fails yX3_fails, Cond.code yX3_fails cX3_fails 2 (some .int), Cond.fieldLink RX3 16 "CosetCoderModel" "errors" "[I"]
def wsX3_leakage : List Cond := .code yX3_leakage cX3_leakage 2 (some .int) :: ((wsX3_leakage_r1 ++ wsX3_leakage_r2) ++ wsX30)
def wsX3_worstOf : List Cond := .code yX3_worstOf cX3_worstOf 6 (some .int) :: ([.methodLink RX3 32 yX3_words, .instanceMethod yX3_words, .selects RX3 yX3_words yX3_words, .initialized RX3, .code yX3_words cX3_words 1 (some .int), .fieldLink RX3 7 "CosetCoderModel" "now" "[I", .methodLink RX3 69 yX3_ones, .static yX3_ones, .code yX3_ones cX3_ones 3 (some .int), .methodLink RX3 96 yX3_leakageOf, .instanceMethod yX3_leakageOf, .selects RX3 yX3_leakageOf yX3_leakageOf, .code yX3_leakageOf cX3_leakageOf 2 (some .int), .methodLink RX3 93 yX3_lost, .instanceMethod yX3_lost, .selects RX3 yX3_lost yX3_lost, .code yX3_lost cX3_lost 4 (some .int), .methodLink RX3 65 yX3_rankOf, .instanceMethod yX3_rankOf, .selects RX3 yX3_rankOf yX3_rankOf, .code yX3_rankOf cX3_rankOf 7 (some .int), .fieldLink RX3 19 "CosetCoderModel" "left" "[I"] ++ wsX30)
def wsX3_isSize : List Cond := .code yX3_isSize cX3_isSize 2 (some .boolean) :: ([.fieldLink RX3 7 "CosetCoderModel" "now" "[I", .methodLink RX3 36 yX3_within, .static yX3_within, .initialized RX3, .code yX3_within cX3_within 3 (some .boolean)] ++ wsX30)
def wsX3_worstLeakage_r1 : List Cond := [Cond.methodLink RX3 99 yX3_isSize, Cond.instanceMethod yX3_isSize, Cond.selects RX3 yX3_isSize yX3_isSize, Cond.initialized RX3, Cond.code yX3_isSize cX3_isSize 2 (some .boolean), Cond.fieldLink RX3 7 "CosetCoderModel" "now" "[I", Cond.methodLink RX3 36 yX3_within, Cond.static yX3_within, Cond.code yX3_within cX3_within 3 (some .boolean), Cond.methodLink RX3 102 yX3_worstOf, Cond.instanceMethod yX3_worstOf, Cond.selects RX3 yX3_worstOf yX3_worstOf, Cond.code yX3_worstOf cX3_worstOf 6 (some .int), Cond.methodLink RX3 32 yX3_words, Cond.instanceMethod yX3_words, Cond.selects RX3 yX3_words yX3_words, Cond.code yX3_words cX3_words 1 (some .int), Cond.methodLink RX3 69 yX3_ones, Cond.static yX3_ones, Cond.code yX3_ones cX3_ones 3 (some .int), Cond.methodLink RX3 96 yX3_leakageOf, Cond.instanceMethod yX3_leakageOf, Cond.selects RX3 yX3_leakageOf yX3_leakageOf, Cond.code yX3_leakageOf cX3_leakageOf 2 (some .int)]
def wsX3_worstLeakage_r2 : List Cond := [Cond.methodLink RX3 93 yX3_lost, Cond.instanceMethod yX3_lost, Cond.selects RX3 yX3_lost yX3_lost, Cond.code yX3_lost cX3_lost 4 (some .int), Cond.methodLink RX3 65 yX3_rankOf, Cond.instanceMethod yX3_rankOf, Cond.selects RX3 yX3_rankOf yX3_rankOf, Cond.code yX3_rankOf cX3_rankOf 7 (some .int), Cond.fieldLink RX3 19 "CosetCoderModel" "left" "[I", Cond.methodLink RX3 44 yX3_fails, Cond.instanceMethod yX3_fails, Cond.selects RX3 yX3_fails yX3_fails, Cond.code yX3_fails cX3_fails 2 (some .int), Cond.fieldLink RX3 16 "CosetCoderModel" "errors" "[I"]
def wsX3_worstLeakage : List Cond := .code yX3_worstLeakage cX3_worstLeakage 2 (some .int) :: ((wsX3_worstLeakage_r1 ++ wsX3_worstLeakage_r2) ++ wsX30)
def wsX3_worstSet_r1 : List Cond := [Cond.methodLink RX3 99 yX3_isSize, Cond.instanceMethod yX3_isSize, Cond.selects RX3 yX3_isSize yX3_isSize, Cond.initialized RX3, Cond.code yX3_isSize cX3_isSize 2 (some .boolean), Cond.fieldLink RX3 7 "CosetCoderModel" "now" "[I", Cond.methodLink RX3 36 yX3_within, Cond.static yX3_within, Cond.code yX3_within cX3_within 3 (some .boolean), Cond.methodLink RX3 102 yX3_worstOf, Cond.instanceMethod yX3_worstOf, Cond.selects RX3 yX3_worstOf yX3_worstOf, Cond.code yX3_worstOf cX3_worstOf 6 (some .int), Cond.methodLink RX3 32 yX3_words, Cond.instanceMethod yX3_words, Cond.selects RX3 yX3_words yX3_words, Cond.code yX3_words cX3_words 1 (some .int), Cond.methodLink RX3 69 yX3_ones, Cond.static yX3_ones, Cond.code yX3_ones cX3_ones 3 (some .int), Cond.methodLink RX3 96 yX3_leakageOf, Cond.instanceMethod yX3_leakageOf, Cond.selects RX3 yX3_leakageOf yX3_leakageOf, Cond.code yX3_leakageOf cX3_leakageOf 2 (some .int)]
def wsX3_worstSet_r2 : List Cond := [Cond.methodLink RX3 93 yX3_lost, Cond.instanceMethod yX3_lost, Cond.selects RX3 yX3_lost yX3_lost, Cond.code yX3_lost cX3_lost 4 (some .int), Cond.methodLink RX3 65 yX3_rankOf, Cond.instanceMethod yX3_rankOf, Cond.selects RX3 yX3_rankOf yX3_rankOf, Cond.code yX3_rankOf cX3_rankOf 7 (some .int), Cond.fieldLink RX3 19 "CosetCoderModel" "left" "[I", Cond.methodLink RX3 44 yX3_fails, Cond.instanceMethod yX3_fails, Cond.selects RX3 yX3_fails yX3_fails, Cond.code yX3_fails cX3_fails 2 (some .int), Cond.fieldLink RX3 16 "CosetCoderModel" "errors" "[I"]
def wsX3_worstSet : List Cond := .code yX3_worstSet cX3_worstSet 2 (some .int) :: ((wsX3_worstSet_r1 ++ wsX3_worstSet_r2) ++ wsX30)
def wsX3_threshold_r1 : List Cond := [Cond.fieldLink RX3 7 "CosetCoderModel" "now" "[I", Cond.methodLink RX3 102 yX3_worstOf, Cond.instanceMethod yX3_worstOf, Cond.selects RX3 yX3_worstOf yX3_worstOf, Cond.initialized RX3, Cond.code yX3_worstOf cX3_worstOf 6 (some .int), Cond.methodLink RX3 32 yX3_words, Cond.instanceMethod yX3_words, Cond.selects RX3 yX3_words yX3_words, Cond.code yX3_words cX3_words 1 (some .int), Cond.methodLink RX3 69 yX3_ones, Cond.static yX3_ones, Cond.code yX3_ones cX3_ones 3 (some .int), Cond.methodLink RX3 96 yX3_leakageOf, Cond.instanceMethod yX3_leakageOf, Cond.selects RX3 yX3_leakageOf yX3_leakageOf, Cond.code yX3_leakageOf cX3_leakageOf 2 (some .int), Cond.methodLink RX3 93 yX3_lost, Cond.instanceMethod yX3_lost, Cond.selects RX3 yX3_lost yX3_lost, Cond.code yX3_lost cX3_lost 4 (some .int), Cond.methodLink RX3 65 yX3_rankOf, Cond.instanceMethod yX3_rankOf, Cond.selects RX3 yX3_rankOf yX3_rankOf]
def wsX3_threshold_r2 : List Cond := [Cond.code yX3_rankOf cX3_rankOf 7 (some .int), Cond.fieldLink RX3 19 "CosetCoderModel" "left" "[I"]
def wsX3_threshold : List Cond := .code yX3_threshold cX3_threshold 2 (some .int) :: ((wsX3_threshold_r1 ++ wsX3_threshold_r2) ++ wsX30)
def wsX3_leastSize_r1 : List Cond := [Cond.fieldLink RX3 7 "CosetCoderModel" "now" "[I", Cond.methodLink RX3 36 yX3_within, Cond.static yX3_within, Cond.initialized RX3, Cond.code yX3_within cX3_within 3 (some .boolean), Cond.methodLink RX3 44 yX3_fails, Cond.instanceMethod yX3_fails, Cond.selects RX3 yX3_fails yX3_fails, Cond.code yX3_fails cX3_fails 2 (some .int), Cond.fieldLink RX3 16 "CosetCoderModel" "errors" "[I", Cond.methodLink RX3 102 yX3_worstOf, Cond.instanceMethod yX3_worstOf, Cond.selects RX3 yX3_worstOf yX3_worstOf, Cond.code yX3_worstOf cX3_worstOf 6 (some .int), Cond.methodLink RX3 32 yX3_words, Cond.instanceMethod yX3_words, Cond.selects RX3 yX3_words yX3_words, Cond.code yX3_words cX3_words 1 (some .int), Cond.methodLink RX3 69 yX3_ones, Cond.static yX3_ones, Cond.code yX3_ones cX3_ones 3 (some .int), Cond.methodLink RX3 96 yX3_leakageOf, Cond.instanceMethod yX3_leakageOf, Cond.selects RX3 yX3_leakageOf yX3_leakageOf]
def wsX3_leastSize_r2 : List Cond := [Cond.code yX3_leakageOf cX3_leakageOf 2 (some .int), Cond.methodLink RX3 93 yX3_lost, Cond.instanceMethod yX3_lost, Cond.selects RX3 yX3_lost yX3_lost, Cond.code yX3_lost cX3_lost 4 (some .int), Cond.methodLink RX3 65 yX3_rankOf, Cond.instanceMethod yX3_rankOf, Cond.selects RX3 yX3_rankOf yX3_rankOf, Cond.code yX3_rankOf cX3_rankOf 7 (some .int), Cond.fieldLink RX3 19 "CosetCoderModel" "left" "[I"]
def wsX3_leastSize : List Cond := .code yX3_leastSize cX3_leastSize 3 (some .int) :: ((wsX3_leastSize_r1 ++ wsX3_leastSize_r2) ++ wsX30)
def wsX3_isObservation : List Cond := .code yX3_isObservation cX3_isObservation 3 (some .boolean) :: ([.methodLink RX3 51 yX3_isWord, .instanceMethod yX3_isWord, .selects RX3 yX3_isWord yX3_isWord, .initialized RX3, .code yX3_isWord cX3_isWord 2 (some .boolean), .methodLink RX3 32 yX3_words, .instanceMethod yX3_words, .selects RX3 yX3_words yX3_words, .code yX3_words cX3_words 1 (some .int), .fieldLink RX3 7 "CosetCoderModel" "now" "[I", .methodLink RX3 36 yX3_within, .static yX3_within, .code yX3_within cX3_within 3 (some .boolean)] ++ wsX30)
def wsX3_possibleMessages_r1 : List Cond := [Cond.methodLink RX3 105 yX3_isObservation, Cond.instanceMethod yX3_isObservation, Cond.selects RX3 yX3_isObservation yX3_isObservation, Cond.initialized RX3, Cond.code yX3_isObservation cX3_isObservation 3 (some .boolean), Cond.methodLink RX3 51 yX3_isWord, Cond.instanceMethod yX3_isWord, Cond.selects RX3 yX3_isWord yX3_isWord, Cond.code yX3_isWord cX3_isWord 2 (some .boolean), Cond.methodLink RX3 32 yX3_words, Cond.instanceMethod yX3_words, Cond.selects RX3 yX3_words yX3_words, Cond.code yX3_words cX3_words 1 (some .int), Cond.fieldLink RX3 7 "CosetCoderModel" "now" "[I", Cond.methodLink RX3 36 yX3_within, Cond.static yX3_within, Cond.code yX3_within cX3_within 3 (some .boolean), Cond.methodLink RX3 81 yX3_meets, Cond.instanceMethod yX3_meets, Cond.selects RX3 yX3_meets yX3_meets, Cond.code yX3_meets cX3_meets 5 (some .int), Cond.fieldLink RX3 25 "CosetCoderModel" "met" "[Z", Cond.fieldLink RX3 22 "CosetCoderModel" "messageOf" "[I", Cond.methodLink RX3 75 yX3_laysMessages]
def wsX3_possibleMessages_r2 : List Cond := [Cond.instanceMethod yX3_laysMessages, Cond.selects RX3 yX3_laysMessages yX3_laysMessages, Cond.code yX3_laysMessages cX3_laysMessages 2 none, Cond.methodLink RX3 72 yX3_syndrome, Cond.instanceMethod yX3_syndrome, Cond.selects RX3 yX3_syndrome yX3_syndrome, Cond.code yX3_syndrome cX3_syndrome 6 (some .int), Cond.methodLink RX3 69 yX3_ones, Cond.static yX3_ones, Cond.code yX3_ones cX3_ones 3 (some .int), Cond.methodLink RX3 44 yX3_fails, Cond.instanceMethod yX3_fails, Cond.selects RX3 yX3_fails yX3_fails, Cond.code yX3_fails cX3_fails 2 (some .int), Cond.fieldLink RX3 16 "CosetCoderModel" "errors" "[I"]
def wsX3_possibleMessages : List Cond := .code yX3_possibleMessages cX3_possibleMessages 3 (some .int) :: ((wsX3_possibleMessages_r1 ++ wsX3_possibleMessages_r2) ++ wsX30)
def wsX3_possibleMessage_r1 : List Cond := [Cond.fieldLink RX3 25 "CosetCoderModel" "met" "[Z", Cond.methodLink RX3 105 yX3_isObservation, Cond.instanceMethod yX3_isObservation, Cond.selects RX3 yX3_isObservation yX3_isObservation, Cond.initialized RX3, Cond.code yX3_isObservation cX3_isObservation 3 (some .boolean), Cond.methodLink RX3 51 yX3_isWord, Cond.instanceMethod yX3_isWord, Cond.selects RX3 yX3_isWord yX3_isWord, Cond.code yX3_isWord cX3_isWord 2 (some .boolean), Cond.methodLink RX3 32 yX3_words, Cond.instanceMethod yX3_words, Cond.selects RX3 yX3_words yX3_words, Cond.code yX3_words cX3_words 1 (some .int), Cond.fieldLink RX3 7 "CosetCoderModel" "now" "[I", Cond.methodLink RX3 36 yX3_within, Cond.static yX3_within, Cond.code yX3_within cX3_within 3 (some .boolean), Cond.methodLink RX3 44 yX3_fails, Cond.instanceMethod yX3_fails, Cond.selects RX3 yX3_fails yX3_fails, Cond.code yX3_fails cX3_fails 2 (some .int), Cond.fieldLink RX3 16 "CosetCoderModel" "errors" "[I", Cond.methodLink RX3 81 yX3_meets]
def wsX3_possibleMessage_r2 : List Cond := [Cond.instanceMethod yX3_meets, Cond.selects RX3 yX3_meets yX3_meets, Cond.code yX3_meets cX3_meets 5 (some .int), Cond.fieldLink RX3 22 "CosetCoderModel" "messageOf" "[I", Cond.methodLink RX3 75 yX3_laysMessages, Cond.instanceMethod yX3_laysMessages, Cond.selects RX3 yX3_laysMessages yX3_laysMessages, Cond.code yX3_laysMessages cX3_laysMessages 2 none, Cond.methodLink RX3 72 yX3_syndrome, Cond.instanceMethod yX3_syndrome, Cond.selects RX3 yX3_syndrome yX3_syndrome, Cond.code yX3_syndrome cX3_syndrome 6 (some .int), Cond.methodLink RX3 69 yX3_ones, Cond.static yX3_ones, Cond.code yX3_ones cX3_ones 3 (some .int)]
def wsX3_possibleMessage : List Cond := .code yX3_possibleMessage cX3_possibleMessage 6 (some .int) :: ((wsX3_possibleMessage_r1 ++ wsX3_possibleMessage_r2) ++ wsX30)
def wsX3_isKnown : List Cond := .code yX3_isKnown cX3_isKnown 5 (some .boolean) :: ([.fieldLink RX3 29 "CosetCoderModel" "parityOf" "[I", .fieldLink RX3 22 "CosetCoderModel" "messageOf" "[I", .methodLink RX3 32 yX3_words, .instanceMethod yX3_words, .selects RX3 yX3_words yX3_words, .initialized RX3, .code yX3_words cX3_words 1 (some .int), .fieldLink RX3 7 "CosetCoderModel" "now" "[I", .methodLink RX3 69 yX3_ones, .static yX3_ones, .code yX3_ones cX3_ones 3 (some .int)] ++ wsX30)
def wsX3_knownCombinations_r1 : List Cond := [Cond.fieldLink RX3 7 "CosetCoderModel" "now" "[I", Cond.methodLink RX3 51 yX3_isWord, Cond.instanceMethod yX3_isWord, Cond.selects RX3 yX3_isWord yX3_isWord, Cond.initialized RX3, Cond.code yX3_isWord cX3_isWord 2 (some .boolean), Cond.methodLink RX3 32 yX3_words, Cond.instanceMethod yX3_words, Cond.selects RX3 yX3_words yX3_words, Cond.code yX3_words cX3_words 1 (some .int), Cond.methodLink RX3 36 yX3_within, Cond.static yX3_within, Cond.code yX3_within cX3_within 3 (some .boolean), Cond.methodLink RX3 44 yX3_fails, Cond.instanceMethod yX3_fails, Cond.selects RX3 yX3_fails yX3_fails, Cond.code yX3_fails cX3_fails 2 (some .int), Cond.fieldLink RX3 16 "CosetCoderModel" "errors" "[I", Cond.methodLink RX3 75 yX3_laysMessages, Cond.instanceMethod yX3_laysMessages, Cond.selects RX3 yX3_laysMessages yX3_laysMessages, Cond.code yX3_laysMessages cX3_laysMessages 2 none, Cond.fieldLink RX3 22 "CosetCoderModel" "messageOf" "[I", Cond.methodLink RX3 72 yX3_syndrome]
def wsX3_knownCombinations_r2 : List Cond := [Cond.instanceMethod yX3_syndrome, Cond.selects RX3 yX3_syndrome yX3_syndrome, Cond.code yX3_syndrome cX3_syndrome 6 (some .int), Cond.methodLink RX3 69 yX3_ones, Cond.static yX3_ones, Cond.code yX3_ones cX3_ones 3 (some .int), Cond.methodLink RX3 109 yX3_isKnown, Cond.instanceMethod yX3_isKnown, Cond.selects RX3 yX3_isKnown yX3_isKnown, Cond.code yX3_isKnown cX3_isKnown 5 (some .boolean), Cond.fieldLink RX3 29 "CosetCoderModel" "parityOf" "[I"]
def wsX3_knownCombinations : List Cond := .code yX3_knownCombinations cX3_knownCombinations 5 (some .int) :: ((wsX3_knownCombinations_r1 ++ wsX3_knownCombinations_r2) ++ wsX30)
def wsX3_errorCount : List Cond := .code yX3_errorCount cX3_errorCount 2 (some .int) :: ([.fieldLink RX3 16 "CosetCoderModel" "errors" "[I", .methodLink RX3 36 yX3_within, .static yX3_within, .initialized RX3, .code yX3_within cX3_within 3 (some .boolean), .methodLink RX3 44 yX3_fails, .instanceMethod yX3_fails, .selects RX3 yX3_fails yX3_fails, .code yX3_fails cX3_fails 2 (some .int)] ++ wsX30)
def wsX3_mix : List Cond := .code yX3_mix cX3_mix 2 none :: ([.constantLong RX3 112 (31), .fieldLink RX3 114 "CosetCoderModel" "hash" "J"] ++ wsX30)
def wsX3_digest_r1 : List Cond := [Cond.constantLong RX3 118 (2687), Cond.fieldLink RX3 114 "CosetCoderModel" "hash" "J", Cond.fieldLink RX3 16 "CosetCoderModel" "errors" "[I", Cond.fieldLink RX3 7 "CosetCoderModel" "now" "[I", Cond.fieldLink RX3 40 "CosetCoderModel" "saved" "I", Cond.methodLink RX3 120 yX3_mix, Cond.instanceMethod yX3_mix, Cond.selects RX3 yX3_mix yX3_mix, Cond.initialized RX3, Cond.code yX3_mix cX3_mix 2 none, Cond.constantLong RX3 112 (31), Cond.methodLink RX3 32 yX3_words, Cond.instanceMethod yX3_words, Cond.selects RX3 yX3_words yX3_words, Cond.code yX3_words cX3_words 1 (some .int), Cond.methodLink RX3 65 yX3_rankOf, Cond.instanceMethod yX3_rankOf, Cond.selects RX3 yX3_rankOf yX3_rankOf, Cond.code yX3_rankOf cX3_rankOf 7 (some .int), Cond.fieldLink RX3 19 "CosetCoderModel" "left" "[I", Cond.methodLink RX3 78 yX3_codewordMany, Cond.instanceMethod yX3_codewordMany, Cond.selects RX3 yX3_codewordMany yX3_codewordMany, Cond.code yX3_codewordMany cX3_codewordMany 3 (some .int)]
def wsX3_digest_r2 : List Cond := [Cond.fieldLink RX3 22 "CosetCoderModel" "messageOf" "[I", Cond.methodLink RX3 75 yX3_laysMessages, Cond.instanceMethod yX3_laysMessages, Cond.selects RX3 yX3_laysMessages yX3_laysMessages, Cond.code yX3_laysMessages cX3_laysMessages 2 none, Cond.methodLink RX3 72 yX3_syndrome, Cond.instanceMethod yX3_syndrome, Cond.selects RX3 yX3_syndrome yX3_syndrome, Cond.code yX3_syndrome cX3_syndrome 6 (some .int), Cond.methodLink RX3 69 yX3_ones, Cond.static yX3_ones, Cond.code yX3_ones cX3_ones 3 (some .int), Cond.methodLink RX3 81 yX3_meets, Cond.instanceMethod yX3_meets, Cond.selects RX3 yX3_meets yX3_meets, Cond.code yX3_meets cX3_meets 5 (some .int), Cond.fieldLink RX3 25 "CosetCoderModel" "met" "[Z", Cond.methodLink RX3 123 yX3_threshold, Cond.instanceMethod yX3_threshold, Cond.selects RX3 yX3_threshold yX3_threshold, Cond.code yX3_threshold cX3_threshold 2 (some .int), Cond.methodLink RX3 102 yX3_worstOf, Cond.instanceMethod yX3_worstOf, Cond.selects RX3 yX3_worstOf yX3_worstOf]
def wsX3_digest_r3 : List Cond := [Cond.code yX3_worstOf cX3_worstOf 6 (some .int), Cond.methodLink RX3 96 yX3_leakageOf, Cond.instanceMethod yX3_leakageOf, Cond.selects RX3 yX3_leakageOf yX3_leakageOf, Cond.code yX3_leakageOf cX3_leakageOf 2 (some .int), Cond.methodLink RX3 93 yX3_lost, Cond.instanceMethod yX3_lost, Cond.selects RX3 yX3_lost yX3_lost, Cond.code yX3_lost cX3_lost 4 (some .int), Cond.methodLink RX3 126 yX3_weakness, Cond.instanceMethod yX3_weakness, Cond.selects RX3 yX3_weakness yX3_weakness, Cond.code yX3_weakness cX3_weakness 6 (some .int), Cond.methodLink RX3 90 yX3_decoded, Cond.instanceMethod yX3_decoded, Cond.selects RX3 yX3_decoded yX3_decoded, Cond.code yX3_decoded cX3_decoded 5 (some .int), Cond.methodLink RX3 87 yX3_nearest, Cond.instanceMethod yX3_nearest, Cond.selects RX3 yX3_nearest yX3_nearest, Cond.code yX3_nearest cX3_nearest 5 (some .int)]
def wsX3_digest : List Cond := .code yX3_digest cX3_digest 3 (some .long) :: ((wsX3_digest_r1 ++ (wsX3_digest_r2 ++ wsX3_digest_r3)) ++ wsX30)
def wsJ9_min_7cf53 : List Cond := .code yJ9_min_7cf53 cJ9_min_7cf53 2 (some .int) :: ([])
def wsL_law_r1 : List Cond := [Cond.classLink RL 7 RX2, Cond.instantiable RX2 5, Cond.initialized RX2, Cond.classLink RL 10 RX3, Cond.instantiable RX3 9, Cond.initialized RX3, Cond.methodLink RL 9 yX2_init, Cond.instanceMethod yX2_init, Cond.code yX2_init cX2_init 2 none, Cond.methodLink RX2 3 objectInit, Cond.instanceMethod objectInit, Cond.code objectInit ⟨#[0xb1]⟩ 1 none, Cond.classLink RX2 9 RX1, Cond.instantiable RX1 4, Cond.initialized RX1, Cond.fieldLink RX2 12 "CosetCoder" "state" "LCosetCoder$State;", Cond.fieldLink RX2 16 "CosetCoder" "saved" "[LCosetCoder$State;", Cond.fieldLink RX2 20 "CosetCoder" "savedCount" "I", Cond.arrayClass .int, Cond.fieldLink RX2 24 "CosetCoder" "errors" "[I", Cond.classLink RX2 28 RX0, Cond.instantiable RX0 2, Cond.initialized RX0, Cond.fieldLink RX2 31 "CosetCoder" "basis" "LCosetCoder$Basis;"]
def wsL_law_r2 : List Cond := [Cond.instanceMethod yX1_init, Cond.code yX1_init cX1_init 1 none, Cond.methodLink RX1 3 objectInit, Cond.fieldLink RX1 9 "CosetCoder$State" "length" "I", Cond.fieldLink RX1 15 "CosetCoder$State" "size" "I", Cond.fieldLink RX1 18 "CosetCoder$State" "words" "[I", Cond.arrayClass .boolean, Cond.fieldLink RX1 22 "CosetCoder$State" "checks" "[Z", Cond.instanceMethod yX0_init, Cond.code yX0_init cX0_init 1 none, Cond.methodLink RX0 3 objectInit, Cond.fieldLink RX0 9 "CosetCoder$Basis" "vectors" "[I", Cond.fieldLink RX0 15 "CosetCoder$Basis" "count" "I", Cond.methodLink RL 12 yX3_init, Cond.instanceMethod yX3_init, Cond.code yX3_init cX3_init 1 none, Cond.methodLink RX3 1 objectInit, Cond.fieldLink RX3 7 "CosetCoderModel" "now" "[I", Cond.fieldLink RX3 13 "CosetCoderModel" "past" "[I", Cond.fieldLink RX3 16 "CosetCoderModel" "errors" "[I", Cond.fieldLink RX3 19 "CosetCoderModel" "left" "[I", Cond.fieldLink RX3 22 "CosetCoderModel" "messageOf" "[I", Cond.fieldLink RX3 25 "CosetCoderModel" "met" "[Z", Cond.fieldLink RX3 29 "CosetCoderModel" "parityOf" "[I"]
def wsL_law_r3 : List Cond := [Cond.methodLink RL 13 yX2_setLength, Cond.instanceMethod yX2_setLength, Cond.selects RX2 yX2_setLength yX2_setLength, Cond.code yX2_setLength cX2_setLength 3 (some .int), Cond.methodLink RX2 35 yX2_fail, Cond.instanceMethod yX2_fail, Cond.selects RX2 yX2_fail yX2_fail, Cond.code yX2_fail cX2_fail 3 (some .int), Cond.methodLink RX2 39 yX2_saveState, Cond.instanceMethod yX2_saveState, Cond.selects RX2 yX2_saveState yX2_saveState, Cond.code yX2_saveState cX2_saveState 1 none, Cond.methodLink RX2 158 yX2_dropOldest, Cond.instanceMethod yX2_dropOldest, Cond.selects RX2 yX2_dropOldest yX2_dropOldest, Cond.code yX2_dropOldest cX2_dropOldest 3 none, Cond.instanceMethod yX1_copyFrom, Cond.selects RX1 yX1_copyFrom yX1_copyFrom, Cond.code yX1_copyFrom cX1_copyFrom 3 none, Cond.methodLink RL 17 yX3_setLength, Cond.instanceMethod yX3_setLength, Cond.selects RX3 yX3_setLength yX3_setLength, Cond.code yX3_setLength cX3_setLength 3 (some .int), Cond.methodLink RX3 36 yX3_within]
def wsL_law_r4 : List Cond := [Cond.static yX3_within, Cond.code yX3_within cX3_within 3 (some .boolean), Cond.methodLink RX3 44 yX3_fails, Cond.instanceMethod yX3_fails, Cond.selects RX3 yX3_fails yX3_fails, Cond.code yX3_fails cX3_fails 2 (some .int), Cond.methodLink RX3 48 yX3_saves, Cond.instanceMethod yX3_saves, Cond.selects RX3 yX3_saves yX3_saves, Cond.code yX3_saves cX3_saves 2 none, Cond.fieldLink RX3 40 "CosetCoderModel" "saved" "I", Cond.methodLink RL 18 yX2_addRow, Cond.instanceMethod yX2_addRow, Cond.selects RX2 yX2_addRow yX2_addRow, Cond.code yX2_addRow cX2_addRow 3 (some .int), Cond.methodLink RX2 48 yX2_isWord, Cond.instanceMethod yX2_isWord, Cond.selects RX2 yX2_isWord yX2_isWord, Cond.code yX2_isWord cX2_isWord 2 (some .boolean), Cond.methodLink RX2 79 yX2_allPositions, Cond.instanceMethod yX2_allPositions, Cond.selects RX2 yX2_allPositions yX2_allPositions, Cond.code yX2_allPositions cX2_allPositions 1 (some .int), Cond.instanceMethod yX1_put]
def wsL_law_r5 : List Cond := [Cond.selects RX1 yX1_put yX1_put, Cond.code yX1_put cX1_put 4 none, Cond.methodLink RL 22 yX3_addRow, Cond.instanceMethod yX3_addRow, Cond.selects RX3 yX3_addRow yX3_addRow, Cond.code yX3_addRow cX3_addRow 3 (some .int), Cond.methodLink RX3 51 yX3_isWord, Cond.instanceMethod yX3_isWord, Cond.selects RX3 yX3_isWord yX3_isWord, Cond.code yX3_isWord cX3_isWord 2 (some .boolean), Cond.methodLink RX3 32 yX3_words, Cond.instanceMethod yX3_words, Cond.selects RX3 yX3_words yX3_words, Cond.code yX3_words cX3_words 1 (some .int), Cond.methodLink RL 23 yX2_removeRow, Cond.instanceMethod yX2_removeRow, Cond.selects RX2 yX2_removeRow yX2_removeRow, Cond.code yX2_removeRow cX2_removeRow 3 (some .int), Cond.methodLink RX2 56 yX2_isRowNumber, Cond.instanceMethod yX2_isRowNumber, Cond.selects RX2 yX2_isRowNumber yX2_isRowNumber, Cond.code yX2_isRowNumber cX2_isRowNumber 2 (some .boolean), Cond.methodLink RL 26 yX3_removeRow, Cond.instanceMethod yX3_removeRow]
def wsL_law_r6 : List Cond := [Cond.selects RX3 yX3_removeRow yX3_removeRow, Cond.code yX3_removeRow cX3_removeRow 2 (some .int), Cond.methodLink RX3 55 yX3_isRow, Cond.instanceMethod yX3_isRow, Cond.selects RX3 yX3_isRow yX3_isRow, Cond.code yX3_isRow cX3_isRow 2 (some .boolean), Cond.methodLink RX3 58 yX3_removes, Cond.instanceMethod yX3_removes, Cond.selects RX3 yX3_removes yX3_removes, Cond.code yX3_removes cX3_removes 3 none, Cond.methodLink RL 27 yX2_removeDependentRows, Cond.instanceMethod yX2_removeDependentRows, Cond.selects RX2 yX2_removeDependentRows yX2_removeDependentRows, Cond.code yX2_removeDependentRows cX2_removeDependentRows 4 (some .int), Cond.instanceMethod yX0_clear, Cond.selects RX0 yX0_clear yX0_clear, Cond.code yX0_clear cX0_clear 1 none, Cond.instanceMethod yX0_extend, Cond.selects RX0 yX0_extend yX0_extend, Cond.code yX0_extend cX0_extend 4 (some .boolean), Cond.methodLink RX0 19 Lib.Math.min.name, Cond.static Lib.Math.min.name, Cond.initialized "java/lang/Math", Cond.code Lib.Math.min.name Lib.Math.min.code 2 (some .int)]
def wsL_law_r7 : List Cond := [Cond.methodLink RL 31 yX3_removeDependentRows, Cond.instanceMethod yX3_removeDependentRows, Cond.selects RX3 yX3_removeDependentRows yX3_removeDependentRows, Cond.code yX3_removeDependentRows cX3_removeDependentRows 3 (some .int), Cond.methodLink RX3 62 yX3_isDependent, Cond.instanceMethod yX3_isDependent, Cond.selects RX3 yX3_isDependent yX3_isDependent, Cond.code yX3_isDependent cX3_isDependent 5 (some .boolean), Cond.methodLink RL 32 yX2_row, Cond.instanceMethod yX2_row, Cond.selects RX2 yX2_row yX2_row, Cond.code yX2_row cX2_row 2 (some .int), Cond.methodLink RL 35 yX3_row, Cond.instanceMethod yX3_row, Cond.selects RX3 yX3_row yX3_row, Cond.code yX3_row cX3_row 2 (some .int), Cond.methodLink RL 36 yX2_isCheck, Cond.instanceMethod yX2_isCheck, Cond.selects RX2 yX2_isCheck yX2_isCheck, Cond.code yX2_isCheck cX2_isCheck 2 (some .int), Cond.methodLink RL 39 yX3_isCheck, Cond.instanceMethod yX3_isCheck, Cond.selects RX3 yX3_isCheck yX3_isCheck, Cond.code yX3_isCheck cX3_isCheck 2 (some .int)]
def wsL_law_r8 : List Cond := [Cond.methodLink RL 40 yX2_rank, Cond.instanceMethod yX2_rank, Cond.selects RX2 yX2_rank yX2_rank, Cond.code yX2_rank cX2_rank 2 (some .int), Cond.methodLink RX2 72 yX2_rankOfKind, Cond.instanceMethod yX2_rankOfKind, Cond.selects RX2 yX2_rankOfKind yX2_rankOfKind, Cond.code yX2_rankOfKind cX2_rankOfKind 3 (some .int), Cond.methodLink RX2 161 yX2_extendBasis, Cond.instanceMethod yX2_extendBasis, Cond.selects RX2 yX2_extendBasis yX2_extendBasis, Cond.code yX2_extendBasis cX2_extendBasis 5 (some .int), Cond.methodLink RL 43 yX3_rank, Cond.instanceMethod yX3_rank, Cond.selects RX3 yX3_rank yX3_rank, Cond.code yX3_rank cX3_rank 2 (some .int), Cond.methodLink RX3 65 yX3_rankOf, Cond.instanceMethod yX3_rankOf, Cond.selects RX3 yX3_rankOf yX3_rankOf, Cond.code yX3_rankOf cX3_rankOf 7 (some .int), Cond.methodLink RL 44 yX2_message, Cond.instanceMethod yX2_message, Cond.selects RX2 yX2_message yX2_message, Cond.code yX2_message cX2_message 2 (some .int)]
def wsL_law_r9 : List Cond := [Cond.methodLink RX2 75 yX2_syndrome, Cond.instanceMethod yX2_syndrome, Cond.selects RX2 yX2_syndrome yX2_syndrome, Cond.code yX2_syndrome cX2_syndrome 6 (some .int), Cond.methodLink RX2 96 yJ6_bitCount_0f7a4, Cond.static yJ6_bitCount_0f7a4, Cond.initialized RJ6, Cond.code yJ6_bitCount_0f7a4 cJ6_bitCount_0f7a4 1 (some .int), Cond.constant RJ6 265 (1431655765), Cond.constant RJ6 266 (858993459), Cond.constant RJ6 267 (252645135), Cond.methodLink RL 47 yX3_message, Cond.instanceMethod yX3_message, Cond.selects RX3 yX3_message yX3_message, Cond.code yX3_message cX3_message 2 (some .int), Cond.methodLink RX3 72 yX3_syndrome, Cond.instanceMethod yX3_syndrome, Cond.selects RX3 yX3_syndrome yX3_syndrome, Cond.code yX3_syndrome cX3_syndrome 6 (some .int), Cond.methodLink RX3 69 yX3_ones, Cond.static yX3_ones, Cond.code yX3_ones cX3_ones 3 (some .int), Cond.methodLink RL 48 yX2_checkValue, Cond.instanceMethod yX2_checkValue]
def wsL_law_r10 : List Cond := [Cond.selects RX2 yX2_checkValue yX2_checkValue, Cond.code yX2_checkValue cX2_checkValue 2 (some .int), Cond.methodLink RL 51 yX3_checkValue, Cond.instanceMethod yX3_checkValue, Cond.selects RX3 yX3_checkValue yX3_checkValue, Cond.code yX3_checkValue cX3_checkValue 2 (some .int), Cond.methodLink RL 52 yX2_codewords, Cond.instanceMethod yX2_codewords, Cond.selects RX2 yX2_codewords yX2_codewords, Cond.code yX2_codewords cX2_codewords 1 (some .int), Cond.methodLink RL 55 yX3_codewords, Cond.instanceMethod yX3_codewords, Cond.selects RX3 yX3_codewords yX3_codewords, Cond.code yX3_codewords cX3_codewords 1 (some .int), Cond.methodLink RX3 78 yX3_codewordMany, Cond.instanceMethod yX3_codewordMany, Cond.selects RX3 yX3_codewordMany yX3_codewordMany, Cond.code yX3_codewordMany cX3_codewordMany 3 (some .int), Cond.methodLink RX3 75 yX3_laysMessages, Cond.instanceMethod yX3_laysMessages, Cond.selects RX3 yX3_laysMessages yX3_laysMessages, Cond.code yX3_laysMessages cX3_laysMessages 2 none, Cond.methodLink RL 56 yX2_messages, Cond.instanceMethod yX2_messages]
def wsL_law_r11 : List Cond := [Cond.selects RX2 yX2_messages yX2_messages, Cond.code yX2_messages cX2_messages 1 (some .int), Cond.methodLink RX2 83 yX2_hiddenBits, Cond.instanceMethod yX2_hiddenBits, Cond.selects RX2 yX2_hiddenBits yX2_hiddenBits, Cond.code yX2_hiddenBits cX2_hiddenBits 2 (some .int), Cond.methodLink RL 59 yX3_messages, Cond.instanceMethod yX3_messages, Cond.selects RX3 yX3_messages yX3_messages, Cond.code yX3_messages cX3_messages 1 (some .int), Cond.methodLink RX3 81 yX3_meets, Cond.instanceMethod yX3_meets, Cond.selects RX3 yX3_meets yX3_meets, Cond.code yX3_meets cX3_meets 5 (some .int), Cond.methodLink RL 60 yX2_choices, Cond.instanceMethod yX2_choices, Cond.selects RX2 yX2_choices yX2_choices, Cond.code yX2_choices cX2_choices 4 (some .int), Cond.methodLink RX2 86 yX2_isMessage, Cond.static yX2_isMessage, Cond.code yX2_isMessage cX2_isMessage 1 (some .boolean), Cond.methodLink RX2 89 yX2_isCodewordOf, Cond.instanceMethod yX2_isCodewordOf, Cond.selects RX2 yX2_isCodewordOf yX2_isCodewordOf]
def wsL_law_r12 : List Cond := [Cond.code yX2_isCodewordOf cX2_isCodewordOf 3 (some .boolean), Cond.methodLink RX2 101 yX2_isCodeword, Cond.instanceMethod yX2_isCodeword, Cond.selects RX2 yX2_isCodeword yX2_isCodeword, Cond.code yX2_isCodeword cX2_isCodeword 2 (some .boolean), Cond.methodLink RL 63 yX3_choices, Cond.instanceMethod yX3_choices, Cond.selects RX3 yX3_choices yX3_choices, Cond.code yX3_choices cX3_choices 2 (some .int), Cond.methodLink RX3 84 yX3_choiceMany, Cond.instanceMethod yX3_choiceMany, Cond.selects RX3 yX3_choiceMany yX3_choiceMany, Cond.code yX3_choiceMany cX3_choiceMany 4 (some .int), Cond.methodLink RL 64 yX2_encode, Cond.instanceMethod yX2_encode, Cond.selects RX2 yX2_encode yX2_encode, Cond.code yX2_encode cX2_encode 5 (some .int), Cond.methodLink RL 67 yX3_encode, Cond.instanceMethod yX3_encode, Cond.selects RX3 yX3_encode yX3_encode, Cond.code yX3_encode cX3_encode 5 (some .int), Cond.methodLink RL 68 yX2_decode, Cond.instanceMethod yX2_decode, Cond.selects RX2 yX2_decode yX2_decode]
def wsL_law_r13 : List Cond := [Cond.code yX2_decode cX2_decode 6 (some .int), Cond.methodLink RX2 93 yX2_leastDistance, Cond.instanceMethod yX2_leastDistance, Cond.selects RX2 yX2_leastDistance yX2_leastDistance, Cond.code yX2_leastDistance cX2_leastDistance 5 (some .int), Cond.methodLink RL 71 yX3_decode, Cond.instanceMethod yX3_decode, Cond.selects RX3 yX3_decode yX3_decode, Cond.code yX3_decode cX3_decode 3 (some .int), Cond.methodLink RX3 90 yX3_decoded, Cond.instanceMethod yX3_decoded, Cond.selects RX3 yX3_decoded yX3_decoded, Cond.code yX3_decoded cX3_decoded 5 (some .int), Cond.methodLink RX3 87 yX3_nearest, Cond.instanceMethod yX3_nearest, Cond.selects RX3 yX3_nearest yX3_nearest, Cond.code yX3_nearest cX3_nearest 5 (some .int), Cond.methodLink RL 72 yX2_distance, Cond.instanceMethod yX2_distance, Cond.selects RX2 yX2_distance yX2_distance, Cond.code yX2_distance cX2_distance 2 (some .int), Cond.methodLink RL 75 yX3_distance, Cond.instanceMethod yX3_distance, Cond.selects RX3 yX3_distance yX3_distance]
def wsL_law_r14 : List Cond := [Cond.code yX3_distance cX3_distance 2 (some .int), Cond.methodLink RL 76 yX2_weakness, Cond.instanceMethod yX2_weakness, Cond.selects RX2 yX2_weakness yX2_weakness, Cond.code yX2_weakness cX2_weakness 1 (some .int), Cond.methodLink RX2 104 yX2_leastFatalErrors, Cond.instanceMethod yX2_leastFatalErrors, Cond.selects RX2 yX2_leastFatalErrors yX2_leastFatalErrors, Cond.code yX2_leastFatalErrors cX2_leastFatalErrors 4 (some .int), Cond.methodLink RL 79 yX3_weakness, Cond.instanceMethod yX3_weakness, Cond.selects RX3 yX3_weakness yX3_weakness, Cond.code yX3_weakness cX3_weakness 6 (some .int), Cond.methodLink RL 80 yX2_leakage, Cond.instanceMethod yX2_leakage, Cond.selects RX2 yX2_leakage yX2_leakage, Cond.code yX2_leakage cX2_leakage 2 (some .int), Cond.methodLink RX2 107 yX2_leakedBits, Cond.instanceMethod yX2_leakedBits, Cond.selects RX2 yX2_leakedBits yX2_leakedBits, Cond.code yX2_leakedBits cX2_leakedBits 2 (some .int), Cond.methodLink RL 83 yX3_leakage, Cond.instanceMethod yX3_leakage, Cond.selects RX3 yX3_leakage yX3_leakage]
def wsL_law_r15 : List Cond := [Cond.code yX3_leakage cX3_leakage 2 (some .int), Cond.methodLink RX3 96 yX3_leakageOf, Cond.instanceMethod yX3_leakageOf, Cond.selects RX3 yX3_leakageOf yX3_leakageOf, Cond.code yX3_leakageOf cX3_leakageOf 2 (some .int), Cond.methodLink RX3 93 yX3_lost, Cond.instanceMethod yX3_lost, Cond.selects RX3 yX3_lost yX3_lost, Cond.code yX3_lost cX3_lost 4 (some .int), Cond.methodLink RL 84 yX2_worstLeakage, Cond.instanceMethod yX2_worstLeakage, Cond.selects RX2 yX2_worstLeakage yX2_worstLeakage, Cond.code yX2_worstLeakage cX2_worstLeakage 2 (some .int), Cond.methodLink RX2 110 yX2_isSize, Cond.instanceMethod yX2_isSize, Cond.selects RX2 yX2_isSize yX2_isSize, Cond.code yX2_isSize cX2_isSize 2 (some .boolean), Cond.methodLink RX2 113 yX2_leakiestSet, Cond.instanceMethod yX2_leakiestSet, Cond.selects RX2 yX2_leakiestSet yX2_leakiestSet, Cond.code yX2_leakiestSet cX2_leakiestSet 7 (some .int), Cond.methodLink RL 87 yX3_worstLeakage, Cond.instanceMethod yX3_worstLeakage, Cond.selects RX3 yX3_worstLeakage yX3_worstLeakage]
def wsL_law_r16 : List Cond := [Cond.code yX3_worstLeakage cX3_worstLeakage 2 (some .int), Cond.methodLink RX3 99 yX3_isSize, Cond.instanceMethod yX3_isSize, Cond.selects RX3 yX3_isSize yX3_isSize, Cond.code yX3_isSize cX3_isSize 2 (some .boolean), Cond.methodLink RX3 102 yX3_worstOf, Cond.instanceMethod yX3_worstOf, Cond.selects RX3 yX3_worstOf yX3_worstOf, Cond.code yX3_worstOf cX3_worstOf 6 (some .int), Cond.methodLink RL 88 yX2_worstSet, Cond.instanceMethod yX2_worstSet, Cond.selects RX2 yX2_worstSet yX2_worstSet, Cond.code yX2_worstSet cX2_worstSet 2 (some .int), Cond.methodLink RL 91 yX3_worstSet, Cond.instanceMethod yX3_worstSet, Cond.selects RX3 yX3_worstSet yX3_worstSet, Cond.code yX3_worstSet cX3_worstSet 2 (some .int), Cond.methodLink RL 92 yX2_threshold, Cond.instanceMethod yX2_threshold, Cond.selects RX2 yX2_threshold yX2_threshold, Cond.code yX2_threshold cX2_threshold 2 (some .int), Cond.methodLink RX2 116 yX2_leastSizeLeaking, Cond.instanceMethod yX2_leastSizeLeaking, Cond.selects RX2 yX2_leastSizeLeaking yX2_leastSizeLeaking]
def wsL_law_r17 : List Cond := [Cond.code yX2_leastSizeLeaking cX2_leastSizeLeaking 7 (some .int), Cond.methodLink RL 95 yX3_threshold, Cond.instanceMethod yX3_threshold, Cond.selects RX3 yX3_threshold yX3_threshold, Cond.code yX3_threshold cX3_threshold 2 (some .int), Cond.methodLink RL 96 yX2_leastSize, Cond.instanceMethod yX2_leastSize, Cond.selects RX2 yX2_leastSize yX2_leastSize, Cond.code yX2_leastSize cX2_leastSize 2 (some .int), Cond.methodLink RL 99 yX3_leastSize, Cond.instanceMethod yX3_leastSize, Cond.selects RX3 yX3_leastSize yX3_leastSize, Cond.code yX3_leastSize cX3_leastSize 3 (some .int), Cond.methodLink RL 100 yX2_possibleMessages, Cond.instanceMethod yX2_possibleMessages, Cond.selects RX2 yX2_possibleMessages yX2_possibleMessages, Cond.code yX2_possibleMessages cX2_possibleMessages 3 (some .int), Cond.methodLink RX2 119 yX2_isObservation, Cond.instanceMethod yX2_isObservation, Cond.selects RX2 yX2_isObservation yX2_isObservation, Cond.code yX2_isObservation cX2_isObservation 3 (some .boolean), Cond.methodLink RX2 122 yX2_messagesFitting, Cond.instanceMethod yX2_messagesFitting, Cond.selects RX2 yX2_messagesFitting yX2_messagesFitting]
def wsL_law_r18 : List Cond := [Cond.code yX2_messagesFitting cX2_messagesFitting 6 (some .long), Cond.methodLink RX2 126 yJ13_bitCount_95d88, Cond.static yJ13_bitCount_95d88, Cond.initialized RJ13, Cond.code yJ13_bitCount_95d88 cJ13_bitCount_95d88 2 (some .int), Cond.constantLong RJ13 314 (6148914691236517205), Cond.constantLong RJ13 316 (3689348814741910323), Cond.constantLong RJ13 318 (1085102592571150095), Cond.methodLink RL 103 yX3_possibleMessages, Cond.instanceMethod yX3_possibleMessages, Cond.selects RX3 yX3_possibleMessages yX3_possibleMessages, Cond.code yX3_possibleMessages cX3_possibleMessages 3 (some .int), Cond.methodLink RX3 105 yX3_isObservation, Cond.instanceMethod yX3_isObservation, Cond.selects RX3 yX3_isObservation yX3_isObservation, Cond.code yX3_isObservation cX3_isObservation 3 (some .boolean), Cond.methodLink RL 104 yX2_possibleMessage, Cond.instanceMethod yX2_possibleMessage, Cond.selects RX2 yX2_possibleMessage yX2_possibleMessage, Cond.code yX2_possibleMessage cX2_possibleMessage 8 (some .int), Cond.methodLink RL 108 yX3_possibleMessage, Cond.instanceMethod yX3_possibleMessage, Cond.selects RX3 yX3_possibleMessage yX3_possibleMessage, Cond.code yX3_possibleMessage cX3_possibleMessage 6 (some .int)]
def wsL_law_r19 : List Cond := [Cond.methodLink RL 109 yX2_knownCombinations, Cond.instanceMethod yX2_knownCombinations, Cond.selects RX2 yX2_knownCombinations yX2_knownCombinations, Cond.code yX2_knownCombinations cX2_knownCombinations 3 (some .int), Cond.methodLink RX2 131 yX2_messageRows, Cond.instanceMethod yX2_messageRows, Cond.selects RX2 yX2_messageRows yX2_messageRows, Cond.code yX2_messageRows cX2_messageRows 3 (some .int), Cond.methodLink RL 112 yX3_knownCombinations, Cond.instanceMethod yX3_knownCombinations, Cond.selects RX3 yX3_knownCombinations yX3_knownCombinations, Cond.code yX3_knownCombinations cX3_knownCombinations 5 (some .int), Cond.methodLink RX3 109 yX3_isKnown, Cond.instanceMethod yX3_isKnown, Cond.selects RX3 yX3_isKnown yX3_isKnown, Cond.code yX3_isKnown cX3_isKnown 5 (some .boolean), Cond.methodLink RL 113 yX2_undo, Cond.instanceMethod yX2_undo, Cond.selects RX2 yX2_undo yX2_undo, Cond.code yX2_undo cX2_undo 1 (some .int), Cond.methodLink RL 116 yX3_undo, Cond.instanceMethod yX3_undo, Cond.selects RX3 yX3_undo yX3_undo, Cond.code yX3_undo cX3_undo 2 (some .int)]
def wsL_law_r20 : List Cond := [Cond.methodLink RL 117 yX2_errorCount, Cond.instanceMethod yX2_errorCount, Cond.selects RX2 yX2_errorCount yX2_errorCount, Cond.code yX2_errorCount cX2_errorCount 2 (some .int), Cond.methodLink RL 120 yX3_errorCount, Cond.instanceMethod yX3_errorCount, Cond.selects RX3 yX3_errorCount yX3_errorCount, Cond.code yX3_errorCount cX3_errorCount 2 (some .int), Cond.methodLink RL 121 yX2_digest, Cond.instanceMethod yX2_digest, Cond.selects RX2 yX2_digest yX2_digest, Cond.code yX2_digest cX2_digest 5 (some .long), Cond.constantLong RX2 138 (2687), Cond.methodLink RX2 140 yX2_mix, Cond.static yX2_mix, Cond.code yX2_mix cX2_mix 3 (some .long), Cond.constantLong RX2 156 (31), Cond.methodLink RX2 144 yX2_codewords, Cond.methodLink RX2 147 yX2_messages, Cond.methodLink RX2 150 yX2_threshold, Cond.methodLink RX2 153 yX2_weakness, Cond.methodLink RL 125 yX3_digest, Cond.instanceMethod yX3_digest, Cond.selects RX3 yX3_digest yX3_digest]
def wsL_law_r21 : List Cond := [Cond.code yX3_digest cX3_digest 3 (some .long), Cond.constantLong RX3 118 (2687), Cond.fieldLink RX3 114 "CosetCoderModel" "hash" "J", Cond.methodLink RX3 120 yX3_mix, Cond.instanceMethod yX3_mix, Cond.selects RX3 yX3_mix yX3_mix, Cond.code yX3_mix cX3_mix 2 none, Cond.constantLong RX3 112 (31), Cond.methodLink RX3 123 yX3_threshold, Cond.methodLink RX3 126 yX3_weakness]
def wsL_law : List Cond := (wsL_law_r1 ++ (wsL_law_r2 ++ (wsL_law_r3 ++ (wsL_law_r4 ++ (wsL_law_r5 ++ (wsL_law_r6 ++ (wsL_law_r7 ++ (wsL_law_r8 ++ (wsL_law_r9 ++ (wsL_law_r10 ++ (wsL_law_r11 ++ (wsL_law_r12 ++ (wsL_law_r13 ++ (wsL_law_r14 ++ (wsL_law_r15 ++ (wsL_law_r16 ++ (wsL_law_r17 ++ (wsL_law_r18 ++ (wsL_law_r19 ++ (wsL_law_r20 ++ wsL_law_r21)))))))))))))))))))) ++ wsX20 ++ wsX30 ++ wsX10 ++ wsX00 ++ ([] : List Cond)
set_option maxRecDepth 20000 in
theorem in_wsL_law_r1 : GoodIn lw_tbl wsL_law_r1 := goodIn_r _ [55, 56, 48, 353, 354, 51, 57, 58, 59, 60, 61, 62, 63, 64, 49, 102, 103, 104, 86, 105, 89, 90, 50, 106] (by decide +kernel) (by decide +kernel)
set_option maxRecDepth 20000 in
theorem in_wsL_law_r2 : GoodIn lw_tbl wsL_law_r2 := goodIn_r _ [66, 67, 68, 69, 71, 73, 87, 75, 92, 93, 94, 95, 96, 355, 356, 357, 358, 359, 360, 362, 363, 364, 365, 366] (by decide +kernel) (by decide +kernel)
set_option maxRecDepth 20000 in
theorem in_wsL_law_r3 : GoodIn lw_tbl wsL_law_r3 := goodIn_r _ [118, 119, 120, 121, 122, 124, 0, 125, 126, 128, 1, 129, 130, 132, 2, 133, 136, 3, 137, 395, 396, 397, 398, 399] (by decide +kernel) (by decide +kernel)
set_option maxRecDepth 20000 in
theorem in_wsL_law_r4 : GoodIn lw_tbl wsL_law_r4 := goodIn_r _ [400, 401, 391, 393, 25, 394, 402, 404, 26, 405, 361, 138, 139, 140, 141, 142, 144, 4, 145, 146, 148, 5, 149, 152] (by decide +kernel) (by decide +kernel)
set_option maxRecDepth 20000 in
theorem in_wsL_law_r5 : GoodIn lw_tbl wsL_law_r5 := goodIn_r _ [6, 153, 406, 407, 408, 409, 410, 412, 27, 413, 414, 416, 28, 417, 154, 155, 156, 157, 158, 160, 7, 161, 418, 419] (by decide +kernel) (by decide +kernel)
set_option maxRecDepth 20000 in
theorem in_wsL_law_r6 : GoodIn lw_tbl wsL_law_r6 := goodIn_r _ [420, 421, 422, 424, 29, 425, 426, 428, 30, 429, 162, 163, 164, 165, 168, 8, 169, 172, 9, 173, 174, 175, 52, 176] (by decide +kernel) (by decide +kernel)
set_option maxRecDepth 20000 in
theorem in_wsL_law_r7 : GoodIn lw_tbl wsL_law_r7 := goodIn_r _ [430, 431, 432, 433, 434, 436, 31, 437, 177, 178, 179, 180, 438, 439, 440, 441, 181, 182, 183, 184, 442, 443, 444, 445] (by decide +kernel) (by decide +kernel)
set_option maxRecDepth 20000 in
theorem in_wsL_law_r8 : GoodIn lw_tbl wsL_law_r8 := goodIn_r _ [185, 186, 187, 188, 189, 191, 10, 192, 193, 195, 11, 196, 446, 447, 448, 449, 450, 452, 32, 453, 197, 198, 199, 200] (by decide +kernel) (by decide +kernel)
set_option maxRecDepth 20000 in
theorem in_wsL_law_r9 : GoodIn lw_tbl wsL_law_r9 := goodIn_r _ [201, 203, 12, 204, 205, 206, 53, 207, 208, 209, 210, 454, 455, 456, 457, 458, 460, 33, 461, 462, 463, 464, 211, 212] (by decide +kernel) (by decide +kernel)
set_option maxRecDepth 20000 in
theorem in_wsL_law_r10 : GoodIn lw_tbl wsL_law_r10 := goodIn_r _ [213, 214, 465, 466, 467, 468, 215, 216, 217, 218, 469, 470, 471, 472, 473, 475, 34, 476, 477, 479, 35, 480, 219, 220] (by decide +kernel) (by decide +kernel)
set_option maxRecDepth 20000 in
theorem in_wsL_law_r11 : GoodIn lw_tbl wsL_law_r11 := goodIn_r _ [221, 222, 223, 225, 13, 226, 481, 482, 483, 484, 485, 487, 36, 488, 227, 228, 229, 230, 231, 232, 233, 234, 236, 14] (by decide +kernel) (by decide +kernel)
set_option maxRecDepth 20000 in
theorem in_wsL_law_r12 : GoodIn lw_tbl wsL_law_r12 := goodIn_r _ [237, 238, 240, 15, 241, 489, 490, 491, 492, 493, 495, 37, 496, 242, 243, 244, 245, 497, 498, 499, 500, 246, 247, 248] (by decide +kernel) (by decide +kernel)
set_option maxRecDepth 20000 in
theorem in_wsL_law_r13 : GoodIn lw_tbl wsL_law_r13 := goodIn_r _ [249, 250, 252, 16, 253, 501, 502, 503, 504, 505, 507, 38, 508, 509, 511, 39, 512, 254, 255, 256, 257, 513, 514, 515] (by decide +kernel) (by decide +kernel)
set_option maxRecDepth 20000 in
theorem in_wsL_law_r14 : GoodIn lw_tbl wsL_law_r14 := goodIn_r _ [516, 258, 259, 260, 261, 262, 264, 17, 265, 517, 518, 519, 520, 266, 267, 268, 269, 270, 272, 18, 273, 521, 522, 523] (by decide +kernel) (by decide +kernel)
set_option maxRecDepth 20000 in
theorem in_wsL_law_r15 : GoodIn lw_tbl wsL_law_r15 := goodIn_r _ [524, 525, 527, 40, 528, 529, 531, 41, 532, 274, 275, 276, 277, 278, 280, 19, 281, 282, 284, 20, 285, 533, 534, 535] (by decide +kernel) (by decide +kernel)
set_option maxRecDepth 20000 in
theorem in_wsL_law_r16 : GoodIn lw_tbl wsL_law_r16 := goodIn_r _ [536, 537, 539, 42, 540, 541, 543, 43, 544, 286, 287, 288, 289, 545, 546, 547, 548, 290, 291, 292, 293, 294, 296, 21] (by decide +kernel) (by decide +kernel)
set_option maxRecDepth 20000 in
theorem in_wsL_law_r17 : GoodIn lw_tbl wsL_law_r17 := goodIn_r _ [297, 549, 550, 551, 552, 298, 299, 300, 301, 553, 554, 555, 556, 302, 303, 304, 305, 306, 308, 22, 309, 310, 312, 23] (by decide +kernel) (by decide +kernel)
set_option maxRecDepth 20000 in
theorem in_wsL_law_r18 : GoodIn lw_tbl wsL_law_r18 := goodIn_r _ [313, 314, 315, 54, 316, 317, 318, 319, 557, 558, 559, 560, 561, 563, 44, 564, 320, 321, 322, 323, 565, 566, 567, 568] (by decide +kernel) (by decide +kernel)
set_option maxRecDepth 20000 in
theorem in_wsL_law_r19 : GoodIn lw_tbl wsL_law_r19 := goodIn_r _ [324, 325, 326, 327, 328, 330, 24, 331, 569, 570, 571, 572, 573, 575, 45, 576, 332, 333, 334, 335, 387, 388, 389, 390] (by decide +kernel) (by decide +kernel)
set_option maxRecDepth 20000 in
theorem in_wsL_law_r20 : GoodIn lw_tbl wsL_law_r20 := goodIn_r _ [336, 337, 338, 339, 577, 578, 579, 580, 340, 341, 342, 343, 344, 345, 346, 347, 348, 349, 350, 351, 352, 581, 582, 583] (by decide +kernel) (by decide +kernel)
set_option maxRecDepth 20000 in
theorem in_wsL_law_r21 : GoodIn lw_tbl wsL_law_r21 := goodIn_r _ [584, 585, 367, 586, 588, 46, 589, 590, 591, 592] (by decide +kernel) (by decide +kernel)
set_option maxRecDepth 20000 in
theorem in_wsX0 : GoodIn lw_tbl wsX00 := goodIn_r _ [97, 99] (by decide +kernel) (by decide +kernel)
set_option maxRecDepth 20000 in
theorem in_wsX1 : GoodIn lw_tbl wsX10 := goodIn_r _ [77, 79, 81, 83] (by decide +kernel) (by decide +kernel)
set_option maxRecDepth 20000 in
theorem in_wsX2 : GoodIn lw_tbl wsX20 := goodIn_r _ [107, 109, 111, 113, 115] (by decide +kernel) (by decide +kernel)
set_option maxRecDepth 20000 in
theorem in_wsX3 : GoodIn lw_tbl wsX30 := goodIn_r _ [368, 370, 372, 374, 376, 378, 380, 382, 384] (by decide +kernel) (by decide +kernel)
theorem in_wsL_law : GoodIn lw_tbl wsL_law := goodIn_app (goodIn_app (goodIn_app (goodIn_app (goodIn_app (goodIn_app in_wsL_law_r1 (goodIn_app in_wsL_law_r2 (goodIn_app in_wsL_law_r3 (goodIn_app in_wsL_law_r4 (goodIn_app in_wsL_law_r5 (goodIn_app in_wsL_law_r6 (goodIn_app in_wsL_law_r7 (goodIn_app in_wsL_law_r8 (goodIn_app in_wsL_law_r9 (goodIn_app in_wsL_law_r10 (goodIn_app in_wsL_law_r11 (goodIn_app in_wsL_law_r12 (goodIn_app in_wsL_law_r13 (goodIn_app in_wsL_law_r14 (goodIn_app in_wsL_law_r15 (goodIn_app in_wsL_law_r16 (goodIn_app in_wsL_law_r17 (goodIn_app in_wsL_law_r18 (goodIn_app in_wsL_law_r19 (goodIn_app in_wsL_law_r20 (in_wsL_law_r21))))))))))))))))))))) in_wsX2) in_wsX3) in_wsX1) in_wsX0) (fun _ h => by cases h)
theorem wsL_law_in : ∀ w ∈ wsL_law, w ∈ lw_tbl := fun w h => (in_wsL_law w h).1
theorem inlX0 : ∀ w ∈ wsX00, w ∈ wsL_law := fun _ h => List.mem_append_left _ (List.mem_append_right _ h)
theorem inX0 : ∀ w ∈ wsX00, w ∈ lw_tbl := fun w h => wsL_law_in w (inlX0 w h)
theorem inlX1 : ∀ w ∈ wsX10, w ∈ wsL_law := fun _ h => List.mem_append_left _ (List.mem_append_left _ (List.mem_append_right _ h))
theorem inX1 : ∀ w ∈ wsX10, w ∈ lw_tbl := fun w h => wsL_law_in w (inlX1 w h)
theorem inlX2 : ∀ w ∈ wsX20, w ∈ wsL_law := fun _ h => List.mem_append_left _ (List.mem_append_left _ (List.mem_append_left _ (List.mem_append_left _ (List.mem_append_right _ h))))
theorem inX2 : ∀ w ∈ wsX20, w ∈ lw_tbl := fun w h => wsL_law_in w (inlX2 w h)
theorem inlX3 : ∀ w ∈ wsX30, w ∈ wsL_law := fun _ h => List.mem_append_left _ (List.mem_append_left _ (List.mem_append_left _ (List.mem_append_right _ h)))
theorem inX3 : ∀ w ∈ wsX30, w ∈ lw_tbl := fun w h => wsL_law_in w (inlX3 w h)
theorem inJ6 : ∀ w ∈ wsJ60, w ∈ lw_tbl := by decide +kernel
theorem inJ13 : ∀ w ∈ wsJ130, w ∈ lw_tbl := by decide +kernel
theorem inJ9 : ∀ w ∈ wsJ90, w ∈ lw_tbl := by decide +kernel
theorem dX0_init_0 : decode cX0_init 0 = .ok (.aload_n 0, 1) := by decide +kernel
theorem dX0_init_1 : decode cX0_init 1 = .ok (.invokespecial 3, 3) := by decide +kernel
theorem dX0_init_4 : decode cX0_init 4 = .ok (.aload_n 0, 1) := by decide +kernel
theorem dX0_init_5 : decode cX0_init 5 = .ok (.bipush 6, 2) := by decide +kernel
theorem dX0_init_7 : decode cX0_init 7 = .ok (.newarray .int, 2) := by decide +kernel
theorem dX0_init_9 : decode cX0_init 9 = .ok (.putfield 9, 3) := by decide +kernel
theorem dX0_init_12 : decode cX0_init 12 = .ok (.aload_n 0, 1) := by decide +kernel
theorem dX0_init_13 : decode cX0_init 13 = .ok (.iconst 0, 1) := by decide +kernel
theorem dX0_init_14 : decode cX0_init 14 = .ok (.putfield 15, 3) := by decide +kernel
theorem dX0_init_17 : decode cX0_init 17 = .ok (.return_, 1) := by decide +kernel
theorem dX0_clear_0 : decode cX0_clear 0 = .ok (.aload_n 0, 1) := by decide +kernel
theorem dX0_clear_1 : decode cX0_clear 1 = .ok (.iconst 0, 1) := by decide +kernel
theorem dX0_clear_2 : decode cX0_clear 2 = .ok (.putfield 15, 3) := by decide +kernel
theorem dX0_clear_5 : decode cX0_clear 5 = .ok (.return_, 1) := by decide +kernel
theorem dX0_extend_0 : decode cX0_extend 0 = .ok (.iload_n 1, 1) := by decide +kernel
theorem dX0_extend_1 : decode cX0_extend 1 = .ok (.istore_n 2, 1) := by decide +kernel
theorem dX0_extend_2 : decode cX0_extend 2 = .ok (.iconst 0, 1) := by decide +kernel
theorem dX0_extend_3 : decode cX0_extend 3 = .ok (.istore_n 3, 1) := by decide +kernel
theorem dX0_extend_4 : decode cX0_extend 4 = .ok (.iload_n 3, 1) := by decide +kernel
theorem dX0_extend_5 : decode cX0_extend 5 = .ok (.aload_n 0, 1) := by decide +kernel
theorem dX0_extend_6 : decode cX0_extend 6 = .ok (.getfield 15, 3) := by decide +kernel
theorem dX0_extend_9 : decode cX0_extend 9 = .ok (.if_icmp .ge 22, 3) := by decide +kernel
theorem dX0_extend_12 : decode cX0_extend 12 = .ok (.iload_n 2, 1) := by decide +kernel
theorem dX0_extend_13 : decode cX0_extend 13 = .ok (.iload_n 2, 1) := by decide +kernel
end
section
theorem dX0_extend_14 : decode cX0_extend 14 = .ok (.aload_n 0, 1) := by decide +kernel
theorem dX0_extend_15 : decode cX0_extend 15 = .ok (.getfield 9, 3) := by decide +kernel
theorem dX0_extend_18 : decode cX0_extend 18 = .ok (.iload_n 3, 1) := by decide +kernel
theorem dX0_extend_19 : decode cX0_extend 19 = .ok (.iaload, 1) := by decide +kernel
theorem dX0_extend_20 : decode cX0_extend 20 = .ok (.ixor, 1) := by decide +kernel
theorem dX0_extend_21 : decode cX0_extend 21 = .ok (.invokestatic 19, 3) := by decide +kernel
theorem dX0_extend_24 : decode cX0_extend 24 = .ok (.istore_n 2, 1) := by decide +kernel
theorem dX0_extend_25 : decode cX0_extend 25 = .ok (.iinc 3 1, 3) := by decide +kernel
theorem dX0_extend_28 : decode cX0_extend 28 = .ok (.goto (-24), 3) := by decide +kernel
theorem dX0_extend_31 : decode cX0_extend 31 = .ok (.iload_n 2, 1) := by decide +kernel
theorem dX0_extend_32 : decode cX0_extend 32 = .ok (.ifCond .eq 12, 3) := by decide +kernel
theorem dX0_extend_35 : decode cX0_extend 35 = .ok (.aload_n 0, 1) := by decide +kernel
theorem dX0_extend_36 : decode cX0_extend 36 = .ok (.getfield 15, 3) := by decide +kernel
theorem dX0_extend_39 : decode cX0_extend 39 = .ok (.bipush 6, 2) := by decide +kernel
theorem dX0_extend_41 : decode cX0_extend 41 = .ok (.if_icmp .lt 5, 3) := by decide +kernel
theorem dX0_extend_44 : decode cX0_extend 44 = .ok (.iconst 0, 1) := by decide +kernel
theorem dX0_extend_45 : decode cX0_extend 45 = .ok (.ireturn, 1) := by decide +kernel
theorem dX0_extend_46 : decode cX0_extend 46 = .ok (.aload_n 0, 1) := by decide +kernel
theorem dX0_extend_47 : decode cX0_extend 47 = .ok (.getfield 9, 3) := by decide +kernel
theorem dX0_extend_50 : decode cX0_extend 50 = .ok (.aload_n 0, 1) := by decide +kernel
theorem dX0_extend_51 : decode cX0_extend 51 = .ok (.getfield 15, 3) := by decide +kernel
theorem dX0_extend_54 : decode cX0_extend 54 = .ok (.iload_n 2, 1) := by decide +kernel
theorem dX0_extend_55 : decode cX0_extend 55 = .ok (.iastore, 1) := by decide +kernel
theorem dX0_extend_56 : decode cX0_extend 56 = .ok (.aload_n 0, 1) := by decide +kernel
theorem dX0_extend_57 : decode cX0_extend 57 = .ok (.dup, 1) := by decide +kernel
theorem dX0_extend_58 : decode cX0_extend 58 = .ok (.getfield 15, 3) := by decide +kernel
theorem dX0_extend_61 : decode cX0_extend 61 = .ok (.iconst 1, 1) := by decide +kernel
theorem dX0_extend_62 : decode cX0_extend 62 = .ok (.iadd, 1) := by decide +kernel
theorem dX0_extend_63 : decode cX0_extend 63 = .ok (.putfield 15, 3) := by decide +kernel
theorem dX0_extend_66 : decode cX0_extend 66 = .ok (.iconst 1, 1) := by decide +kernel
theorem dX0_extend_67 : decode cX0_extend 67 = .ok (.ireturn, 1) := by decide +kernel
theorem dX1_init_0 : decode cX1_init 0 = .ok (.aload_n 0, 1) := by decide +kernel
theorem dX1_init_1 : decode cX1_init 1 = .ok (.invokespecial 3, 3) := by decide +kernel
theorem dX1_init_4 : decode cX1_init 4 = .ok (.aload_n 0, 1) := by decide +kernel
theorem dX1_init_5 : decode cX1_init 5 = .ok (.bipush 6, 2) := by decide +kernel
theorem dX1_init_7 : decode cX1_init 7 = .ok (.putfield 9, 3) := by decide +kernel
theorem dX1_init_10 : decode cX1_init 10 = .ok (.aload_n 0, 1) := by decide +kernel
theorem dX1_init_11 : decode cX1_init 11 = .ok (.iconst 0, 1) := by decide +kernel
theorem dX1_init_12 : decode cX1_init 12 = .ok (.putfield 15, 3) := by decide +kernel
theorem dX1_init_15 : decode cX1_init 15 = .ok (.aload_n 0, 1) := by decide +kernel
theorem dX1_init_16 : decode cX1_init 16 = .ok (.bipush 6, 2) := by decide +kernel
theorem dX1_init_18 : decode cX1_init 18 = .ok (.newarray .int, 2) := by decide +kernel
theorem dX1_init_20 : decode cX1_init 20 = .ok (.putfield 18, 3) := by decide +kernel
theorem dX1_init_23 : decode cX1_init 23 = .ok (.aload_n 0, 1) := by decide +kernel
theorem dX1_init_24 : decode cX1_init 24 = .ok (.bipush 6, 2) := by decide +kernel
theorem dX1_init_26 : decode cX1_init 26 = .ok (.newarray .boolean, 2) := by decide +kernel
theorem dX1_init_28 : decode cX1_init 28 = .ok (.putfield 22, 3) := by decide +kernel
theorem dX1_init_31 : decode cX1_init 31 = .ok (.return_, 1) := by decide +kernel
theorem dX1_put_0 : decode cX1_put 0 = .ok (.iload_n 1, 1) := by decide +kernel
theorem dX1_put_1 : decode cX1_put 1 = .ok (.ifCond .lt 23, 3) := by decide +kernel
theorem dX1_put_4 : decode cX1_put 4 = .ok (.iload_n 1, 1) := by decide +kernel
theorem dX1_put_5 : decode cX1_put 5 = .ok (.bipush 6, 2) := by decide +kernel
theorem dX1_put_7 : decode cX1_put 7 = .ok (.if_icmp .ge 17, 3) := by decide +kernel
theorem dX1_put_10 : decode cX1_put 10 = .ok (.aload_n 0, 1) := by decide +kernel
theorem dX1_put_11 : decode cX1_put 11 = .ok (.getfield 18, 3) := by decide +kernel
theorem dX1_put_14 : decode cX1_put 14 = .ok (.iload_n 1, 1) := by decide +kernel
theorem dX1_put_15 : decode cX1_put 15 = .ok (.iload_n 2, 1) := by decide +kernel
theorem dX1_put_16 : decode cX1_put 16 = .ok (.iastore, 1) := by decide +kernel
theorem dX1_put_17 : decode cX1_put 17 = .ok (.aload_n 0, 1) := by decide +kernel
theorem dX1_put_18 : decode cX1_put 18 = .ok (.getfield 22, 3) := by decide +kernel
theorem dX1_put_21 : decode cX1_put 21 = .ok (.iload_n 1, 1) := by decide +kernel
theorem dX1_put_22 : decode cX1_put 22 = .ok (.iload_n 3, 1) := by decide +kernel
theorem dX1_put_23 : decode cX1_put 23 = .ok (.bastore, 1) := by decide +kernel
theorem dX1_put_24 : decode cX1_put 24 = .ok (.return_, 1) := by decide +kernel
theorem dX1_copyFrom_0 : decode cX1_copyFrom 0 = .ok (.aload_n 0, 1) := by decide +kernel
theorem dX1_copyFrom_1 : decode cX1_copyFrom 1 = .ok (.aload_n 1, 1) := by decide +kernel
theorem dX1_copyFrom_2 : decode cX1_copyFrom 2 = .ok (.getfield 9, 3) := by decide +kernel
theorem dX1_copyFrom_5 : decode cX1_copyFrom 5 = .ok (.putfield 9, 3) := by decide +kernel
theorem dX1_copyFrom_8 : decode cX1_copyFrom 8 = .ok (.aload_n 0, 1) := by decide +kernel
theorem dX1_copyFrom_9 : decode cX1_copyFrom 9 = .ok (.aload_n 1, 1) := by decide +kernel
theorem dX1_copyFrom_10 : decode cX1_copyFrom 10 = .ok (.getfield 15, 3) := by decide +kernel
theorem dX1_copyFrom_13 : decode cX1_copyFrom 13 = .ok (.putfield 15, 3) := by decide +kernel
theorem dX1_copyFrom_16 : decode cX1_copyFrom 16 = .ok (.iconst 0, 1) := by decide +kernel
theorem dX1_copyFrom_17 : decode cX1_copyFrom 17 = .ok (.istore_n 2, 1) := by decide +kernel
theorem dX1_copyFrom_18 : decode cX1_copyFrom 18 = .ok (.iload_n 2, 1) := by decide +kernel
theorem dX1_copyFrom_19 : decode cX1_copyFrom 19 = .ok (.bipush 6, 2) := by decide +kernel
theorem dX1_copyFrom_21 : decode cX1_copyFrom 21 = .ok (.if_icmp .ge 33, 3) := by decide +kernel
theorem dX1_copyFrom_24 : decode cX1_copyFrom 24 = .ok (.aload_n 0, 1) := by decide +kernel
theorem dX1_copyFrom_25 : decode cX1_copyFrom 25 = .ok (.getfield 18, 3) := by decide +kernel
theorem dX1_copyFrom_28 : decode cX1_copyFrom 28 = .ok (.iload_n 2, 1) := by decide +kernel
theorem dX1_copyFrom_29 : decode cX1_copyFrom 29 = .ok (.aload_n 1, 1) := by decide +kernel
theorem dX1_copyFrom_30 : decode cX1_copyFrom 30 = .ok (.getfield 18, 3) := by decide +kernel
theorem dX1_copyFrom_33 : decode cX1_copyFrom 33 = .ok (.iload_n 2, 1) := by decide +kernel
theorem dX1_copyFrom_34 : decode cX1_copyFrom 34 = .ok (.iaload, 1) := by decide +kernel
theorem dX1_copyFrom_35 : decode cX1_copyFrom 35 = .ok (.iastore, 1) := by decide +kernel
theorem dX1_copyFrom_36 : decode cX1_copyFrom 36 = .ok (.aload_n 0, 1) := by decide +kernel
theorem dX1_copyFrom_37 : decode cX1_copyFrom 37 = .ok (.getfield 22, 3) := by decide +kernel
theorem dX1_copyFrom_40 : decode cX1_copyFrom 40 = .ok (.iload_n 2, 1) := by decide +kernel
theorem dX1_copyFrom_41 : decode cX1_copyFrom 41 = .ok (.aload_n 1, 1) := by decide +kernel
theorem dX1_copyFrom_42 : decode cX1_copyFrom 42 = .ok (.getfield 22, 3) := by decide +kernel
theorem dX1_copyFrom_45 : decode cX1_copyFrom 45 = .ok (.iload_n 2, 1) := by decide +kernel
theorem dX1_copyFrom_46 : decode cX1_copyFrom 46 = .ok (.baload, 1) := by decide +kernel
theorem dX1_copyFrom_47 : decode cX1_copyFrom 47 = .ok (.bastore, 1) := by decide +kernel
theorem dX1_copyFrom_48 : decode cX1_copyFrom 48 = .ok (.iinc 2 1, 3) := by decide +kernel
theorem dX1_copyFrom_51 : decode cX1_copyFrom 51 = .ok (.goto (-33), 3) := by decide +kernel
theorem dX1_copyFrom_54 : decode cX1_copyFrom 54 = .ok (.return_, 1) := by decide +kernel
set_option maxRecDepth 20000 in
theorem ggX2_init_X1_init : GoodIn wsX2_init wsX1_init := goodIn_r _ [17, 18, 2, 3, 19, 20, 10, 21, 22, 23, 29, 30, 31, 32] (by decide +kernel) (by decide +kernel)
set_option maxRecDepth 20000 in
theorem gX2_init_X1_init_n11 : GoodIn wsX2_init (wsX1_init) := ggX2_init_X1_init
set_option maxRecDepth 20000 in
theorem ggX2_init_X0_init : GoodIn wsX2_init wsX0_init := goodIn_r _ [25, 26, 2, 3, 10, 27, 28, 38, 39] (by decide +kernel) (by decide +kernel)
set_option maxRecDepth 20000 in
theorem gX2_init_X0_init_n30 : GoodIn wsX2_init (wsX0_init) := ggX2_init_X0_init
theorem dX2_init_0 : decode cX2_init 0 = .ok (.aload_n 0, 1) := by decide +kernel
theorem dX2_init_1 : decode cX2_init 1 = .ok (.invokespecial 3, 3) := by decide +kernel
theorem dX2_init_4 : decode cX2_init 4 = .ok (.aload_n 0, 1) := by decide +kernel
theorem dX2_init_5 : decode cX2_init 5 = .ok (.new 9, 3) := by decide +kernel
theorem dX2_init_8 : decode cX2_init 8 = .ok (.dup, 1) := by decide +kernel
theorem dX2_init_9 : decode cX2_init 9 = .ok (.invokespecial 11, 3) := by decide +kernel
theorem dX2_init_12 : decode cX2_init 12 = .ok (.putfield 12, 3) := by decide +kernel
theorem dX2_init_15 : decode cX2_init 15 = .ok (.aload_n 0, 1) := by decide +kernel
theorem dX2_init_16 : decode cX2_init 16 = .ok (.iconst 4, 1) := by decide +kernel
theorem dX2_init_17 : decode cX2_init 17 = .ok (.anewarray 9, 3) := by decide +kernel
theorem dX2_init_20 : decode cX2_init 20 = .ok (.putfield 16, 3) := by decide +kernel
theorem dX2_init_23 : decode cX2_init 23 = .ok (.iconst 0, 1) := by decide +kernel
theorem dX2_init_24 : decode cX2_init 24 = .ok (.istore_n 1, 1) := by decide +kernel
theorem dX2_init_25 : decode cX2_init 25 = .ok (.iload_n 1, 1) := by decide +kernel
theorem dX2_init_26 : decode cX2_init 26 = .ok (.iconst 4, 1) := by decide +kernel
theorem dX2_init_27 : decode cX2_init 27 = .ok (.if_icmp .ge 22, 3) := by decide +kernel
theorem dX2_init_30 : decode cX2_init 30 = .ok (.aload_n 0, 1) := by decide +kernel
theorem dX2_init_31 : decode cX2_init 31 = .ok (.getfield 16, 3) := by decide +kernel
theorem dX2_init_34 : decode cX2_init 34 = .ok (.iload_n 1, 1) := by decide +kernel
theorem dX2_init_35 : decode cX2_init 35 = .ok (.new 9, 3) := by decide +kernel
theorem dX2_init_38 : decode cX2_init 38 = .ok (.dup, 1) := by decide +kernel
theorem dX2_init_39 : decode cX2_init 39 = .ok (.invokespecial 11, 3) := by decide +kernel
theorem dX2_init_42 : decode cX2_init 42 = .ok (.aastore, 1) := by decide +kernel
theorem dX2_init_43 : decode cX2_init 43 = .ok (.iinc 1 1, 3) := by decide +kernel
theorem dX2_init_46 : decode cX2_init 46 = .ok (.goto (-21), 3) := by decide +kernel
theorem dX2_init_49 : decode cX2_init 49 = .ok (.aload_n 0, 1) := by decide +kernel
theorem dX2_init_50 : decode cX2_init 50 = .ok (.iconst 0, 1) := by decide +kernel
theorem dX2_init_51 : decode cX2_init 51 = .ok (.putfield 20, 3) := by decide +kernel
theorem dX2_init_54 : decode cX2_init 54 = .ok (.aload_n 0, 1) := by decide +kernel
theorem dX2_init_55 : decode cX2_init 55 = .ok (.iconst 5, 1) := by decide +kernel
theorem dX2_init_56 : decode cX2_init 56 = .ok (.newarray .int, 2) := by decide +kernel
theorem dX2_init_58 : decode cX2_init 58 = .ok (.putfield 24, 3) := by decide +kernel
theorem dX2_init_61 : decode cX2_init 61 = .ok (.aload_n 0, 1) := by decide +kernel
theorem dX2_init_62 : decode cX2_init 62 = .ok (.new 28, 3) := by decide +kernel
theorem dX2_init_65 : decode cX2_init 65 = .ok (.dup, 1) := by decide +kernel
theorem dX2_init_66 : decode cX2_init 66 = .ok (.invokespecial 30, 3) := by decide +kernel
theorem dX2_init_69 : decode cX2_init 69 = .ok (.putfield 31, 3) := by decide +kernel
theorem dX2_init_72 : decode cX2_init 72 = .ok (.return_, 1) := by decide +kernel
set_option maxRecDepth 20000 in
theorem ggX2_setLength_X2_fail : GoodIn wsX2_setLength wsX2_fail := goodIn_r _ [6, 7, 26, 27, 28, 29, 30] (by decide +kernel) (by decide +kernel)
set_option maxRecDepth 20000 in
theorem gX2_setLength_X2_fail : GoodIn wsX2_setLength (wsV RX2 35 RX2 yX2_fail wsX2_fail) := goodIn_app (goodIn_of _ (by decide +kernel)) ggX2_setLength_X2_fail
set_option maxRecDepth 20000 in
theorem ggX2_setLength_X2_saveState : GoodIn wsX2_setLength wsX2_saveState := goodIn_r _ [11, 12, 13, 1, 14, 15, 16, 5, 17, 18, 19, 20, 21, 22, 23, 24, 25, 26, 27, 28, 29, 30, 31, 32, 33, 34] (by decide +kernel) (by decide +kernel)
set_option maxRecDepth 20000 in
theorem gX2_setLength_X2_saveState : GoodIn wsX2_setLength (wsV RX2 39 RX2 yX2_saveState wsX2_saveState) := goodIn_app (goodIn_of _ (by decide +kernel)) ggX2_setLength_X2_saveState
theorem dX2_setLength_0 : decode cX2_setLength 0 = .ok (.iload_n 1, 1) := by decide +kernel
theorem dX2_setLength_1 : decode cX2_setLength 1 = .ok (.iconst 1, 1) := by decide +kernel
theorem dX2_setLength_2 : decode cX2_setLength 2 = .ok (.if_icmp .lt 9, 3) := by decide +kernel
theorem dX2_setLength_5 : decode cX2_setLength 5 = .ok (.iload_n 1, 1) := by decide +kernel
theorem dX2_setLength_6 : decode cX2_setLength 6 = .ok (.bipush 8, 2) := by decide +kernel
theorem dX2_setLength_8 : decode cX2_setLength 8 = .ok (.if_icmp .le 10, 3) := by decide +kernel
theorem dX2_setLength_11 : decode cX2_setLength 11 = .ok (.aload_n 0, 1) := by decide +kernel
theorem dX2_setLength_12 : decode cX2_setLength 12 = .ok (.bipush (-2), 2) := by decide +kernel
theorem dX2_setLength_14 : decode cX2_setLength 14 = .ok (.invokevirtual 35, 3) := by decide +kernel
theorem dX2_setLength_17 : decode cX2_setLength 17 = .ok (.ireturn, 1) := by decide +kernel
theorem dX2_setLength_18 : decode cX2_setLength 18 = .ok (.aload_n 0, 1) := by decide +kernel
theorem dX2_setLength_19 : decode cX2_setLength 19 = .ok (.invokevirtual 39, 3) := by decide +kernel
theorem dX2_setLength_22 : decode cX2_setLength 22 = .ok (.aload_n 0, 1) := by decide +kernel
theorem dX2_setLength_23 : decode cX2_setLength 23 = .ok (.getfield 12, 3) := by decide +kernel
theorem dX2_setLength_26 : decode cX2_setLength 26 = .ok (.getfield 42, 3) := by decide +kernel
theorem dX2_setLength_29 : decode cX2_setLength 29 = .ok (.istore_n 2, 1) := by decide +kernel
theorem dX2_setLength_30 : decode cX2_setLength 30 = .ok (.aload_n 0, 1) := by decide +kernel
theorem dX2_setLength_31 : decode cX2_setLength 31 = .ok (.getfield 12, 3) := by decide +kernel
theorem dX2_setLength_34 : decode cX2_setLength 34 = .ok (.iload_n 1, 1) := by decide +kernel
theorem dX2_setLength_35 : decode cX2_setLength 35 = .ok (.putfield 42, 3) := by decide +kernel
theorem dX2_setLength_38 : decode cX2_setLength 38 = .ok (.aload_n 0, 1) := by decide +kernel
theorem dX2_setLength_39 : decode cX2_setLength 39 = .ok (.getfield 12, 3) := by decide +kernel
theorem dX2_setLength_42 : decode cX2_setLength 42 = .ok (.iconst 0, 1) := by decide +kernel
theorem dX2_setLength_43 : decode cX2_setLength 43 = .ok (.putfield 45, 3) := by decide +kernel
theorem dX2_setLength_46 : decode cX2_setLength 46 = .ok (.iload_n 2, 1) := by decide +kernel
theorem dX2_setLength_47 : decode cX2_setLength 47 = .ok (.ireturn, 1) := by decide +kernel
set_option maxRecDepth 20000 in
theorem ggX2_addRow_X2_isWord : GoodIn wsX2_addRow wsX2_isWord := goodIn_r _ [6, 7, 8, 9, 5, 10, 1, 37, 38, 39, 40, 41, 42, 43, 44, 45] (by decide +kernel) (by decide +kernel)
set_option maxRecDepth 20000 in
theorem gX2_addRow_X2_isWord : GoodIn wsX2_addRow (wsV RX2 48 RX2 yX2_isWord wsX2_isWord) := goodIn_app (goodIn_of _ (by decide +kernel)) ggX2_addRow_X2_isWord
set_option maxRecDepth 20000 in
theorem ggX2_addRow_X2_fail : GoodIn wsX2_addRow wsX2_fail := goodIn_r _ [14, 15, 37, 38, 39, 40, 41] (by decide +kernel) (by decide +kernel)
set_option maxRecDepth 20000 in
theorem gX2_addRow_X2_fail : GoodIn wsX2_addRow (wsV RX2 35 RX2 yX2_fail wsX2_fail) := goodIn_app (goodIn_of _ (by decide +kernel)) ggX2_addRow_X2_fail
set_option maxRecDepth 20000 in
theorem ggX2_addRow_X2_saveState : GoodIn wsX2_addRow wsX2_saveState := goodIn_r _ [19, 20, 21, 1, 22, 23, 24, 5, 25, 26, 27, 28, 29, 30, 31, 32, 33, 37, 38, 39, 40, 41, 42, 43, 44, 45] (by decide +kernel) (by decide +kernel)
set_option maxRecDepth 20000 in
theorem gX2_addRow_X2_saveState : GoodIn wsX2_addRow (wsV RX2 39 RX2 yX2_saveState wsX2_saveState) := goodIn_app (goodIn_of _ (by decide +kernel)) ggX2_addRow_X2_saveState
set_option maxRecDepth 20000 in
theorem ggX2_addRow_X1_put : GoodIn wsX2_addRow wsX1_put := goodIn_r _ [36, 32, 33, 42, 43, 44, 45] (by decide +kernel) (by decide +kernel)
set_option maxRecDepth 20000 in
theorem gX2_addRow_X1_put_n52 : GoodIn wsX2_addRow (wsX1_put) := ggX2_addRow_X1_put
theorem dX2_addRow_0 : decode cX2_addRow 0 = .ok (.iload_n 1, 1) := by decide +kernel
theorem dX2_addRow_1 : decode cX2_addRow 1 = .ok (.ifCond .eq 20, 3) := by decide +kernel
theorem dX2_addRow_4 : decode cX2_addRow 4 = .ok (.aload_n 0, 1) := by decide +kernel
theorem dX2_addRow_5 : decode cX2_addRow 5 = .ok (.iload_n 1, 1) := by decide +kernel
theorem dX2_addRow_6 : decode cX2_addRow 6 = .ok (.invokevirtual 48, 3) := by decide +kernel
theorem dX2_addRow_9 : decode cX2_addRow 9 = .ok (.ifCond .eq 12, 3) := by decide +kernel
theorem dX2_addRow_12 : decode cX2_addRow 12 = .ok (.iload_n 2, 1) := by decide +kernel
theorem dX2_addRow_13 : decode cX2_addRow 13 = .ok (.ifCond .lt 8, 3) := by decide +kernel
theorem dX2_addRow_16 : decode cX2_addRow 16 = .ok (.iload_n 2, 1) := by decide +kernel
theorem dX2_addRow_17 : decode cX2_addRow 17 = .ok (.iconst 1, 1) := by decide +kernel
theorem dX2_addRow_18 : decode cX2_addRow 18 = .ok (.if_icmp .le 10, 3) := by decide +kernel
theorem dX2_addRow_21 : decode cX2_addRow 21 = .ok (.aload_n 0, 1) := by decide +kernel
theorem dX2_addRow_22 : decode cX2_addRow 22 = .ok (.bipush (-2), 2) := by decide +kernel
theorem dX2_addRow_24 : decode cX2_addRow 24 = .ok (.invokevirtual 35, 3) := by decide +kernel
theorem dX2_addRow_27 : decode cX2_addRow 27 = .ok (.ireturn, 1) := by decide +kernel
theorem dX2_addRow_28 : decode cX2_addRow 28 = .ok (.aload_n 0, 1) := by decide +kernel
theorem dX2_addRow_29 : decode cX2_addRow 29 = .ok (.getfield 12, 3) := by decide +kernel
theorem dX2_addRow_32 : decode cX2_addRow 32 = .ok (.getfield 45, 3) := by decide +kernel
theorem dX2_addRow_35 : decode cX2_addRow 35 = .ok (.bipush 6, 2) := by decide +kernel
theorem dX2_addRow_37 : decode cX2_addRow 37 = .ok (.if_icmp .lt 10, 3) := by decide +kernel
theorem dX2_addRow_40 : decode cX2_addRow 40 = .ok (.aload_n 0, 1) := by decide +kernel
theorem dX2_addRow_41 : decode cX2_addRow 41 = .ok (.bipush (-4), 2) := by decide +kernel
theorem dX2_addRow_43 : decode cX2_addRow 43 = .ok (.invokevirtual 35, 3) := by decide +kernel
theorem dX2_addRow_46 : decode cX2_addRow 46 = .ok (.ireturn, 1) := by decide +kernel
theorem dX2_addRow_47 : decode cX2_addRow 47 = .ok (.aload_n 0, 1) := by decide +kernel
theorem dX2_addRow_48 : decode cX2_addRow 48 = .ok (.invokevirtual 39, 3) := by decide +kernel
theorem dX2_addRow_51 : decode cX2_addRow 51 = .ok (.aload_n 0, 1) := by decide +kernel
theorem dX2_addRow_52 : decode cX2_addRow 52 = .ok (.getfield 12, 3) := by decide +kernel
theorem dX2_addRow_55 : decode cX2_addRow 55 = .ok (.aload_n 0, 1) := by decide +kernel
theorem dX2_addRow_56 : decode cX2_addRow 56 = .ok (.getfield 12, 3) := by decide +kernel
theorem dX2_addRow_59 : decode cX2_addRow 59 = .ok (.getfield 45, 3) := by decide +kernel
theorem dX2_addRow_62 : decode cX2_addRow 62 = .ok (.iload_n 1, 1) := by decide +kernel
theorem dX2_addRow_63 : decode cX2_addRow 63 = .ok (.iload_n 2, 1) := by decide +kernel
theorem dX2_addRow_64 : decode cX2_addRow 64 = .ok (.iconst 1, 1) := by decide +kernel
theorem dX2_addRow_65 : decode cX2_addRow 65 = .ok (.if_icmp .ne 7, 3) := by decide +kernel
theorem dX2_addRow_68 : decode cX2_addRow 68 = .ok (.iconst 1, 1) := by decide +kernel
theorem dX2_addRow_69 : decode cX2_addRow 69 = .ok (.goto 4, 3) := by decide +kernel
theorem dX2_addRow_72 : decode cX2_addRow 72 = .ok (.iconst 0, 1) := by decide +kernel
theorem dX2_addRow_73 : decode cX2_addRow 73 = .ok (.invokevirtual 52, 3) := by decide +kernel
theorem dX2_addRow_76 : decode cX2_addRow 76 = .ok (.aload_n 0, 1) := by decide +kernel
theorem dX2_addRow_77 : decode cX2_addRow 77 = .ok (.getfield 12, 3) := by decide +kernel
theorem dX2_addRow_80 : decode cX2_addRow 80 = .ok (.dup, 1) := by decide +kernel
theorem dX2_addRow_81 : decode cX2_addRow 81 = .ok (.getfield 45, 3) := by decide +kernel
theorem dX2_addRow_84 : decode cX2_addRow 84 = .ok (.iconst 1, 1) := by decide +kernel
theorem dX2_addRow_85 : decode cX2_addRow 85 = .ok (.iadd, 1) := by decide +kernel
theorem dX2_addRow_86 : decode cX2_addRow 86 = .ok (.putfield 45, 3) := by decide +kernel
theorem dX2_addRow_89 : decode cX2_addRow 89 = .ok (.aload_n 0, 1) := by decide +kernel
theorem dX2_addRow_90 : decode cX2_addRow 90 = .ok (.getfield 12, 3) := by decide +kernel
theorem dX2_addRow_93 : decode cX2_addRow 93 = .ok (.getfield 45, 3) := by decide +kernel
theorem dX2_addRow_96 : decode cX2_addRow 96 = .ok (.iconst 1, 1) := by decide +kernel
theorem dX2_addRow_97 : decode cX2_addRow 97 = .ok (.isub, 1) := by decide +kernel
theorem dX2_addRow_98 : decode cX2_addRow 98 = .ok (.ireturn, 1) := by decide +kernel
set_option maxRecDepth 20000 in
theorem ggX2_removeRow_X2_isRowNumber : GoodIn wsX2_removeRow wsX2_isRowNumber := goodIn_r _ [6, 1, 33, 34, 35, 36, 37, 38, 39, 40, 41] (by decide +kernel) (by decide +kernel)
set_option maxRecDepth 20000 in
theorem gX2_removeRow_X2_isRowNumber : GoodIn wsX2_removeRow (wsV RX2 56 RX2 yX2_isRowNumber wsX2_isRowNumber) := goodIn_app (goodIn_of _ (by decide +kernel)) ggX2_removeRow_X2_isRowNumber
set_option maxRecDepth 20000 in
theorem ggX2_removeRow_X2_fail : GoodIn wsX2_removeRow wsX2_fail := goodIn_r _ [10, 11, 33, 34, 35, 36, 37] (by decide +kernel) (by decide +kernel)
set_option maxRecDepth 20000 in
theorem gX2_removeRow_X2_fail : GoodIn wsX2_removeRow (wsV RX2 35 RX2 yX2_fail wsX2_fail) := goodIn_app (goodIn_of _ (by decide +kernel)) ggX2_removeRow_X2_fail
set_option maxRecDepth 20000 in
theorem ggX2_removeRow_X2_saveState : GoodIn wsX2_removeRow wsX2_saveState := goodIn_r _ [15, 16, 17, 1, 18, 19, 20, 5, 21, 22, 23, 24, 25, 26, 27, 28, 29, 33, 34, 35, 36, 37, 38, 39, 40, 41] (by decide +kernel) (by decide +kernel)
set_option maxRecDepth 20000 in
theorem gX2_removeRow_X2_saveState : GoodIn wsX2_removeRow (wsV RX2 39 RX2 yX2_saveState wsX2_saveState) := goodIn_app (goodIn_of _ (by decide +kernel)) ggX2_removeRow_X2_saveState
set_option maxRecDepth 20000 in
theorem ggX2_removeRow_X1_put : GoodIn wsX2_removeRow wsX1_put := goodIn_r _ [32, 28, 29, 38, 39, 40, 41] (by decide +kernel) (by decide +kernel)
set_option maxRecDepth 20000 in
theorem gX2_removeRow_X1_put_n52 : GoodIn wsX2_removeRow (wsX1_put) := ggX2_removeRow_X1_put
theorem dX2_removeRow_0 : decode cX2_removeRow 0 = .ok (.aload_n 0, 1) := by decide +kernel
theorem dX2_removeRow_1 : decode cX2_removeRow 1 = .ok (.iload_n 1, 1) := by decide +kernel
theorem dX2_removeRow_2 : decode cX2_removeRow 2 = .ok (.invokevirtual 56, 3) := by decide +kernel
theorem dX2_removeRow_5 : decode cX2_removeRow 5 = .ok (.ifCond .ne 10, 3) := by decide +kernel
theorem dX2_removeRow_8 : decode cX2_removeRow 8 = .ok (.aload_n 0, 1) := by decide +kernel
theorem dX2_removeRow_9 : decode cX2_removeRow 9 = .ok (.bipush (-2), 2) := by decide +kernel
theorem dX2_removeRow_11 : decode cX2_removeRow 11 = .ok (.invokevirtual 35, 3) := by decide +kernel
theorem dX2_removeRow_14 : decode cX2_removeRow 14 = .ok (.ireturn, 1) := by decide +kernel
theorem dX2_removeRow_15 : decode cX2_removeRow 15 = .ok (.aload_n 0, 1) := by decide +kernel
theorem dX2_removeRow_16 : decode cX2_removeRow 16 = .ok (.invokevirtual 39, 3) := by decide +kernel
theorem dX2_removeRow_19 : decode cX2_removeRow 19 = .ok (.iload_n 1, 1) := by decide +kernel
theorem dX2_removeRow_20 : decode cX2_removeRow 20 = .ok (.iconst 1, 1) := by decide +kernel
theorem dX2_removeRow_21 : decode cX2_removeRow 21 = .ok (.iadd, 1) := by decide +kernel
theorem dX2_removeRow_22 : decode cX2_removeRow 22 = .ok (.istore_n 2, 1) := by decide +kernel
theorem dX2_removeRow_23 : decode cX2_removeRow 23 = .ok (.iload_n 2, 1) := by decide +kernel
theorem dX2_removeRow_24 : decode cX2_removeRow 24 = .ok (.aload_n 0, 1) := by decide +kernel
theorem dX2_removeRow_25 : decode cX2_removeRow 25 = .ok (.getfield 12, 3) := by decide +kernel
theorem dX2_removeRow_28 : decode cX2_removeRow 28 = .ok (.getfield 45, 3) := by decide +kernel
theorem dX2_removeRow_31 : decode cX2_removeRow 31 = .ok (.if_icmp .ge 37, 3) := by decide +kernel
theorem dX2_removeRow_34 : decode cX2_removeRow 34 = .ok (.aload_n 0, 1) := by decide +kernel
theorem dX2_removeRow_35 : decode cX2_removeRow 35 = .ok (.getfield 12, 3) := by decide +kernel
theorem dX2_removeRow_38 : decode cX2_removeRow 38 = .ok (.iload_n 2, 1) := by decide +kernel
theorem dX2_removeRow_39 : decode cX2_removeRow 39 = .ok (.iconst 1, 1) := by decide +kernel
theorem dX2_removeRow_40 : decode cX2_removeRow 40 = .ok (.isub, 1) := by decide +kernel
theorem dX2_removeRow_41 : decode cX2_removeRow 41 = .ok (.aload_n 0, 1) := by decide +kernel
theorem dX2_removeRow_42 : decode cX2_removeRow 42 = .ok (.getfield 12, 3) := by decide +kernel
theorem dX2_removeRow_45 : decode cX2_removeRow 45 = .ok (.getfield 59, 3) := by decide +kernel
theorem dX2_removeRow_48 : decode cX2_removeRow 48 = .ok (.iload_n 2, 1) := by decide +kernel
theorem dX2_removeRow_49 : decode cX2_removeRow 49 = .ok (.iaload, 1) := by decide +kernel
theorem dX2_removeRow_50 : decode cX2_removeRow 50 = .ok (.aload_n 0, 1) := by decide +kernel
theorem dX2_removeRow_51 : decode cX2_removeRow 51 = .ok (.getfield 12, 3) := by decide +kernel
theorem dX2_removeRow_54 : decode cX2_removeRow 54 = .ok (.getfield 62, 3) := by decide +kernel
theorem dX2_removeRow_57 : decode cX2_removeRow 57 = .ok (.iload_n 2, 1) := by decide +kernel
theorem dX2_removeRow_58 : decode cX2_removeRow 58 = .ok (.baload, 1) := by decide +kernel
theorem dX2_removeRow_59 : decode cX2_removeRow 59 = .ok (.invokevirtual 52, 3) := by decide +kernel
theorem dX2_removeRow_62 : decode cX2_removeRow 62 = .ok (.iinc 2 1, 3) := by decide +kernel
theorem dX2_removeRow_65 : decode cX2_removeRow 65 = .ok (.goto (-42), 3) := by decide +kernel
theorem dX2_removeRow_68 : decode cX2_removeRow 68 = .ok (.aload_n 0, 1) := by decide +kernel
theorem dX2_removeRow_69 : decode cX2_removeRow 69 = .ok (.getfield 12, 3) := by decide +kernel
theorem dX2_removeRow_72 : decode cX2_removeRow 72 = .ok (.dup, 1) := by decide +kernel
theorem dX2_removeRow_73 : decode cX2_removeRow 73 = .ok (.getfield 45, 3) := by decide +kernel
theorem dX2_removeRow_76 : decode cX2_removeRow 76 = .ok (.iconst 1, 1) := by decide +kernel
theorem dX2_removeRow_77 : decode cX2_removeRow 77 = .ok (.isub, 1) := by decide +kernel
theorem dX2_removeRow_78 : decode cX2_removeRow 78 = .ok (.putfield 45, 3) := by decide +kernel
theorem dX2_removeRow_81 : decode cX2_removeRow 81 = .ok (.aload_n 0, 1) := by decide +kernel
theorem dX2_removeRow_82 : decode cX2_removeRow 82 = .ok (.getfield 12, 3) := by decide +kernel
theorem dX2_removeRow_85 : decode cX2_removeRow 85 = .ok (.getfield 45, 3) := by decide +kernel
theorem dX2_removeRow_88 : decode cX2_removeRow 88 = .ok (.ireturn, 1) := by decide +kernel
set_option maxRecDepth 20000 in
theorem ggX2_removeDependentRows_X2_saveState : GoodIn wsX2_removeDependentRows wsX2_saveState := goodIn_r _ [7, 8, 9, 2, 10, 11, 12, 6, 13, 14, 15, 16, 17, 18, 19, 20, 21, 38, 39, 40, 41, 42, 43, 44, 45, 46] (by decide +kernel) (by decide +kernel)
set_option maxRecDepth 20000 in
theorem gX2_removeDependentRows_X2_saveState : GoodIn wsX2_removeDependentRows (wsV RX2 39 RX2 yX2_saveState wsX2_saveState) := goodIn_app (goodIn_of _ (by decide +kernel)) ggX2_removeDependentRows_X2_saveState
set_option maxRecDepth 20000 in
theorem ggX2_removeDependentRows_X0_clear : GoodIn wsX2_removeDependentRows wsX0_clear := goodIn_r _ [25, 26, 47, 48] (by decide +kernel) (by decide +kernel)
set_option maxRecDepth 20000 in
theorem gX2_removeDependentRows_X0_clear_n66 : GoodIn wsX2_removeDependentRows (wsX0_clear) := ggX2_removeDependentRows_X0_clear
set_option maxRecDepth 20000 in
theorem ggX2_removeDependentRows_X0_extend : GoodIn wsX2_removeDependentRows wsX0_extend := goodIn_r _ [29, 26, 30, 31, 32, 33, 34, 47, 48] (by decide +kernel) (by decide +kernel)
set_option maxRecDepth 20000 in
theorem gX2_removeDependentRows_X0_extend_n69 : GoodIn wsX2_removeDependentRows (wsX0_extend) := ggX2_removeDependentRows_X0_extend
set_option maxRecDepth 20000 in
theorem ggX2_removeDependentRows_X1_put : GoodIn wsX2_removeDependentRows wsX1_put := goodIn_r _ [37, 20, 21, 43, 44, 45, 46] (by decide +kernel) (by decide +kernel)
set_option maxRecDepth 20000 in
theorem gX2_removeDependentRows_X1_put_n52 : GoodIn wsX2_removeDependentRows (wsX1_put) := ggX2_removeDependentRows_X1_put
theorem dX2_removeDependentRows_0 : decode cX2_removeDependentRows 0 = .ok (.aload_n 0, 1) := by decide +kernel
theorem dX2_removeDependentRows_1 : decode cX2_removeDependentRows 1 = .ok (.invokevirtual 39, 3) := by decide +kernel
theorem dX2_removeDependentRows_4 : decode cX2_removeDependentRows 4 = .ok (.aload_n 0, 1) := by decide +kernel
theorem dX2_removeDependentRows_5 : decode cX2_removeDependentRows 5 = .ok (.getfield 31, 3) := by decide +kernel
theorem dX2_removeDependentRows_8 : decode cX2_removeDependentRows 8 = .ok (.invokevirtual 66, 3) := by decide +kernel
theorem dX2_removeDependentRows_11 : decode cX2_removeDependentRows 11 = .ok (.aload_n 0, 1) := by decide +kernel
theorem dX2_removeDependentRows_12 : decode cX2_removeDependentRows 12 = .ok (.getfield 12, 3) := by decide +kernel
theorem dX2_removeDependentRows_15 : decode cX2_removeDependentRows 15 = .ok (.getfield 45, 3) := by decide +kernel
theorem dX2_removeDependentRows_18 : decode cX2_removeDependentRows 18 = .ok (.istore_n 1, 1) := by decide +kernel
theorem dX2_removeDependentRows_19 : decode cX2_removeDependentRows 19 = .ok (.iconst 0, 1) := by decide +kernel
theorem dX2_removeDependentRows_20 : decode cX2_removeDependentRows 20 = .ok (.istore_n 2, 1) := by decide +kernel
theorem dX2_removeDependentRows_21 : decode cX2_removeDependentRows 21 = .ok (.iconst 0, 1) := by decide +kernel
theorem dX2_removeDependentRows_22 : decode cX2_removeDependentRows 22 = .ok (.istore_n 3, 1) := by decide +kernel
theorem dX2_removeDependentRows_23 : decode cX2_removeDependentRows 23 = .ok (.iload_n 3, 1) := by decide +kernel
theorem dX2_removeDependentRows_24 : decode cX2_removeDependentRows 24 = .ok (.iload_n 1, 1) := by decide +kernel
theorem dX2_removeDependentRows_25 : decode cX2_removeDependentRows 25 = .ok (.if_icmp .ge 57, 3) := by decide +kernel
theorem dX2_removeDependentRows_28 : decode cX2_removeDependentRows 28 = .ok (.aload_n 0, 1) := by decide +kernel
theorem dX2_removeDependentRows_29 : decode cX2_removeDependentRows 29 = .ok (.getfield 31, 3) := by decide +kernel
theorem dX2_removeDependentRows_32 : decode cX2_removeDependentRows 32 = .ok (.aload_n 0, 1) := by decide +kernel
theorem dX2_removeDependentRows_33 : decode cX2_removeDependentRows 33 = .ok (.getfield 12, 3) := by decide +kernel
theorem dX2_removeDependentRows_36 : decode cX2_removeDependentRows 36 = .ok (.getfield 59, 3) := by decide +kernel
theorem dX2_removeDependentRows_39 : decode cX2_removeDependentRows 39 = .ok (.iload_n 3, 1) := by decide +kernel
theorem dX2_removeDependentRows_40 : decode cX2_removeDependentRows 40 = .ok (.iaload, 1) := by decide +kernel
theorem dX2_removeDependentRows_41 : decode cX2_removeDependentRows 41 = .ok (.invokevirtual 69, 3) := by decide +kernel
theorem dX2_removeDependentRows_44 : decode cX2_removeDependentRows 44 = .ok (.ifCond .eq 32, 3) := by decide +kernel
theorem dX2_removeDependentRows_47 : decode cX2_removeDependentRows 47 = .ok (.aload_n 0, 1) := by decide +kernel
theorem dX2_removeDependentRows_48 : decode cX2_removeDependentRows 48 = .ok (.getfield 12, 3) := by decide +kernel
theorem dX2_removeDependentRows_51 : decode cX2_removeDependentRows 51 = .ok (.iload_n 2, 1) := by decide +kernel
theorem dX2_removeDependentRows_52 : decode cX2_removeDependentRows 52 = .ok (.aload_n 0, 1) := by decide +kernel
theorem dX2_removeDependentRows_53 : decode cX2_removeDependentRows 53 = .ok (.getfield 12, 3) := by decide +kernel
theorem dX2_removeDependentRows_56 : decode cX2_removeDependentRows 56 = .ok (.getfield 59, 3) := by decide +kernel
theorem dX2_removeDependentRows_59 : decode cX2_removeDependentRows 59 = .ok (.iload_n 3, 1) := by decide +kernel
theorem dX2_removeDependentRows_60 : decode cX2_removeDependentRows 60 = .ok (.iaload, 1) := by decide +kernel
theorem dX2_removeDependentRows_61 : decode cX2_removeDependentRows 61 = .ok (.aload_n 0, 1) := by decide +kernel
theorem dX2_removeDependentRows_62 : decode cX2_removeDependentRows 62 = .ok (.getfield 12, 3) := by decide +kernel
theorem dX2_removeDependentRows_65 : decode cX2_removeDependentRows 65 = .ok (.getfield 62, 3) := by decide +kernel
theorem dX2_removeDependentRows_68 : decode cX2_removeDependentRows 68 = .ok (.iload_n 3, 1) := by decide +kernel
theorem dX2_removeDependentRows_69 : decode cX2_removeDependentRows 69 = .ok (.baload, 1) := by decide +kernel
theorem dX2_removeDependentRows_70 : decode cX2_removeDependentRows 70 = .ok (.invokevirtual 52, 3) := by decide +kernel
theorem dX2_removeDependentRows_73 : decode cX2_removeDependentRows 73 = .ok (.iinc 2 1, 3) := by decide +kernel
theorem dX2_removeDependentRows_76 : decode cX2_removeDependentRows 76 = .ok (.iinc 3 1, 3) := by decide +kernel
theorem dX2_removeDependentRows_79 : decode cX2_removeDependentRows 79 = .ok (.goto (-56), 3) := by decide +kernel
theorem dX2_removeDependentRows_82 : decode cX2_removeDependentRows 82 = .ok (.aload_n 0, 1) := by decide +kernel
theorem dX2_removeDependentRows_83 : decode cX2_removeDependentRows 83 = .ok (.getfield 12, 3) := by decide +kernel
theorem dX2_removeDependentRows_86 : decode cX2_removeDependentRows 86 = .ok (.iload_n 2, 1) := by decide +kernel
theorem dX2_removeDependentRows_87 : decode cX2_removeDependentRows 87 = .ok (.putfield 45, 3) := by decide +kernel
theorem dX2_removeDependentRows_90 : decode cX2_removeDependentRows 90 = .ok (.iload_n 1, 1) := by decide +kernel
theorem dX2_removeDependentRows_91 : decode cX2_removeDependentRows 91 = .ok (.iload_n 2, 1) := by decide +kernel
theorem dX2_removeDependentRows_92 : decode cX2_removeDependentRows 92 = .ok (.isub, 1) := by decide +kernel
theorem dX2_removeDependentRows_93 : decode cX2_removeDependentRows 93 = .ok (.ireturn, 1) := by decide +kernel
set_option maxRecDepth 20000 in
theorem ggX2_row_X2_isRowNumber : GoodIn wsX2_row wsX2_isRowNumber := goodIn_r _ [6, 1, 12, 13, 14, 15, 16, 17, 18, 19, 20] (by decide +kernel) (by decide +kernel)
set_option maxRecDepth 20000 in
theorem gX2_row_X2_isRowNumber : GoodIn wsX2_row (wsV RX2 56 RX2 yX2_isRowNumber wsX2_isRowNumber) := goodIn_app (goodIn_of _ (by decide +kernel)) ggX2_row_X2_isRowNumber
set_option maxRecDepth 20000 in
theorem ggX2_row_X2_fail : GoodIn wsX2_row wsX2_fail := goodIn_r _ [10, 11, 12, 13, 14, 15, 16] (by decide +kernel) (by decide +kernel)
set_option maxRecDepth 20000 in
theorem gX2_row_X2_fail : GoodIn wsX2_row (wsV RX2 35 RX2 yX2_fail wsX2_fail) := goodIn_app (goodIn_of _ (by decide +kernel)) ggX2_row_X2_fail
theorem dX2_row_0 : decode cX2_row 0 = .ok (.aload_n 0, 1) := by decide +kernel
theorem dX2_row_1 : decode cX2_row 1 = .ok (.iload_n 1, 1) := by decide +kernel
theorem dX2_row_2 : decode cX2_row 2 = .ok (.invokevirtual 56, 3) := by decide +kernel
theorem dX2_row_5 : decode cX2_row 5 = .ok (.ifCond .ne 10, 3) := by decide +kernel
theorem dX2_row_8 : decode cX2_row 8 = .ok (.aload_n 0, 1) := by decide +kernel
theorem dX2_row_9 : decode cX2_row 9 = .ok (.bipush (-2), 2) := by decide +kernel
theorem dX2_row_11 : decode cX2_row 11 = .ok (.invokevirtual 35, 3) := by decide +kernel
theorem dX2_row_14 : decode cX2_row 14 = .ok (.ireturn, 1) := by decide +kernel
theorem dX2_row_15 : decode cX2_row 15 = .ok (.aload_n 0, 1) := by decide +kernel
theorem dX2_row_16 : decode cX2_row 16 = .ok (.getfield 12, 3) := by decide +kernel
theorem dX2_row_19 : decode cX2_row 19 = .ok (.getfield 59, 3) := by decide +kernel
theorem dX2_row_22 : decode cX2_row 22 = .ok (.iload_n 1, 1) := by decide +kernel
theorem dX2_row_23 : decode cX2_row 23 = .ok (.iaload, 1) := by decide +kernel
theorem dX2_row_24 : decode cX2_row 24 = .ok (.ireturn, 1) := by decide +kernel
set_option maxRecDepth 20000 in
theorem ggX2_isCheck_X2_isRowNumber : GoodIn wsX2_isCheck wsX2_isRowNumber := goodIn_r _ [6, 1, 12, 13, 14, 15, 16, 17, 18, 19, 20] (by decide +kernel) (by decide +kernel)
set_option maxRecDepth 20000 in
theorem gX2_isCheck_X2_isRowNumber : GoodIn wsX2_isCheck (wsV RX2 56 RX2 yX2_isRowNumber wsX2_isRowNumber) := goodIn_app (goodIn_of _ (by decide +kernel)) ggX2_isCheck_X2_isRowNumber
set_option maxRecDepth 20000 in
theorem ggX2_isCheck_X2_fail : GoodIn wsX2_isCheck wsX2_fail := goodIn_r _ [10, 11, 12, 13, 14, 15, 16] (by decide +kernel) (by decide +kernel)
set_option maxRecDepth 20000 in
theorem gX2_isCheck_X2_fail : GoodIn wsX2_isCheck (wsV RX2 35 RX2 yX2_fail wsX2_fail) := goodIn_app (goodIn_of _ (by decide +kernel)) ggX2_isCheck_X2_fail
theorem dX2_isCheck_0 : decode cX2_isCheck 0 = .ok (.aload_n 0, 1) := by decide +kernel
theorem dX2_isCheck_1 : decode cX2_isCheck 1 = .ok (.iload_n 1, 1) := by decide +kernel
theorem dX2_isCheck_2 : decode cX2_isCheck 2 = .ok (.invokevirtual 56, 3) := by decide +kernel
theorem dX2_isCheck_5 : decode cX2_isCheck 5 = .ok (.ifCond .ne 10, 3) := by decide +kernel
theorem dX2_isCheck_8 : decode cX2_isCheck 8 = .ok (.aload_n 0, 1) := by decide +kernel
theorem dX2_isCheck_9 : decode cX2_isCheck 9 = .ok (.bipush (-2), 2) := by decide +kernel
theorem dX2_isCheck_11 : decode cX2_isCheck 11 = .ok (.invokevirtual 35, 3) := by decide +kernel
theorem dX2_isCheck_14 : decode cX2_isCheck 14 = .ok (.ireturn, 1) := by decide +kernel
theorem dX2_isCheck_15 : decode cX2_isCheck 15 = .ok (.aload_n 0, 1) := by decide +kernel
theorem dX2_isCheck_16 : decode cX2_isCheck 16 = .ok (.getfield 12, 3) := by decide +kernel
theorem dX2_isCheck_19 : decode cX2_isCheck 19 = .ok (.getfield 62, 3) := by decide +kernel
theorem dX2_isCheck_22 : decode cX2_isCheck 22 = .ok (.iload_n 1, 1) := by decide +kernel
theorem dX2_isCheck_23 : decode cX2_isCheck 23 = .ok (.baload, 1) := by decide +kernel
theorem dX2_isCheck_24 : decode cX2_isCheck 24 = .ok (.ifCond .eq 7, 3) := by decide +kernel
theorem dX2_isCheck_27 : decode cX2_isCheck 27 = .ok (.iconst 1, 1) := by decide +kernel
theorem dX2_isCheck_28 : decode cX2_isCheck 28 = .ok (.goto 4, 3) := by decide +kernel
theorem dX2_isCheck_31 : decode cX2_isCheck 31 = .ok (.iconst 0, 1) := by decide +kernel
theorem dX2_isCheck_32 : decode cX2_isCheck 32 = .ok (.ireturn, 1) := by decide +kernel
set_option maxRecDepth 20000 in
theorem ggX2_rank_X2_fail : GoodIn wsX2_rank wsX2_fail := goodIn_r _ [5, 6, 34, 35, 36, 37, 38] (by decide +kernel) (by decide +kernel)
set_option maxRecDepth 20000 in
theorem gX2_rank_X2_fail : GoodIn wsX2_rank (wsV RX2 35 RX2 yX2_fail wsX2_fail) := goodIn_app (goodIn_of _ (by decide +kernel)) ggX2_rank_X2_fail
set_option maxRecDepth 20000 in
theorem ggX2_rank_X2_rankOfKind : GoodIn wsX2_rank wsX2_rankOfKind := goodIn_r _ [10, 11, 12, 13, 14, 15, 16, 17, 18, 19, 4, 20, 21, 22, 23, 24, 25, 26, 27, 28, 29, 30, 31, 32, 33, 34, 35, 36, 37, 38, 39, 40, 41, 42, 43, 44] (by decide +kernel) (by decide +kernel)
set_option maxRecDepth 20000 in
theorem gX2_rank_X2_rankOfKind : GoodIn wsX2_rank (wsV RX2 72 RX2 yX2_rankOfKind wsX2_rankOfKind) := goodIn_app (goodIn_of _ (by decide +kernel)) ggX2_rank_X2_rankOfKind
theorem dX2_rank_0 : decode cX2_rank 0 = .ok (.iload_n 1, 1) := by decide +kernel
theorem dX2_rank_1 : decode cX2_rank 1 = .ok (.ifCond .lt 8, 3) := by decide +kernel
theorem dX2_rank_4 : decode cX2_rank 4 = .ok (.iload_n 1, 1) := by decide +kernel
theorem dX2_rank_5 : decode cX2_rank 5 = .ok (.iconst 2, 1) := by decide +kernel
theorem dX2_rank_6 : decode cX2_rank 6 = .ok (.if_icmp .le 10, 3) := by decide +kernel
theorem dX2_rank_9 : decode cX2_rank 9 = .ok (.aload_n 0, 1) := by decide +kernel
theorem dX2_rank_10 : decode cX2_rank 10 = .ok (.bipush (-2), 2) := by decide +kernel
theorem dX2_rank_12 : decode cX2_rank 12 = .ok (.invokevirtual 35, 3) := by decide +kernel
theorem dX2_rank_15 : decode cX2_rank 15 = .ok (.ireturn, 1) := by decide +kernel
theorem dX2_rank_16 : decode cX2_rank 16 = .ok (.aload_n 0, 1) := by decide +kernel
theorem dX2_rank_17 : decode cX2_rank 17 = .ok (.iload_n 1, 1) := by decide +kernel
theorem dX2_rank_18 : decode cX2_rank 18 = .ok (.invokevirtual 72, 3) := by decide +kernel
theorem dX2_rank_21 : decode cX2_rank 21 = .ok (.ireturn, 1) := by decide +kernel
set_option maxRecDepth 20000 in
theorem ggX2_message_X2_isWord : GoodIn wsX2_message wsX2_isWord := goodIn_r _ [5, 6, 7, 8, 4, 9, 10, 27, 28, 29, 30, 31, 32, 33, 34, 35] (by decide +kernel) (by decide +kernel)
set_option maxRecDepth 20000 in
theorem gX2_message_X2_isWord : GoodIn wsX2_message (wsV RX2 48 RX2 yX2_isWord wsX2_isWord) := goodIn_app (goodIn_of _ (by decide +kernel)) ggX2_message_X2_isWord
set_option maxRecDepth 20000 in
theorem ggX2_message_X2_fail : GoodIn wsX2_message wsX2_fail := goodIn_r _ [14, 15, 27, 28, 29, 30, 31] (by decide +kernel) (by decide +kernel)
set_option maxRecDepth 20000 in
theorem gX2_message_X2_fail : GoodIn wsX2_message (wsV RX2 35 RX2 yX2_fail wsX2_fail) := goodIn_app (goodIn_of _ (by decide +kernel)) ggX2_message_X2_fail
set_option maxRecDepth 20000 in
theorem ggX2_message_X2_syndrome : GoodIn wsX2_message wsX2_syndrome := goodIn_r _ [19, 10, 20, 21, 22, 23, 24, 25, 26, 27, 28, 29, 30, 31, 32, 33, 34, 35] (by decide +kernel) (by decide +kernel)
set_option maxRecDepth 20000 in
theorem gX2_message_X2_syndrome : GoodIn wsX2_message (wsV RX2 75 RX2 yX2_syndrome wsX2_syndrome) := goodIn_app (goodIn_of _ (by decide +kernel)) ggX2_message_X2_syndrome
theorem dX2_message_0 : decode cX2_message 0 = .ok (.aload_n 0, 1) := by decide +kernel
theorem dX2_message_1 : decode cX2_message 1 = .ok (.iload_n 1, 1) := by decide +kernel
theorem dX2_message_2 : decode cX2_message 2 = .ok (.invokevirtual 48, 3) := by decide +kernel
theorem dX2_message_5 : decode cX2_message 5 = .ok (.ifCond .ne 10, 3) := by decide +kernel
theorem dX2_message_8 : decode cX2_message 8 = .ok (.aload_n 0, 1) := by decide +kernel
theorem dX2_message_9 : decode cX2_message 9 = .ok (.bipush (-2), 2) := by decide +kernel
theorem dX2_message_11 : decode cX2_message 11 = .ok (.invokevirtual 35, 3) := by decide +kernel
theorem dX2_message_14 : decode cX2_message 14 = .ok (.ireturn, 1) := by decide +kernel
theorem dX2_message_15 : decode cX2_message 15 = .ok (.aload_n 0, 1) := by decide +kernel
theorem dX2_message_16 : decode cX2_message 16 = .ok (.iload_n 1, 1) := by decide +kernel
theorem dX2_message_17 : decode cX2_message 17 = .ok (.iconst 0, 1) := by decide +kernel
theorem dX2_message_18 : decode cX2_message 18 = .ok (.invokevirtual 75, 3) := by decide +kernel
theorem dX2_message_21 : decode cX2_message 21 = .ok (.ireturn, 1) := by decide +kernel
set_option maxRecDepth 20000 in
theorem ggX2_checkValue_X2_isWord : GoodIn wsX2_checkValue wsX2_isWord := goodIn_r _ [5, 6, 7, 8, 4, 9, 10, 27, 28, 29, 30, 31, 32, 33, 34, 35] (by decide +kernel) (by decide +kernel)
set_option maxRecDepth 20000 in
theorem gX2_checkValue_X2_isWord : GoodIn wsX2_checkValue (wsV RX2 48 RX2 yX2_isWord wsX2_isWord) := goodIn_app (goodIn_of _ (by decide +kernel)) ggX2_checkValue_X2_isWord
set_option maxRecDepth 20000 in
theorem ggX2_checkValue_X2_fail : GoodIn wsX2_checkValue wsX2_fail := goodIn_r _ [14, 15, 27, 28, 29, 30, 31] (by decide +kernel) (by decide +kernel)
set_option maxRecDepth 20000 in
theorem gX2_checkValue_X2_fail : GoodIn wsX2_checkValue (wsV RX2 35 RX2 yX2_fail wsX2_fail) := goodIn_app (goodIn_of _ (by decide +kernel)) ggX2_checkValue_X2_fail
set_option maxRecDepth 20000 in
theorem ggX2_checkValue_X2_syndrome : GoodIn wsX2_checkValue wsX2_syndrome := goodIn_r _ [19, 10, 20, 21, 22, 23, 24, 25, 26, 27, 28, 29, 30, 31, 32, 33, 34, 35] (by decide +kernel) (by decide +kernel)
set_option maxRecDepth 20000 in
theorem gX2_checkValue_X2_syndrome : GoodIn wsX2_checkValue (wsV RX2 75 RX2 yX2_syndrome wsX2_syndrome) := goodIn_app (goodIn_of _ (by decide +kernel)) ggX2_checkValue_X2_syndrome
theorem dX2_checkValue_0 : decode cX2_checkValue 0 = .ok (.aload_n 0, 1) := by decide +kernel
theorem dX2_checkValue_1 : decode cX2_checkValue 1 = .ok (.iload_n 1, 1) := by decide +kernel
theorem dX2_checkValue_2 : decode cX2_checkValue 2 = .ok (.invokevirtual 48, 3) := by decide +kernel
theorem dX2_checkValue_5 : decode cX2_checkValue 5 = .ok (.ifCond .ne 10, 3) := by decide +kernel
theorem dX2_checkValue_8 : decode cX2_checkValue 8 = .ok (.aload_n 0, 1) := by decide +kernel
theorem dX2_checkValue_9 : decode cX2_checkValue 9 = .ok (.bipush (-2), 2) := by decide +kernel
theorem dX2_checkValue_11 : decode cX2_checkValue 11 = .ok (.invokevirtual 35, 3) := by decide +kernel
theorem dX2_checkValue_14 : decode cX2_checkValue 14 = .ok (.ireturn, 1) := by decide +kernel
theorem dX2_checkValue_15 : decode cX2_checkValue 15 = .ok (.aload_n 0, 1) := by decide +kernel
theorem dX2_checkValue_16 : decode cX2_checkValue 16 = .ok (.iload_n 1, 1) := by decide +kernel
theorem dX2_checkValue_17 : decode cX2_checkValue 17 = .ok (.iconst 1, 1) := by decide +kernel
theorem dX2_checkValue_18 : decode cX2_checkValue 18 = .ok (.invokevirtual 75, 3) := by decide +kernel
theorem dX2_checkValue_21 : decode cX2_checkValue 21 = .ok (.ireturn, 1) := by decide +kernel
set_option maxRecDepth 20000 in
theorem ggX2_codewords_X2_rankOfKind : GoodIn wsX2_codewords wsX2_rankOfKind := goodIn_r _ [6, 7, 8, 9, 10, 11, 12, 13, 14, 15, 5, 16, 1, 17, 18, 19, 20, 21, 22, 23, 24, 25, 26, 27, 28, 29, 30, 31, 32, 33, 38, 39, 34, 35, 36, 37] (by decide +kernel) (by decide +kernel)
set_option maxRecDepth 20000 in
theorem gX2_codewords_X2_rankOfKind : GoodIn wsX2_codewords (wsV RX2 72 RX2 yX2_rankOfKind wsX2_rankOfKind) := goodIn_app (goodIn_of _ (by decide +kernel)) ggX2_codewords_X2_rankOfKind
theorem dX2_codewords_0 : decode cX2_codewords 0 = .ok (.iconst 1, 1) := by decide +kernel
theorem dX2_codewords_1 : decode cX2_codewords 1 = .ok (.aload_n 0, 1) := by decide +kernel
theorem dX2_codewords_2 : decode cX2_codewords 2 = .ok (.getfield 12, 3) := by decide +kernel
theorem dX2_codewords_5 : decode cX2_codewords 5 = .ok (.getfield 42, 3) := by decide +kernel
theorem dX2_codewords_8 : decode cX2_codewords 8 = .ok (.aload_n 0, 1) := by decide +kernel
theorem dX2_codewords_9 : decode cX2_codewords 9 = .ok (.iconst 1, 1) := by decide +kernel
theorem dX2_codewords_10 : decode cX2_codewords 10 = .ok (.invokevirtual 72, 3) := by decide +kernel
theorem dX2_codewords_13 : decode cX2_codewords 13 = .ok (.isub, 1) := by decide +kernel
theorem dX2_codewords_14 : decode cX2_codewords 14 = .ok (.ishl, 1) := by decide +kernel
theorem dX2_codewords_15 : decode cX2_codewords 15 = .ok (.ireturn, 1) := by decide +kernel
set_option maxRecDepth 20000 in
theorem ggX2_messages_X2_allPositions : GoodIn wsX2_messages wsX2_allPositions := goodIn_r _ [5, 6, 29, 30, 31, 32, 33, 34, 35, 36, 37] (by decide +kernel) (by decide +kernel)
set_option maxRecDepth 20000 in
theorem gX2_messages_X2_allPositions : GoodIn wsX2_messages (wsV RX2 79 RX2 yX2_allPositions wsX2_allPositions) := goodIn_app (goodIn_of _ (by decide +kernel)) ggX2_messages_X2_allPositions
set_option maxRecDepth 20000 in
theorem ggX2_messages_X2_hiddenBits : GoodIn wsX2_messages wsX2_hiddenBits := goodIn_r _ [10, 11, 12, 13, 14, 15, 16, 17, 18, 19, 4, 20, 6, 21, 22, 23, 24, 25, 26, 27, 28, 29, 30, 31, 32, 33, 38, 39, 34, 35, 36, 37] (by decide +kernel) (by decide +kernel)
set_option maxRecDepth 20000 in
theorem gX2_messages_X2_hiddenBits : GoodIn wsX2_messages (wsV RX2 83 RX2 yX2_hiddenBits wsX2_hiddenBits) := goodIn_app (goodIn_of _ (by decide +kernel)) ggX2_messages_X2_hiddenBits
theorem dX2_messages_0 : decode cX2_messages 0 = .ok (.iconst 1, 1) := by decide +kernel
theorem dX2_messages_1 : decode cX2_messages 1 = .ok (.aload_n 0, 1) := by decide +kernel
theorem dX2_messages_2 : decode cX2_messages 2 = .ok (.aload_n 0, 1) := by decide +kernel
theorem dX2_messages_3 : decode cX2_messages 3 = .ok (.invokevirtual 79, 3) := by decide +kernel
theorem dX2_messages_6 : decode cX2_messages 6 = .ok (.invokevirtual 83, 3) := by decide +kernel
theorem dX2_messages_9 : decode cX2_messages 9 = .ok (.ishl, 1) := by decide +kernel
theorem dX2_messages_10 : decode cX2_messages 10 = .ok (.ireturn, 1) := by decide +kernel
set_option maxRecDepth 20000 in
theorem ggX2_choices_X2_isMessage : GoodIn wsX2_choices wsX2_isMessage := goodIn_r _ [4] (by decide +kernel) (by decide +kernel)
set_option maxRecDepth 20000 in
theorem gX2_choices_X2_isMessage : GoodIn wsX2_choices (va_wsS RX2 86 yX2_isMessage wsX2_isMessage) := goodIn_app (goodIn_of _ (by decide +kernel)) ggX2_choices_X2_isMessage
set_option maxRecDepth 20000 in
theorem ggX2_choices_X2_fail : GoodIn wsX2_choices wsX2_fail := goodIn_r _ [8, 9, 34, 35, 36, 37, 38] (by decide +kernel) (by decide +kernel)
set_option maxRecDepth 20000 in
theorem gX2_choices_X2_fail : GoodIn wsX2_choices (wsV RX2 35 RX2 yX2_fail wsX2_fail) := goodIn_app (goodIn_of _ (by decide +kernel)) ggX2_choices_X2_fail
set_option maxRecDepth 20000 in
theorem ggX2_choices_X2_allPositions : GoodIn wsX2_choices wsX2_allPositions := goodIn_r _ [13, 14, 34, 35, 36, 37, 38, 39, 40, 41, 42] (by decide +kernel) (by decide +kernel)
set_option maxRecDepth 20000 in
theorem gX2_choices_X2_allPositions : GoodIn wsX2_choices (wsV RX2 79 RX2 yX2_allPositions wsX2_allPositions) := goodIn_app (goodIn_of _ (by decide +kernel)) ggX2_choices_X2_allPositions
set_option maxRecDepth 20000 in
theorem ggX2_choices_X2_isCodewordOf : GoodIn wsX2_choices wsX2_isCodewordOf := goodIn_r _ [18, 19, 20, 21, 3, 22, 23, 24, 25, 26, 14, 27, 28, 29, 30, 31, 32, 33, 34, 35, 36, 37, 38, 39, 40, 41, 42] (by decide +kernel) (by decide +kernel)
set_option maxRecDepth 20000 in
theorem gX2_choices_X2_isCodewordOf : GoodIn wsX2_choices (wsV RX2 89 RX2 yX2_isCodewordOf wsX2_isCodewordOf) := goodIn_app (goodIn_of _ (by decide +kernel)) ggX2_choices_X2_isCodewordOf
theorem dX2_choices_0 : decode cX2_choices 0 = .ok (.iload_n 1, 1) := by decide +kernel
theorem dX2_choices_1 : decode cX2_choices 1 = .ok (.invokestatic 86, 3) := by decide +kernel
theorem dX2_choices_4 : decode cX2_choices 4 = .ok (.ifCond .ne 10, 3) := by decide +kernel
theorem dX2_choices_7 : decode cX2_choices 7 = .ok (.aload_n 0, 1) := by decide +kernel
theorem dX2_choices_8 : decode cX2_choices 8 = .ok (.bipush (-2), 2) := by decide +kernel
theorem dX2_choices_10 : decode cX2_choices 10 = .ok (.invokevirtual 35, 3) := by decide +kernel
theorem dX2_choices_13 : decode cX2_choices 13 = .ok (.ireturn, 1) := by decide +kernel
theorem dX2_choices_14 : decode cX2_choices 14 = .ok (.iconst 0, 1) := by decide +kernel
theorem dX2_choices_15 : decode cX2_choices 15 = .ok (.istore_n 2, 1) := by decide +kernel
theorem dX2_choices_16 : decode cX2_choices 16 = .ok (.iconst 0, 1) := by decide +kernel
theorem dX2_choices_17 : decode cX2_choices 17 = .ok (.istore_n 3, 1) := by decide +kernel
theorem dX2_choices_18 : decode cX2_choices 18 = .ok (.iload_n 3, 1) := by decide +kernel
theorem dX2_choices_19 : decode cX2_choices 19 = .ok (.aload_n 0, 1) := by decide +kernel
theorem dX2_choices_20 : decode cX2_choices 20 = .ok (.invokevirtual 79, 3) := by decide +kernel
theorem dX2_choices_23 : decode cX2_choices 23 = .ok (.if_icmp .gt 21, 3) := by decide +kernel
theorem dX2_choices_26 : decode cX2_choices 26 = .ok (.aload_n 0, 1) := by decide +kernel
theorem dX2_choices_27 : decode cX2_choices 27 = .ok (.iload_n 3, 1) := by decide +kernel
theorem dX2_choices_28 : decode cX2_choices 28 = .ok (.iload_n 1, 1) := by decide +kernel
theorem dX2_choices_29 : decode cX2_choices 29 = .ok (.invokevirtual 89, 3) := by decide +kernel
theorem dX2_choices_32 : decode cX2_choices 32 = .ok (.ifCond .eq 6, 3) := by decide +kernel
theorem dX2_choices_35 : decode cX2_choices 35 = .ok (.iinc 2 1, 3) := by decide +kernel
theorem dX2_choices_38 : decode cX2_choices 38 = .ok (.iinc 3 1, 3) := by decide +kernel
theorem dX2_choices_41 : decode cX2_choices 41 = .ok (.goto (-23), 3) := by decide +kernel
theorem dX2_choices_44 : decode cX2_choices 44 = .ok (.iload_n 2, 1) := by decide +kernel
theorem dX2_choices_45 : decode cX2_choices 45 = .ok (.ireturn, 1) := by decide +kernel
set_option maxRecDepth 20000 in
theorem ggX2_encode_X2_isMessage : GoodIn wsX2_encode wsX2_isMessage := goodIn_r _ [4] (by decide +kernel) (by decide +kernel)
set_option maxRecDepth 20000 in
theorem gX2_encode_X2_isMessage : GoodIn wsX2_encode (va_wsS RX2 86 yX2_isMessage wsX2_isMessage) := goodIn_app (goodIn_of _ (by decide +kernel)) ggX2_encode_X2_isMessage
set_option maxRecDepth 20000 in
theorem ggX2_encode_X2_fail : GoodIn wsX2_encode wsX2_fail := goodIn_r _ [8, 9, 34, 35, 36, 37, 38] (by decide +kernel) (by decide +kernel)
set_option maxRecDepth 20000 in
theorem gX2_encode_X2_fail : GoodIn wsX2_encode (wsV RX2 35 RX2 yX2_fail wsX2_fail) := goodIn_app (goodIn_of _ (by decide +kernel)) ggX2_encode_X2_fail
set_option maxRecDepth 20000 in
theorem ggX2_encode_X2_allPositions : GoodIn wsX2_encode wsX2_allPositions := goodIn_r _ [13, 14, 34, 35, 36, 37, 38, 39, 40, 41, 42] (by decide +kernel) (by decide +kernel)
set_option maxRecDepth 20000 in
theorem gX2_encode_X2_allPositions : GoodIn wsX2_encode (wsV RX2 79 RX2 yX2_allPositions wsX2_allPositions) := goodIn_app (goodIn_of _ (by decide +kernel)) ggX2_encode_X2_allPositions
set_option maxRecDepth 20000 in
theorem ggX2_encode_X2_isCodewordOf : GoodIn wsX2_encode wsX2_isCodewordOf := goodIn_r _ [18, 19, 20, 21, 3, 22, 23, 24, 25, 26, 14, 27, 28, 29, 30, 31, 32, 33, 34, 35, 36, 37, 38, 39, 40, 41, 42] (by decide +kernel) (by decide +kernel)
set_option maxRecDepth 20000 in
theorem gX2_encode_X2_isCodewordOf : GoodIn wsX2_encode (wsV RX2 89 RX2 yX2_isCodewordOf wsX2_isCodewordOf) := goodIn_app (goodIn_of _ (by decide +kernel)) ggX2_encode_X2_isCodewordOf
theorem dX2_encode_0 : decode cX2_encode 0 = .ok (.iload_n 1, 1) := by decide +kernel
theorem dX2_encode_1 : decode cX2_encode 1 = .ok (.invokestatic 86, 3) := by decide +kernel
theorem dX2_encode_4 : decode cX2_encode 4 = .ok (.ifCond .eq 7, 3) := by decide +kernel
theorem dX2_encode_7 : decode cX2_encode 7 = .ok (.iload_n 2, 1) := by decide +kernel
theorem dX2_encode_8 : decode cX2_encode 8 = .ok (.ifCond .ge 10, 3) := by decide +kernel
theorem dX2_encode_11 : decode cX2_encode 11 = .ok (.aload_n 0, 1) := by decide +kernel
theorem dX2_encode_12 : decode cX2_encode 12 = .ok (.bipush (-2), 2) := by decide +kernel
theorem dX2_encode_14 : decode cX2_encode 14 = .ok (.invokevirtual 35, 3) := by decide +kernel
theorem dX2_encode_17 : decode cX2_encode 17 = .ok (.ireturn, 1) := by decide +kernel
theorem dX2_encode_18 : decode cX2_encode 18 = .ok (.iconst 0, 1) := by decide +kernel
theorem dX2_encode_19 : decode cX2_encode 19 = .ok (.istore_n 3, 1) := by decide +kernel
theorem dX2_encode_20 : decode cX2_encode 20 = .ok (.iconst 0, 1) := by decide +kernel
theorem dX2_encode_21 : decode cX2_encode 21 = .ok (.istore 4, 2) := by decide +kernel
theorem dX2_encode_23 : decode cX2_encode 23 = .ok (.iload 4, 2) := by decide +kernel
theorem dX2_encode_25 : decode cX2_encode 25 = .ok (.aload_n 0, 1) := by decide +kernel
theorem dX2_encode_26 : decode cX2_encode 26 = .ok (.invokevirtual 79, 3) := by decide +kernel
theorem dX2_encode_29 : decode cX2_encode 29 = .ok (.if_icmp .gt 30, 3) := by decide +kernel
theorem dX2_encode_32 : decode cX2_encode 32 = .ok (.aload_n 0, 1) := by decide +kernel
theorem dX2_encode_33 : decode cX2_encode 33 = .ok (.iload 4, 2) := by decide +kernel
theorem dX2_encode_35 : decode cX2_encode 35 = .ok (.iload_n 1, 1) := by decide +kernel
theorem dX2_encode_36 : decode cX2_encode 36 = .ok (.invokevirtual 89, 3) := by decide +kernel
theorem dX2_encode_39 : decode cX2_encode 39 = .ok (.ifCond .eq 14, 3) := by decide +kernel
theorem dX2_encode_42 : decode cX2_encode 42 = .ok (.iload_n 3, 1) := by decide +kernel
theorem dX2_encode_43 : decode cX2_encode 43 = .ok (.iload_n 2, 1) := by decide +kernel
theorem dX2_encode_44 : decode cX2_encode 44 = .ok (.if_icmp .ne 6, 3) := by decide +kernel
theorem dX2_encode_47 : decode cX2_encode 47 = .ok (.iload 4, 2) := by decide +kernel
theorem dX2_encode_49 : decode cX2_encode 49 = .ok (.ireturn, 1) := by decide +kernel
theorem dX2_encode_50 : decode cX2_encode 50 = .ok (.iinc 3 1, 3) := by decide +kernel
theorem dX2_encode_53 : decode cX2_encode 53 = .ok (.iinc 4 1, 3) := by decide +kernel
theorem dX2_encode_56 : decode cX2_encode 56 = .ok (.goto (-33), 3) := by decide +kernel
theorem dX2_encode_59 : decode cX2_encode 59 = .ok (.aload_n 0, 1) := by decide +kernel
theorem dX2_encode_60 : decode cX2_encode 60 = .ok (.bipush (-3), 2) := by decide +kernel
theorem dX2_encode_62 : decode cX2_encode 62 = .ok (.invokevirtual 35, 3) := by decide +kernel
theorem dX2_encode_65 : decode cX2_encode 65 = .ok (.ireturn, 1) := by decide +kernel
set_option maxRecDepth 20000 in
theorem ggX2_decode_X2_isWord : GoodIn wsX2_decode wsX2_isWord := goodIn_r _ [5, 6, 7, 8, 4, 9, 10, 35, 36, 37, 38, 39, 40, 41, 42, 43] (by decide +kernel) (by decide +kernel)
set_option maxRecDepth 20000 in
theorem gX2_decode_X2_isWord : GoodIn wsX2_decode (wsV RX2 48 RX2 yX2_isWord wsX2_isWord) := goodIn_app (goodIn_of _ (by decide +kernel)) ggX2_decode_X2_isWord
set_option maxRecDepth 20000 in
theorem ggX2_decode_X2_fail : GoodIn wsX2_decode wsX2_fail := goodIn_r _ [14, 15, 35, 36, 37, 38, 39] (by decide +kernel) (by decide +kernel)
set_option maxRecDepth 20000 in
theorem gX2_decode_X2_fail : GoodIn wsX2_decode (wsV RX2 35 RX2 yX2_fail wsX2_fail) := goodIn_app (goodIn_of _ (by decide +kernel)) ggX2_decode_X2_fail
set_option maxRecDepth 20000 in
theorem ggX2_decode_X2_leastDistance : GoodIn wsX2_decode wsX2_leastDistance := goodIn_r _ [19, 20, 21, 22, 23, 24, 25, 26, 6, 7, 8, 4, 9, 10, 27, 28, 29, 30, 31, 32, 33, 34, 35, 36, 37, 38, 39, 40, 41, 42, 43] (by decide +kernel) (by decide +kernel)
set_option maxRecDepth 20000 in
theorem gX2_decode_X2_leastDistance : GoodIn wsX2_decode (wsV RX2 93 RX2 yX2_leastDistance wsX2_leastDistance) := goodIn_app (goodIn_of _ (by decide +kernel)) ggX2_decode_X2_leastDistance
set_option maxRecDepth 20000 in
theorem ggX2_decode_X2_allPositions : GoodIn wsX2_decode wsX2_allPositions := goodIn_r _ [9, 10, 35, 36, 37, 38, 39, 40, 41, 42, 43] (by decide +kernel) (by decide +kernel)
set_option maxRecDepth 20000 in
theorem gX2_decode_X2_allPositions : GoodIn wsX2_decode (wsV RX2 79 RX2 yX2_allPositions wsX2_allPositions) := goodIn_app (goodIn_of _ (by decide +kernel)) ggX2_decode_X2_allPositions
set_option maxRecDepth 20000 in
theorem ggX2_decode_J6_bitCount_0f7a4 : GoodIn wsX2_decode wsJ6_bitCount_0f7a4 := goodIn_r _ [23, 24, 25, 26] (by decide +kernel) (by decide +kernel)
set_option maxRecDepth 20000 in
theorem gX2_decode_J6_bitCount_0f7a4 : GoodIn wsX2_decode (va_wsS RX2 96 yJ6_bitCount_0f7a4 wsJ6_bitCount_0f7a4) := goodIn_app (goodIn_of _ (by decide +kernel)) ggX2_decode_J6_bitCount_0f7a4
set_option maxRecDepth 20000 in
theorem ggX2_decode_X2_isCodeword : GoodIn wsX2_decode wsX2_isCodeword := goodIn_r _ [30, 31, 32, 33, 4, 34, 10, 20, 21, 22, 23, 24, 25, 26, 35, 36, 37, 38, 39, 40, 41, 42, 43] (by decide +kernel) (by decide +kernel)
set_option maxRecDepth 20000 in
theorem gX2_decode_X2_isCodeword : GoodIn wsX2_decode (wsV RX2 101 RX2 yX2_isCodeword wsX2_isCodeword) := goodIn_app (goodIn_of _ (by decide +kernel)) ggX2_decode_X2_isCodeword
set_option maxRecDepth 20000 in
theorem ggX2_decode_X2_syndrome : GoodIn wsX2_decode wsX2_syndrome := goodIn_r _ [34, 10, 20, 21, 22, 23, 24, 25, 26, 35, 36, 37, 38, 39, 40, 41, 42, 43] (by decide +kernel) (by decide +kernel)
set_option maxRecDepth 20000 in
theorem gX2_decode_X2_syndrome : GoodIn wsX2_decode (wsV RX2 75 RX2 yX2_syndrome wsX2_syndrome) := goodIn_app (goodIn_of _ (by decide +kernel)) ggX2_decode_X2_syndrome
theorem dX2_decode_0 : decode cX2_decode 0 = .ok (.aload_n 0, 1) := by decide +kernel
theorem dX2_decode_1 : decode cX2_decode 1 = .ok (.iload_n 1, 1) := by decide +kernel
theorem dX2_decode_2 : decode cX2_decode 2 = .ok (.invokevirtual 48, 3) := by decide +kernel
theorem dX2_decode_5 : decode cX2_decode 5 = .ok (.ifCond .ne 10, 3) := by decide +kernel
theorem dX2_decode_8 : decode cX2_decode 8 = .ok (.aload_n 0, 1) := by decide +kernel
theorem dX2_decode_9 : decode cX2_decode 9 = .ok (.bipush (-2), 2) := by decide +kernel
theorem dX2_decode_11 : decode cX2_decode 11 = .ok (.invokevirtual 35, 3) := by decide +kernel
theorem dX2_decode_14 : decode cX2_decode 14 = .ok (.ireturn, 1) := by decide +kernel
theorem dX2_decode_15 : decode cX2_decode 15 = .ok (.aload_n 0, 1) := by decide +kernel
theorem dX2_decode_16 : decode cX2_decode 16 = .ok (.iload_n 1, 1) := by decide +kernel
theorem dX2_decode_17 : decode cX2_decode 17 = .ok (.invokevirtual 93, 3) := by decide +kernel
theorem dX2_decode_20 : decode cX2_decode 20 = .ok (.istore_n 2, 1) := by decide +kernel
theorem dX2_decode_21 : decode cX2_decode 21 = .ok (.iconst (-1), 1) := by decide +kernel
theorem dX2_decode_22 : decode cX2_decode 22 = .ok (.istore_n 3, 1) := by decide +kernel
theorem dX2_decode_23 : decode cX2_decode 23 = .ok (.iconst 0, 1) := by decide +kernel
theorem dX2_decode_24 : decode cX2_decode 24 = .ok (.istore 4, 2) := by decide +kernel
theorem dX2_decode_26 : decode cX2_decode 26 = .ok (.iload 4, 2) := by decide +kernel
theorem dX2_decode_28 : decode cX2_decode 28 = .ok (.aload_n 0, 1) := by decide +kernel
theorem dX2_decode_29 : decode cX2_decode 29 = .ok (.invokevirtual 79, 3) := by decide +kernel
theorem dX2_decode_32 : decode cX2_decode 32 = .ok (.if_icmp .gt 59, 3) := by decide +kernel
theorem dX2_decode_35 : decode cX2_decode 35 = .ok (.iload 4, 2) := by decide +kernel
theorem dX2_decode_37 : decode cX2_decode 37 = .ok (.iload_n 1, 1) := by decide +kernel
theorem dX2_decode_38 : decode cX2_decode 38 = .ok (.ixor, 1) := by decide +kernel
theorem dX2_decode_39 : decode cX2_decode 39 = .ok (.invokestatic 96, 3) := by decide +kernel
theorem dX2_decode_42 : decode cX2_decode 42 = .ok (.iload_n 2, 1) := by decide +kernel
theorem dX2_decode_43 : decode cX2_decode 43 = .ok (.if_icmp .ne 42, 3) := by decide +kernel
theorem dX2_decode_46 : decode cX2_decode 46 = .ok (.aload_n 0, 1) := by decide +kernel
theorem dX2_decode_47 : decode cX2_decode 47 = .ok (.iload 4, 2) := by decide +kernel
theorem dX2_decode_49 : decode cX2_decode 49 = .ok (.invokevirtual 101, 3) := by decide +kernel
theorem dX2_decode_52 : decode cX2_decode 52 = .ok (.ifCond .eq 33, 3) := by decide +kernel
theorem dX2_decode_55 : decode cX2_decode 55 = .ok (.aload_n 0, 1) := by decide +kernel
theorem dX2_decode_56 : decode cX2_decode 56 = .ok (.iload 4, 2) := by decide +kernel
theorem dX2_decode_58 : decode cX2_decode 58 = .ok (.iconst 0, 1) := by decide +kernel
theorem dX2_decode_59 : decode cX2_decode 59 = .ok (.invokevirtual 75, 3) := by decide +kernel
theorem dX2_decode_62 : decode cX2_decode 62 = .ok (.istore 5, 2) := by decide +kernel
theorem dX2_decode_64 : decode cX2_decode 64 = .ok (.iload_n 3, 1) := by decide +kernel
theorem dX2_decode_65 : decode cX2_decode 65 = .ok (.iconst (-1), 1) := by decide +kernel
theorem dX2_decode_66 : decode cX2_decode 66 = .ok (.if_icmp .eq 16, 3) := by decide +kernel
theorem dX2_decode_69 : decode cX2_decode 69 = .ok (.iload_n 3, 1) := by decide +kernel
theorem dX2_decode_70 : decode cX2_decode 70 = .ok (.iload 5, 2) := by decide +kernel
theorem dX2_decode_72 : decode cX2_decode 72 = .ok (.if_icmp .eq 10, 3) := by decide +kernel
theorem dX2_decode_75 : decode cX2_decode 75 = .ok (.aload_n 0, 1) := by decide +kernel
theorem dX2_decode_76 : decode cX2_decode 76 = .ok (.bipush (-5), 2) := by decide +kernel
theorem dX2_decode_78 : decode cX2_decode 78 = .ok (.invokevirtual 35, 3) := by decide +kernel
theorem dX2_decode_81 : decode cX2_decode 81 = .ok (.ireturn, 1) := by decide +kernel
theorem dX2_decode_82 : decode cX2_decode 82 = .ok (.iload 5, 2) := by decide +kernel
theorem dX2_decode_84 : decode cX2_decode 84 = .ok (.istore_n 3, 1) := by decide +kernel
theorem dX2_decode_85 : decode cX2_decode 85 = .ok (.iinc 4 1, 3) := by decide +kernel
theorem dX2_decode_88 : decode cX2_decode 88 = .ok (.goto (-62), 3) := by decide +kernel
theorem dX2_decode_91 : decode cX2_decode 91 = .ok (.iload_n 3, 1) := by decide +kernel
theorem dX2_decode_92 : decode cX2_decode 92 = .ok (.ireturn, 1) := by decide +kernel
set_option maxRecDepth 20000 in
theorem ggX2_distance_X2_isWord : GoodIn wsX2_distance wsX2_isWord := goodIn_r _ [5, 6, 7, 8, 4, 9, 10, 35, 36, 37, 38, 39, 40, 41, 42, 43] (by decide +kernel) (by decide +kernel)
set_option maxRecDepth 20000 in
theorem gX2_distance_X2_isWord : GoodIn wsX2_distance (wsV RX2 48 RX2 yX2_isWord wsX2_isWord) := goodIn_app (goodIn_of _ (by decide +kernel)) ggX2_distance_X2_isWord
set_option maxRecDepth 20000 in
theorem ggX2_distance_X2_fail : GoodIn wsX2_distance wsX2_fail := goodIn_r _ [14, 15, 35, 36, 37, 38, 39] (by decide +kernel) (by decide +kernel)
set_option maxRecDepth 20000 in
theorem gX2_distance_X2_fail : GoodIn wsX2_distance (wsV RX2 35 RX2 yX2_fail wsX2_fail) := goodIn_app (goodIn_of _ (by decide +kernel)) ggX2_distance_X2_fail
set_option maxRecDepth 20000 in
theorem ggX2_distance_X2_leastDistance : GoodIn wsX2_distance wsX2_leastDistance := goodIn_r _ [19, 20, 21, 22, 23, 24, 25, 26, 6, 7, 8, 4, 9, 10, 27, 28, 29, 30, 31, 32, 33, 34, 35, 36, 37, 38, 39, 40, 41, 42, 43] (by decide +kernel) (by decide +kernel)
set_option maxRecDepth 20000 in
theorem gX2_distance_X2_leastDistance : GoodIn wsX2_distance (wsV RX2 93 RX2 yX2_leastDistance wsX2_leastDistance) := goodIn_app (goodIn_of _ (by decide +kernel)) ggX2_distance_X2_leastDistance
theorem dX2_distance_0 : decode cX2_distance 0 = .ok (.aload_n 0, 1) := by decide +kernel
theorem dX2_distance_1 : decode cX2_distance 1 = .ok (.iload_n 1, 1) := by decide +kernel
theorem dX2_distance_2 : decode cX2_distance 2 = .ok (.invokevirtual 48, 3) := by decide +kernel
theorem dX2_distance_5 : decode cX2_distance 5 = .ok (.ifCond .ne 10, 3) := by decide +kernel
theorem dX2_distance_8 : decode cX2_distance 8 = .ok (.aload_n 0, 1) := by decide +kernel
theorem dX2_distance_9 : decode cX2_distance 9 = .ok (.bipush (-2), 2) := by decide +kernel
theorem dX2_distance_11 : decode cX2_distance 11 = .ok (.invokevirtual 35, 3) := by decide +kernel
theorem dX2_distance_14 : decode cX2_distance 14 = .ok (.ireturn, 1) := by decide +kernel
theorem dX2_distance_15 : decode cX2_distance 15 = .ok (.aload_n 0, 1) := by decide +kernel
theorem dX2_distance_16 : decode cX2_distance 16 = .ok (.iload_n 1, 1) := by decide +kernel
theorem dX2_distance_17 : decode cX2_distance 17 = .ok (.invokevirtual 93, 3) := by decide +kernel
theorem dX2_distance_20 : decode cX2_distance 20 = .ok (.ireturn, 1) := by decide +kernel
set_option maxRecDepth 20000 in
theorem ggX2_weakness_X2_leastFatalErrors : GoodIn wsX2_weakness wsX2_leastFatalErrors := goodIn_r _ [5, 6, 7, 8, 4, 9, 10, 11, 12, 13, 14, 15, 16, 17, 18, 19, 20, 21, 22, 23, 24, 25, 26, 27, 28, 29, 30, 31, 32, 33, 34] (by decide +kernel) (by decide +kernel)
set_option maxRecDepth 20000 in
theorem gX2_weakness_X2_leastFatalErrors : GoodIn wsX2_weakness (wsV RX2 104 RX2 yX2_leastFatalErrors wsX2_leastFatalErrors) := goodIn_app (goodIn_of _ (by decide +kernel)) ggX2_weakness_X2_leastFatalErrors
theorem dX2_weakness_0 : decode cX2_weakness 0 = .ok (.aload_n 0, 1) := by decide +kernel
theorem dX2_weakness_1 : decode cX2_weakness 1 = .ok (.invokevirtual 104, 3) := by decide +kernel
theorem dX2_weakness_4 : decode cX2_weakness 4 = .ok (.ireturn, 1) := by decide +kernel
set_option maxRecDepth 20000 in
theorem ggX2_leakage_X2_isWord : GoodIn wsX2_leakage wsX2_isWord := goodIn_r _ [5, 6, 7, 8, 4, 9, 10, 42, 43, 44, 45, 46, 47, 48, 49, 50] (by decide +kernel) (by decide +kernel)
set_option maxRecDepth 20000 in
theorem gX2_leakage_X2_isWord : GoodIn wsX2_leakage (wsV RX2 48 RX2 yX2_isWord wsX2_isWord) := goodIn_app (goodIn_of _ (by decide +kernel)) ggX2_leakage_X2_isWord
set_option maxRecDepth 20000 in
theorem ggX2_leakage_X2_fail : GoodIn wsX2_leakage wsX2_fail := goodIn_r _ [14, 15, 42, 43, 44, 45, 46] (by decide +kernel) (by decide +kernel)
set_option maxRecDepth 20000 in
theorem gX2_leakage_X2_fail : GoodIn wsX2_leakage (wsV RX2 35 RX2 yX2_fail wsX2_fail) := goodIn_app (goodIn_of _ (by decide +kernel)) ggX2_leakage_X2_fail
set_option maxRecDepth 20000 in
theorem ggX2_leakage_X2_leakedBits : GoodIn wsX2_leakage wsX2_leakedBits := goodIn_r _ [19, 6, 7, 8, 4, 9, 10, 20, 21, 22, 23, 24, 25, 26, 27, 28, 29, 30, 31, 32, 33, 34, 35, 36, 37, 38, 39, 40, 41, 42, 43, 44, 45, 46, 47, 48, 49, 50, 51, 52] (by decide +kernel) (by decide +kernel)
set_option maxRecDepth 20000 in
theorem gX2_leakage_X2_leakedBits : GoodIn wsX2_leakage (wsV RX2 107 RX2 yX2_leakedBits wsX2_leakedBits) := goodIn_app (goodIn_of _ (by decide +kernel)) ggX2_leakage_X2_leakedBits
theorem dX2_leakage_0 : decode cX2_leakage 0 = .ok (.aload_n 0, 1) := by decide +kernel
theorem dX2_leakage_1 : decode cX2_leakage 1 = .ok (.iload_n 1, 1) := by decide +kernel
theorem dX2_leakage_2 : decode cX2_leakage 2 = .ok (.invokevirtual 48, 3) := by decide +kernel
theorem dX2_leakage_5 : decode cX2_leakage 5 = .ok (.ifCond .ne 10, 3) := by decide +kernel
theorem dX2_leakage_8 : decode cX2_leakage 8 = .ok (.aload_n 0, 1) := by decide +kernel
theorem dX2_leakage_9 : decode cX2_leakage 9 = .ok (.bipush (-2), 2) := by decide +kernel
theorem dX2_leakage_11 : decode cX2_leakage 11 = .ok (.invokevirtual 35, 3) := by decide +kernel
theorem dX2_leakage_14 : decode cX2_leakage 14 = .ok (.ireturn, 1) := by decide +kernel
theorem dX2_leakage_15 : decode cX2_leakage 15 = .ok (.aload_n 0, 1) := by decide +kernel
theorem dX2_leakage_16 : decode cX2_leakage 16 = .ok (.iload_n 1, 1) := by decide +kernel
theorem dX2_leakage_17 : decode cX2_leakage 17 = .ok (.invokevirtual 107, 3) := by decide +kernel
theorem dX2_leakage_20 : decode cX2_leakage 20 = .ok (.ireturn, 1) := by decide +kernel
set_option maxRecDepth 20000 in
theorem ggX2_worstLeakage_X2_isSize : GoodIn wsX2_worstLeakage wsX2_isSize := goodIn_r _ [5, 6, 53, 54, 55, 56, 57, 58, 59, 60, 61] (by decide +kernel) (by decide +kernel)
set_option maxRecDepth 20000 in
theorem gX2_worstLeakage_X2_isSize : GoodIn wsX2_worstLeakage (wsV RX2 110 RX2 yX2_isSize wsX2_isSize) := goodIn_app (goodIn_of _ (by decide +kernel)) ggX2_worstLeakage_X2_isSize
set_option maxRecDepth 20000 in
theorem ggX2_worstLeakage_X2_fail : GoodIn wsX2_worstLeakage wsX2_fail := goodIn_r _ [10, 11, 53, 54, 55, 56, 57] (by decide +kernel) (by decide +kernel)
set_option maxRecDepth 20000 in
theorem gX2_worstLeakage_X2_fail : GoodIn wsX2_worstLeakage (wsV RX2 35 RX2 yX2_fail wsX2_fail) := goodIn_app (goodIn_of _ (by decide +kernel)) ggX2_worstLeakage_X2_fail
set_option maxRecDepth 20000 in
theorem ggX2_worstLeakage_X2_leakiestSet : GoodIn wsX2_worstLeakage wsX2_leakiestSet := goodIn_r _ [15, 16, 17, 18, 4, 19, 6, 20, 21, 22, 23, 24, 25, 26, 27, 28, 29, 30, 31, 32, 33, 34, 35, 36, 37, 38, 39, 40, 41, 42, 43, 44, 45, 46, 47, 48, 53, 54, 55, 56, 57, 58, 59, 60, 61, 62, 63] (by decide +kernel) (by decide +kernel)
set_option maxRecDepth 20000 in
theorem gX2_worstLeakage_X2_leakiestSet : GoodIn wsX2_worstLeakage (wsV RX2 113 RX2 yX2_leakiestSet wsX2_leakiestSet) := goodIn_app (goodIn_of _ (by decide +kernel)) ggX2_worstLeakage_X2_leakiestSet
set_option maxRecDepth 20000 in
theorem ggX2_worstLeakage_X2_leakedBits : GoodIn wsX2_worstLeakage wsX2_leakedBits := goodIn_r _ [52, 16, 17, 18, 4, 19, 6, 27, 28, 29, 30, 31, 32, 33, 34, 35, 36, 37, 38, 39, 40, 41, 42, 43, 44, 45, 46, 47, 48, 53, 54, 55, 56, 57, 58, 59, 60, 61, 62, 63] (by decide +kernel) (by decide +kernel)
set_option maxRecDepth 20000 in
theorem gX2_worstLeakage_X2_leakedBits : GoodIn wsX2_worstLeakage (wsV RX2 107 RX2 yX2_leakedBits wsX2_leakedBits) := goodIn_app (goodIn_of _ (by decide +kernel)) ggX2_worstLeakage_X2_leakedBits
theorem dX2_worstLeakage_0 : decode cX2_worstLeakage 0 = .ok (.aload_n 0, 1) := by decide +kernel
theorem dX2_worstLeakage_1 : decode cX2_worstLeakage 1 = .ok (.iload_n 1, 1) := by decide +kernel
theorem dX2_worstLeakage_2 : decode cX2_worstLeakage 2 = .ok (.invokevirtual 110, 3) := by decide +kernel
theorem dX2_worstLeakage_5 : decode cX2_worstLeakage 5 = .ok (.ifCond .ne 10, 3) := by decide +kernel
theorem dX2_worstLeakage_8 : decode cX2_worstLeakage 8 = .ok (.aload_n 0, 1) := by decide +kernel
theorem dX2_worstLeakage_9 : decode cX2_worstLeakage 9 = .ok (.bipush (-2), 2) := by decide +kernel
theorem dX2_worstLeakage_11 : decode cX2_worstLeakage 11 = .ok (.invokevirtual 35, 3) := by decide +kernel
theorem dX2_worstLeakage_14 : decode cX2_worstLeakage 14 = .ok (.ireturn, 1) := by decide +kernel
theorem dX2_worstLeakage_15 : decode cX2_worstLeakage 15 = .ok (.aload_n 0, 1) := by decide +kernel
theorem dX2_worstLeakage_16 : decode cX2_worstLeakage 16 = .ok (.aload_n 0, 1) := by decide +kernel
theorem dX2_worstLeakage_17 : decode cX2_worstLeakage 17 = .ok (.iload_n 1, 1) := by decide +kernel
theorem dX2_worstLeakage_18 : decode cX2_worstLeakage 18 = .ok (.invokevirtual 113, 3) := by decide +kernel
theorem dX2_worstLeakage_21 : decode cX2_worstLeakage 21 = .ok (.invokevirtual 107, 3) := by decide +kernel
theorem dX2_worstLeakage_24 : decode cX2_worstLeakage 24 = .ok (.ireturn, 1) := by decide +kernel
set_option maxRecDepth 20000 in
theorem ggX2_worstSet_X2_isSize : GoodIn wsX2_worstSet wsX2_isSize := goodIn_r _ [5, 6, 49, 50, 51, 52, 53, 54, 55, 56, 57] (by decide +kernel) (by decide +kernel)
set_option maxRecDepth 20000 in
theorem gX2_worstSet_X2_isSize : GoodIn wsX2_worstSet (wsV RX2 110 RX2 yX2_isSize wsX2_isSize) := goodIn_app (goodIn_of _ (by decide +kernel)) ggX2_worstSet_X2_isSize
set_option maxRecDepth 20000 in
theorem ggX2_worstSet_X2_fail : GoodIn wsX2_worstSet wsX2_fail := goodIn_r _ [10, 11, 49, 50, 51, 52, 53] (by decide +kernel) (by decide +kernel)
set_option maxRecDepth 20000 in
theorem gX2_worstSet_X2_fail : GoodIn wsX2_worstSet (wsV RX2 35 RX2 yX2_fail wsX2_fail) := goodIn_app (goodIn_of _ (by decide +kernel)) ggX2_worstSet_X2_fail
set_option maxRecDepth 20000 in
theorem ggX2_worstSet_X2_leakiestSet : GoodIn wsX2_worstSet wsX2_leakiestSet := goodIn_r _ [15, 16, 17, 18, 4, 19, 6, 20, 21, 22, 23, 24, 25, 26, 27, 28, 29, 30, 31, 32, 33, 34, 35, 36, 37, 38, 39, 40, 41, 42, 43, 44, 45, 46, 47, 48, 49, 50, 51, 52, 53, 54, 55, 56, 57, 58, 59] (by decide +kernel) (by decide +kernel)
set_option maxRecDepth 20000 in
theorem gX2_worstSet_X2_leakiestSet : GoodIn wsX2_worstSet (wsV RX2 113 RX2 yX2_leakiestSet wsX2_leakiestSet) := goodIn_app (goodIn_of _ (by decide +kernel)) ggX2_worstSet_X2_leakiestSet
theorem dX2_worstSet_0 : decode cX2_worstSet 0 = .ok (.aload_n 0, 1) := by decide +kernel
theorem dX2_worstSet_1 : decode cX2_worstSet 1 = .ok (.iload_n 1, 1) := by decide +kernel
theorem dX2_worstSet_2 : decode cX2_worstSet 2 = .ok (.invokevirtual 110, 3) := by decide +kernel
theorem dX2_worstSet_5 : decode cX2_worstSet 5 = .ok (.ifCond .ne 10, 3) := by decide +kernel
theorem dX2_worstSet_8 : decode cX2_worstSet 8 = .ok (.aload_n 0, 1) := by decide +kernel
theorem dX2_worstSet_9 : decode cX2_worstSet 9 = .ok (.bipush (-2), 2) := by decide +kernel
theorem dX2_worstSet_11 : decode cX2_worstSet 11 = .ok (.invokevirtual 35, 3) := by decide +kernel
theorem dX2_worstSet_14 : decode cX2_worstSet 14 = .ok (.ireturn, 1) := by decide +kernel
theorem dX2_worstSet_15 : decode cX2_worstSet 15 = .ok (.aload_n 0, 1) := by decide +kernel
theorem dX2_worstSet_16 : decode cX2_worstSet 16 = .ok (.iload_n 1, 1) := by decide +kernel
theorem dX2_worstSet_17 : decode cX2_worstSet 17 = .ok (.invokevirtual 113, 3) := by decide +kernel
end
section
theorem dX2_worstSet_20 : decode cX2_worstSet 20 = .ok (.ireturn, 1) := by decide +kernel
set_option maxRecDepth 20000 in
theorem ggX2_threshold_X2_leastSizeLeaking : GoodIn wsX2_threshold wsX2_leastSizeLeaking := goodIn_r _ [6, 7, 8, 9, 5, 10, 1, 11, 12, 13, 14, 15, 16, 17, 18, 19, 20, 21, 22, 23, 24, 25, 26, 27, 28, 29, 30, 31, 32, 33, 34, 35, 36, 37, 38, 39, 40, 41, 42, 43, 44, 45, 46, 47, 48, 49, 50] (by decide +kernel) (by decide +kernel)
set_option maxRecDepth 20000 in
theorem gX2_threshold_X2_leastSizeLeaking : GoodIn wsX2_threshold (wsV RX2 116 RX2 yX2_leastSizeLeaking wsX2_leastSizeLeaking) := goodIn_app (goodIn_of _ (by decide +kernel)) ggX2_threshold_X2_leastSizeLeaking
theorem dX2_threshold_0 : decode cX2_threshold 0 = .ok (.aload_n 0, 1) := by decide +kernel
theorem dX2_threshold_1 : decode cX2_threshold 1 = .ok (.iconst 1, 1) := by decide +kernel
theorem dX2_threshold_2 : decode cX2_threshold 2 = .ok (.invokevirtual 116, 3) := by decide +kernel
theorem dX2_threshold_5 : decode cX2_threshold 5 = .ok (.istore_n 1, 1) := by decide +kernel
theorem dX2_threshold_6 : decode cX2_threshold 6 = .ok (.iload_n 1, 1) := by decide +kernel
theorem dX2_threshold_7 : decode cX2_threshold 7 = .ok (.iconst (-1), 1) := by decide +kernel
theorem dX2_threshold_8 : decode cX2_threshold 8 = .ok (.if_icmp .ne 13, 3) := by decide +kernel
theorem dX2_threshold_11 : decode cX2_threshold 11 = .ok (.aload_n 0, 1) := by decide +kernel
theorem dX2_threshold_12 : decode cX2_threshold 12 = .ok (.getfield 12, 3) := by decide +kernel
theorem dX2_threshold_15 : decode cX2_threshold 15 = .ok (.getfield 42, 3) := by decide +kernel
theorem dX2_threshold_18 : decode cX2_threshold 18 = .ok (.goto 6, 3) := by decide +kernel
theorem dX2_threshold_21 : decode cX2_threshold 21 = .ok (.iload_n 1, 1) := by decide +kernel
theorem dX2_threshold_22 : decode cX2_threshold 22 = .ok (.iconst 1, 1) := by decide +kernel
theorem dX2_threshold_23 : decode cX2_threshold 23 = .ok (.isub, 1) := by decide +kernel
theorem dX2_threshold_24 : decode cX2_threshold 24 = .ok (.ireturn, 1) := by decide +kernel
set_option maxRecDepth 20000 in
theorem ggX2_leastSize_X2_fail : GoodIn wsX2_leastSize wsX2_fail := goodIn_r _ [5, 6, 45, 46, 47, 48, 49] (by decide +kernel) (by decide +kernel)
set_option maxRecDepth 20000 in
theorem gX2_leastSize_X2_fail : GoodIn wsX2_leastSize (wsV RX2 35 RX2 yX2_fail wsX2_fail) := goodIn_app (goodIn_of _ (by decide +kernel)) ggX2_leastSize_X2_fail
set_option maxRecDepth 20000 in
theorem ggX2_leastSize_X2_leastSizeLeaking : GoodIn wsX2_leastSize wsX2_leastSizeLeaking := goodIn_r _ [10, 11, 12, 13, 4, 14, 15, 16, 17, 18, 19, 20, 21, 22, 23, 24, 25, 26, 27, 28, 29, 30, 31, 32, 33, 34, 35, 36, 37, 38, 39, 40, 41, 42, 43, 44, 45, 46, 47, 48, 49, 50, 51, 52, 53, 54, 55] (by decide +kernel) (by decide +kernel)
set_option maxRecDepth 20000 in
theorem gX2_leastSize_X2_leastSizeLeaking : GoodIn wsX2_leastSize (wsV RX2 116 RX2 yX2_leastSizeLeaking wsX2_leastSizeLeaking) := goodIn_app (goodIn_of _ (by decide +kernel)) ggX2_leastSize_X2_leastSizeLeaking
theorem dX2_leastSize_0 : decode cX2_leastSize 0 = .ok (.iload_n 1, 1) := by decide +kernel
theorem dX2_leastSize_1 : decode cX2_leastSize 1 = .ok (.iconst 1, 1) := by decide +kernel
theorem dX2_leastSize_2 : decode cX2_leastSize 2 = .ok (.if_icmp .lt 9, 3) := by decide +kernel
theorem dX2_leastSize_5 : decode cX2_leastSize 5 = .ok (.iload_n 1, 1) := by decide +kernel
theorem dX2_leastSize_6 : decode cX2_leastSize 6 = .ok (.bipush 6, 2) := by decide +kernel
theorem dX2_leastSize_8 : decode cX2_leastSize 8 = .ok (.if_icmp .le 10, 3) := by decide +kernel
theorem dX2_leastSize_11 : decode cX2_leastSize 11 = .ok (.aload_n 0, 1) := by decide +kernel
theorem dX2_leastSize_12 : decode cX2_leastSize 12 = .ok (.bipush (-2), 2) := by decide +kernel
theorem dX2_leastSize_14 : decode cX2_leastSize 14 = .ok (.invokevirtual 35, 3) := by decide +kernel
theorem dX2_leastSize_17 : decode cX2_leastSize 17 = .ok (.ireturn, 1) := by decide +kernel
theorem dX2_leastSize_18 : decode cX2_leastSize 18 = .ok (.aload_n 0, 1) := by decide +kernel
theorem dX2_leastSize_19 : decode cX2_leastSize 19 = .ok (.iload_n 1, 1) := by decide +kernel
theorem dX2_leastSize_20 : decode cX2_leastSize 20 = .ok (.invokevirtual 116, 3) := by decide +kernel
theorem dX2_leastSize_23 : decode cX2_leastSize 23 = .ok (.ireturn, 1) := by decide +kernel
set_option maxRecDepth 20000 in
theorem ggX2_possibleMessages_X2_isObservation : GoodIn wsX2_possibleMessages wsX2_isObservation := goodIn_r _ [5, 6, 7, 8, 4, 9, 10, 11, 12, 13, 14, 46, 47, 48, 49, 50, 51, 52, 53, 54] (by decide +kernel) (by decide +kernel)
set_option maxRecDepth 20000 in
theorem gX2_possibleMessages_X2_isObservation : GoodIn wsX2_possibleMessages (wsV RX2 119 RX2 yX2_isObservation wsX2_isObservation) := goodIn_app (goodIn_of _ (by decide +kernel)) ggX2_possibleMessages_X2_isObservation
set_option maxRecDepth 20000 in
theorem ggX2_possibleMessages_X2_fail : GoodIn wsX2_possibleMessages wsX2_fail := goodIn_r _ [18, 19, 46, 47, 48, 49, 50] (by decide +kernel) (by decide +kernel)
set_option maxRecDepth 20000 in
theorem gX2_possibleMessages_X2_fail : GoodIn wsX2_possibleMessages (wsV RX2 35 RX2 yX2_fail wsX2_fail) := goodIn_app (goodIn_of _ (by decide +kernel)) ggX2_possibleMessages_X2_fail
set_option maxRecDepth 20000 in
theorem ggX2_possibleMessages_X2_messagesFitting : GoodIn wsX2_possibleMessages wsX2_messagesFitting := goodIn_r _ [23, 10, 11, 12, 4, 13, 14, 24, 25, 26, 27, 28, 29, 30, 31, 32, 33, 34, 35, 36, 37, 38, 46, 47, 48, 49, 50, 51, 52, 53, 54] (by decide +kernel) (by decide +kernel)
set_option maxRecDepth 20000 in
theorem gX2_possibleMessages_X2_messagesFitting : GoodIn wsX2_possibleMessages (wsV RX2 122 RX2 yX2_messagesFitting wsX2_messagesFitting) := goodIn_app (goodIn_of _ (by decide +kernel)) ggX2_possibleMessages_X2_messagesFitting
set_option maxRecDepth 20000 in
theorem ggX2_possibleMessages_J13_bitCount_95d88 : GoodIn wsX2_possibleMessages wsJ13_bitCount_95d88 := goodIn_r _ [42, 43, 44, 45] (by decide +kernel) (by decide +kernel)
set_option maxRecDepth 20000 in
theorem gX2_possibleMessages_J13_bitCount_95d88 : GoodIn wsX2_possibleMessages (va_wsS RX2 126 yJ13_bitCount_95d88 wsJ13_bitCount_95d88) := goodIn_app (goodIn_of _ (by decide +kernel)) ggX2_possibleMessages_J13_bitCount_95d88
theorem dX2_possibleMessages_0 : decode cX2_possibleMessages 0 = .ok (.aload_n 0, 1) := by decide +kernel
theorem dX2_possibleMessages_1 : decode cX2_possibleMessages 1 = .ok (.iload_n 1, 1) := by decide +kernel
theorem dX2_possibleMessages_2 : decode cX2_possibleMessages 2 = .ok (.iload_n 2, 1) := by decide +kernel
theorem dX2_possibleMessages_3 : decode cX2_possibleMessages 3 = .ok (.invokevirtual 119, 3) := by decide +kernel
theorem dX2_possibleMessages_6 : decode cX2_possibleMessages 6 = .ok (.ifCond .ne 10, 3) := by decide +kernel
theorem dX2_possibleMessages_9 : decode cX2_possibleMessages 9 = .ok (.aload_n 0, 1) := by decide +kernel
theorem dX2_possibleMessages_10 : decode cX2_possibleMessages 10 = .ok (.bipush (-2), 2) := by decide +kernel
theorem dX2_possibleMessages_12 : decode cX2_possibleMessages 12 = .ok (.invokevirtual 35, 3) := by decide +kernel
theorem dX2_possibleMessages_15 : decode cX2_possibleMessages 15 = .ok (.ireturn, 1) := by decide +kernel
theorem dX2_possibleMessages_16 : decode cX2_possibleMessages 16 = .ok (.aload_n 0, 1) := by decide +kernel
theorem dX2_possibleMessages_17 : decode cX2_possibleMessages 17 = .ok (.iload_n 1, 1) := by decide +kernel
theorem dX2_possibleMessages_18 : decode cX2_possibleMessages 18 = .ok (.iload_n 2, 1) := by decide +kernel
theorem dX2_possibleMessages_19 : decode cX2_possibleMessages 19 = .ok (.invokevirtual 122, 3) := by decide +kernel
theorem dX2_possibleMessages_22 : decode cX2_possibleMessages 22 = .ok (.invokestatic 126, 3) := by decide +kernel
theorem dX2_possibleMessages_25 : decode cX2_possibleMessages 25 = .ok (.ireturn, 1) := by decide +kernel
set_option maxRecDepth 20000 in
theorem ggX2_possibleMessage_X2_isObservation : GoodIn wsX2_possibleMessage wsX2_isObservation := goodIn_r _ [5, 6, 7, 8, 4, 9, 10, 11, 12, 13, 14, 39, 40, 41, 42, 43, 44, 45, 46, 47] (by decide +kernel) (by decide +kernel)
set_option maxRecDepth 20000 in
theorem gX2_possibleMessage_X2_isObservation : GoodIn wsX2_possibleMessage (wsV RX2 119 RX2 yX2_isObservation wsX2_isObservation) := goodIn_app (goodIn_of _ (by decide +kernel)) ggX2_possibleMessage_X2_isObservation
set_option maxRecDepth 20000 in
theorem ggX2_possibleMessage_X2_fail : GoodIn wsX2_possibleMessage wsX2_fail := goodIn_r _ [18, 19, 39, 40, 41, 42, 43] (by decide +kernel) (by decide +kernel)
set_option maxRecDepth 20000 in
theorem gX2_possibleMessage_X2_fail : GoodIn wsX2_possibleMessage (wsV RX2 35 RX2 yX2_fail wsX2_fail) := goodIn_app (goodIn_of _ (by decide +kernel)) ggX2_possibleMessage_X2_fail
set_option maxRecDepth 20000 in
theorem ggX2_possibleMessage_X2_messagesFitting : GoodIn wsX2_possibleMessage wsX2_messagesFitting := goodIn_r _ [23, 10, 11, 12, 4, 13, 14, 24, 25, 26, 27, 28, 29, 30, 31, 32, 33, 34, 35, 36, 37, 38, 39, 40, 41, 42, 43, 44, 45, 46, 47] (by decide +kernel) (by decide +kernel)
set_option maxRecDepth 20000 in
theorem gX2_possibleMessage_X2_messagesFitting : GoodIn wsX2_possibleMessage (wsV RX2 122 RX2 yX2_messagesFitting wsX2_messagesFitting) := goodIn_app (goodIn_of _ (by decide +kernel)) ggX2_possibleMessage_X2_messagesFitting
theorem dX2_possibleMessage_0 : decode cX2_possibleMessage 0 = .ok (.aload_n 0, 1) := by decide +kernel
theorem dX2_possibleMessage_1 : decode cX2_possibleMessage 1 = .ok (.iload_n 1, 1) := by decide +kernel
theorem dX2_possibleMessage_2 : decode cX2_possibleMessage 2 = .ok (.iload_n 2, 1) := by decide +kernel
theorem dX2_possibleMessage_3 : decode cX2_possibleMessage 3 = .ok (.invokevirtual 119, 3) := by decide +kernel
theorem dX2_possibleMessage_6 : decode cX2_possibleMessage 6 = .ok (.ifCond .eq 7, 3) := by decide +kernel
theorem dX2_possibleMessage_9 : decode cX2_possibleMessage 9 = .ok (.iload_n 3, 1) := by decide +kernel
theorem dX2_possibleMessage_10 : decode cX2_possibleMessage 10 = .ok (.ifCond .ge 10, 3) := by decide +kernel
theorem dX2_possibleMessage_13 : decode cX2_possibleMessage 13 = .ok (.aload_n 0, 1) := by decide +kernel
theorem dX2_possibleMessage_14 : decode cX2_possibleMessage 14 = .ok (.bipush (-2), 2) := by decide +kernel
theorem dX2_possibleMessage_16 : decode cX2_possibleMessage 16 = .ok (.invokevirtual 35, 3) := by decide +kernel
theorem dX2_possibleMessage_19 : decode cX2_possibleMessage 19 = .ok (.ireturn, 1) := by decide +kernel
theorem dX2_possibleMessage_20 : decode cX2_possibleMessage 20 = .ok (.aload_n 0, 1) := by decide +kernel
theorem dX2_possibleMessage_21 : decode cX2_possibleMessage 21 = .ok (.iload_n 1, 1) := by decide +kernel
theorem dX2_possibleMessage_22 : decode cX2_possibleMessage 22 = .ok (.iload_n 2, 1) := by decide +kernel
theorem dX2_possibleMessage_23 : decode cX2_possibleMessage 23 = .ok (.invokevirtual 122, 3) := by decide +kernel
theorem dX2_possibleMessage_26 : decode cX2_possibleMessage 26 = .ok (.lstore 4, 2) := by decide +kernel
theorem dX2_possibleMessage_28 : decode cX2_possibleMessage 28 = .ok (.iconst 0, 1) := by decide +kernel
theorem dX2_possibleMessage_29 : decode cX2_possibleMessage 29 = .ok (.istore 6, 2) := by decide +kernel
theorem dX2_possibleMessage_31 : decode cX2_possibleMessage 31 = .ok (.iconst 0, 1) := by decide +kernel
theorem dX2_possibleMessage_32 : decode cX2_possibleMessage 32 = .ok (.istore 7, 2) := by decide +kernel
theorem dX2_possibleMessage_34 : decode cX2_possibleMessage 34 = .ok (.iload 7, 2) := by decide +kernel
theorem dX2_possibleMessage_36 : decode cX2_possibleMessage 36 = .ok (.bipush 64, 2) := by decide +kernel
theorem dX2_possibleMessage_38 : decode cX2_possibleMessage 38 = .ok (.if_icmp .ge 33, 3) := by decide +kernel
theorem dX2_possibleMessage_41 : decode cX2_possibleMessage 41 = .ok (.lload 4, 2) := by decide +kernel
theorem dX2_possibleMessage_43 : decode cX2_possibleMessage 43 = .ok (.iload 7, 2) := by decide +kernel
theorem dX2_possibleMessage_45 : decode cX2_possibleMessage 45 = .ok (.lushr, 1) := by decide +kernel
theorem dX2_possibleMessage_46 : decode cX2_possibleMessage 46 = .ok (.lconst 1, 1) := by decide +kernel
theorem dX2_possibleMessage_47 : decode cX2_possibleMessage 47 = .ok (.land, 1) := by decide +kernel
theorem dX2_possibleMessage_48 : decode cX2_possibleMessage 48 = .ok (.lconst 0, 1) := by decide +kernel
theorem dX2_possibleMessage_49 : decode cX2_possibleMessage 49 = .ok (.lcmp, 1) := by decide +kernel
theorem dX2_possibleMessage_50 : decode cX2_possibleMessage 50 = .ok (.ifCond .eq 15, 3) := by decide +kernel
theorem dX2_possibleMessage_53 : decode cX2_possibleMessage 53 = .ok (.iload 6, 2) := by decide +kernel
theorem dX2_possibleMessage_55 : decode cX2_possibleMessage 55 = .ok (.iload_n 3, 1) := by decide +kernel
theorem dX2_possibleMessage_56 : decode cX2_possibleMessage 56 = .ok (.if_icmp .ne 6, 3) := by decide +kernel
theorem dX2_possibleMessage_59 : decode cX2_possibleMessage 59 = .ok (.iload 7, 2) := by decide +kernel
theorem dX2_possibleMessage_61 : decode cX2_possibleMessage 61 = .ok (.ireturn, 1) := by decide +kernel
theorem dX2_possibleMessage_62 : decode cX2_possibleMessage 62 = .ok (.iinc 6 1, 3) := by decide +kernel
theorem dX2_possibleMessage_65 : decode cX2_possibleMessage 65 = .ok (.iinc 7 1, 3) := by decide +kernel
theorem dX2_possibleMessage_68 : decode cX2_possibleMessage 68 = .ok (.goto (-34), 3) := by decide +kernel
theorem dX2_possibleMessage_71 : decode cX2_possibleMessage 71 = .ok (.aload_n 0, 1) := by decide +kernel
theorem dX2_possibleMessage_72 : decode cX2_possibleMessage 72 = .ok (.bipush (-3), 2) := by decide +kernel
theorem dX2_possibleMessage_74 : decode cX2_possibleMessage 74 = .ok (.invokevirtual 35, 3) := by decide +kernel
theorem dX2_possibleMessage_77 : decode cX2_possibleMessage 77 = .ok (.ireturn, 1) := by decide +kernel
set_option maxRecDepth 20000 in
theorem ggX2_knownCombinations_X2_isWord : GoodIn wsX2_knownCombinations wsX2_isWord := goodIn_r _ [5, 6, 7, 8, 4, 9, 10, 42, 43, 44, 45, 46, 47, 48, 49, 50] (by decide +kernel) (by decide +kernel)
set_option maxRecDepth 20000 in
theorem gX2_knownCombinations_X2_isWord : GoodIn wsX2_knownCombinations (wsV RX2 48 RX2 yX2_isWord wsX2_isWord) := goodIn_app (goodIn_of _ (by decide +kernel)) ggX2_knownCombinations_X2_isWord
set_option maxRecDepth 20000 in
theorem ggX2_knownCombinations_X2_fail : GoodIn wsX2_knownCombinations wsX2_fail := goodIn_r _ [14, 15, 42, 43, 44, 45, 46] (by decide +kernel) (by decide +kernel)
set_option maxRecDepth 20000 in
theorem gX2_knownCombinations_X2_fail : GoodIn wsX2_knownCombinations (wsV RX2 35 RX2 yX2_fail wsX2_fail) := goodIn_app (goodIn_of _ (by decide +kernel)) ggX2_knownCombinations_X2_fail
set_option maxRecDepth 20000 in
theorem ggX2_knownCombinations_X2_allPositions : GoodIn wsX2_knownCombinations wsX2_allPositions := goodIn_r _ [9, 10, 42, 43, 44, 45, 46, 47, 48, 49, 50] (by decide +kernel) (by decide +kernel)
set_option maxRecDepth 20000 in
theorem gX2_knownCombinations_X2_allPositions : GoodIn wsX2_knownCombinations (wsV RX2 79 RX2 yX2_allPositions wsX2_allPositions) := goodIn_app (goodIn_of _ (by decide +kernel)) ggX2_knownCombinations_X2_allPositions
set_option maxRecDepth 20000 in
theorem ggX2_knownCombinations_X2_hiddenBits : GoodIn wsX2_knownCombinations wsX2_hiddenBits := goodIn_r _ [19, 20, 21, 22, 23, 24, 25, 26, 27, 28, 4, 29, 10, 30, 31, 32, 33, 34, 35, 36, 37, 42, 43, 44, 45, 46, 51, 52, 47, 48, 49, 50] (by decide +kernel) (by decide +kernel)
set_option maxRecDepth 20000 in
theorem gX2_knownCombinations_X2_hiddenBits : GoodIn wsX2_knownCombinations (wsV RX2 83 RX2 yX2_hiddenBits wsX2_hiddenBits) := goodIn_app (goodIn_of _ (by decide +kernel)) ggX2_knownCombinations_X2_hiddenBits
set_option maxRecDepth 20000 in
theorem ggX2_knownCombinations_X2_messageRows : GoodIn wsX2_knownCombinations wsX2_messageRows := goodIn_r _ [41, 10, 42, 43, 44, 45, 46, 47, 48, 49, 50] (by decide +kernel) (by decide +kernel)
set_option maxRecDepth 20000 in
theorem gX2_knownCombinations_X2_messageRows : GoodIn wsX2_knownCombinations (wsV RX2 131 RX2 yX2_messageRows wsX2_messageRows) := goodIn_app (goodIn_of _ (by decide +kernel)) ggX2_knownCombinations_X2_messageRows
theorem dX2_knownCombinations_0 : decode cX2_knownCombinations 0 = .ok (.aload_n 0, 1) := by decide +kernel
theorem dX2_knownCombinations_1 : decode cX2_knownCombinations 1 = .ok (.iload_n 1, 1) := by decide +kernel
theorem dX2_knownCombinations_2 : decode cX2_knownCombinations 2 = .ok (.invokevirtual 48, 3) := by decide +kernel
theorem dX2_knownCombinations_5 : decode cX2_knownCombinations 5 = .ok (.ifCond .ne 10, 3) := by decide +kernel
theorem dX2_knownCombinations_8 : decode cX2_knownCombinations 8 = .ok (.aload_n 0, 1) := by decide +kernel
theorem dX2_knownCombinations_9 : decode cX2_knownCombinations 9 = .ok (.bipush (-2), 2) := by decide +kernel
theorem dX2_knownCombinations_11 : decode cX2_knownCombinations 11 = .ok (.invokevirtual 35, 3) := by decide +kernel
theorem dX2_knownCombinations_14 : decode cX2_knownCombinations 14 = .ok (.ireturn, 1) := by decide +kernel
theorem dX2_knownCombinations_15 : decode cX2_knownCombinations 15 = .ok (.aload_n 0, 1) := by decide +kernel
theorem dX2_knownCombinations_16 : decode cX2_knownCombinations 16 = .ok (.aload_n 0, 1) := by decide +kernel
theorem dX2_knownCombinations_17 : decode cX2_knownCombinations 17 = .ok (.invokevirtual 79, 3) := by decide +kernel
theorem dX2_knownCombinations_20 : decode cX2_knownCombinations 20 = .ok (.iload_n 1, 1) := by decide +kernel
theorem dX2_knownCombinations_21 : decode cX2_knownCombinations 21 = .ok (.iconst (-1), 1) := by decide +kernel
theorem dX2_knownCombinations_22 : decode cX2_knownCombinations 22 = .ok (.ixor, 1) := by decide +kernel
theorem dX2_knownCombinations_23 : decode cX2_knownCombinations 23 = .ok (.iand, 1) := by decide +kernel
theorem dX2_knownCombinations_24 : decode cX2_knownCombinations 24 = .ok (.invokevirtual 83, 3) := by decide +kernel
theorem dX2_knownCombinations_27 : decode cX2_knownCombinations 27 = .ok (.istore_n 2, 1) := by decide +kernel
theorem dX2_knownCombinations_28 : decode cX2_knownCombinations 28 = .ok (.iconst 1, 1) := by decide +kernel
theorem dX2_knownCombinations_29 : decode cX2_knownCombinations 29 = .ok (.aload_n 0, 1) := by decide +kernel
theorem dX2_knownCombinations_30 : decode cX2_knownCombinations 30 = .ok (.invokevirtual 131, 3) := by decide +kernel
theorem dX2_knownCombinations_33 : decode cX2_knownCombinations 33 = .ok (.iload_n 2, 1) := by decide +kernel
theorem dX2_knownCombinations_34 : decode cX2_knownCombinations 34 = .ok (.isub, 1) := by decide +kernel
theorem dX2_knownCombinations_35 : decode cX2_knownCombinations 35 = .ok (.ishl, 1) := by decide +kernel
theorem dX2_knownCombinations_36 : decode cX2_knownCombinations 36 = .ok (.iconst 1, 1) := by decide +kernel
theorem dX2_knownCombinations_37 : decode cX2_knownCombinations 37 = .ok (.isub, 1) := by decide +kernel
theorem dX2_knownCombinations_38 : decode cX2_knownCombinations 38 = .ok (.ireturn, 1) := by decide +kernel
set_option maxRecDepth 20000 in
theorem ggX2_undo_X2_fail : GoodIn wsX2_undo wsX2_fail := goodIn_r _ [8, 9, 18, 19, 20, 21, 22] (by decide +kernel) (by decide +kernel)
set_option maxRecDepth 20000 in
theorem gX2_undo_X2_fail : GoodIn wsX2_undo (wsV RX2 35 RX2 yX2_fail wsX2_fail) := goodIn_app (goodIn_of _ (by decide +kernel)) ggX2_undo_X2_fail
set_option maxRecDepth 20000 in
theorem ggX2_undo_X1_copyFrom : GoodIn wsX2_undo wsX1_copyFrom := goodIn_r _ [13, 14, 15, 16, 17, 23, 24, 25, 26] (by decide +kernel) (by decide +kernel)
set_option maxRecDepth 20000 in
theorem gX2_undo_X1_copyFrom_n134 : GoodIn wsX2_undo (wsX1_copyFrom) := ggX2_undo_X1_copyFrom
theorem dX2_undo_0 : decode cX2_undo 0 = .ok (.aload_n 0, 1) := by decide +kernel
theorem dX2_undo_1 : decode cX2_undo 1 = .ok (.getfield 20, 3) := by decide +kernel
theorem dX2_undo_4 : decode cX2_undo 4 = .ok (.ifCond .gt 10, 3) := by decide +kernel
theorem dX2_undo_7 : decode cX2_undo 7 = .ok (.aload_n 0, 1) := by decide +kernel
theorem dX2_undo_8 : decode cX2_undo 8 = .ok (.bipush (-6), 2) := by decide +kernel
theorem dX2_undo_10 : decode cX2_undo 10 = .ok (.invokevirtual 35, 3) := by decide +kernel
theorem dX2_undo_13 : decode cX2_undo 13 = .ok (.ireturn, 1) := by decide +kernel
theorem dX2_undo_14 : decode cX2_undo 14 = .ok (.aload_n 0, 1) := by decide +kernel
theorem dX2_undo_15 : decode cX2_undo 15 = .ok (.dup, 1) := by decide +kernel
theorem dX2_undo_16 : decode cX2_undo 16 = .ok (.getfield 20, 3) := by decide +kernel
theorem dX2_undo_19 : decode cX2_undo 19 = .ok (.iconst 1, 1) := by decide +kernel
theorem dX2_undo_20 : decode cX2_undo 20 = .ok (.isub, 1) := by decide +kernel
theorem dX2_undo_21 : decode cX2_undo 21 = .ok (.putfield 20, 3) := by decide +kernel
theorem dX2_undo_24 : decode cX2_undo 24 = .ok (.aload_n 0, 1) := by decide +kernel
theorem dX2_undo_25 : decode cX2_undo 25 = .ok (.getfield 12, 3) := by decide +kernel
theorem dX2_undo_28 : decode cX2_undo 28 = .ok (.aload_n 0, 1) := by decide +kernel
theorem dX2_undo_29 : decode cX2_undo 29 = .ok (.getfield 16, 3) := by decide +kernel
theorem dX2_undo_32 : decode cX2_undo 32 = .ok (.aload_n 0, 1) := by decide +kernel
theorem dX2_undo_33 : decode cX2_undo 33 = .ok (.getfield 20, 3) := by decide +kernel
theorem dX2_undo_36 : decode cX2_undo 36 = .ok (.aaload, 1) := by decide +kernel
theorem dX2_undo_37 : decode cX2_undo 37 = .ok (.invokevirtual 134, 3) := by decide +kernel
theorem dX2_undo_40 : decode cX2_undo 40 = .ok (.aload_n 0, 1) := by decide +kernel
theorem dX2_undo_41 : decode cX2_undo 41 = .ok (.getfield 20, 3) := by decide +kernel
theorem dX2_undo_44 : decode cX2_undo 44 = .ok (.ireturn, 1) := by decide +kernel
set_option maxRecDepth 20000 in
theorem ggX2_errorCount_X2_fail : GoodIn wsX2_errorCount wsX2_fail := goodIn_r _ [6, 1, 7, 8, 9, 10, 11] (by decide +kernel) (by decide +kernel)
set_option maxRecDepth 20000 in
theorem gX2_errorCount_X2_fail : GoodIn wsX2_errorCount (wsV RX2 35 RX2 yX2_fail wsX2_fail) := goodIn_app (goodIn_of _ (by decide +kernel)) ggX2_errorCount_X2_fail
theorem dX2_errorCount_0 : decode cX2_errorCount 0 = .ok (.iload_n 1, 1) := by decide +kernel
theorem dX2_errorCount_1 : decode cX2_errorCount 1 = .ok (.bipush (-6), 2) := by decide +kernel
theorem dX2_errorCount_3 : decode cX2_errorCount 3 = .ok (.if_icmp .lt 9, 3) := by decide +kernel
theorem dX2_errorCount_6 : decode cX2_errorCount 6 = .ok (.iload_n 1, 1) := by decide +kernel
theorem dX2_errorCount_7 : decode cX2_errorCount 7 = .ok (.bipush (-2), 2) := by decide +kernel
theorem dX2_errorCount_9 : decode cX2_errorCount 9 = .ok (.if_icmp .le 10, 3) := by decide +kernel
theorem dX2_errorCount_12 : decode cX2_errorCount 12 = .ok (.aload_n 0, 1) := by decide +kernel
theorem dX2_errorCount_13 : decode cX2_errorCount 13 = .ok (.bipush (-2), 2) := by decide +kernel
theorem dX2_errorCount_15 : decode cX2_errorCount 15 = .ok (.invokevirtual 35, 3) := by decide +kernel
theorem dX2_errorCount_18 : decode cX2_errorCount 18 = .ok (.ireturn, 1) := by decide +kernel
theorem dX2_errorCount_19 : decode cX2_errorCount 19 = .ok (.aload_n 0, 1) := by decide +kernel
theorem dX2_errorCount_20 : decode cX2_errorCount 20 = .ok (.getfield 24, 3) := by decide +kernel
theorem dX2_errorCount_23 : decode cX2_errorCount 23 = .ok (.bipush (-2), 2) := by decide +kernel
theorem dX2_errorCount_25 : decode cX2_errorCount 25 = .ok (.iload_n 1, 1) := by decide +kernel
theorem dX2_errorCount_26 : decode cX2_errorCount 26 = .ok (.isub, 1) := by decide +kernel
theorem dX2_errorCount_27 : decode cX2_errorCount 27 = .ok (.iaload, 1) := by decide +kernel
theorem dX2_errorCount_28 : decode cX2_errorCount 28 = .ok (.ireturn, 1) := by decide +kernel
set_option maxRecDepth 20000 in
theorem ggX2_digest_X2_mix : GoodIn wsX2_digest wsX2_mix := goodIn_r _ [8, 9] (by decide +kernel) (by decide +kernel)
set_option maxRecDepth 20000 in
theorem gX2_digest_X2_mix : GoodIn wsX2_digest (va_wsS RX2 140 yX2_mix wsX2_mix) := goodIn_app (goodIn_of _ (by decide +kernel)) ggX2_digest_X2_mix
set_option maxRecDepth 20000 in
theorem ggX2_digest_X2_rankOfKind : GoodIn wsX2_digest wsX2_rankOfKind := goodIn_r _ [13, 14, 15, 16, 17, 18, 19, 20, 21, 22, 7, 23, 3, 24, 25, 26, 27, 28, 29, 30, 31, 32, 33, 34, 35, 87, 88, 89, 90, 91, 96, 97, 92, 93, 94, 95] (by decide +kernel) (by decide +kernel)
set_option maxRecDepth 20000 in
theorem gX2_digest_X2_rankOfKind : GoodIn wsX2_digest (wsV RX2 72 RX2 yX2_rankOfKind wsX2_rankOfKind) := goodIn_app (goodIn_of _ (by decide +kernel)) ggX2_digest_X2_rankOfKind
set_option maxRecDepth 20000 in
theorem ggX2_digest_X2_codewords : GoodIn wsX2_digest wsX2_codewords := goodIn_r _ [39, 3, 10, 11, 12, 7, 13, 14, 15, 16, 17, 18, 19, 20, 21, 22, 23, 24, 25, 26, 27, 28, 29, 30, 31, 32, 33, 34, 35, 87, 88, 89, 90, 91, 92, 93, 94, 95, 96, 97] (by decide +kernel) (by decide +kernel)
set_option maxRecDepth 20000 in
theorem gX2_digest_X2_codewords : GoodIn wsX2_digest (wsV RX2 144 RX2 yX2_codewords wsX2_codewords) := goodIn_app (goodIn_of _ (by decide +kernel)) ggX2_digest_X2_codewords
set_option maxRecDepth 20000 in
theorem ggX2_digest_X2_messages : GoodIn wsX2_digest wsX2_messages := goodIn_r _ [43, 20, 21, 22, 7, 23, 3, 44, 45, 46, 47, 14, 15, 16, 17, 18, 19, 24, 25, 26, 27, 28, 29, 30, 31, 32, 33, 34, 35, 87, 88, 89, 90, 91, 92, 93, 94, 95, 96, 97] (by decide +kernel) (by decide +kernel)
set_option maxRecDepth 20000 in
theorem gX2_digest_X2_messages : GoodIn wsX2_digest (wsV RX2 147 RX2 yX2_messages wsX2_messages) := goodIn_app (goodIn_of _ (by decide +kernel)) ggX2_digest_X2_messages
set_option maxRecDepth 20000 in
theorem ggX2_digest_X2_threshold : GoodIn wsX2_digest wsX2_threshold := goodIn_r _ [51, 3, 52, 53, 54, 7, 55, 20, 21, 22, 23, 44, 45, 46, 47, 14, 15, 16, 17, 18, 19, 24, 25, 26, 27, 28, 29, 30, 31, 32, 33, 34, 35, 56, 57, 58, 59, 60, 61, 62, 87, 88, 89, 90, 91, 92, 93, 94, 95, 96, 97] (by decide +kernel) (by decide +kernel)
set_option maxRecDepth 20000 in
theorem gX2_digest_X2_threshold : GoodIn wsX2_digest (wsV RX2 150 RX2 yX2_threshold wsX2_threshold) := goodIn_app (goodIn_of _ (by decide +kernel)) ggX2_digest_X2_threshold
set_option maxRecDepth 20000 in
theorem ggX2_digest_X2_weakness : GoodIn wsX2_digest wsX2_weakness := goodIn_r _ [66, 67, 68, 69, 7, 70, 20, 21, 22, 23, 3, 56, 57, 58, 59, 60, 61, 62, 71, 72, 73, 74, 75, 76, 77, 78, 87, 88, 89, 90, 91, 92, 93, 94, 95] (by decide +kernel) (by decide +kernel)
set_option maxRecDepth 20000 in
theorem gX2_digest_X2_weakness : GoodIn wsX2_digest (wsV RX2 153 RX2 yX2_weakness wsX2_weakness) := goodIn_app (goodIn_of _ (by decide +kernel)) ggX2_digest_X2_weakness
set_option maxRecDepth 20000 in
theorem ggX2_digest_X2_leakiestSet : GoodIn wsX2_digest wsX2_leakiestSet := goodIn_r _ [82, 20, 21, 22, 7, 23, 3, 56, 57, 58, 59, 60, 61, 62, 44, 45, 46, 47, 14, 15, 16, 17, 18, 19, 24, 25, 26, 27, 28, 29, 30, 31, 32, 33, 34, 35, 87, 88, 89, 90, 91, 92, 93, 94, 95, 96, 97] (by decide +kernel) (by decide +kernel)
set_option maxRecDepth 20000 in
theorem gX2_digest_X2_leakiestSet : GoodIn wsX2_digest (wsV RX2 113 RX2 yX2_leakiestSet wsX2_leakiestSet) := goodIn_app (goodIn_of _ (by decide +kernel)) ggX2_digest_X2_leakiestSet
set_option maxRecDepth 20000 in
theorem ggX2_digest_X2_leakedBits : GoodIn wsX2_digest wsX2_leakedBits := goodIn_r _ [86, 20, 21, 22, 7, 23, 3, 44, 45, 46, 47, 14, 15, 16, 17, 18, 19, 24, 25, 26, 27, 28, 29, 30, 31, 32, 33, 34, 35, 87, 88, 89, 90, 91, 92, 93, 94, 95, 96, 97] (by decide +kernel) (by decide +kernel)
set_option maxRecDepth 20000 in
theorem gX2_digest_X2_leakedBits : GoodIn wsX2_digest (wsV RX2 107 RX2 yX2_leakedBits wsX2_leakedBits) := goodIn_app (goodIn_of _ (by decide +kernel)) ggX2_digest_X2_leakedBits
theorem dX2_digest_0 : decode cX2_digest 0 = .ok (.ldc2_w 138, 3) := by decide +kernel
theorem dX2_digest_3 : decode cX2_digest 3 = .ok (.lstore_n 1, 1) := by decide +kernel
theorem dX2_digest_4 : decode cX2_digest 4 = .ok (.iconst 0, 1) := by decide +kernel
theorem dX2_digest_5 : decode cX2_digest 5 = .ok (.istore_n 3, 1) := by decide +kernel
theorem dX2_digest_6 : decode cX2_digest 6 = .ok (.iload_n 3, 1) := by decide +kernel
theorem dX2_digest_7 : decode cX2_digest 7 = .ok (.iconst 5, 1) := by decide +kernel
theorem dX2_digest_8 : decode cX2_digest 8 = .ok (.if_icmp .ge 20, 3) := by decide +kernel
theorem dX2_digest_11 : decode cX2_digest 11 = .ok (.lload_n 1, 1) := by decide +kernel
theorem dX2_digest_12 : decode cX2_digest 12 = .ok (.aload_n 0, 1) := by decide +kernel
theorem dX2_digest_13 : decode cX2_digest 13 = .ok (.getfield 24, 3) := by decide +kernel
theorem dX2_digest_16 : decode cX2_digest 16 = .ok (.iload_n 3, 1) := by decide +kernel
theorem dX2_digest_17 : decode cX2_digest 17 = .ok (.iaload, 1) := by decide +kernel
theorem dX2_digest_18 : decode cX2_digest 18 = .ok (.invokestatic 140, 3) := by decide +kernel
theorem dX2_digest_21 : decode cX2_digest 21 = .ok (.lstore_n 1, 1) := by decide +kernel
theorem dX2_digest_22 : decode cX2_digest 22 = .ok (.iinc 3 1, 3) := by decide +kernel
theorem dX2_digest_25 : decode cX2_digest 25 = .ok (.goto (-19), 3) := by decide +kernel
theorem dX2_digest_28 : decode cX2_digest 28 = .ok (.lload_n 1, 1) := by decide +kernel
theorem dX2_digest_29 : decode cX2_digest 29 = .ok (.aload_n 0, 1) := by decide +kernel
theorem dX2_digest_30 : decode cX2_digest 30 = .ok (.getfield 12, 3) := by decide +kernel
theorem dX2_digest_33 : decode cX2_digest 33 = .ok (.getfield 42, 3) := by decide +kernel
theorem dX2_digest_36 : decode cX2_digest 36 = .ok (.invokestatic 140, 3) := by decide +kernel
theorem dX2_digest_39 : decode cX2_digest 39 = .ok (.lstore_n 1, 1) := by decide +kernel
theorem dX2_digest_40 : decode cX2_digest 40 = .ok (.lload_n 1, 1) := by decide +kernel
theorem dX2_digest_41 : decode cX2_digest 41 = .ok (.aload_n 0, 1) := by decide +kernel
theorem dX2_digest_42 : decode cX2_digest 42 = .ok (.getfield 12, 3) := by decide +kernel
theorem dX2_digest_45 : decode cX2_digest 45 = .ok (.getfield 45, 3) := by decide +kernel
theorem dX2_digest_48 : decode cX2_digest 48 = .ok (.invokestatic 140, 3) := by decide +kernel
theorem dX2_digest_51 : decode cX2_digest 51 = .ok (.lstore_n 1, 1) := by decide +kernel
theorem dX2_digest_52 : decode cX2_digest 52 = .ok (.iconst 0, 1) := by decide +kernel
theorem dX2_digest_53 : decode cX2_digest 53 = .ok (.istore_n 3, 1) := by decide +kernel
theorem dX2_digest_54 : decode cX2_digest 54 = .ok (.iload_n 3, 1) := by decide +kernel
theorem dX2_digest_55 : decode cX2_digest 55 = .ok (.aload_n 0, 1) := by decide +kernel
theorem dX2_digest_56 : decode cX2_digest 56 = .ok (.getfield 12, 3) := by decide +kernel
theorem dX2_digest_59 : decode cX2_digest 59 = .ok (.getfield 45, 3) := by decide +kernel
theorem dX2_digest_62 : decode cX2_digest 62 = .ok (.if_icmp .ge 45, 3) := by decide +kernel
theorem dX2_digest_65 : decode cX2_digest 65 = .ok (.lload_n 1, 1) := by decide +kernel
theorem dX2_digest_66 : decode cX2_digest 66 = .ok (.aload_n 0, 1) := by decide +kernel
theorem dX2_digest_67 : decode cX2_digest 67 = .ok (.getfield 12, 3) := by decide +kernel
theorem dX2_digest_70 : decode cX2_digest 70 = .ok (.getfield 59, 3) := by decide +kernel
theorem dX2_digest_73 : decode cX2_digest 73 = .ok (.iload_n 3, 1) := by decide +kernel
theorem dX2_digest_74 : decode cX2_digest 74 = .ok (.iaload, 1) := by decide +kernel
theorem dX2_digest_75 : decode cX2_digest 75 = .ok (.invokestatic 140, 3) := by decide +kernel
theorem dX2_digest_78 : decode cX2_digest 78 = .ok (.lstore_n 1, 1) := by decide +kernel
theorem dX2_digest_79 : decode cX2_digest 79 = .ok (.lload_n 1, 1) := by decide +kernel
theorem dX2_digest_80 : decode cX2_digest 80 = .ok (.aload_n 0, 1) := by decide +kernel
theorem dX2_digest_81 : decode cX2_digest 81 = .ok (.getfield 12, 3) := by decide +kernel
theorem dX2_digest_84 : decode cX2_digest 84 = .ok (.getfield 62, 3) := by decide +kernel
theorem dX2_digest_87 : decode cX2_digest 87 = .ok (.iload_n 3, 1) := by decide +kernel
theorem dX2_digest_88 : decode cX2_digest 88 = .ok (.baload, 1) := by decide +kernel
theorem dX2_digest_89 : decode cX2_digest 89 = .ok (.ifCond .eq 7, 3) := by decide +kernel
theorem dX2_digest_92 : decode cX2_digest 92 = .ok (.iconst 1, 1) := by decide +kernel
theorem dX2_digest_93 : decode cX2_digest 93 = .ok (.goto 4, 3) := by decide +kernel
theorem dX2_digest_96 : decode cX2_digest 96 = .ok (.iconst 0, 1) := by decide +kernel
theorem dX2_digest_97 : decode cX2_digest 97 = .ok (.invokestatic 140, 3) := by decide +kernel
theorem dX2_digest_100 : decode cX2_digest 100 = .ok (.lstore_n 1, 1) := by decide +kernel
theorem dX2_digest_101 : decode cX2_digest 101 = .ok (.iinc 3 1, 3) := by decide +kernel
theorem dX2_digest_104 : decode cX2_digest 104 = .ok (.goto (-50), 3) := by decide +kernel
theorem dX2_digest_107 : decode cX2_digest 107 = .ok (.iconst 0, 1) := by decide +kernel
theorem dX2_digest_108 : decode cX2_digest 108 = .ok (.istore_n 3, 1) := by decide +kernel
theorem dX2_digest_109 : decode cX2_digest 109 = .ok (.iload_n 3, 1) := by decide +kernel
theorem dX2_digest_110 : decode cX2_digest 110 = .ok (.iconst 2, 1) := by decide +kernel
theorem dX2_digest_111 : decode cX2_digest 111 = .ok (.if_icmp .gt 19, 3) := by decide +kernel
theorem dX2_digest_114 : decode cX2_digest 114 = .ok (.lload_n 1, 1) := by decide +kernel
theorem dX2_digest_115 : decode cX2_digest 115 = .ok (.aload_n 0, 1) := by decide +kernel
theorem dX2_digest_116 : decode cX2_digest 116 = .ok (.iload_n 3, 1) := by decide +kernel
theorem dX2_digest_117 : decode cX2_digest 117 = .ok (.invokevirtual 72, 3) := by decide +kernel
theorem dX2_digest_120 : decode cX2_digest 120 = .ok (.invokestatic 140, 3) := by decide +kernel
theorem dX2_digest_123 : decode cX2_digest 123 = .ok (.lstore_n 1, 1) := by decide +kernel
theorem dX2_digest_124 : decode cX2_digest 124 = .ok (.iinc 3 1, 3) := by decide +kernel
theorem dX2_digest_127 : decode cX2_digest 127 = .ok (.goto (-18), 3) := by decide +kernel
theorem dX2_digest_130 : decode cX2_digest 130 = .ok (.lload_n 1, 1) := by decide +kernel
theorem dX2_digest_131 : decode cX2_digest 131 = .ok (.aload_n 0, 1) := by decide +kernel
theorem dX2_digest_132 : decode cX2_digest 132 = .ok (.invokevirtual 144, 3) := by decide +kernel
theorem dX2_digest_135 : decode cX2_digest 135 = .ok (.invokestatic 140, 3) := by decide +kernel
theorem dX2_digest_138 : decode cX2_digest 138 = .ok (.lstore_n 1, 1) := by decide +kernel
theorem dX2_digest_139 : decode cX2_digest 139 = .ok (.lload_n 1, 1) := by decide +kernel
theorem dX2_digest_140 : decode cX2_digest 140 = .ok (.aload_n 0, 1) := by decide +kernel
theorem dX2_digest_141 : decode cX2_digest 141 = .ok (.invokevirtual 147, 3) := by decide +kernel
theorem dX2_digest_144 : decode cX2_digest 144 = .ok (.invokestatic 140, 3) := by decide +kernel
theorem dX2_digest_147 : decode cX2_digest 147 = .ok (.lstore_n 1, 1) := by decide +kernel
theorem dX2_digest_148 : decode cX2_digest 148 = .ok (.lload_n 1, 1) := by decide +kernel
theorem dX2_digest_149 : decode cX2_digest 149 = .ok (.aload_n 0, 1) := by decide +kernel
theorem dX2_digest_150 : decode cX2_digest 150 = .ok (.invokevirtual 150, 3) := by decide +kernel
theorem dX2_digest_153 : decode cX2_digest 153 = .ok (.invokestatic 140, 3) := by decide +kernel
theorem dX2_digest_156 : decode cX2_digest 156 = .ok (.lstore_n 1, 1) := by decide +kernel
theorem dX2_digest_157 : decode cX2_digest 157 = .ok (.lload_n 1, 1) := by decide +kernel
theorem dX2_digest_158 : decode cX2_digest 158 = .ok (.aload_n 0, 1) := by decide +kernel
theorem dX2_digest_159 : decode cX2_digest 159 = .ok (.invokevirtual 153, 3) := by decide +kernel
theorem dX2_digest_162 : decode cX2_digest 162 = .ok (.invokestatic 140, 3) := by decide +kernel
theorem dX2_digest_165 : decode cX2_digest 165 = .ok (.lstore_n 1, 1) := by decide +kernel
theorem dX2_digest_166 : decode cX2_digest 166 = .ok (.iconst 0, 1) := by decide +kernel
theorem dX2_digest_167 : decode cX2_digest 167 = .ok (.istore_n 3, 1) := by decide +kernel
theorem dX2_digest_168 : decode cX2_digest 168 = .ok (.iload_n 3, 1) := by decide +kernel
theorem dX2_digest_169 : decode cX2_digest 169 = .ok (.aload_n 0, 1) := by decide +kernel
theorem dX2_digest_170 : decode cX2_digest 170 = .ok (.getfield 12, 3) := by decide +kernel
theorem dX2_digest_173 : decode cX2_digest 173 = .ok (.getfield 42, 3) := by decide +kernel
theorem dX2_digest_176 : decode cX2_digest 176 = .ok (.if_icmp .gt 34, 3) := by decide +kernel
theorem dX2_digest_179 : decode cX2_digest 179 = .ok (.aload_n 0, 1) := by decide +kernel
theorem dX2_digest_180 : decode cX2_digest 180 = .ok (.iload_n 3, 1) := by decide +kernel
theorem dX2_digest_181 : decode cX2_digest 181 = .ok (.invokevirtual 113, 3) := by decide +kernel
theorem dX2_digest_184 : decode cX2_digest 184 = .ok (.istore 4, 2) := by decide +kernel
theorem dX2_digest_186 : decode cX2_digest 186 = .ok (.lload_n 1, 1) := by decide +kernel
theorem dX2_digest_187 : decode cX2_digest 187 = .ok (.aload_n 0, 1) := by decide +kernel
theorem dX2_digest_188 : decode cX2_digest 188 = .ok (.iload 4, 2) := by decide +kernel
theorem dX2_digest_190 : decode cX2_digest 190 = .ok (.invokevirtual 107, 3) := by decide +kernel
theorem dX2_digest_193 : decode cX2_digest 193 = .ok (.invokestatic 140, 3) := by decide +kernel
theorem dX2_digest_196 : decode cX2_digest 196 = .ok (.lstore_n 1, 1) := by decide +kernel
theorem dX2_digest_197 : decode cX2_digest 197 = .ok (.lload_n 1, 1) := by decide +kernel
theorem dX2_digest_198 : decode cX2_digest 198 = .ok (.iload 4, 2) := by decide +kernel
theorem dX2_digest_200 : decode cX2_digest 200 = .ok (.invokestatic 140, 3) := by decide +kernel
theorem dX2_digest_203 : decode cX2_digest 203 = .ok (.lstore_n 1, 1) := by decide +kernel
theorem dX2_digest_204 : decode cX2_digest 204 = .ok (.iinc 3 1, 3) := by decide +kernel
theorem dX2_digest_207 : decode cX2_digest 207 = .ok (.goto (-39), 3) := by decide +kernel
theorem dX2_digest_210 : decode cX2_digest 210 = .ok (.lload_n 1, 1) := by decide +kernel
theorem dX2_digest_211 : decode cX2_digest 211 = .ok (.aload_n 0, 1) := by decide +kernel
theorem dX2_digest_212 : decode cX2_digest 212 = .ok (.getfield 20, 3) := by decide +kernel
theorem dX2_digest_215 : decode cX2_digest 215 = .ok (.invokestatic 140, 3) := by decide +kernel
theorem dX2_digest_218 : decode cX2_digest 218 = .ok (.lreturn, 1) := by decide +kernel
theorem dX2_mix_0 : decode cX2_mix 0 = .ok (.ldc2_w 156, 3) := by decide +kernel
theorem dX2_mix_3 : decode cX2_mix 3 = .ok (.lload_n 0, 1) := by decide +kernel
theorem dX2_mix_4 : decode cX2_mix 4 = .ok (.lmul, 1) := by decide +kernel
theorem dX2_mix_5 : decode cX2_mix 5 = .ok (.iload_n 2, 1) := by decide +kernel
theorem dX2_mix_6 : decode cX2_mix 6 = .ok (.i2l, 1) := by decide +kernel
theorem dX2_mix_7 : decode cX2_mix 7 = .ok (.ladd, 1) := by decide +kernel
theorem dX2_mix_8 : decode cX2_mix 8 = .ok (.lreturn, 1) := by decide +kernel
theorem dX2_fail_0 : decode cX2_fail 0 = .ok (.bipush (-2), 2) := by decide +kernel
theorem dX2_fail_2 : decode cX2_fail 2 = .ok (.iload_n 1, 1) := by decide +kernel
theorem dX2_fail_3 : decode cX2_fail 3 = .ok (.isub, 1) := by decide +kernel
theorem dX2_fail_4 : decode cX2_fail 4 = .ok (.istore_n 2, 1) := by decide +kernel
theorem dX2_fail_5 : decode cX2_fail 5 = .ok (.iload_n 2, 1) := by decide +kernel
theorem dX2_fail_6 : decode cX2_fail 6 = .ok (.ifCond .lt 18, 3) := by decide +kernel
theorem dX2_fail_9 : decode cX2_fail 9 = .ok (.iload_n 2, 1) := by decide +kernel
theorem dX2_fail_10 : decode cX2_fail 10 = .ok (.iconst 5, 1) := by decide +kernel
theorem dX2_fail_11 : decode cX2_fail 11 = .ok (.if_icmp .ge 13, 3) := by decide +kernel
theorem dX2_fail_14 : decode cX2_fail 14 = .ok (.aload_n 0, 1) := by decide +kernel
theorem dX2_fail_15 : decode cX2_fail 15 = .ok (.getfield 24, 3) := by decide +kernel
theorem dX2_fail_18 : decode cX2_fail 18 = .ok (.iload_n 2, 1) := by decide +kernel
theorem dX2_fail_19 : decode cX2_fail 19 = .ok (.dup2, 1) := by decide +kernel
theorem dX2_fail_20 : decode cX2_fail 20 = .ok (.iaload, 1) := by decide +kernel
theorem dX2_fail_21 : decode cX2_fail 21 = .ok (.iconst 1, 1) := by decide +kernel
theorem dX2_fail_22 : decode cX2_fail 22 = .ok (.iadd, 1) := by decide +kernel
theorem dX2_fail_23 : decode cX2_fail 23 = .ok (.iastore, 1) := by decide +kernel
theorem dX2_fail_24 : decode cX2_fail 24 = .ok (.iload_n 1, 1) := by decide +kernel
theorem dX2_fail_25 : decode cX2_fail 25 = .ok (.ireturn, 1) := by decide +kernel
set_option maxRecDepth 20000 in
theorem ggX2_saveState_X2_dropOldest : GoodIn wsX2_saveState wsX2_dropOldest := goodIn_r _ [8, 2, 1, 17, 18, 19, 20, 21] (by decide +kernel) (by decide +kernel)
set_option maxRecDepth 20000 in
theorem gX2_saveState_X2_dropOldest : GoodIn wsX2_saveState (wsV RX2 158 RX2 yX2_dropOldest wsX2_dropOldest) := goodIn_app (goodIn_of _ (by decide +kernel)) ggX2_saveState_X2_dropOldest
set_option maxRecDepth 20000 in
theorem ggX2_saveState_X1_copyFrom : GoodIn wsX2_saveState wsX1_copyFrom := goodIn_r _ [12, 13, 14, 15, 16, 22, 23, 24, 25] (by decide +kernel) (by decide +kernel)
set_option maxRecDepth 20000 in
theorem gX2_saveState_X1_copyFrom_n134 : GoodIn wsX2_saveState (wsX1_copyFrom) := ggX2_saveState_X1_copyFrom
theorem dX2_saveState_0 : decode cX2_saveState 0 = .ok (.aload_n 0, 1) := by decide +kernel
theorem dX2_saveState_1 : decode cX2_saveState 1 = .ok (.getfield 20, 3) := by decide +kernel
theorem dX2_saveState_4 : decode cX2_saveState 4 = .ok (.iconst 4, 1) := by decide +kernel
theorem dX2_saveState_5 : decode cX2_saveState 5 = .ok (.if_icmp .lt 7, 3) := by decide +kernel
theorem dX2_saveState_8 : decode cX2_saveState 8 = .ok (.aload_n 0, 1) := by decide +kernel
theorem dX2_saveState_9 : decode cX2_saveState 9 = .ok (.invokevirtual 158, 3) := by decide +kernel
theorem dX2_saveState_12 : decode cX2_saveState 12 = .ok (.aload_n 0, 1) := by decide +kernel
theorem dX2_saveState_13 : decode cX2_saveState 13 = .ok (.getfield 16, 3) := by decide +kernel
theorem dX2_saveState_16 : decode cX2_saveState 16 = .ok (.aload_n 0, 1) := by decide +kernel
theorem dX2_saveState_17 : decode cX2_saveState 17 = .ok (.getfield 20, 3) := by decide +kernel
theorem dX2_saveState_20 : decode cX2_saveState 20 = .ok (.aaload, 1) := by decide +kernel
theorem dX2_saveState_21 : decode cX2_saveState 21 = .ok (.aload_n 0, 1) := by decide +kernel
theorem dX2_saveState_22 : decode cX2_saveState 22 = .ok (.getfield 12, 3) := by decide +kernel
theorem dX2_saveState_25 : decode cX2_saveState 25 = .ok (.invokevirtual 134, 3) := by decide +kernel
theorem dX2_saveState_28 : decode cX2_saveState 28 = .ok (.aload_n 0, 1) := by decide +kernel
theorem dX2_saveState_29 : decode cX2_saveState 29 = .ok (.dup, 1) := by decide +kernel
theorem dX2_saveState_30 : decode cX2_saveState 30 = .ok (.getfield 20, 3) := by decide +kernel
theorem dX2_saveState_33 : decode cX2_saveState 33 = .ok (.iconst 1, 1) := by decide +kernel
theorem dX2_saveState_34 : decode cX2_saveState 34 = .ok (.iadd, 1) := by decide +kernel
theorem dX2_saveState_35 : decode cX2_saveState 35 = .ok (.putfield 20, 3) := by decide +kernel
theorem dX2_saveState_38 : decode cX2_saveState 38 = .ok (.return_, 1) := by decide +kernel
theorem dX2_dropOldest_0 : decode cX2_dropOldest 0 = .ok (.aload_n 0, 1) := by decide +kernel
theorem dX2_dropOldest_1 : decode cX2_dropOldest 1 = .ok (.getfield 16, 3) := by decide +kernel
theorem dX2_dropOldest_4 : decode cX2_dropOldest 4 = .ok (.iconst 0, 1) := by decide +kernel
theorem dX2_dropOldest_5 : decode cX2_dropOldest 5 = .ok (.aaload, 1) := by decide +kernel
theorem dX2_dropOldest_6 : decode cX2_dropOldest 6 = .ok (.astore_n 1, 1) := by decide +kernel
theorem dX2_dropOldest_7 : decode cX2_dropOldest 7 = .ok (.iconst 1, 1) := by decide +kernel
theorem dX2_dropOldest_8 : decode cX2_dropOldest 8 = .ok (.istore_n 2, 1) := by decide +kernel
theorem dX2_dropOldest_9 : decode cX2_dropOldest 9 = .ok (.iload_n 2, 1) := by decide +kernel
theorem dX2_dropOldest_10 : decode cX2_dropOldest 10 = .ok (.iconst 4, 1) := by decide +kernel
theorem dX2_dropOldest_11 : decode cX2_dropOldest 11 = .ok (.if_icmp .ge 23, 3) := by decide +kernel
theorem dX2_dropOldest_14 : decode cX2_dropOldest 14 = .ok (.aload_n 0, 1) := by decide +kernel
theorem dX2_dropOldest_15 : decode cX2_dropOldest 15 = .ok (.getfield 16, 3) := by decide +kernel
theorem dX2_dropOldest_18 : decode cX2_dropOldest 18 = .ok (.iload_n 2, 1) := by decide +kernel
theorem dX2_dropOldest_19 : decode cX2_dropOldest 19 = .ok (.iconst 1, 1) := by decide +kernel
theorem dX2_dropOldest_20 : decode cX2_dropOldest 20 = .ok (.isub, 1) := by decide +kernel
theorem dX2_dropOldest_21 : decode cX2_dropOldest 21 = .ok (.aload_n 0, 1) := by decide +kernel
theorem dX2_dropOldest_22 : decode cX2_dropOldest 22 = .ok (.getfield 16, 3) := by decide +kernel
theorem dX2_dropOldest_25 : decode cX2_dropOldest 25 = .ok (.iload_n 2, 1) := by decide +kernel
theorem dX2_dropOldest_26 : decode cX2_dropOldest 26 = .ok (.aaload, 1) := by decide +kernel
theorem dX2_dropOldest_27 : decode cX2_dropOldest 27 = .ok (.aastore, 1) := by decide +kernel
theorem dX2_dropOldest_28 : decode cX2_dropOldest 28 = .ok (.iinc 2 1, 3) := by decide +kernel
theorem dX2_dropOldest_31 : decode cX2_dropOldest 31 = .ok (.goto (-22), 3) := by decide +kernel
theorem dX2_dropOldest_34 : decode cX2_dropOldest 34 = .ok (.aload_n 0, 1) := by decide +kernel
theorem dX2_dropOldest_35 : decode cX2_dropOldest 35 = .ok (.getfield 16, 3) := by decide +kernel
theorem dX2_dropOldest_38 : decode cX2_dropOldest 38 = .ok (.iconst 3, 1) := by decide +kernel
theorem dX2_dropOldest_39 : decode cX2_dropOldest 39 = .ok (.aload_n 1, 1) := by decide +kernel
theorem dX2_dropOldest_40 : decode cX2_dropOldest 40 = .ok (.aastore, 1) := by decide +kernel
theorem dX2_dropOldest_41 : decode cX2_dropOldest 41 = .ok (.aload_n 0, 1) := by decide +kernel
theorem dX2_dropOldest_42 : decode cX2_dropOldest 42 = .ok (.iconst 3, 1) := by decide +kernel
theorem dX2_dropOldest_43 : decode cX2_dropOldest 43 = .ok (.putfield 20, 3) := by decide +kernel
theorem dX2_dropOldest_46 : decode cX2_dropOldest 46 = .ok (.return_, 1) := by decide +kernel
theorem dX2_allPositions_0 : decode cX2_allPositions 0 = .ok (.iconst 1, 1) := by decide +kernel
theorem dX2_allPositions_1 : decode cX2_allPositions 1 = .ok (.aload_n 0, 1) := by decide +kernel
theorem dX2_allPositions_2 : decode cX2_allPositions 2 = .ok (.getfield 12, 3) := by decide +kernel
theorem dX2_allPositions_5 : decode cX2_allPositions 5 = .ok (.getfield 42, 3) := by decide +kernel
theorem dX2_allPositions_8 : decode cX2_allPositions 8 = .ok (.ishl, 1) := by decide +kernel
theorem dX2_allPositions_9 : decode cX2_allPositions 9 = .ok (.iconst 1, 1) := by decide +kernel
theorem dX2_allPositions_10 : decode cX2_allPositions 10 = .ok (.isub, 1) := by decide +kernel
theorem dX2_allPositions_11 : decode cX2_allPositions 11 = .ok (.ireturn, 1) := by decide +kernel
set_option maxRecDepth 20000 in
theorem ggX2_isWord_X2_allPositions : GoodIn wsX2_isWord wsX2_allPositions := goodIn_r _ [5, 6, 7, 8, 9, 10, 11, 12, 13, 14, 15] (by decide +kernel) (by decide +kernel)
set_option maxRecDepth 20000 in
theorem gX2_isWord_X2_allPositions : GoodIn wsX2_isWord (wsV RX2 79 RX2 yX2_allPositions wsX2_allPositions) := goodIn_app (goodIn_of _ (by decide +kernel)) ggX2_isWord_X2_allPositions
theorem dX2_isWord_0 : decode cX2_isWord 0 = .ok (.iload_n 1, 1) := by decide +kernel
theorem dX2_isWord_1 : decode cX2_isWord 1 = .ok (.ifCond .lt 15, 3) := by decide +kernel
theorem dX2_isWord_4 : decode cX2_isWord 4 = .ok (.iload_n 1, 1) := by decide +kernel
theorem dX2_isWord_5 : decode cX2_isWord 5 = .ok (.aload_n 0, 1) := by decide +kernel
theorem dX2_isWord_6 : decode cX2_isWord 6 = .ok (.invokevirtual 79, 3) := by decide +kernel
theorem dX2_isWord_9 : decode cX2_isWord 9 = .ok (.if_icmp .gt 7, 3) := by decide +kernel
theorem dX2_isWord_12 : decode cX2_isWord 12 = .ok (.iconst 1, 1) := by decide +kernel
theorem dX2_isWord_13 : decode cX2_isWord 13 = .ok (.goto 4, 3) := by decide +kernel
theorem dX2_isWord_16 : decode cX2_isWord 16 = .ok (.iconst 0, 1) := by decide +kernel
theorem dX2_isWord_17 : decode cX2_isWord 17 = .ok (.ireturn, 1) := by decide +kernel
theorem dX2_isRowNumber_0 : decode cX2_isRowNumber 0 = .ok (.iload_n 1, 1) := by decide +kernel
theorem dX2_isRowNumber_1 : decode cX2_isRowNumber 1 = .ok (.ifCond .lt 18, 3) := by decide +kernel
theorem dX2_isRowNumber_4 : decode cX2_isRowNumber 4 = .ok (.iload_n 1, 1) := by decide +kernel
theorem dX2_isRowNumber_5 : decode cX2_isRowNumber 5 = .ok (.aload_n 0, 1) := by decide +kernel
theorem dX2_isRowNumber_6 : decode cX2_isRowNumber 6 = .ok (.getfield 12, 3) := by decide +kernel
theorem dX2_isRowNumber_9 : decode cX2_isRowNumber 9 = .ok (.getfield 45, 3) := by decide +kernel
theorem dX2_isRowNumber_12 : decode cX2_isRowNumber 12 = .ok (.if_icmp .ge 7, 3) := by decide +kernel
theorem dX2_isRowNumber_15 : decode cX2_isRowNumber 15 = .ok (.iconst 1, 1) := by decide +kernel
theorem dX2_isRowNumber_16 : decode cX2_isRowNumber 16 = .ok (.goto 4, 3) := by decide +kernel
theorem dX2_isRowNumber_19 : decode cX2_isRowNumber 19 = .ok (.iconst 0, 1) := by decide +kernel
theorem dX2_isRowNumber_20 : decode cX2_isRowNumber 20 = .ok (.ireturn, 1) := by decide +kernel
theorem dX2_isSize_0 : decode cX2_isSize 0 = .ok (.iload_n 1, 1) := by decide +kernel
theorem dX2_isSize_1 : decode cX2_isSize 1 = .ok (.ifCond .lt 18, 3) := by decide +kernel
theorem dX2_isSize_4 : decode cX2_isSize 4 = .ok (.iload_n 1, 1) := by decide +kernel
theorem dX2_isSize_5 : decode cX2_isSize 5 = .ok (.aload_n 0, 1) := by decide +kernel
theorem dX2_isSize_6 : decode cX2_isSize 6 = .ok (.getfield 12, 3) := by decide +kernel
theorem dX2_isSize_9 : decode cX2_isSize 9 = .ok (.getfield 42, 3) := by decide +kernel
theorem dX2_isSize_12 : decode cX2_isSize 12 = .ok (.if_icmp .gt 7, 3) := by decide +kernel
theorem dX2_isSize_15 : decode cX2_isSize 15 = .ok (.iconst 1, 1) := by decide +kernel
theorem dX2_isSize_16 : decode cX2_isSize 16 = .ok (.goto 4, 3) := by decide +kernel
theorem dX2_isSize_19 : decode cX2_isSize 19 = .ok (.iconst 0, 1) := by decide +kernel
theorem dX2_isSize_20 : decode cX2_isSize 20 = .ok (.ireturn, 1) := by decide +kernel
set_option maxRecDepth 20000 in
theorem ggX2_isObservation_X2_isWord : GoodIn wsX2_isObservation wsX2_isWord := goodIn_r _ [5, 6, 7, 8, 4, 9, 10, 11, 12, 13, 14, 15, 16, 17, 18, 19] (by decide +kernel) (by decide +kernel)
set_option maxRecDepth 20000 in
theorem gX2_isObservation_X2_isWord : GoodIn wsX2_isObservation (wsV RX2 48 RX2 yX2_isWord wsX2_isWord) := goodIn_app (goodIn_of _ (by decide +kernel)) ggX2_isObservation_X2_isWord
theorem dX2_isObservation_0 : decode cX2_isObservation 0 = .ok (.aload_n 0, 1) := by decide +kernel
theorem dX2_isObservation_1 : decode cX2_isObservation 1 = .ok (.iload_n 1, 1) := by decide +kernel
theorem dX2_isObservation_2 : decode cX2_isObservation 2 = .ok (.invokevirtual 48, 3) := by decide +kernel
theorem dX2_isObservation_5 : decode cX2_isObservation 5 = .ok (.ifCond .eq 22, 3) := by decide +kernel
theorem dX2_isObservation_8 : decode cX2_isObservation 8 = .ok (.aload_n 0, 1) := by decide +kernel
theorem dX2_isObservation_9 : decode cX2_isObservation 9 = .ok (.iload_n 2, 1) := by decide +kernel
theorem dX2_isObservation_10 : decode cX2_isObservation 10 = .ok (.invokevirtual 48, 3) := by decide +kernel
theorem dX2_isObservation_13 : decode cX2_isObservation 13 = .ok (.ifCond .eq 14, 3) := by decide +kernel
theorem dX2_isObservation_16 : decode cX2_isObservation 16 = .ok (.iload_n 2, 1) := by decide +kernel
theorem dX2_isObservation_17 : decode cX2_isObservation 17 = .ok (.iload_n 1, 1) := by decide +kernel
theorem dX2_isObservation_18 : decode cX2_isObservation 18 = .ok (.iand, 1) := by decide +kernel
theorem dX2_isObservation_19 : decode cX2_isObservation 19 = .ok (.iload_n 2, 1) := by decide +kernel
theorem dX2_isObservation_20 : decode cX2_isObservation 20 = .ok (.if_icmp .ne 7, 3) := by decide +kernel
theorem dX2_isObservation_23 : decode cX2_isObservation 23 = .ok (.iconst 1, 1) := by decide +kernel
theorem dX2_isObservation_24 : decode cX2_isObservation 24 = .ok (.goto 4, 3) := by decide +kernel
theorem dX2_isObservation_27 : decode cX2_isObservation 27 = .ok (.iconst 0, 1) := by decide +kernel
theorem dX2_isObservation_28 : decode cX2_isObservation 28 = .ok (.ireturn, 1) := by decide +kernel
theorem dX2_isMessage_0 : decode cX2_isMessage 0 = .ok (.iload_n 0, 1) := by decide +kernel
theorem dX2_isMessage_1 : decode cX2_isMessage 1 = .ok (.ifCond .lt 13, 3) := by decide +kernel
theorem dX2_isMessage_4 : decode cX2_isMessage 4 = .ok (.iload_n 0, 1) := by decide +kernel
theorem dX2_isMessage_5 : decode cX2_isMessage 5 = .ok (.bipush 64, 2) := by decide +kernel
theorem dX2_isMessage_7 : decode cX2_isMessage 7 = .ok (.if_icmp .ge 7, 3) := by decide +kernel
theorem dX2_isMessage_10 : decode cX2_isMessage 10 = .ok (.iconst 1, 1) := by decide +kernel
theorem dX2_isMessage_11 : decode cX2_isMessage 11 = .ok (.goto 4, 3) := by decide +kernel
theorem dX2_isMessage_14 : decode cX2_isMessage 14 = .ok (.iconst 0, 1) := by decide +kernel
theorem dX2_isMessage_15 : decode cX2_isMessage 15 = .ok (.ireturn, 1) := by decide +kernel
theorem dX2_messageRows_0 : decode cX2_messageRows 0 = .ok (.iconst 0, 1) := by decide +kernel
theorem dX2_messageRows_1 : decode cX2_messageRows 1 = .ok (.istore_n 1, 1) := by decide +kernel
theorem dX2_messageRows_2 : decode cX2_messageRows 2 = .ok (.iconst 0, 1) := by decide +kernel
theorem dX2_messageRows_3 : decode cX2_messageRows 3 = .ok (.istore_n 2, 1) := by decide +kernel
theorem dX2_messageRows_4 : decode cX2_messageRows 4 = .ok (.iload_n 2, 1) := by decide +kernel
theorem dX2_messageRows_5 : decode cX2_messageRows 5 = .ok (.aload_n 0, 1) := by decide +kernel
theorem dX2_messageRows_6 : decode cX2_messageRows 6 = .ok (.getfield 12, 3) := by decide +kernel
theorem dX2_messageRows_9 : decode cX2_messageRows 9 = .ok (.getfield 45, 3) := by decide +kernel
theorem dX2_messageRows_12 : decode cX2_messageRows 12 = .ok (.if_icmp .ge 24, 3) := by decide +kernel
theorem dX2_messageRows_15 : decode cX2_messageRows 15 = .ok (.aload_n 0, 1) := by decide +kernel
theorem dX2_messageRows_16 : decode cX2_messageRows 16 = .ok (.getfield 12, 3) := by decide +kernel
theorem dX2_messageRows_19 : decode cX2_messageRows 19 = .ok (.getfield 62, 3) := by decide +kernel
theorem dX2_messageRows_22 : decode cX2_messageRows 22 = .ok (.iload_n 2, 1) := by decide +kernel
theorem dX2_messageRows_23 : decode cX2_messageRows 23 = .ok (.baload, 1) := by decide +kernel
theorem dX2_messageRows_24 : decode cX2_messageRows 24 = .ok (.ifCond .ne 6, 3) := by decide +kernel
theorem dX2_messageRows_27 : decode cX2_messageRows 27 = .ok (.iinc 1 1, 3) := by decide +kernel
theorem dX2_messageRows_30 : decode cX2_messageRows 30 = .ok (.iinc 2 1, 3) := by decide +kernel
theorem dX2_messageRows_33 : decode cX2_messageRows 33 = .ok (.goto (-29), 3) := by decide +kernel
theorem dX2_messageRows_36 : decode cX2_messageRows 36 = .ok (.iload_n 1, 1) := by decide +kernel
theorem dX2_messageRows_37 : decode cX2_messageRows 37 = .ok (.ireturn, 1) := by decide +kernel
set_option maxRecDepth 20000 in
theorem ggX2_syndrome_J6_bitCount_0f7a4 : GoodIn wsX2_syndrome wsJ6_bitCount_0f7a4 := goodIn_r _ [5, 6, 7, 8] (by decide +kernel) (by decide +kernel)
set_option maxRecDepth 20000 in
theorem gX2_syndrome_J6_bitCount_0f7a4 : GoodIn wsX2_syndrome (va_wsS RX2 96 yJ6_bitCount_0f7a4 wsJ6_bitCount_0f7a4) := goodIn_app (goodIn_of _ (by decide +kernel)) ggX2_syndrome_J6_bitCount_0f7a4
theorem dX2_syndrome_0 : decode cX2_syndrome 0 = .ok (.iconst 0, 1) := by decide +kernel
theorem dX2_syndrome_1 : decode cX2_syndrome 1 = .ok (.istore_n 3, 1) := by decide +kernel
theorem dX2_syndrome_2 : decode cX2_syndrome 2 = .ok (.iconst 0, 1) := by decide +kernel
theorem dX2_syndrome_3 : decode cX2_syndrome 3 = .ok (.istore 4, 2) := by decide +kernel
theorem dX2_syndrome_5 : decode cX2_syndrome 5 = .ok (.iconst 0, 1) := by decide +kernel
theorem dX2_syndrome_6 : decode cX2_syndrome 6 = .ok (.istore 5, 2) := by decide +kernel
theorem dX2_syndrome_8 : decode cX2_syndrome 8 = .ok (.iload 5, 2) := by decide +kernel
theorem dX2_syndrome_10 : decode cX2_syndrome 10 = .ok (.aload_n 0, 1) := by decide +kernel
theorem dX2_syndrome_11 : decode cX2_syndrome 11 = .ok (.getfield 12, 3) := by decide +kernel
theorem dX2_syndrome_14 : decode cX2_syndrome 14 = .ok (.getfield 45, 3) := by decide +kernel
theorem dX2_syndrome_17 : decode cX2_syndrome 17 = .ok (.if_icmp .ge 49, 3) := by decide +kernel
theorem dX2_syndrome_20 : decode cX2_syndrome 20 = .ok (.aload_n 0, 1) := by decide +kernel
theorem dX2_syndrome_21 : decode cX2_syndrome 21 = .ok (.getfield 12, 3) := by decide +kernel
theorem dX2_syndrome_24 : decode cX2_syndrome 24 = .ok (.getfield 62, 3) := by decide +kernel
theorem dX2_syndrome_27 : decode cX2_syndrome 27 = .ok (.iload 5, 2) := by decide +kernel
theorem dX2_syndrome_29 : decode cX2_syndrome 29 = .ok (.baload, 1) := by decide +kernel
theorem dX2_syndrome_30 : decode cX2_syndrome 30 = .ok (.iload_n 2, 1) := by decide +kernel
theorem dX2_syndrome_31 : decode cX2_syndrome 31 = .ok (.if_icmp .ne 29, 3) := by decide +kernel
theorem dX2_syndrome_34 : decode cX2_syndrome 34 = .ok (.iload_n 3, 1) := by decide +kernel
theorem dX2_syndrome_35 : decode cX2_syndrome 35 = .ok (.aload_n 0, 1) := by decide +kernel
theorem dX2_syndrome_36 : decode cX2_syndrome 36 = .ok (.getfield 12, 3) := by decide +kernel
theorem dX2_syndrome_39 : decode cX2_syndrome 39 = .ok (.getfield 59, 3) := by decide +kernel
theorem dX2_syndrome_42 : decode cX2_syndrome 42 = .ok (.iload 5, 2) := by decide +kernel
theorem dX2_syndrome_44 : decode cX2_syndrome 44 = .ok (.iaload, 1) := by decide +kernel
theorem dX2_syndrome_45 : decode cX2_syndrome 45 = .ok (.iload_n 1, 1) := by decide +kernel
theorem dX2_syndrome_46 : decode cX2_syndrome 46 = .ok (.iand, 1) := by decide +kernel
theorem dX2_syndrome_47 : decode cX2_syndrome 47 = .ok (.invokestatic 96, 3) := by decide +kernel
theorem dX2_syndrome_50 : decode cX2_syndrome 50 = .ok (.iconst 1, 1) := by decide +kernel
theorem dX2_syndrome_51 : decode cX2_syndrome 51 = .ok (.iand, 1) := by decide +kernel
theorem dX2_syndrome_52 : decode cX2_syndrome 52 = .ok (.iload 4, 2) := by decide +kernel
theorem dX2_syndrome_54 : decode cX2_syndrome 54 = .ok (.ishl, 1) := by decide +kernel
theorem dX2_syndrome_55 : decode cX2_syndrome 55 = .ok (.ior, 1) := by decide +kernel
theorem dX2_syndrome_56 : decode cX2_syndrome 56 = .ok (.istore_n 3, 1) := by decide +kernel
theorem dX2_syndrome_57 : decode cX2_syndrome 57 = .ok (.iinc 4 1, 3) := by decide +kernel
theorem dX2_syndrome_60 : decode cX2_syndrome 60 = .ok (.iinc 5 1, 3) := by decide +kernel
theorem dX2_syndrome_63 : decode cX2_syndrome 63 = .ok (.goto (-55), 3) := by decide +kernel
theorem dX2_syndrome_66 : decode cX2_syndrome 66 = .ok (.iload_n 3, 1) := by decide +kernel
theorem dX2_syndrome_67 : decode cX2_syndrome 67 = .ok (.ireturn, 1) := by decide +kernel
set_option maxRecDepth 20000 in
theorem ggX2_isCodeword_X2_syndrome : GoodIn wsX2_isCodeword wsX2_syndrome := goodIn_r _ [5, 6, 7, 8, 9, 10, 11, 12, 13, 14, 15, 16, 17, 18, 19, 20, 21, 22] (by decide +kernel) (by decide +kernel)
set_option maxRecDepth 20000 in
theorem gX2_isCodeword_X2_syndrome : GoodIn wsX2_isCodeword (wsV RX2 75 RX2 yX2_syndrome wsX2_syndrome) := goodIn_app (goodIn_of _ (by decide +kernel)) ggX2_isCodeword_X2_syndrome
theorem dX2_isCodeword_0 : decode cX2_isCodeword 0 = .ok (.aload_n 0, 1) := by decide +kernel
theorem dX2_isCodeword_1 : decode cX2_isCodeword 1 = .ok (.iload_n 1, 1) := by decide +kernel
theorem dX2_isCodeword_2 : decode cX2_isCodeword 2 = .ok (.iconst 1, 1) := by decide +kernel
theorem dX2_isCodeword_3 : decode cX2_isCodeword 3 = .ok (.invokevirtual 75, 3) := by decide +kernel
theorem dX2_isCodeword_6 : decode cX2_isCodeword 6 = .ok (.ifCond .ne 7, 3) := by decide +kernel
theorem dX2_isCodeword_9 : decode cX2_isCodeword 9 = .ok (.iconst 1, 1) := by decide +kernel
theorem dX2_isCodeword_10 : decode cX2_isCodeword 10 = .ok (.goto 4, 3) := by decide +kernel
theorem dX2_isCodeword_13 : decode cX2_isCodeword 13 = .ok (.iconst 0, 1) := by decide +kernel
theorem dX2_isCodeword_14 : decode cX2_isCodeword 14 = .ok (.ireturn, 1) := by decide +kernel
set_option maxRecDepth 20000 in
theorem ggX2_isCodewordOf_X2_isCodeword : GoodIn wsX2_isCodewordOf wsX2_isCodeword := goodIn_r _ [5, 6, 7, 8, 4, 9, 10, 11, 12, 13, 14, 15, 16, 17, 18, 19, 20, 21, 22, 23, 24, 25, 26] (by decide +kernel) (by decide +kernel)
set_option maxRecDepth 20000 in
theorem gX2_isCodewordOf_X2_isCodeword : GoodIn wsX2_isCodewordOf (wsV RX2 101 RX2 yX2_isCodeword wsX2_isCodeword) := goodIn_app (goodIn_of _ (by decide +kernel)) ggX2_isCodewordOf_X2_isCodeword
set_option maxRecDepth 20000 in
theorem ggX2_isCodewordOf_X2_syndrome : GoodIn wsX2_isCodewordOf wsX2_syndrome := goodIn_r _ [9, 10, 11, 12, 13, 14, 15, 16, 17, 18, 19, 20, 21, 22, 23, 24, 25, 26] (by decide +kernel) (by decide +kernel)
set_option maxRecDepth 20000 in
theorem gX2_isCodewordOf_X2_syndrome : GoodIn wsX2_isCodewordOf (wsV RX2 75 RX2 yX2_syndrome wsX2_syndrome) := goodIn_app (goodIn_of _ (by decide +kernel)) ggX2_isCodewordOf_X2_syndrome
theorem dX2_isCodewordOf_0 : decode cX2_isCodewordOf 0 = .ok (.aload_n 0, 1) := by decide +kernel
theorem dX2_isCodewordOf_1 : decode cX2_isCodewordOf 1 = .ok (.iload_n 1, 1) := by decide +kernel
theorem dX2_isCodewordOf_2 : decode cX2_isCodewordOf 2 = .ok (.invokevirtual 101, 3) := by decide +kernel
theorem dX2_isCodewordOf_5 : decode cX2_isCodewordOf 5 = .ok (.ifCond .eq 17, 3) := by decide +kernel
theorem dX2_isCodewordOf_8 : decode cX2_isCodewordOf 8 = .ok (.aload_n 0, 1) := by decide +kernel
theorem dX2_isCodewordOf_9 : decode cX2_isCodewordOf 9 = .ok (.iload_n 1, 1) := by decide +kernel
theorem dX2_isCodewordOf_10 : decode cX2_isCodewordOf 10 = .ok (.iconst 0, 1) := by decide +kernel
theorem dX2_isCodewordOf_11 : decode cX2_isCodewordOf 11 = .ok (.invokevirtual 75, 3) := by decide +kernel
theorem dX2_isCodewordOf_14 : decode cX2_isCodewordOf 14 = .ok (.iload_n 2, 1) := by decide +kernel
theorem dX2_isCodewordOf_15 : decode cX2_isCodewordOf 15 = .ok (.if_icmp .ne 7, 3) := by decide +kernel
theorem dX2_isCodewordOf_18 : decode cX2_isCodewordOf 18 = .ok (.iconst 1, 1) := by decide +kernel
theorem dX2_isCodewordOf_19 : decode cX2_isCodewordOf 19 = .ok (.goto 4, 3) := by decide +kernel
theorem dX2_isCodewordOf_22 : decode cX2_isCodewordOf 22 = .ok (.iconst 0, 1) := by decide +kernel
theorem dX2_isCodewordOf_23 : decode cX2_isCodewordOf 23 = .ok (.ireturn, 1) := by decide +kernel
set_option maxRecDepth 20000 in
theorem ggX2_leastDistance_J6_bitCount_0f7a4 : GoodIn wsX2_leastDistance wsJ6_bitCount_0f7a4 := goodIn_r _ [4, 5, 6, 7] (by decide +kernel) (by decide +kernel)
set_option maxRecDepth 20000 in
theorem gX2_leastDistance_J6_bitCount_0f7a4 : GoodIn wsX2_leastDistance (va_wsS RX2 96 yJ6_bitCount_0f7a4 wsJ6_bitCount_0f7a4) := goodIn_app (goodIn_of _ (by decide +kernel)) ggX2_leastDistance_J6_bitCount_0f7a4
set_option maxRecDepth 20000 in
theorem ggX2_leastDistance_X2_allPositions : GoodIn wsX2_leastDistance wsX2_allPositions := goodIn_r _ [12, 13, 22, 23, 24, 25, 26, 27, 28, 29, 30] (by decide +kernel) (by decide +kernel)
set_option maxRecDepth 20000 in
theorem gX2_leastDistance_X2_allPositions : GoodIn wsX2_leastDistance (wsV RX2 79 RX2 yX2_allPositions wsX2_allPositions) := goodIn_app (goodIn_of _ (by decide +kernel)) ggX2_leastDistance_X2_allPositions
set_option maxRecDepth 20000 in
theorem ggX2_leastDistance_X2_isCodeword : GoodIn wsX2_leastDistance wsX2_isCodeword := goodIn_r _ [17, 18, 19, 20, 11, 21, 13, 1, 2, 3, 4, 5, 6, 7, 22, 23, 24, 25, 26, 27, 28, 29, 30] (by decide +kernel) (by decide +kernel)
set_option maxRecDepth 20000 in
theorem gX2_leastDistance_X2_isCodeword : GoodIn wsX2_leastDistance (wsV RX2 101 RX2 yX2_isCodeword wsX2_isCodeword) := goodIn_app (goodIn_of _ (by decide +kernel)) ggX2_leastDistance_X2_isCodeword
theorem dX2_leastDistance_0 : decode cX2_leastDistance 0 = .ok (.iload_n 1, 1) := by decide +kernel
theorem dX2_leastDistance_1 : decode cX2_leastDistance 1 = .ok (.invokestatic 96, 3) := by decide +kernel
theorem dX2_leastDistance_4 : decode cX2_leastDistance 4 = .ok (.istore_n 2, 1) := by decide +kernel
theorem dX2_leastDistance_5 : decode cX2_leastDistance 5 = .ok (.iconst 0, 1) := by decide +kernel
theorem dX2_leastDistance_6 : decode cX2_leastDistance 6 = .ok (.istore_n 3, 1) := by decide +kernel
theorem dX2_leastDistance_7 : decode cX2_leastDistance 7 = .ok (.iload_n 3, 1) := by decide +kernel
theorem dX2_leastDistance_8 : decode cX2_leastDistance 8 = .ok (.aload_n 0, 1) := by decide +kernel
theorem dX2_leastDistance_9 : decode cX2_leastDistance 9 = .ok (.invokevirtual 79, 3) := by decide +kernel
theorem dX2_leastDistance_12 : decode cX2_leastDistance 12 = .ok (.if_icmp .gt 34, 3) := by decide +kernel
theorem dX2_leastDistance_15 : decode cX2_leastDistance 15 = .ok (.iload_n 3, 1) := by decide +kernel
theorem dX2_leastDistance_16 : decode cX2_leastDistance 16 = .ok (.iload_n 1, 1) := by decide +kernel
theorem dX2_leastDistance_17 : decode cX2_leastDistance 17 = .ok (.ixor, 1) := by decide +kernel
theorem dX2_leastDistance_18 : decode cX2_leastDistance 18 = .ok (.invokestatic 96, 3) := by decide +kernel
theorem dX2_leastDistance_21 : decode cX2_leastDistance 21 = .ok (.istore 4, 2) := by decide +kernel
theorem dX2_leastDistance_23 : decode cX2_leastDistance 23 = .ok (.iload 4, 2) := by decide +kernel
theorem dX2_leastDistance_25 : decode cX2_leastDistance 25 = .ok (.iload_n 2, 1) := by decide +kernel
theorem dX2_leastDistance_26 : decode cX2_leastDistance 26 = .ok (.if_icmp .ge 14, 3) := by decide +kernel
theorem dX2_leastDistance_29 : decode cX2_leastDistance 29 = .ok (.aload_n 0, 1) := by decide +kernel
theorem dX2_leastDistance_30 : decode cX2_leastDistance 30 = .ok (.iload_n 3, 1) := by decide +kernel
theorem dX2_leastDistance_31 : decode cX2_leastDistance 31 = .ok (.invokevirtual 101, 3) := by decide +kernel
theorem dX2_leastDistance_34 : decode cX2_leastDistance 34 = .ok (.ifCond .eq 6, 3) := by decide +kernel
theorem dX2_leastDistance_37 : decode cX2_leastDistance 37 = .ok (.iload 4, 2) := by decide +kernel
theorem dX2_leastDistance_39 : decode cX2_leastDistance 39 = .ok (.istore_n 2, 1) := by decide +kernel
theorem dX2_leastDistance_40 : decode cX2_leastDistance 40 = .ok (.iinc 3 1, 3) := by decide +kernel
theorem dX2_leastDistance_43 : decode cX2_leastDistance 43 = .ok (.goto (-36), 3) := by decide +kernel
theorem dX2_leastDistance_46 : decode cX2_leastDistance 46 = .ok (.iload_n 2, 1) := by decide +kernel
theorem dX2_leastDistance_47 : decode cX2_leastDistance 47 = .ok (.ireturn, 1) := by decide +kernel
set_option maxRecDepth 20000 in
theorem ggX2_leastFatalErrors_X2_allPositions : GoodIn wsX2_leastFatalErrors wsX2_allPositions := goodIn_r _ [5, 6, 22, 23, 24, 25, 26, 27, 28, 29, 30] (by decide +kernel) (by decide +kernel)
set_option maxRecDepth 20000 in
theorem gX2_leastFatalErrors_X2_allPositions : GoodIn wsX2_leastFatalErrors (wsV RX2 79 RX2 yX2_allPositions wsX2_allPositions) := goodIn_app (goodIn_of _ (by decide +kernel)) ggX2_leastFatalErrors_X2_allPositions
set_option maxRecDepth 20000 in
theorem ggX2_leastFatalErrors_J6_bitCount_0f7a4 : GoodIn wsX2_leastFatalErrors wsJ6_bitCount_0f7a4 := goodIn_r _ [10, 11, 12, 13] (by decide +kernel) (by decide +kernel)
set_option maxRecDepth 20000 in
theorem gX2_leastFatalErrors_J6_bitCount_0f7a4 : GoodIn wsX2_leastFatalErrors (va_wsS RX2 96 yJ6_bitCount_0f7a4 wsJ6_bitCount_0f7a4) := goodIn_app (goodIn_of _ (by decide +kernel)) ggX2_leastFatalErrors_J6_bitCount_0f7a4
set_option maxRecDepth 20000 in
theorem ggX2_leastFatalErrors_X2_isCodeword : GoodIn wsX2_leastFatalErrors wsX2_isCodeword := goodIn_r _ [17, 18, 19, 20, 4, 21, 6, 7, 8, 9, 10, 11, 12, 13, 22, 23, 24, 25, 26, 27, 28, 29, 30] (by decide +kernel) (by decide +kernel)
set_option maxRecDepth 20000 in
theorem gX2_leastFatalErrors_X2_isCodeword : GoodIn wsX2_leastFatalErrors (wsV RX2 101 RX2 yX2_isCodeword wsX2_isCodeword) := goodIn_app (goodIn_of _ (by decide +kernel)) ggX2_leastFatalErrors_X2_isCodeword
set_option maxRecDepth 20000 in
theorem ggX2_leastFatalErrors_X2_syndrome : GoodIn wsX2_leastFatalErrors wsX2_syndrome := goodIn_r _ [21, 6, 7, 8, 9, 10, 11, 12, 13, 22, 23, 24, 25, 26, 27, 28, 29, 30] (by decide +kernel) (by decide +kernel)
set_option maxRecDepth 20000 in
theorem gX2_leastFatalErrors_X2_syndrome : GoodIn wsX2_leastFatalErrors (wsV RX2 75 RX2 yX2_syndrome wsX2_syndrome) := goodIn_app (goodIn_of _ (by decide +kernel)) ggX2_leastFatalErrors_X2_syndrome
theorem dX2_leastFatalErrors_0 : decode cX2_leastFatalErrors 0 = .ok (.bipush 9, 2) := by decide +kernel
theorem dX2_leastFatalErrors_2 : decode cX2_leastFatalErrors 2 = .ok (.istore_n 1, 1) := by decide +kernel
theorem dX2_leastFatalErrors_3 : decode cX2_leastFatalErrors 3 = .ok (.iconst 1, 1) := by decide +kernel
theorem dX2_leastFatalErrors_4 : decode cX2_leastFatalErrors 4 = .ok (.istore_n 2, 1) := by decide +kernel
theorem dX2_leastFatalErrors_5 : decode cX2_leastFatalErrors 5 = .ok (.iload_n 2, 1) := by decide +kernel
theorem dX2_leastFatalErrors_6 : decode cX2_leastFatalErrors 6 = .ok (.aload_n 0, 1) := by decide +kernel
theorem dX2_leastFatalErrors_7 : decode cX2_leastFatalErrors 7 = .ok (.invokevirtual 79, 3) := by decide +kernel
theorem dX2_leastFatalErrors_10 : decode cX2_leastFatalErrors 10 = .ok (.if_icmp .gt 38, 3) := by decide +kernel
theorem dX2_leastFatalErrors_13 : decode cX2_leastFatalErrors 13 = .ok (.iload_n 2, 1) := by decide +kernel
theorem dX2_leastFatalErrors_14 : decode cX2_leastFatalErrors 14 = .ok (.invokestatic 96, 3) := by decide +kernel
theorem dX2_leastFatalErrors_17 : decode cX2_leastFatalErrors 17 = .ok (.istore_n 3, 1) := by decide +kernel
theorem dX2_leastFatalErrors_18 : decode cX2_leastFatalErrors 18 = .ok (.iload_n 3, 1) := by decide +kernel
theorem dX2_leastFatalErrors_19 : decode cX2_leastFatalErrors 19 = .ok (.iload_n 1, 1) := by decide +kernel
theorem dX2_leastFatalErrors_20 : decode cX2_leastFatalErrors 20 = .ok (.if_icmp .ge 22, 3) := by decide +kernel
theorem dX2_leastFatalErrors_23 : decode cX2_leastFatalErrors 23 = .ok (.aload_n 0, 1) := by decide +kernel
theorem dX2_leastFatalErrors_24 : decode cX2_leastFatalErrors 24 = .ok (.iload_n 2, 1) := by decide +kernel
theorem dX2_leastFatalErrors_25 : decode cX2_leastFatalErrors 25 = .ok (.invokevirtual 101, 3) := by decide +kernel
theorem dX2_leastFatalErrors_28 : decode cX2_leastFatalErrors 28 = .ok (.ifCond .eq 14, 3) := by decide +kernel
theorem dX2_leastFatalErrors_31 : decode cX2_leastFatalErrors 31 = .ok (.aload_n 0, 1) := by decide +kernel
theorem dX2_leastFatalErrors_32 : decode cX2_leastFatalErrors 32 = .ok (.iload_n 2, 1) := by decide +kernel
theorem dX2_leastFatalErrors_33 : decode cX2_leastFatalErrors 33 = .ok (.iconst 0, 1) := by decide +kernel
theorem dX2_leastFatalErrors_34 : decode cX2_leastFatalErrors 34 = .ok (.invokevirtual 75, 3) := by decide +kernel
theorem dX2_leastFatalErrors_37 : decode cX2_leastFatalErrors 37 = .ok (.ifCond .eq 5, 3) := by decide +kernel
theorem dX2_leastFatalErrors_40 : decode cX2_leastFatalErrors 40 = .ok (.iload_n 3, 1) := by decide +kernel
theorem dX2_leastFatalErrors_41 : decode cX2_leastFatalErrors 41 = .ok (.istore_n 1, 1) := by decide +kernel
theorem dX2_leastFatalErrors_42 : decode cX2_leastFatalErrors 42 = .ok (.iinc 2 1, 3) := by decide +kernel
theorem dX2_leastFatalErrors_45 : decode cX2_leastFatalErrors 45 = .ok (.goto (-40), 3) := by decide +kernel
theorem dX2_leastFatalErrors_48 : decode cX2_leastFatalErrors 48 = .ok (.iload_n 1, 1) := by decide +kernel
theorem dX2_leastFatalErrors_49 : decode cX2_leastFatalErrors 49 = .ok (.bipush 8, 2) := by decide +kernel
theorem dX2_leastFatalErrors_51 : decode cX2_leastFatalErrors 51 = .ok (.if_icmp .le 7, 3) := by decide +kernel
theorem dX2_leastFatalErrors_54 : decode cX2_leastFatalErrors 54 = .ok (.iconst (-1), 1) := by decide +kernel
theorem dX2_leastFatalErrors_55 : decode cX2_leastFatalErrors 55 = .ok (.goto 8, 3) := by decide +kernel
theorem dX2_leastFatalErrors_58 : decode cX2_leastFatalErrors 58 = .ok (.iload_n 1, 1) := by decide +kernel
theorem dX2_leastFatalErrors_59 : decode cX2_leastFatalErrors 59 = .ok (.iconst 1, 1) := by decide +kernel
theorem dX2_leastFatalErrors_60 : decode cX2_leastFatalErrors 60 = .ok (.iadd, 1) := by decide +kernel
theorem dX2_leastFatalErrors_61 : decode cX2_leastFatalErrors 61 = .ok (.iconst 2, 1) := by decide +kernel
theorem dX2_leastFatalErrors_62 : decode cX2_leastFatalErrors 62 = .ok (.idiv, 1) := by decide +kernel
theorem dX2_leastFatalErrors_63 : decode cX2_leastFatalErrors 63 = .ok (.ireturn, 1) := by decide +kernel
set_option maxRecDepth 20000 in
theorem ggX2_rankOfKind_X0_clear : GoodIn wsX2_rankOfKind wsX0_clear := goodIn_r _ [5, 6, 30, 31] (by decide +kernel) (by decide +kernel)
set_option maxRecDepth 20000 in
theorem gX2_rankOfKind_X0_clear_n66 : GoodIn wsX2_rankOfKind (wsX0_clear) := ggX2_rankOfKind_X0_clear
set_option maxRecDepth 20000 in
theorem ggX2_rankOfKind_X2_allPositions : GoodIn wsX2_rankOfKind wsX2_allPositions := goodIn_r _ [11, 12, 25, 26, 27, 28, 29, 32, 33, 34, 35] (by decide +kernel) (by decide +kernel)
set_option maxRecDepth 20000 in
theorem gX2_rankOfKind_X2_allPositions : GoodIn wsX2_rankOfKind (wsV RX2 79 RX2 yX2_allPositions wsX2_allPositions) := goodIn_app (goodIn_of _ (by decide +kernel)) ggX2_rankOfKind_X2_allPositions
set_option maxRecDepth 20000 in
theorem ggX2_rankOfKind_X2_extendBasis : GoodIn wsX2_rankOfKind wsX2_extendBasis := goodIn_r _ [16, 12, 1, 17, 3, 18, 19, 6, 20, 21, 22, 23, 24, 25, 26, 27, 28, 29, 32, 33, 34, 35, 30, 31] (by decide +kernel) (by decide +kernel)
set_option maxRecDepth 20000 in
theorem gX2_rankOfKind_X2_extendBasis : GoodIn wsX2_rankOfKind (wsV RX2 161 RX2 yX2_extendBasis wsX2_extendBasis) := goodIn_app (goodIn_of _ (by decide +kernel)) ggX2_rankOfKind_X2_extendBasis
theorem dX2_rankOfKind_0 : decode cX2_rankOfKind 0 = .ok (.aload_n 0, 1) := by decide +kernel
theorem dX2_rankOfKind_1 : decode cX2_rankOfKind 1 = .ok (.getfield 31, 3) := by decide +kernel
theorem dX2_rankOfKind_4 : decode cX2_rankOfKind 4 = .ok (.invokevirtual 66, 3) := by decide +kernel
theorem dX2_rankOfKind_7 : decode cX2_rankOfKind 7 = .ok (.iconst 0, 1) := by decide +kernel
theorem dX2_rankOfKind_8 : decode cX2_rankOfKind 8 = .ok (.istore_n 2, 1) := by decide +kernel
theorem dX2_rankOfKind_9 : decode cX2_rankOfKind 9 = .ok (.iload_n 1, 1) := by decide +kernel
theorem dX2_rankOfKind_10 : decode cX2_rankOfKind 10 = .ok (.iconst 1, 1) := by decide +kernel
theorem dX2_rankOfKind_11 : decode cX2_rankOfKind 11 = .ok (.if_icmp .eq 15, 3) := by decide +kernel
theorem dX2_rankOfKind_14 : decode cX2_rankOfKind 14 = .ok (.iload_n 2, 1) := by decide +kernel
theorem dX2_rankOfKind_15 : decode cX2_rankOfKind 15 = .ok (.aload_n 0, 1) := by decide +kernel
theorem dX2_rankOfKind_16 : decode cX2_rankOfKind 16 = .ok (.iconst 0, 1) := by decide +kernel
theorem dX2_rankOfKind_17 : decode cX2_rankOfKind 17 = .ok (.aload_n 0, 1) := by decide +kernel
theorem dX2_rankOfKind_18 : decode cX2_rankOfKind 18 = .ok (.invokevirtual 79, 3) := by decide +kernel
theorem dX2_rankOfKind_21 : decode cX2_rankOfKind 21 = .ok (.invokevirtual 161, 3) := by decide +kernel
theorem dX2_rankOfKind_24 : decode cX2_rankOfKind 24 = .ok (.iadd, 1) := by decide +kernel
theorem dX2_rankOfKind_25 : decode cX2_rankOfKind 25 = .ok (.istore_n 2, 1) := by decide +kernel
theorem dX2_rankOfKind_26 : decode cX2_rankOfKind 26 = .ok (.iload_n 1, 1) := by decide +kernel
theorem dX2_rankOfKind_27 : decode cX2_rankOfKind 27 = .ok (.ifCond .eq 15, 3) := by decide +kernel
theorem dX2_rankOfKind_30 : decode cX2_rankOfKind 30 = .ok (.iload_n 2, 1) := by decide +kernel
theorem dX2_rankOfKind_31 : decode cX2_rankOfKind 31 = .ok (.aload_n 0, 1) := by decide +kernel
theorem dX2_rankOfKind_32 : decode cX2_rankOfKind 32 = .ok (.iconst 1, 1) := by decide +kernel
theorem dX2_rankOfKind_33 : decode cX2_rankOfKind 33 = .ok (.aload_n 0, 1) := by decide +kernel
theorem dX2_rankOfKind_34 : decode cX2_rankOfKind 34 = .ok (.invokevirtual 79, 3) := by decide +kernel
theorem dX2_rankOfKind_37 : decode cX2_rankOfKind 37 = .ok (.invokevirtual 161, 3) := by decide +kernel
theorem dX2_rankOfKind_40 : decode cX2_rankOfKind 40 = .ok (.iadd, 1) := by decide +kernel
theorem dX2_rankOfKind_41 : decode cX2_rankOfKind 41 = .ok (.istore_n 2, 1) := by decide +kernel
theorem dX2_rankOfKind_42 : decode cX2_rankOfKind 42 = .ok (.iload_n 2, 1) := by decide +kernel
theorem dX2_rankOfKind_43 : decode cX2_rankOfKind 43 = .ok (.ireturn, 1) := by decide +kernel
set_option maxRecDepth 20000 in
theorem ggX2_extendBasis_X0_extend : GoodIn wsX2_extendBasis wsX0_extend := goodIn_r _ [6, 7, 8, 9, 10, 11, 12, 22, 23] (by decide +kernel) (by decide +kernel)
set_option maxRecDepth 20000 in
theorem gX2_extendBasis_X0_extend_n69 : GoodIn wsX2_extendBasis (wsX0_extend) := ggX2_extendBasis_X0_extend
theorem dX2_extendBasis_0 : decode cX2_extendBasis 0 = .ok (.iconst 0, 1) := by decide +kernel
theorem dX2_extendBasis_1 : decode cX2_extendBasis 1 = .ok (.istore_n 3, 1) := by decide +kernel
theorem dX2_extendBasis_2 : decode cX2_extendBasis 2 = .ok (.iconst 0, 1) := by decide +kernel
theorem dX2_extendBasis_3 : decode cX2_extendBasis 3 = .ok (.istore 4, 2) := by decide +kernel
theorem dX2_extendBasis_5 : decode cX2_extendBasis 5 = .ok (.iload 4, 2) := by decide +kernel
theorem dX2_extendBasis_7 : decode cX2_extendBasis 7 = .ok (.aload_n 0, 1) := by decide +kernel
theorem dX2_extendBasis_8 : decode cX2_extendBasis 8 = .ok (.getfield 12, 3) := by decide +kernel
theorem dX2_extendBasis_11 : decode cX2_extendBasis 11 = .ok (.getfield 45, 3) := by decide +kernel
theorem dX2_extendBasis_14 : decode cX2_extendBasis 14 = .ok (.if_icmp .ge 48, 3) := by decide +kernel
theorem dX2_extendBasis_17 : decode cX2_extendBasis 17 = .ok (.aload_n 0, 1) := by decide +kernel
theorem dX2_extendBasis_18 : decode cX2_extendBasis 18 = .ok (.getfield 12, 3) := by decide +kernel
theorem dX2_extendBasis_21 : decode cX2_extendBasis 21 = .ok (.getfield 62, 3) := by decide +kernel
theorem dX2_extendBasis_24 : decode cX2_extendBasis 24 = .ok (.iload 4, 2) := by decide +kernel
theorem dX2_extendBasis_26 : decode cX2_extendBasis 26 = .ok (.baload, 1) := by decide +kernel
theorem dX2_extendBasis_27 : decode cX2_extendBasis 27 = .ok (.iload_n 1, 1) := by decide +kernel
theorem dX2_extendBasis_28 : decode cX2_extendBasis 28 = .ok (.if_icmp .ne 28, 3) := by decide +kernel
theorem dX2_extendBasis_31 : decode cX2_extendBasis 31 = .ok (.aload_n 0, 1) := by decide +kernel
theorem dX2_extendBasis_32 : decode cX2_extendBasis 32 = .ok (.getfield 31, 3) := by decide +kernel
theorem dX2_extendBasis_35 : decode cX2_extendBasis 35 = .ok (.aload_n 0, 1) := by decide +kernel
theorem dX2_extendBasis_36 : decode cX2_extendBasis 36 = .ok (.getfield 12, 3) := by decide +kernel
theorem dX2_extendBasis_39 : decode cX2_extendBasis 39 = .ok (.getfield 59, 3) := by decide +kernel
theorem dX2_extendBasis_42 : decode cX2_extendBasis 42 = .ok (.iload 4, 2) := by decide +kernel
theorem dX2_extendBasis_44 : decode cX2_extendBasis 44 = .ok (.iaload, 1) := by decide +kernel
theorem dX2_extendBasis_45 : decode cX2_extendBasis 45 = .ok (.iload_n 2, 1) := by decide +kernel
theorem dX2_extendBasis_46 : decode cX2_extendBasis 46 = .ok (.iand, 1) := by decide +kernel
theorem dX2_extendBasis_47 : decode cX2_extendBasis 47 = .ok (.invokevirtual 69, 3) := by decide +kernel
theorem dX2_extendBasis_50 : decode cX2_extendBasis 50 = .ok (.ifCond .eq 6, 3) := by decide +kernel
theorem dX2_extendBasis_53 : decode cX2_extendBasis 53 = .ok (.iinc 3 1, 3) := by decide +kernel
theorem dX2_extendBasis_56 : decode cX2_extendBasis 56 = .ok (.iinc 4 1, 3) := by decide +kernel
end
section
theorem dX2_extendBasis_59 : decode cX2_extendBasis 59 = .ok (.goto (-54), 3) := by decide +kernel
theorem dX2_extendBasis_62 : decode cX2_extendBasis 62 = .ok (.iload_n 3, 1) := by decide +kernel
theorem dX2_extendBasis_63 : decode cX2_extendBasis 63 = .ok (.ireturn, 1) := by decide +kernel
set_option maxRecDepth 20000 in
theorem ggX2_hiddenBits_X0_clear : GoodIn wsX2_hiddenBits wsX0_clear := goodIn_r _ [5, 6, 26, 27] (by decide +kernel) (by decide +kernel)
set_option maxRecDepth 20000 in
theorem gX2_hiddenBits_X0_clear_n66 : GoodIn wsX2_hiddenBits (wsX0_clear) := ggX2_hiddenBits_X0_clear
set_option maxRecDepth 20000 in
theorem ggX2_hiddenBits_X2_extendBasis : GoodIn wsX2_hiddenBits wsX2_extendBasis := goodIn_r _ [11, 12, 1, 13, 3, 14, 15, 6, 16, 17, 18, 19, 20, 21, 22, 23, 24, 25, 28, 29, 30, 31, 26, 27] (by decide +kernel) (by decide +kernel)
set_option maxRecDepth 20000 in
theorem gX2_hiddenBits_X2_extendBasis : GoodIn wsX2_hiddenBits (wsV RX2 161 RX2 yX2_extendBasis wsX2_extendBasis) := goodIn_app (goodIn_of _ (by decide +kernel)) ggX2_hiddenBits_X2_extendBasis
theorem dX2_hiddenBits_0 : decode cX2_hiddenBits 0 = .ok (.aload_n 0, 1) := by decide +kernel
theorem dX2_hiddenBits_1 : decode cX2_hiddenBits 1 = .ok (.getfield 31, 3) := by decide +kernel
theorem dX2_hiddenBits_4 : decode cX2_hiddenBits 4 = .ok (.invokevirtual 66, 3) := by decide +kernel
theorem dX2_hiddenBits_7 : decode cX2_hiddenBits 7 = .ok (.aload_n 0, 1) := by decide +kernel
theorem dX2_hiddenBits_8 : decode cX2_hiddenBits 8 = .ok (.iconst 1, 1) := by decide +kernel
theorem dX2_hiddenBits_9 : decode cX2_hiddenBits 9 = .ok (.iload_n 1, 1) := by decide +kernel
theorem dX2_hiddenBits_10 : decode cX2_hiddenBits 10 = .ok (.invokevirtual 161, 3) := by decide +kernel
theorem dX2_hiddenBits_13 : decode cX2_hiddenBits 13 = .ok (.pop, 1) := by decide +kernel
theorem dX2_hiddenBits_14 : decode cX2_hiddenBits 14 = .ok (.aload_n 0, 1) := by decide +kernel
theorem dX2_hiddenBits_15 : decode cX2_hiddenBits 15 = .ok (.iconst 0, 1) := by decide +kernel
theorem dX2_hiddenBits_16 : decode cX2_hiddenBits 16 = .ok (.iload_n 1, 1) := by decide +kernel
theorem dX2_hiddenBits_17 : decode cX2_hiddenBits 17 = .ok (.invokevirtual 161, 3) := by decide +kernel
theorem dX2_hiddenBits_20 : decode cX2_hiddenBits 20 = .ok (.ireturn, 1) := by decide +kernel
set_option maxRecDepth 20000 in
theorem ggX2_leakedBits_X2_allPositions : GoodIn wsX2_leakedBits wsX2_allPositions := goodIn_r _ [5, 6, 29, 30, 31, 32, 33, 34, 35, 36, 37] (by decide +kernel) (by decide +kernel)
set_option maxRecDepth 20000 in
theorem gX2_leakedBits_X2_allPositions : GoodIn wsX2_leakedBits (wsV RX2 79 RX2 yX2_allPositions wsX2_allPositions) := goodIn_app (goodIn_of _ (by decide +kernel)) ggX2_leakedBits_X2_allPositions
set_option maxRecDepth 20000 in
theorem ggX2_leakedBits_X2_hiddenBits : GoodIn wsX2_leakedBits wsX2_hiddenBits := goodIn_r _ [10, 11, 12, 13, 14, 15, 16, 17, 18, 19, 4, 20, 6, 21, 22, 23, 24, 25, 26, 27, 28, 29, 30, 31, 32, 33, 38, 39, 34, 35, 36, 37] (by decide +kernel) (by decide +kernel)
set_option maxRecDepth 20000 in
theorem gX2_leakedBits_X2_hiddenBits : GoodIn wsX2_leakedBits (wsV RX2 83 RX2 yX2_hiddenBits wsX2_hiddenBits) := goodIn_app (goodIn_of _ (by decide +kernel)) ggX2_leakedBits_X2_hiddenBits
theorem dX2_leakedBits_0 : decode cX2_leakedBits 0 = .ok (.aload_n 0, 1) := by decide +kernel
theorem dX2_leakedBits_1 : decode cX2_leakedBits 1 = .ok (.aload_n 0, 1) := by decide +kernel
theorem dX2_leakedBits_2 : decode cX2_leakedBits 2 = .ok (.invokevirtual 79, 3) := by decide +kernel
theorem dX2_leakedBits_5 : decode cX2_leakedBits 5 = .ok (.invokevirtual 83, 3) := by decide +kernel
theorem dX2_leakedBits_8 : decode cX2_leakedBits 8 = .ok (.aload_n 0, 1) := by decide +kernel
theorem dX2_leakedBits_9 : decode cX2_leakedBits 9 = .ok (.aload_n 0, 1) := by decide +kernel
theorem dX2_leakedBits_10 : decode cX2_leakedBits 10 = .ok (.invokevirtual 79, 3) := by decide +kernel
theorem dX2_leakedBits_13 : decode cX2_leakedBits 13 = .ok (.iload_n 1, 1) := by decide +kernel
theorem dX2_leakedBits_14 : decode cX2_leakedBits 14 = .ok (.iconst (-1), 1) := by decide +kernel
theorem dX2_leakedBits_15 : decode cX2_leakedBits 15 = .ok (.ixor, 1) := by decide +kernel
theorem dX2_leakedBits_16 : decode cX2_leakedBits 16 = .ok (.iand, 1) := by decide +kernel
theorem dX2_leakedBits_17 : decode cX2_leakedBits 17 = .ok (.invokevirtual 83, 3) := by decide +kernel
theorem dX2_leakedBits_20 : decode cX2_leakedBits 20 = .ok (.isub, 1) := by decide +kernel
theorem dX2_leakedBits_21 : decode cX2_leakedBits 21 = .ok (.ireturn, 1) := by decide +kernel
set_option maxRecDepth 20000 in
theorem ggX2_leakiestSet_X2_allPositions : GoodIn wsX2_leakiestSet wsX2_allPositions := goodIn_r _ [5, 6, 36, 37, 38, 39, 40, 41, 42, 43, 44] (by decide +kernel) (by decide +kernel)
set_option maxRecDepth 20000 in
theorem gX2_leakiestSet_X2_allPositions : GoodIn wsX2_leakiestSet (wsV RX2 79 RX2 yX2_allPositions wsX2_allPositions) := goodIn_app (goodIn_of _ (by decide +kernel)) ggX2_leakiestSet_X2_allPositions
set_option maxRecDepth 20000 in
theorem ggX2_leakiestSet_J6_bitCount_0f7a4 : GoodIn wsX2_leakiestSet wsJ6_bitCount_0f7a4 := goodIn_r _ [10, 11, 12, 13] (by decide +kernel) (by decide +kernel)
set_option maxRecDepth 20000 in
theorem gX2_leakiestSet_J6_bitCount_0f7a4 : GoodIn wsX2_leakiestSet (va_wsS RX2 96 yJ6_bitCount_0f7a4 wsJ6_bitCount_0f7a4) := goodIn_app (goodIn_of _ (by decide +kernel)) ggX2_leakiestSet_J6_bitCount_0f7a4
set_option maxRecDepth 20000 in
theorem ggX2_leakiestSet_X2_hiddenBits : GoodIn wsX2_leakiestSet wsX2_hiddenBits := goodIn_r _ [17, 18, 19, 20, 21, 22, 23, 24, 25, 26, 4, 27, 6, 28, 29, 30, 31, 32, 33, 34, 35, 36, 37, 38, 39, 40, 45, 46, 41, 42, 43, 44] (by decide +kernel) (by decide +kernel)
set_option maxRecDepth 20000 in
theorem gX2_leakiestSet_X2_hiddenBits : GoodIn wsX2_leakiestSet (wsV RX2 83 RX2 yX2_hiddenBits wsX2_hiddenBits) := goodIn_app (goodIn_of _ (by decide +kernel)) ggX2_leakiestSet_X2_hiddenBits
theorem dX2_leakiestSet_0 : decode cX2_leakiestSet 0 = .ok (.aload_n 0, 1) := by decide +kernel
theorem dX2_leakiestSet_1 : decode cX2_leakiestSet 1 = .ok (.invokevirtual 79, 3) := by decide +kernel
theorem dX2_leakiestSet_4 : decode cX2_leakiestSet 4 = .ok (.istore_n 2, 1) := by decide +kernel
theorem dX2_leakiestSet_5 : decode cX2_leakiestSet 5 = .ok (.iconst 0, 1) := by decide +kernel
theorem dX2_leakiestSet_6 : decode cX2_leakiestSet 6 = .ok (.istore_n 3, 1) := by decide +kernel
theorem dX2_leakiestSet_7 : decode cX2_leakiestSet 7 = .ok (.bipush 7, 2) := by decide +kernel
theorem dX2_leakiestSet_9 : decode cX2_leakiestSet 9 = .ok (.istore 4, 2) := by decide +kernel
theorem dX2_leakiestSet_11 : decode cX2_leakiestSet 11 = .ok (.iconst 0, 1) := by decide +kernel
theorem dX2_leakiestSet_12 : decode cX2_leakiestSet 12 = .ok (.istore 5, 2) := by decide +kernel
theorem dX2_leakiestSet_14 : decode cX2_leakiestSet 14 = .ok (.iload 5, 2) := by decide +kernel
theorem dX2_leakiestSet_16 : decode cX2_leakiestSet 16 = .ok (.iload_n 2, 1) := by decide +kernel
theorem dX2_leakiestSet_17 : decode cX2_leakiestSet 17 = .ok (.if_icmp .gt 44, 3) := by decide +kernel
theorem dX2_leakiestSet_20 : decode cX2_leakiestSet 20 = .ok (.iload 5, 2) := by decide +kernel
theorem dX2_leakiestSet_22 : decode cX2_leakiestSet 22 = .ok (.invokestatic 96, 3) := by decide +kernel
theorem dX2_leakiestSet_25 : decode cX2_leakiestSet 25 = .ok (.iload_n 1, 1) := by decide +kernel
theorem dX2_leakiestSet_26 : decode cX2_leakiestSet 26 = .ok (.if_icmp .ne 29, 3) := by decide +kernel
theorem dX2_leakiestSet_29 : decode cX2_leakiestSet 29 = .ok (.aload_n 0, 1) := by decide +kernel
theorem dX2_leakiestSet_30 : decode cX2_leakiestSet 30 = .ok (.iload_n 2, 1) := by decide +kernel
theorem dX2_leakiestSet_31 : decode cX2_leakiestSet 31 = .ok (.iload 5, 2) := by decide +kernel
theorem dX2_leakiestSet_33 : decode cX2_leakiestSet 33 = .ok (.iconst (-1), 1) := by decide +kernel
theorem dX2_leakiestSet_34 : decode cX2_leakiestSet 34 = .ok (.ixor, 1) := by decide +kernel
theorem dX2_leakiestSet_35 : decode cX2_leakiestSet 35 = .ok (.iand, 1) := by decide +kernel
theorem dX2_leakiestSet_36 : decode cX2_leakiestSet 36 = .ok (.invokevirtual 83, 3) := by decide +kernel
theorem dX2_leakiestSet_39 : decode cX2_leakiestSet 39 = .ok (.istore 6, 2) := by decide +kernel
theorem dX2_leakiestSet_41 : decode cX2_leakiestSet 41 = .ok (.iload 6, 2) := by decide +kernel
theorem dX2_leakiestSet_43 : decode cX2_leakiestSet 43 = .ok (.iload 4, 2) := by decide +kernel
theorem dX2_leakiestSet_45 : decode cX2_leakiestSet 45 = .ok (.if_icmp .ge 10, 3) := by decide +kernel
theorem dX2_leakiestSet_48 : decode cX2_leakiestSet 48 = .ok (.iload 6, 2) := by decide +kernel
theorem dX2_leakiestSet_50 : decode cX2_leakiestSet 50 = .ok (.istore 4, 2) := by decide +kernel
theorem dX2_leakiestSet_52 : decode cX2_leakiestSet 52 = .ok (.iload 5, 2) := by decide +kernel
theorem dX2_leakiestSet_54 : decode cX2_leakiestSet 54 = .ok (.istore_n 3, 1) := by decide +kernel
theorem dX2_leakiestSet_55 : decode cX2_leakiestSet 55 = .ok (.iinc 5 1, 3) := by decide +kernel
theorem dX2_leakiestSet_58 : decode cX2_leakiestSet 58 = .ok (.goto (-44), 3) := by decide +kernel
theorem dX2_leakiestSet_61 : decode cX2_leakiestSet 61 = .ok (.iload_n 3, 1) := by decide +kernel
theorem dX2_leakiestSet_62 : decode cX2_leakiestSet 62 = .ok (.ireturn, 1) := by decide +kernel
set_option maxRecDepth 20000 in
theorem ggX2_leastSizeLeaking_X2_allPositions : GoodIn wsX2_leastSizeLeaking wsX2_allPositions := goodIn_r _ [5, 6, 36, 37, 38, 39, 40, 41, 42, 43, 44] (by decide +kernel) (by decide +kernel)
set_option maxRecDepth 20000 in
theorem gX2_leastSizeLeaking_X2_allPositions : GoodIn wsX2_leastSizeLeaking (wsV RX2 79 RX2 yX2_allPositions wsX2_allPositions) := goodIn_app (goodIn_of _ (by decide +kernel)) ggX2_leastSizeLeaking_X2_allPositions
set_option maxRecDepth 20000 in
theorem ggX2_leastSizeLeaking_X2_hiddenBits : GoodIn wsX2_leastSizeLeaking wsX2_hiddenBits := goodIn_r _ [10, 11, 12, 13, 14, 15, 16, 17, 18, 19, 4, 20, 6, 21, 22, 23, 24, 25, 26, 27, 28, 36, 37, 38, 39, 40, 45, 46, 41, 42, 43, 44] (by decide +kernel) (by decide +kernel)
set_option maxRecDepth 20000 in
theorem gX2_leastSizeLeaking_X2_hiddenBits : GoodIn wsX2_leastSizeLeaking (wsV RX2 83 RX2 yX2_hiddenBits wsX2_hiddenBits) := goodIn_app (goodIn_of _ (by decide +kernel)) ggX2_leastSizeLeaking_X2_hiddenBits
set_option maxRecDepth 20000 in
theorem ggX2_leastSizeLeaking_J6_bitCount_0f7a4 : GoodIn wsX2_leastSizeLeaking wsJ6_bitCount_0f7a4 := goodIn_r _ [32, 33, 34, 35] (by decide +kernel) (by decide +kernel)
set_option maxRecDepth 20000 in
theorem gX2_leastSizeLeaking_J6_bitCount_0f7a4 : GoodIn wsX2_leastSizeLeaking (va_wsS RX2 96 yJ6_bitCount_0f7a4 wsJ6_bitCount_0f7a4) := goodIn_app (goodIn_of _ (by decide +kernel)) ggX2_leastSizeLeaking_J6_bitCount_0f7a4
theorem dX2_leastSizeLeaking_0 : decode cX2_leastSizeLeaking 0 = .ok (.aload_n 0, 1) := by decide +kernel
theorem dX2_leastSizeLeaking_1 : decode cX2_leastSizeLeaking 1 = .ok (.invokevirtual 79, 3) := by decide +kernel
theorem dX2_leastSizeLeaking_4 : decode cX2_leastSizeLeaking 4 = .ok (.istore_n 2, 1) := by decide +kernel
theorem dX2_leastSizeLeaking_5 : decode cX2_leastSizeLeaking 5 = .ok (.aload_n 0, 1) := by decide +kernel
theorem dX2_leastSizeLeaking_6 : decode cX2_leastSizeLeaking 6 = .ok (.iload_n 2, 1) := by decide +kernel
theorem dX2_leastSizeLeaking_7 : decode cX2_leastSizeLeaking 7 = .ok (.invokevirtual 83, 3) := by decide +kernel
theorem dX2_leastSizeLeaking_10 : decode cX2_leastSizeLeaking 10 = .ok (.iload_n 1, 1) := by decide +kernel
theorem dX2_leastSizeLeaking_11 : decode cX2_leastSizeLeaking 11 = .ok (.isub, 1) := by decide +kernel
theorem dX2_leastSizeLeaking_12 : decode cX2_leastSizeLeaking 12 = .ok (.istore_n 3, 1) := by decide +kernel
theorem dX2_leastSizeLeaking_13 : decode cX2_leastSizeLeaking 13 = .ok (.bipush 9, 2) := by decide +kernel
theorem dX2_leastSizeLeaking_15 : decode cX2_leastSizeLeaking 15 = .ok (.istore 4, 2) := by decide +kernel
theorem dX2_leastSizeLeaking_17 : decode cX2_leastSizeLeaking 17 = .ok (.iconst 0, 1) := by decide +kernel
theorem dX2_leastSizeLeaking_18 : decode cX2_leastSizeLeaking 18 = .ok (.istore 5, 2) := by decide +kernel
theorem dX2_leastSizeLeaking_20 : decode cX2_leastSizeLeaking 20 = .ok (.iload 5, 2) := by decide +kernel
theorem dX2_leastSizeLeaking_22 : decode cX2_leastSizeLeaking 22 = .ok (.iload_n 2, 1) := by decide +kernel
theorem dX2_leastSizeLeaking_23 : decode cX2_leastSizeLeaking 23 = .ok (.if_icmp .gt 41, 3) := by decide +kernel
theorem dX2_leastSizeLeaking_26 : decode cX2_leastSizeLeaking 26 = .ok (.iload 5, 2) := by decide +kernel
theorem dX2_leastSizeLeaking_28 : decode cX2_leastSizeLeaking 28 = .ok (.invokestatic 96, 3) := by decide +kernel
theorem dX2_leastSizeLeaking_31 : decode cX2_leastSizeLeaking 31 = .ok (.istore 6, 2) := by decide +kernel
theorem dX2_leastSizeLeaking_33 : decode cX2_leastSizeLeaking 33 = .ok (.iload 6, 2) := by decide +kernel
theorem dX2_leastSizeLeaking_35 : decode cX2_leastSizeLeaking 35 = .ok (.iload 4, 2) := by decide +kernel
theorem dX2_leastSizeLeaking_37 : decode cX2_leastSizeLeaking 37 = .ok (.if_icmp .ge 21, 3) := by decide +kernel
theorem dX2_leastSizeLeaking_40 : decode cX2_leastSizeLeaking 40 = .ok (.aload_n 0, 1) := by decide +kernel
theorem dX2_leastSizeLeaking_41 : decode cX2_leastSizeLeaking 41 = .ok (.iload_n 2, 1) := by decide +kernel
theorem dX2_leastSizeLeaking_42 : decode cX2_leastSizeLeaking 42 = .ok (.iload 5, 2) := by decide +kernel
theorem dX2_leastSizeLeaking_44 : decode cX2_leastSizeLeaking 44 = .ok (.iconst (-1), 1) := by decide +kernel
theorem dX2_leastSizeLeaking_45 : decode cX2_leastSizeLeaking 45 = .ok (.ixor, 1) := by decide +kernel
theorem dX2_leastSizeLeaking_46 : decode cX2_leastSizeLeaking 46 = .ok (.iand, 1) := by decide +kernel
theorem dX2_leastSizeLeaking_47 : decode cX2_leastSizeLeaking 47 = .ok (.invokevirtual 83, 3) := by decide +kernel
theorem dX2_leastSizeLeaking_50 : decode cX2_leastSizeLeaking 50 = .ok (.iload_n 3, 1) := by decide +kernel
theorem dX2_leastSizeLeaking_51 : decode cX2_leastSizeLeaking 51 = .ok (.if_icmp .gt 7, 3) := by decide +kernel
theorem dX2_leastSizeLeaking_54 : decode cX2_leastSizeLeaking 54 = .ok (.iload 6, 2) := by decide +kernel
theorem dX2_leastSizeLeaking_56 : decode cX2_leastSizeLeaking 56 = .ok (.istore 4, 2) := by decide +kernel
theorem dX2_leastSizeLeaking_58 : decode cX2_leastSizeLeaking 58 = .ok (.iinc 5 1, 3) := by decide +kernel
theorem dX2_leastSizeLeaking_61 : decode cX2_leastSizeLeaking 61 = .ok (.goto (-41), 3) := by decide +kernel
theorem dX2_leastSizeLeaking_64 : decode cX2_leastSizeLeaking 64 = .ok (.iload 4, 2) := by decide +kernel
theorem dX2_leastSizeLeaking_66 : decode cX2_leastSizeLeaking 66 = .ok (.bipush 8, 2) := by decide +kernel
theorem dX2_leastSizeLeaking_68 : decode cX2_leastSizeLeaking 68 = .ok (.if_icmp .le 7, 3) := by decide +kernel
theorem dX2_leastSizeLeaking_71 : decode cX2_leastSizeLeaking 71 = .ok (.iconst (-1), 1) := by decide +kernel
theorem dX2_leastSizeLeaking_72 : decode cX2_leastSizeLeaking 72 = .ok (.goto 5, 3) := by decide +kernel
theorem dX2_leastSizeLeaking_75 : decode cX2_leastSizeLeaking 75 = .ok (.iload 4, 2) := by decide +kernel
theorem dX2_leastSizeLeaking_77 : decode cX2_leastSizeLeaking 77 = .ok (.ireturn, 1) := by decide +kernel
set_option maxRecDepth 20000 in
theorem ggX2_messagesFitting_X2_allPositions : GoodIn wsX2_messagesFitting wsX2_allPositions := goodIn_r _ [5, 6, 22, 23, 24, 25, 26, 27, 28, 29, 30] (by decide +kernel) (by decide +kernel)
set_option maxRecDepth 20000 in
theorem gX2_messagesFitting_X2_allPositions : GoodIn wsX2_messagesFitting (wsV RX2 79 RX2 yX2_allPositions wsX2_allPositions) := goodIn_app (goodIn_of _ (by decide +kernel)) ggX2_messagesFitting_X2_allPositions
set_option maxRecDepth 20000 in
theorem ggX2_messagesFitting_X2_isCodeword : GoodIn wsX2_messagesFitting wsX2_isCodeword := goodIn_r _ [10, 11, 12, 13, 4, 14, 6, 15, 16, 17, 18, 19, 20, 21, 22, 23, 24, 25, 26, 27, 28, 29, 30] (by decide +kernel) (by decide +kernel)
set_option maxRecDepth 20000 in
theorem gX2_messagesFitting_X2_isCodeword : GoodIn wsX2_messagesFitting (wsV RX2 101 RX2 yX2_isCodeword wsX2_isCodeword) := goodIn_app (goodIn_of _ (by decide +kernel)) ggX2_messagesFitting_X2_isCodeword
set_option maxRecDepth 20000 in
theorem ggX2_messagesFitting_X2_syndrome : GoodIn wsX2_messagesFitting wsX2_syndrome := goodIn_r _ [14, 6, 15, 16, 17, 18, 19, 20, 21, 22, 23, 24, 25, 26, 27, 28, 29, 30] (by decide +kernel) (by decide +kernel)
set_option maxRecDepth 20000 in
theorem gX2_messagesFitting_X2_syndrome : GoodIn wsX2_messagesFitting (wsV RX2 75 RX2 yX2_syndrome wsX2_syndrome) := goodIn_app (goodIn_of _ (by decide +kernel)) ggX2_messagesFitting_X2_syndrome
theorem dX2_messagesFitting_0 : decode cX2_messagesFitting 0 = .ok (.lconst 0, 1) := by decide +kernel
theorem dX2_messagesFitting_1 : decode cX2_messagesFitting 1 = .ok (.lstore_n 3, 1) := by decide +kernel
theorem dX2_messagesFitting_2 : decode cX2_messagesFitting 2 = .ok (.iconst 0, 1) := by decide +kernel
theorem dX2_messagesFitting_3 : decode cX2_messagesFitting 3 = .ok (.istore 5, 2) := by decide +kernel
theorem dX2_messagesFitting_5 : decode cX2_messagesFitting 5 = .ok (.iload 5, 2) := by decide +kernel
theorem dX2_messagesFitting_7 : decode cX2_messagesFitting 7 = .ok (.aload_n 0, 1) := by decide +kernel
theorem dX2_messagesFitting_8 : decode cX2_messagesFitting 8 = .ok (.invokevirtual 79, 3) := by decide +kernel
theorem dX2_messagesFitting_11 : decode cX2_messagesFitting 11 = .ok (.if_icmp .gt 38, 3) := by decide +kernel
theorem dX2_messagesFitting_14 : decode cX2_messagesFitting 14 = .ok (.iload 5, 2) := by decide +kernel
theorem dX2_messagesFitting_16 : decode cX2_messagesFitting 16 = .ok (.iload_n 1, 1) := by decide +kernel
theorem dX2_messagesFitting_17 : decode cX2_messagesFitting 17 = .ok (.iand, 1) := by decide +kernel
theorem dX2_messagesFitting_18 : decode cX2_messagesFitting 18 = .ok (.iload_n 2, 1) := by decide +kernel
theorem dX2_messagesFitting_19 : decode cX2_messagesFitting 19 = .ok (.if_icmp .ne 24, 3) := by decide +kernel
theorem dX2_messagesFitting_22 : decode cX2_messagesFitting 22 = .ok (.aload_n 0, 1) := by decide +kernel
theorem dX2_messagesFitting_23 : decode cX2_messagesFitting 23 = .ok (.iload 5, 2) := by decide +kernel
theorem dX2_messagesFitting_25 : decode cX2_messagesFitting 25 = .ok (.invokevirtual 101, 3) := by decide +kernel
theorem dX2_messagesFitting_28 : decode cX2_messagesFitting 28 = .ok (.ifCond .eq 15, 3) := by decide +kernel
theorem dX2_messagesFitting_31 : decode cX2_messagesFitting 31 = .ok (.lload_n 3, 1) := by decide +kernel
theorem dX2_messagesFitting_32 : decode cX2_messagesFitting 32 = .ok (.lconst 1, 1) := by decide +kernel
theorem dX2_messagesFitting_33 : decode cX2_messagesFitting 33 = .ok (.aload_n 0, 1) := by decide +kernel
theorem dX2_messagesFitting_34 : decode cX2_messagesFitting 34 = .ok (.iload 5, 2) := by decide +kernel
theorem dX2_messagesFitting_36 : decode cX2_messagesFitting 36 = .ok (.iconst 0, 1) := by decide +kernel
theorem dX2_messagesFitting_37 : decode cX2_messagesFitting 37 = .ok (.invokevirtual 75, 3) := by decide +kernel
theorem dX2_messagesFitting_40 : decode cX2_messagesFitting 40 = .ok (.lshl, 1) := by decide +kernel
theorem dX2_messagesFitting_41 : decode cX2_messagesFitting 41 = .ok (.lor, 1) := by decide +kernel
theorem dX2_messagesFitting_42 : decode cX2_messagesFitting 42 = .ok (.lstore_n 3, 1) := by decide +kernel
theorem dX2_messagesFitting_43 : decode cX2_messagesFitting 43 = .ok (.iinc 5 1, 3) := by decide +kernel
theorem dX2_messagesFitting_46 : decode cX2_messagesFitting 46 = .ok (.goto (-41), 3) := by decide +kernel
theorem dX2_messagesFitting_49 : decode cX2_messagesFitting 49 = .ok (.lload_n 3, 1) := by decide +kernel
theorem dX2_messagesFitting_50 : decode cX2_messagesFitting 50 = .ok (.lreturn, 1) := by decide +kernel
theorem dX3_init_0 : decode cX3_init 0 = .ok (.aload_n 0, 1) := by decide +kernel
theorem dX3_init_1 : decode cX3_init 1 = .ok (.invokespecial 1, 3) := by decide +kernel
theorem dX3_init_4 : decode cX3_init 4 = .ok (.aload_n 0, 1) := by decide +kernel
theorem dX3_init_5 : decode cX3_init 5 = .ok (.bipush 14, 2) := by decide +kernel
theorem dX3_init_7 : decode cX3_init 7 = .ok (.newarray .int, 2) := by decide +kernel
theorem dX3_init_9 : decode cX3_init 9 = .ok (.putfield 7, 3) := by decide +kernel
theorem dX3_init_12 : decode cX3_init 12 = .ok (.aload_n 0, 1) := by decide +kernel
theorem dX3_init_13 : decode cX3_init 13 = .ok (.bipush 56, 2) := by decide +kernel
theorem dX3_init_15 : decode cX3_init 15 = .ok (.newarray .int, 2) := by decide +kernel
theorem dX3_init_17 : decode cX3_init 17 = .ok (.putfield 13, 3) := by decide +kernel
theorem dX3_init_20 : decode cX3_init 20 = .ok (.aload_n 0, 1) := by decide +kernel
theorem dX3_init_21 : decode cX3_init 21 = .ok (.iconst 5, 1) := by decide +kernel
theorem dX3_init_22 : decode cX3_init 22 = .ok (.newarray .int, 2) := by decide +kernel
theorem dX3_init_24 : decode cX3_init 24 = .ok (.putfield 16, 3) := by decide +kernel
theorem dX3_init_27 : decode cX3_init 27 = .ok (.aload_n 0, 1) := by decide +kernel
theorem dX3_init_28 : decode cX3_init 28 = .ok (.bipush 6, 2) := by decide +kernel
theorem dX3_init_30 : decode cX3_init 30 = .ok (.newarray .int, 2) := by decide +kernel
theorem dX3_init_32 : decode cX3_init 32 = .ok (.putfield 19, 3) := by decide +kernel
theorem dX3_init_35 : decode cX3_init 35 = .ok (.aload_n 0, 1) := by decide +kernel
theorem dX3_init_36 : decode cX3_init 36 = .ok (.sipush 256, 3) := by decide +kernel
theorem dX3_init_39 : decode cX3_init 39 = .ok (.newarray .int, 2) := by decide +kernel
theorem dX3_init_41 : decode cX3_init 41 = .ok (.putfield 22, 3) := by decide +kernel
theorem dX3_init_44 : decode cX3_init 44 = .ok (.aload_n 0, 1) := by decide +kernel
theorem dX3_init_45 : decode cX3_init 45 = .ok (.bipush 64, 2) := by decide +kernel
theorem dX3_init_47 : decode cX3_init 47 = .ok (.newarray .boolean, 2) := by decide +kernel
theorem dX3_init_49 : decode cX3_init 49 = .ok (.putfield 25, 3) := by decide +kernel
theorem dX3_init_52 : decode cX3_init 52 = .ok (.aload_n 0, 1) := by decide +kernel
theorem dX3_init_53 : decode cX3_init 53 = .ok (.sipush 256, 3) := by decide +kernel
theorem dX3_init_56 : decode cX3_init 56 = .ok (.newarray .int, 2) := by decide +kernel
theorem dX3_init_58 : decode cX3_init 58 = .ok (.putfield 29, 3) := by decide +kernel
theorem dX3_init_61 : decode cX3_init 61 = .ok (.aload_n 0, 1) := by decide +kernel
theorem dX3_init_62 : decode cX3_init 62 = .ok (.getfield 7, 3) := by decide +kernel
theorem dX3_init_65 : decode cX3_init 65 = .ok (.iconst 0, 1) := by decide +kernel
theorem dX3_init_66 : decode cX3_init 66 = .ok (.bipush 6, 2) := by decide +kernel
theorem dX3_init_68 : decode cX3_init 68 = .ok (.iastore, 1) := by decide +kernel
theorem dX3_init_69 : decode cX3_init 69 = .ok (.return_, 1) := by decide +kernel
theorem dX3_within_0 : decode cX3_within 0 = .ok (.iload_n 0, 1) := by decide +kernel
theorem dX3_within_1 : decode cX3_within 1 = .ok (.iload_n 1, 1) := by decide +kernel
theorem dX3_within_2 : decode cX3_within 2 = .ok (.if_icmp .lt 12, 3) := by decide +kernel
theorem dX3_within_5 : decode cX3_within 5 = .ok (.iload_n 0, 1) := by decide +kernel
theorem dX3_within_6 : decode cX3_within 6 = .ok (.iload_n 2, 1) := by decide +kernel
theorem dX3_within_7 : decode cX3_within 7 = .ok (.if_icmp .gt 7, 3) := by decide +kernel
theorem dX3_within_10 : decode cX3_within 10 = .ok (.iconst 1, 1) := by decide +kernel
theorem dX3_within_11 : decode cX3_within 11 = .ok (.goto 4, 3) := by decide +kernel
theorem dX3_within_14 : decode cX3_within 14 = .ok (.iconst 0, 1) := by decide +kernel
theorem dX3_within_15 : decode cX3_within 15 = .ok (.ireturn, 1) := by decide +kernel
theorem dX3_fails_0 : decode cX3_fails 0 = .ok (.aload_n 0, 1) := by decide +kernel
theorem dX3_fails_1 : decode cX3_fails 1 = .ok (.getfield 16, 3) := by decide +kernel
theorem dX3_fails_4 : decode cX3_fails 4 = .ok (.bipush (-2), 2) := by decide +kernel
theorem dX3_fails_6 : decode cX3_fails 6 = .ok (.iload_n 1, 1) := by decide +kernel
theorem dX3_fails_7 : decode cX3_fails 7 = .ok (.isub, 1) := by decide +kernel
theorem dX3_fails_8 : decode cX3_fails 8 = .ok (.dup2, 1) := by decide +kernel
theorem dX3_fails_9 : decode cX3_fails 9 = .ok (.iaload, 1) := by decide +kernel
theorem dX3_fails_10 : decode cX3_fails 10 = .ok (.iconst 1, 1) := by decide +kernel
theorem dX3_fails_11 : decode cX3_fails 11 = .ok (.iadd, 1) := by decide +kernel
theorem dX3_fails_12 : decode cX3_fails 12 = .ok (.iastore, 1) := by decide +kernel
theorem dX3_fails_13 : decode cX3_fails 13 = .ok (.iload_n 1, 1) := by decide +kernel
theorem dX3_fails_14 : decode cX3_fails 14 = .ok (.ireturn, 1) := by decide +kernel
theorem dX3_words_0 : decode cX3_words 0 = .ok (.iconst 1, 1) := by decide +kernel
theorem dX3_words_1 : decode cX3_words 1 = .ok (.aload_n 0, 1) := by decide +kernel
theorem dX3_words_2 : decode cX3_words 2 = .ok (.getfield 7, 3) := by decide +kernel
theorem dX3_words_5 : decode cX3_words 5 = .ok (.iconst 0, 1) := by decide +kernel
theorem dX3_words_6 : decode cX3_words 6 = .ok (.iaload, 1) := by decide +kernel
theorem dX3_words_7 : decode cX3_words 7 = .ok (.ishl, 1) := by decide +kernel
theorem dX3_words_8 : decode cX3_words 8 = .ok (.ireturn, 1) := by decide +kernel
set_option maxRecDepth 20000 in
theorem ggX3_isWord_X3_words : GoodIn wsX3_isWord wsX3_words := goodIn_r _ [5, 6, 10, 11, 12, 13, 14, 15, 16, 17, 18] (by decide +kernel) (by decide +kernel)
set_option maxRecDepth 20000 in
theorem gX3_isWord_X3_words : GoodIn wsX3_isWord (wsV RX3 32 RX3 yX3_words wsX3_words) := goodIn_app (goodIn_of _ (by decide +kernel)) ggX3_isWord_X3_words
set_option maxRecDepth 20000 in
theorem ggX3_isWord_X3_within : GoodIn wsX3_isWord wsX3_within := goodIn_r _ [9] (by decide +kernel) (by decide +kernel)
set_option maxRecDepth 20000 in
theorem gX3_isWord_X3_within : GoodIn wsX3_isWord (va_wsS RX3 36 yX3_within wsX3_within) := goodIn_app (goodIn_of _ (by decide +kernel)) ggX3_isWord_X3_within
theorem dX3_isWord_0 : decode cX3_isWord 0 = .ok (.iload_n 1, 1) := by decide +kernel
theorem dX3_isWord_1 : decode cX3_isWord 1 = .ok (.iconst 0, 1) := by decide +kernel
theorem dX3_isWord_2 : decode cX3_isWord 2 = .ok (.aload_n 0, 1) := by decide +kernel
theorem dX3_isWord_3 : decode cX3_isWord 3 = .ok (.invokevirtual 32, 3) := by decide +kernel
theorem dX3_isWord_6 : decode cX3_isWord 6 = .ok (.iconst 1, 1) := by decide +kernel
theorem dX3_isWord_7 : decode cX3_isWord 7 = .ok (.isub, 1) := by decide +kernel
theorem dX3_isWord_8 : decode cX3_isWord 8 = .ok (.invokestatic 36, 3) := by decide +kernel
theorem dX3_isWord_11 : decode cX3_isWord 11 = .ok (.ireturn, 1) := by decide +kernel
set_option maxRecDepth 20000 in
theorem ggX3_isRow_X3_within : GoodIn wsX3_isRow wsX3_within := goodIn_r _ [5] (by decide +kernel) (by decide +kernel)
set_option maxRecDepth 20000 in
theorem gX3_isRow_X3_within : GoodIn wsX3_isRow (va_wsS RX3 36 yX3_within wsX3_within) := goodIn_app (goodIn_of _ (by decide +kernel)) ggX3_isRow_X3_within
theorem dX3_isRow_0 : decode cX3_isRow 0 = .ok (.iload_n 1, 1) := by decide +kernel
theorem dX3_isRow_1 : decode cX3_isRow 1 = .ok (.iconst 0, 1) := by decide +kernel
theorem dX3_isRow_2 : decode cX3_isRow 2 = .ok (.aload_n 0, 1) := by decide +kernel
theorem dX3_isRow_3 : decode cX3_isRow 3 = .ok (.getfield 7, 3) := by decide +kernel
theorem dX3_isRow_6 : decode cX3_isRow 6 = .ok (.iconst 1, 1) := by decide +kernel
theorem dX3_isRow_7 : decode cX3_isRow 7 = .ok (.iaload, 1) := by decide +kernel
theorem dX3_isRow_8 : decode cX3_isRow 8 = .ok (.iconst 1, 1) := by decide +kernel
theorem dX3_isRow_9 : decode cX3_isRow 9 = .ok (.isub, 1) := by decide +kernel
theorem dX3_isRow_10 : decode cX3_isRow 10 = .ok (.invokestatic 36, 3) := by decide +kernel
theorem dX3_isRow_13 : decode cX3_isRow 13 = .ok (.ireturn, 1) := by decide +kernel
theorem dX3_ones_0 : decode cX3_ones 0 = .ok (.iconst 0, 1) := by decide +kernel
theorem dX3_ones_1 : decode cX3_ones 1 = .ok (.istore_n 1, 1) := by decide +kernel
theorem dX3_ones_2 : decode cX3_ones 2 = .ok (.iconst 0, 1) := by decide +kernel
theorem dX3_ones_3 : decode cX3_ones 3 = .ok (.istore_n 2, 1) := by decide +kernel
theorem dX3_ones_4 : decode cX3_ones 4 = .ok (.iload_n 2, 1) := by decide +kernel
theorem dX3_ones_5 : decode cX3_ones 5 = .ok (.bipush 8, 2) := by decide +kernel
theorem dX3_ones_7 : decode cX3_ones 7 = .ok (.if_icmp .ge 17, 3) := by decide +kernel
theorem dX3_ones_10 : decode cX3_ones 10 = .ok (.iload_n 1, 1) := by decide +kernel
theorem dX3_ones_11 : decode cX3_ones 11 = .ok (.iload_n 0, 1) := by decide +kernel
theorem dX3_ones_12 : decode cX3_ones 12 = .ok (.iload_n 2, 1) := by decide +kernel
theorem dX3_ones_13 : decode cX3_ones 13 = .ok (.ishr, 1) := by decide +kernel
theorem dX3_ones_14 : decode cX3_ones 14 = .ok (.iconst 1, 1) := by decide +kernel
theorem dX3_ones_15 : decode cX3_ones 15 = .ok (.iand, 1) := by decide +kernel
theorem dX3_ones_16 : decode cX3_ones 16 = .ok (.iadd, 1) := by decide +kernel
theorem dX3_ones_17 : decode cX3_ones 17 = .ok (.istore_n 1, 1) := by decide +kernel
theorem dX3_ones_18 : decode cX3_ones 18 = .ok (.iinc 2 1, 3) := by decide +kernel
theorem dX3_ones_21 : decode cX3_ones 21 = .ok (.goto (-17), 3) := by decide +kernel
theorem dX3_ones_24 : decode cX3_ones 24 = .ok (.iload_n 1, 1) := by decide +kernel
theorem dX3_ones_25 : decode cX3_ones 25 = .ok (.ireturn, 1) := by decide +kernel
theorem dX3_saves_0 : decode cX3_saves 0 = .ok (.aload_n 0, 1) := by decide +kernel
theorem dX3_saves_1 : decode cX3_saves 1 = .ok (.getfield 40, 3) := by decide +kernel
theorem dX3_saves_4 : decode cX3_saves 4 = .ok (.iconst 4, 1) := by decide +kernel
theorem dX3_saves_5 : decode cX3_saves 5 = .ok (.if_icmp .ne 42, 3) := by decide +kernel
theorem dX3_saves_8 : decode cX3_saves 8 = .ok (.iconst 0, 1) := by decide +kernel
theorem dX3_saves_9 : decode cX3_saves 9 = .ok (.istore_n 1, 1) := by decide +kernel
theorem dX3_saves_10 : decode cX3_saves 10 = .ok (.iload_n 1, 1) := by decide +kernel
theorem dX3_saves_11 : decode cX3_saves 11 = .ok (.bipush 42, 2) := by decide +kernel
theorem dX3_saves_13 : decode cX3_saves 13 = .ok (.if_icmp .ge 24, 3) := by decide +kernel
theorem dX3_saves_16 : decode cX3_saves 16 = .ok (.aload_n 0, 1) := by decide +kernel
theorem dX3_saves_17 : decode cX3_saves 17 = .ok (.getfield 13, 3) := by decide +kernel
theorem dX3_saves_20 : decode cX3_saves 20 = .ok (.iload_n 1, 1) := by decide +kernel
theorem dX3_saves_21 : decode cX3_saves 21 = .ok (.aload_n 0, 1) := by decide +kernel
theorem dX3_saves_22 : decode cX3_saves 22 = .ok (.getfield 13, 3) := by decide +kernel
theorem dX3_saves_25 : decode cX3_saves 25 = .ok (.iload_n 1, 1) := by decide +kernel
theorem dX3_saves_26 : decode cX3_saves 26 = .ok (.bipush 14, 2) := by decide +kernel
theorem dX3_saves_28 : decode cX3_saves 28 = .ok (.iadd, 1) := by decide +kernel
theorem dX3_saves_29 : decode cX3_saves 29 = .ok (.iaload, 1) := by decide +kernel
theorem dX3_saves_30 : decode cX3_saves 30 = .ok (.iastore, 1) := by decide +kernel
theorem dX3_saves_31 : decode cX3_saves 31 = .ok (.iinc 1 1, 3) := by decide +kernel
theorem dX3_saves_34 : decode cX3_saves 34 = .ok (.goto (-24), 3) := by decide +kernel
theorem dX3_saves_37 : decode cX3_saves 37 = .ok (.aload_n 0, 1) := by decide +kernel
theorem dX3_saves_38 : decode cX3_saves 38 = .ok (.dup, 1) := by decide +kernel
theorem dX3_saves_39 : decode cX3_saves 39 = .ok (.getfield 40, 3) := by decide +kernel
theorem dX3_saves_42 : decode cX3_saves 42 = .ok (.iconst 1, 1) := by decide +kernel
theorem dX3_saves_43 : decode cX3_saves 43 = .ok (.isub, 1) := by decide +kernel
theorem dX3_saves_44 : decode cX3_saves 44 = .ok (.putfield 40, 3) := by decide +kernel
theorem dX3_saves_47 : decode cX3_saves 47 = .ok (.iconst 0, 1) := by decide +kernel
theorem dX3_saves_48 : decode cX3_saves 48 = .ok (.istore_n 1, 1) := by decide +kernel
theorem dX3_saves_49 : decode cX3_saves 49 = .ok (.iload_n 1, 1) := by decide +kernel
theorem dX3_saves_50 : decode cX3_saves 50 = .ok (.bipush 14, 2) := by decide +kernel
theorem dX3_saves_52 : decode cX3_saves 52 = .ok (.if_icmp .ge 29, 3) := by decide +kernel
theorem dX3_saves_55 : decode cX3_saves 55 = .ok (.aload_n 0, 1) := by decide +kernel
theorem dX3_saves_56 : decode cX3_saves 56 = .ok (.getfield 13, 3) := by decide +kernel
theorem dX3_saves_59 : decode cX3_saves 59 = .ok (.bipush 14, 2) := by decide +kernel
theorem dX3_saves_61 : decode cX3_saves 61 = .ok (.aload_n 0, 1) := by decide +kernel
theorem dX3_saves_62 : decode cX3_saves 62 = .ok (.getfield 40, 3) := by decide +kernel
theorem dX3_saves_65 : decode cX3_saves 65 = .ok (.imul, 1) := by decide +kernel
theorem dX3_saves_66 : decode cX3_saves 66 = .ok (.iload_n 1, 1) := by decide +kernel
theorem dX3_saves_67 : decode cX3_saves 67 = .ok (.iadd, 1) := by decide +kernel
theorem dX3_saves_68 : decode cX3_saves 68 = .ok (.aload_n 0, 1) := by decide +kernel
theorem dX3_saves_69 : decode cX3_saves 69 = .ok (.getfield 7, 3) := by decide +kernel
theorem dX3_saves_72 : decode cX3_saves 72 = .ok (.iload_n 1, 1) := by decide +kernel
theorem dX3_saves_73 : decode cX3_saves 73 = .ok (.iaload, 1) := by decide +kernel
theorem dX3_saves_74 : decode cX3_saves 74 = .ok (.iastore, 1) := by decide +kernel
theorem dX3_saves_75 : decode cX3_saves 75 = .ok (.iinc 1 1, 3) := by decide +kernel
theorem dX3_saves_78 : decode cX3_saves 78 = .ok (.goto (-29), 3) := by decide +kernel
theorem dX3_saves_81 : decode cX3_saves 81 = .ok (.aload_n 0, 1) := by decide +kernel
theorem dX3_saves_82 : decode cX3_saves 82 = .ok (.dup, 1) := by decide +kernel
theorem dX3_saves_83 : decode cX3_saves 83 = .ok (.getfield 40, 3) := by decide +kernel
theorem dX3_saves_86 : decode cX3_saves 86 = .ok (.iconst 1, 1) := by decide +kernel
theorem dX3_saves_87 : decode cX3_saves 87 = .ok (.iadd, 1) := by decide +kernel
theorem dX3_saves_88 : decode cX3_saves 88 = .ok (.putfield 40, 3) := by decide +kernel
theorem dX3_saves_91 : decode cX3_saves 91 = .ok (.return_, 1) := by decide +kernel
set_option maxRecDepth 20000 in
theorem ggX3_undo_X3_fails : GoodIn wsX3_undo wsX3_fails := goodIn_r _ [8, 9, 10, 11, 12, 13, 14, 15, 16, 17, 18] (by decide +kernel) (by decide +kernel)
set_option maxRecDepth 20000 in
theorem gX3_undo_X3_fails : GoodIn wsX3_undo (wsV RX3 44 RX3 yX3_fails wsX3_fails) := goodIn_app (goodIn_of _ (by decide +kernel)) ggX3_undo_X3_fails
theorem dX3_undo_0 : decode cX3_undo 0 = .ok (.aload_n 0, 1) := by decide +kernel
theorem dX3_undo_1 : decode cX3_undo 1 = .ok (.getfield 40, 3) := by decide +kernel
theorem dX3_undo_4 : decode cX3_undo 4 = .ok (.ifCond .ne 10, 3) := by decide +kernel
theorem dX3_undo_7 : decode cX3_undo 7 = .ok (.aload_n 0, 1) := by decide +kernel
theorem dX3_undo_8 : decode cX3_undo 8 = .ok (.bipush (-6), 2) := by decide +kernel
theorem dX3_undo_10 : decode cX3_undo 10 = .ok (.invokevirtual 44, 3) := by decide +kernel
theorem dX3_undo_13 : decode cX3_undo 13 = .ok (.ireturn, 1) := by decide +kernel
theorem dX3_undo_14 : decode cX3_undo 14 = .ok (.aload_n 0, 1) := by decide +kernel
theorem dX3_undo_15 : decode cX3_undo 15 = .ok (.dup, 1) := by decide +kernel
theorem dX3_undo_16 : decode cX3_undo 16 = .ok (.getfield 40, 3) := by decide +kernel
theorem dX3_undo_19 : decode cX3_undo 19 = .ok (.iconst 1, 1) := by decide +kernel
theorem dX3_undo_20 : decode cX3_undo 20 = .ok (.isub, 1) := by decide +kernel
theorem dX3_undo_21 : decode cX3_undo 21 = .ok (.putfield 40, 3) := by decide +kernel
theorem dX3_undo_24 : decode cX3_undo 24 = .ok (.iconst 0, 1) := by decide +kernel
theorem dX3_undo_25 : decode cX3_undo 25 = .ok (.istore_n 1, 1) := by decide +kernel
theorem dX3_undo_26 : decode cX3_undo 26 = .ok (.iload_n 1, 1) := by decide +kernel
theorem dX3_undo_27 : decode cX3_undo 27 = .ok (.bipush 14, 2) := by decide +kernel
theorem dX3_undo_29 : decode cX3_undo 29 = .ok (.if_icmp .ge 29, 3) := by decide +kernel
theorem dX3_undo_32 : decode cX3_undo 32 = .ok (.aload_n 0, 1) := by decide +kernel
theorem dX3_undo_33 : decode cX3_undo 33 = .ok (.getfield 7, 3) := by decide +kernel
theorem dX3_undo_36 : decode cX3_undo 36 = .ok (.iload_n 1, 1) := by decide +kernel
theorem dX3_undo_37 : decode cX3_undo 37 = .ok (.aload_n 0, 1) := by decide +kernel
theorem dX3_undo_38 : decode cX3_undo 38 = .ok (.getfield 13, 3) := by decide +kernel
theorem dX3_undo_41 : decode cX3_undo 41 = .ok (.bipush 14, 2) := by decide +kernel
theorem dX3_undo_43 : decode cX3_undo 43 = .ok (.aload_n 0, 1) := by decide +kernel
theorem dX3_undo_44 : decode cX3_undo 44 = .ok (.getfield 40, 3) := by decide +kernel
theorem dX3_undo_47 : decode cX3_undo 47 = .ok (.imul, 1) := by decide +kernel
theorem dX3_undo_48 : decode cX3_undo 48 = .ok (.iload_n 1, 1) := by decide +kernel
theorem dX3_undo_49 : decode cX3_undo 49 = .ok (.iadd, 1) := by decide +kernel
theorem dX3_undo_50 : decode cX3_undo 50 = .ok (.iaload, 1) := by decide +kernel
theorem dX3_undo_51 : decode cX3_undo 51 = .ok (.iastore, 1) := by decide +kernel
theorem dX3_undo_52 : decode cX3_undo 52 = .ok (.iinc 1 1, 3) := by decide +kernel
theorem dX3_undo_55 : decode cX3_undo 55 = .ok (.goto (-29), 3) := by decide +kernel
theorem dX3_undo_58 : decode cX3_undo 58 = .ok (.aload_n 0, 1) := by decide +kernel
theorem dX3_undo_59 : decode cX3_undo 59 = .ok (.getfield 40, 3) := by decide +kernel
theorem dX3_undo_62 : decode cX3_undo 62 = .ok (.ireturn, 1) := by decide +kernel
set_option maxRecDepth 20000 in
theorem ggX3_setLength_X3_within : GoodIn wsX3_setLength wsX3_within := goodIn_r _ [5] (by decide +kernel) (by decide +kernel)
set_option maxRecDepth 20000 in
theorem gX3_setLength_X3_within : GoodIn wsX3_setLength (va_wsS RX3 36 yX3_within wsX3_within) := goodIn_app (goodIn_of _ (by decide +kernel)) ggX3_setLength_X3_within
set_option maxRecDepth 20000 in
theorem ggX3_setLength_X3_fails : GoodIn wsX3_setLength wsX3_fails := goodIn_r _ [9, 10, 17, 18, 19, 20, 21, 22, 23, 24, 25] (by decide +kernel) (by decide +kernel)
set_option maxRecDepth 20000 in
theorem gX3_setLength_X3_fails : GoodIn wsX3_setLength (wsV RX3 44 RX3 yX3_fails wsX3_fails) := goodIn_app (goodIn_of _ (by decide +kernel)) ggX3_setLength_X3_fails
set_option maxRecDepth 20000 in
theorem ggX3_setLength_X3_saves : GoodIn wsX3_setLength wsX3_saves := goodIn_r _ [14, 15, 16, 1, 17, 18, 19, 20, 21, 22, 23, 24, 25] (by decide +kernel) (by decide +kernel)
set_option maxRecDepth 20000 in
theorem gX3_setLength_X3_saves : GoodIn wsX3_setLength (wsV RX3 48 RX3 yX3_saves wsX3_saves) := goodIn_app (goodIn_of _ (by decide +kernel)) ggX3_setLength_X3_saves
theorem dX3_setLength_0 : decode cX3_setLength 0 = .ok (.iload_n 1, 1) := by decide +kernel
theorem dX3_setLength_1 : decode cX3_setLength 1 = .ok (.iconst 1, 1) := by decide +kernel
theorem dX3_setLength_2 : decode cX3_setLength 2 = .ok (.bipush 8, 2) := by decide +kernel
theorem dX3_setLength_4 : decode cX3_setLength 4 = .ok (.invokestatic 36, 3) := by decide +kernel
theorem dX3_setLength_7 : decode cX3_setLength 7 = .ok (.ifCond .ne 10, 3) := by decide +kernel
theorem dX3_setLength_10 : decode cX3_setLength 10 = .ok (.aload_n 0, 1) := by decide +kernel
theorem dX3_setLength_11 : decode cX3_setLength 11 = .ok (.bipush (-2), 2) := by decide +kernel
theorem dX3_setLength_13 : decode cX3_setLength 13 = .ok (.invokevirtual 44, 3) := by decide +kernel
theorem dX3_setLength_16 : decode cX3_setLength 16 = .ok (.ireturn, 1) := by decide +kernel
theorem dX3_setLength_17 : decode cX3_setLength 17 = .ok (.aload_n 0, 1) := by decide +kernel
theorem dX3_setLength_18 : decode cX3_setLength 18 = .ok (.invokevirtual 48, 3) := by decide +kernel
theorem dX3_setLength_21 : decode cX3_setLength 21 = .ok (.aload_n 0, 1) := by decide +kernel
theorem dX3_setLength_22 : decode cX3_setLength 22 = .ok (.getfield 7, 3) := by decide +kernel
theorem dX3_setLength_25 : decode cX3_setLength 25 = .ok (.iconst 0, 1) := by decide +kernel
theorem dX3_setLength_26 : decode cX3_setLength 26 = .ok (.iaload, 1) := by decide +kernel
theorem dX3_setLength_27 : decode cX3_setLength 27 = .ok (.istore_n 2, 1) := by decide +kernel
theorem dX3_setLength_28 : decode cX3_setLength 28 = .ok (.aload_n 0, 1) := by decide +kernel
theorem dX3_setLength_29 : decode cX3_setLength 29 = .ok (.getfield 7, 3) := by decide +kernel
theorem dX3_setLength_32 : decode cX3_setLength 32 = .ok (.iconst 0, 1) := by decide +kernel
theorem dX3_setLength_33 : decode cX3_setLength 33 = .ok (.iload_n 1, 1) := by decide +kernel
theorem dX3_setLength_34 : decode cX3_setLength 34 = .ok (.iastore, 1) := by decide +kernel
theorem dX3_setLength_35 : decode cX3_setLength 35 = .ok (.aload_n 0, 1) := by decide +kernel
theorem dX3_setLength_36 : decode cX3_setLength 36 = .ok (.getfield 7, 3) := by decide +kernel
theorem dX3_setLength_39 : decode cX3_setLength 39 = .ok (.iconst 1, 1) := by decide +kernel
theorem dX3_setLength_40 : decode cX3_setLength 40 = .ok (.iconst 0, 1) := by decide +kernel
theorem dX3_setLength_41 : decode cX3_setLength 41 = .ok (.iastore, 1) := by decide +kernel
theorem dX3_setLength_42 : decode cX3_setLength 42 = .ok (.iload_n 2, 1) := by decide +kernel
theorem dX3_setLength_43 : decode cX3_setLength 43 = .ok (.ireturn, 1) := by decide +kernel
set_option maxRecDepth 20000 in
theorem ggX3_addRow_X3_isWord : GoodIn wsX3_addRow wsX3_isWord := goodIn_r _ [6, 7, 8, 9, 5, 10, 1, 11, 12, 13, 25, 26, 27, 28, 29, 30, 31, 32, 33] (by decide +kernel) (by decide +kernel)
set_option maxRecDepth 20000 in
theorem gX3_addRow_X3_isWord : GoodIn wsX3_addRow (wsV RX3 51 RX3 yX3_isWord wsX3_isWord) := goodIn_app (goodIn_of _ (by decide +kernel)) ggX3_addRow_X3_isWord
set_option maxRecDepth 20000 in
theorem ggX3_addRow_X3_within : GoodIn wsX3_addRow wsX3_within := goodIn_r _ [13] (by decide +kernel) (by decide +kernel)
set_option maxRecDepth 20000 in
theorem gX3_addRow_X3_within : GoodIn wsX3_addRow (va_wsS RX3 36 yX3_within wsX3_within) := goodIn_app (goodIn_of _ (by decide +kernel)) ggX3_addRow_X3_within
set_option maxRecDepth 20000 in
theorem ggX3_addRow_X3_fails : GoodIn wsX3_addRow wsX3_fails := goodIn_r _ [17, 18, 25, 26, 27, 28, 29, 30, 31, 32, 33] (by decide +kernel) (by decide +kernel)
set_option maxRecDepth 20000 in
theorem gX3_addRow_X3_fails : GoodIn wsX3_addRow (wsV RX3 44 RX3 yX3_fails wsX3_fails) := goodIn_app (goodIn_of _ (by decide +kernel)) ggX3_addRow_X3_fails
set_option maxRecDepth 20000 in
theorem ggX3_addRow_X3_saves : GoodIn wsX3_addRow wsX3_saves := goodIn_r _ [22, 23, 24, 1, 25, 26, 27, 28, 29, 30, 31, 32, 33] (by decide +kernel) (by decide +kernel)
set_option maxRecDepth 20000 in
theorem gX3_addRow_X3_saves : GoodIn wsX3_addRow (wsV RX3 48 RX3 yX3_saves wsX3_saves) := goodIn_app (goodIn_of _ (by decide +kernel)) ggX3_addRow_X3_saves
theorem dX3_addRow_0 : decode cX3_addRow 0 = .ok (.aload_n 0, 1) := by decide +kernel
theorem dX3_addRow_1 : decode cX3_addRow 1 = .ok (.iload_n 1, 1) := by decide +kernel
theorem dX3_addRow_2 : decode cX3_addRow 2 = .ok (.invokevirtual 51, 3) := by decide +kernel
theorem dX3_addRow_5 : decode cX3_addRow 5 = .ok (.ifCond .eq 16, 3) := by decide +kernel
theorem dX3_addRow_8 : decode cX3_addRow 8 = .ok (.iload_n 1, 1) := by decide +kernel
theorem dX3_addRow_9 : decode cX3_addRow 9 = .ok (.ifCond .eq 12, 3) := by decide +kernel
theorem dX3_addRow_12 : decode cX3_addRow 12 = .ok (.iload_n 2, 1) := by decide +kernel
theorem dX3_addRow_13 : decode cX3_addRow 13 = .ok (.iconst 0, 1) := by decide +kernel
theorem dX3_addRow_14 : decode cX3_addRow 14 = .ok (.iconst 1, 1) := by decide +kernel
theorem dX3_addRow_15 : decode cX3_addRow 15 = .ok (.invokestatic 36, 3) := by decide +kernel
theorem dX3_addRow_18 : decode cX3_addRow 18 = .ok (.ifCond .ne 10, 3) := by decide +kernel
theorem dX3_addRow_21 : decode cX3_addRow 21 = .ok (.aload_n 0, 1) := by decide +kernel
theorem dX3_addRow_22 : decode cX3_addRow 22 = .ok (.bipush (-2), 2) := by decide +kernel
theorem dX3_addRow_24 : decode cX3_addRow 24 = .ok (.invokevirtual 44, 3) := by decide +kernel
theorem dX3_addRow_27 : decode cX3_addRow 27 = .ok (.ireturn, 1) := by decide +kernel
theorem dX3_addRow_28 : decode cX3_addRow 28 = .ok (.aload_n 0, 1) := by decide +kernel
theorem dX3_addRow_29 : decode cX3_addRow 29 = .ok (.getfield 7, 3) := by decide +kernel
theorem dX3_addRow_32 : decode cX3_addRow 32 = .ok (.iconst 1, 1) := by decide +kernel
theorem dX3_addRow_33 : decode cX3_addRow 33 = .ok (.iaload, 1) := by decide +kernel
theorem dX3_addRow_34 : decode cX3_addRow 34 = .ok (.bipush 6, 2) := by decide +kernel
theorem dX3_addRow_36 : decode cX3_addRow 36 = .ok (.if_icmp .ne 10, 3) := by decide +kernel
theorem dX3_addRow_39 : decode cX3_addRow 39 = .ok (.aload_n 0, 1) := by decide +kernel
theorem dX3_addRow_40 : decode cX3_addRow 40 = .ok (.bipush (-4), 2) := by decide +kernel
theorem dX3_addRow_42 : decode cX3_addRow 42 = .ok (.invokevirtual 44, 3) := by decide +kernel
theorem dX3_addRow_45 : decode cX3_addRow 45 = .ok (.ireturn, 1) := by decide +kernel
theorem dX3_addRow_46 : decode cX3_addRow 46 = .ok (.aload_n 0, 1) := by decide +kernel
theorem dX3_addRow_47 : decode cX3_addRow 47 = .ok (.invokevirtual 48, 3) := by decide +kernel
theorem dX3_addRow_50 : decode cX3_addRow 50 = .ok (.aload_n 0, 1) := by decide +kernel
theorem dX3_addRow_51 : decode cX3_addRow 51 = .ok (.getfield 7, 3) := by decide +kernel
theorem dX3_addRow_54 : decode cX3_addRow 54 = .ok (.iconst 2, 1) := by decide +kernel
theorem dX3_addRow_55 : decode cX3_addRow 55 = .ok (.aload_n 0, 1) := by decide +kernel
theorem dX3_addRow_56 : decode cX3_addRow 56 = .ok (.getfield 7, 3) := by decide +kernel
theorem dX3_addRow_59 : decode cX3_addRow 59 = .ok (.iconst 1, 1) := by decide +kernel
theorem dX3_addRow_60 : decode cX3_addRow 60 = .ok (.iaload, 1) := by decide +kernel
theorem dX3_addRow_61 : decode cX3_addRow 61 = .ok (.iadd, 1) := by decide +kernel
theorem dX3_addRow_62 : decode cX3_addRow 62 = .ok (.iload_n 1, 1) := by decide +kernel
theorem dX3_addRow_63 : decode cX3_addRow 63 = .ok (.iastore, 1) := by decide +kernel
theorem dX3_addRow_64 : decode cX3_addRow 64 = .ok (.aload_n 0, 1) := by decide +kernel
theorem dX3_addRow_65 : decode cX3_addRow 65 = .ok (.getfield 7, 3) := by decide +kernel
theorem dX3_addRow_68 : decode cX3_addRow 68 = .ok (.bipush 8, 2) := by decide +kernel
theorem dX3_addRow_70 : decode cX3_addRow 70 = .ok (.aload_n 0, 1) := by decide +kernel
theorem dX3_addRow_71 : decode cX3_addRow 71 = .ok (.getfield 7, 3) := by decide +kernel
theorem dX3_addRow_74 : decode cX3_addRow 74 = .ok (.iconst 1, 1) := by decide +kernel
theorem dX3_addRow_75 : decode cX3_addRow 75 = .ok (.iaload, 1) := by decide +kernel
theorem dX3_addRow_76 : decode cX3_addRow 76 = .ok (.iadd, 1) := by decide +kernel
theorem dX3_addRow_77 : decode cX3_addRow 77 = .ok (.iload_n 2, 1) := by decide +kernel
theorem dX3_addRow_78 : decode cX3_addRow 78 = .ok (.iastore, 1) := by decide +kernel
theorem dX3_addRow_79 : decode cX3_addRow 79 = .ok (.aload_n 0, 1) := by decide +kernel
theorem dX3_addRow_80 : decode cX3_addRow 80 = .ok (.getfield 7, 3) := by decide +kernel
theorem dX3_addRow_83 : decode cX3_addRow 83 = .ok (.iconst 1, 1) := by decide +kernel
theorem dX3_addRow_84 : decode cX3_addRow 84 = .ok (.dup2, 1) := by decide +kernel
theorem dX3_addRow_85 : decode cX3_addRow 85 = .ok (.iaload, 1) := by decide +kernel
theorem dX3_addRow_86 : decode cX3_addRow 86 = .ok (.iconst 1, 1) := by decide +kernel
theorem dX3_addRow_87 : decode cX3_addRow 87 = .ok (.iadd, 1) := by decide +kernel
theorem dX3_addRow_88 : decode cX3_addRow 88 = .ok (.iastore, 1) := by decide +kernel
theorem dX3_addRow_89 : decode cX3_addRow 89 = .ok (.aload_n 0, 1) := by decide +kernel
theorem dX3_addRow_90 : decode cX3_addRow 90 = .ok (.getfield 7, 3) := by decide +kernel
theorem dX3_addRow_93 : decode cX3_addRow 93 = .ok (.iconst 1, 1) := by decide +kernel
theorem dX3_addRow_94 : decode cX3_addRow 94 = .ok (.iaload, 1) := by decide +kernel
theorem dX3_addRow_95 : decode cX3_addRow 95 = .ok (.iconst 1, 1) := by decide +kernel
theorem dX3_addRow_96 : decode cX3_addRow 96 = .ok (.isub, 1) := by decide +kernel
theorem dX3_addRow_97 : decode cX3_addRow 97 = .ok (.ireturn, 1) := by decide +kernel
theorem dX3_removes_0 : decode cX3_removes 0 = .ok (.aload_n 0, 1) := by decide +kernel
theorem dX3_removes_1 : decode cX3_removes 1 = .ok (.getfield 7, 3) := by decide +kernel
theorem dX3_removes_4 : decode cX3_removes 4 = .ok (.iconst 1, 1) := by decide +kernel
theorem dX3_removes_5 : decode cX3_removes 5 = .ok (.dup2, 1) := by decide +kernel
theorem dX3_removes_6 : decode cX3_removes 6 = .ok (.iaload, 1) := by decide +kernel
theorem dX3_removes_7 : decode cX3_removes 7 = .ok (.iconst 1, 1) := by decide +kernel
theorem dX3_removes_8 : decode cX3_removes 8 = .ok (.isub, 1) := by decide +kernel
theorem dX3_removes_9 : decode cX3_removes 9 = .ok (.iastore, 1) := by decide +kernel
theorem dX3_removes_10 : decode cX3_removes 10 = .ok (.iload_n 1, 1) := by decide +kernel
theorem dX3_removes_11 : decode cX3_removes 11 = .ok (.istore_n 2, 1) := by decide +kernel
theorem dX3_removes_12 : decode cX3_removes 12 = .ok (.iload_n 2, 1) := by decide +kernel
theorem dX3_removes_13 : decode cX3_removes 13 = .ok (.aload_n 0, 1) := by decide +kernel
theorem dX3_removes_14 : decode cX3_removes 14 = .ok (.getfield 7, 3) := by decide +kernel
theorem dX3_removes_17 : decode cX3_removes 17 = .ok (.iconst 1, 1) := by decide +kernel
theorem dX3_removes_18 : decode cX3_removes 18 = .ok (.iaload, 1) := by decide +kernel
theorem dX3_removes_19 : decode cX3_removes 19 = .ok (.if_icmp .ge 47, 3) := by decide +kernel
theorem dX3_removes_22 : decode cX3_removes 22 = .ok (.aload_n 0, 1) := by decide +kernel
theorem dX3_removes_23 : decode cX3_removes 23 = .ok (.getfield 7, 3) := by decide +kernel
theorem dX3_removes_26 : decode cX3_removes 26 = .ok (.iconst 2, 1) := by decide +kernel
theorem dX3_removes_27 : decode cX3_removes 27 = .ok (.iload_n 2, 1) := by decide +kernel
theorem dX3_removes_28 : decode cX3_removes 28 = .ok (.iadd, 1) := by decide +kernel
theorem dX3_removes_29 : decode cX3_removes 29 = .ok (.aload_n 0, 1) := by decide +kernel
theorem dX3_removes_30 : decode cX3_removes 30 = .ok (.getfield 7, 3) := by decide +kernel
theorem dX3_removes_33 : decode cX3_removes 33 = .ok (.iconst 2, 1) := by decide +kernel
theorem dX3_removes_34 : decode cX3_removes 34 = .ok (.iload_n 2, 1) := by decide +kernel
theorem dX3_removes_35 : decode cX3_removes 35 = .ok (.iadd, 1) := by decide +kernel
theorem dX3_removes_36 : decode cX3_removes 36 = .ok (.iconst 1, 1) := by decide +kernel
theorem dX3_removes_37 : decode cX3_removes 37 = .ok (.iadd, 1) := by decide +kernel
theorem dX3_removes_38 : decode cX3_removes 38 = .ok (.iaload, 1) := by decide +kernel
theorem dX3_removes_39 : decode cX3_removes 39 = .ok (.iastore, 1) := by decide +kernel
theorem dX3_removes_40 : decode cX3_removes 40 = .ok (.aload_n 0, 1) := by decide +kernel
theorem dX3_removes_41 : decode cX3_removes 41 = .ok (.getfield 7, 3) := by decide +kernel
theorem dX3_removes_44 : decode cX3_removes 44 = .ok (.bipush 8, 2) := by decide +kernel
theorem dX3_removes_46 : decode cX3_removes 46 = .ok (.iload_n 2, 1) := by decide +kernel
theorem dX3_removes_47 : decode cX3_removes 47 = .ok (.iadd, 1) := by decide +kernel
theorem dX3_removes_48 : decode cX3_removes 48 = .ok (.aload_n 0, 1) := by decide +kernel
theorem dX3_removes_49 : decode cX3_removes 49 = .ok (.getfield 7, 3) := by decide +kernel
theorem dX3_removes_52 : decode cX3_removes 52 = .ok (.bipush 8, 2) := by decide +kernel
theorem dX3_removes_54 : decode cX3_removes 54 = .ok (.iload_n 2, 1) := by decide +kernel
theorem dX3_removes_55 : decode cX3_removes 55 = .ok (.iadd, 1) := by decide +kernel
theorem dX3_removes_56 : decode cX3_removes 56 = .ok (.iconst 1, 1) := by decide +kernel
theorem dX3_removes_57 : decode cX3_removes 57 = .ok (.iadd, 1) := by decide +kernel
theorem dX3_removes_58 : decode cX3_removes 58 = .ok (.iaload, 1) := by decide +kernel
theorem dX3_removes_59 : decode cX3_removes 59 = .ok (.iastore, 1) := by decide +kernel
theorem dX3_removes_60 : decode cX3_removes 60 = .ok (.iinc 2 1, 3) := by decide +kernel
theorem dX3_removes_63 : decode cX3_removes 63 = .ok (.goto (-51), 3) := by decide +kernel
theorem dX3_removes_66 : decode cX3_removes 66 = .ok (.return_, 1) := by decide +kernel
set_option maxRecDepth 20000 in
theorem ggX3_removeRow_X3_isRow : GoodIn wsX3_removeRow wsX3_isRow := goodIn_r _ [6, 1, 7, 8, 5, 9, 25, 26, 27, 28, 29, 30, 31, 32, 33] (by decide +kernel) (by decide +kernel)
set_option maxRecDepth 20000 in
theorem gX3_removeRow_X3_isRow : GoodIn wsX3_removeRow (wsV RX3 55 RX3 yX3_isRow wsX3_isRow) := goodIn_app (goodIn_of _ (by decide +kernel)) ggX3_removeRow_X3_isRow
set_option maxRecDepth 20000 in
theorem ggX3_removeRow_X3_fails : GoodIn wsX3_removeRow wsX3_fails := goodIn_r _ [13, 14, 25, 26, 27, 28, 29, 30, 31, 32, 33] (by decide +kernel) (by decide +kernel)
set_option maxRecDepth 20000 in
theorem gX3_removeRow_X3_fails : GoodIn wsX3_removeRow (wsV RX3 44 RX3 yX3_fails wsX3_fails) := goodIn_app (goodIn_of _ (by decide +kernel)) ggX3_removeRow_X3_fails
set_option maxRecDepth 20000 in
theorem ggX3_removeRow_X3_saves : GoodIn wsX3_removeRow wsX3_saves := goodIn_r _ [18, 19, 20, 1, 25, 26, 27, 28, 29, 30, 31, 32, 33] (by decide +kernel) (by decide +kernel)
set_option maxRecDepth 20000 in
theorem gX3_removeRow_X3_saves : GoodIn wsX3_removeRow (wsV RX3 48 RX3 yX3_saves wsX3_saves) := goodIn_app (goodIn_of _ (by decide +kernel)) ggX3_removeRow_X3_saves
set_option maxRecDepth 20000 in
theorem ggX3_removeRow_X3_removes : GoodIn wsX3_removeRow wsX3_removes := goodIn_r _ [24, 1, 25, 26, 27, 28, 29, 30, 31, 32, 33] (by decide +kernel) (by decide +kernel)
set_option maxRecDepth 20000 in
theorem gX3_removeRow_X3_removes : GoodIn wsX3_removeRow (wsV RX3 58 RX3 yX3_removes wsX3_removes) := goodIn_app (goodIn_of _ (by decide +kernel)) ggX3_removeRow_X3_removes
theorem dX3_removeRow_0 : decode cX3_removeRow 0 = .ok (.aload_n 0, 1) := by decide +kernel
theorem dX3_removeRow_1 : decode cX3_removeRow 1 = .ok (.iload_n 1, 1) := by decide +kernel
theorem dX3_removeRow_2 : decode cX3_removeRow 2 = .ok (.invokevirtual 55, 3) := by decide +kernel
theorem dX3_removeRow_5 : decode cX3_removeRow 5 = .ok (.ifCond .ne 10, 3) := by decide +kernel
theorem dX3_removeRow_8 : decode cX3_removeRow 8 = .ok (.aload_n 0, 1) := by decide +kernel
theorem dX3_removeRow_9 : decode cX3_removeRow 9 = .ok (.bipush (-2), 2) := by decide +kernel
theorem dX3_removeRow_11 : decode cX3_removeRow 11 = .ok (.invokevirtual 44, 3) := by decide +kernel
theorem dX3_removeRow_14 : decode cX3_removeRow 14 = .ok (.ireturn, 1) := by decide +kernel
theorem dX3_removeRow_15 : decode cX3_removeRow 15 = .ok (.aload_n 0, 1) := by decide +kernel
theorem dX3_removeRow_16 : decode cX3_removeRow 16 = .ok (.invokevirtual 48, 3) := by decide +kernel
theorem dX3_removeRow_19 : decode cX3_removeRow 19 = .ok (.aload_n 0, 1) := by decide +kernel
theorem dX3_removeRow_20 : decode cX3_removeRow 20 = .ok (.iload_n 1, 1) := by decide +kernel
theorem dX3_removeRow_21 : decode cX3_removeRow 21 = .ok (.invokevirtual 58, 3) := by decide +kernel
theorem dX3_removeRow_24 : decode cX3_removeRow 24 = .ok (.aload_n 0, 1) := by decide +kernel
theorem dX3_removeRow_25 : decode cX3_removeRow 25 = .ok (.getfield 7, 3) := by decide +kernel
theorem dX3_removeRow_28 : decode cX3_removeRow 28 = .ok (.iconst 1, 1) := by decide +kernel
theorem dX3_removeRow_29 : decode cX3_removeRow 29 = .ok (.iaload, 1) := by decide +kernel
theorem dX3_removeRow_30 : decode cX3_removeRow 30 = .ok (.ireturn, 1) := by decide +kernel
theorem dX3_isDependent_0 : decode cX3_isDependent 0 = .ok (.iconst 1, 1) := by decide +kernel
theorem dX3_isDependent_1 : decode cX3_isDependent 1 = .ok (.istore_n 2, 1) := by decide +kernel
theorem dX3_isDependent_2 : decode cX3_isDependent 2 = .ok (.iload_n 2, 1) := by decide +kernel
theorem dX3_isDependent_3 : decode cX3_isDependent 3 = .ok (.iconst 1, 1) := by decide +kernel
theorem dX3_isDependent_4 : decode cX3_isDependent 4 = .ok (.iload_n 1, 1) := by decide +kernel
theorem dX3_isDependent_5 : decode cX3_isDependent 5 = .ok (.ishl, 1) := by decide +kernel
theorem dX3_isDependent_6 : decode cX3_isDependent 6 = .ok (.if_icmp .ge 66, 3) := by decide +kernel
theorem dX3_isDependent_9 : decode cX3_isDependent 9 = .ok (.iconst 0, 1) := by decide +kernel
theorem dX3_isDependent_10 : decode cX3_isDependent 10 = .ok (.istore_n 3, 1) := by decide +kernel
theorem dX3_isDependent_11 : decode cX3_isDependent 11 = .ok (.iconst 0, 1) := by decide +kernel
theorem dX3_isDependent_12 : decode cX3_isDependent 12 = .ok (.istore 4, 2) := by decide +kernel
theorem dX3_isDependent_14 : decode cX3_isDependent 14 = .ok (.iload 4, 2) := by decide +kernel
theorem dX3_isDependent_16 : decode cX3_isDependent 16 = .ok (.iload_n 1, 1) := by decide +kernel
theorem dX3_isDependent_17 : decode cX3_isDependent 17 = .ok (.if_icmp .ge 35, 3) := by decide +kernel
theorem dX3_isDependent_20 : decode cX3_isDependent 20 = .ok (.iload_n 3, 1) := by decide +kernel
theorem dX3_isDependent_21 : decode cX3_isDependent 21 = .ok (.iload_n 2, 1) := by decide +kernel
theorem dX3_isDependent_22 : decode cX3_isDependent 22 = .ok (.iload 4, 2) := by decide +kernel
theorem dX3_isDependent_24 : decode cX3_isDependent 24 = .ok (.ishr, 1) := by decide +kernel
theorem dX3_isDependent_25 : decode cX3_isDependent 25 = .ok (.iconst 1, 1) := by decide +kernel
theorem dX3_isDependent_26 : decode cX3_isDependent 26 = .ok (.iand, 1) := by decide +kernel
theorem dX3_isDependent_27 : decode cX3_isDependent 27 = .ok (.iconst 1, 1) := by decide +kernel
theorem dX3_isDependent_28 : decode cX3_isDependent 28 = .ok (.if_icmp .ne 15, 3) := by decide +kernel
theorem dX3_isDependent_31 : decode cX3_isDependent 31 = .ok (.aload_n 0, 1) := by decide +kernel
theorem dX3_isDependent_32 : decode cX3_isDependent 32 = .ok (.getfield 7, 3) := by decide +kernel
theorem dX3_isDependent_35 : decode cX3_isDependent 35 = .ok (.iconst 2, 1) := by decide +kernel
theorem dX3_isDependent_36 : decode cX3_isDependent 36 = .ok (.iload 4, 2) := by decide +kernel
theorem dX3_isDependent_38 : decode cX3_isDependent 38 = .ok (.iadd, 1) := by decide +kernel
theorem dX3_isDependent_39 : decode cX3_isDependent 39 = .ok (.iaload, 1) := by decide +kernel
theorem dX3_isDependent_40 : decode cX3_isDependent 40 = .ok (.goto 4, 3) := by decide +kernel
theorem dX3_isDependent_43 : decode cX3_isDependent 43 = .ok (.iconst 0, 1) := by decide +kernel
theorem dX3_isDependent_44 : decode cX3_isDependent 44 = .ok (.ixor, 1) := by decide +kernel
theorem dX3_isDependent_45 : decode cX3_isDependent 45 = .ok (.istore_n 3, 1) := by decide +kernel
theorem dX3_isDependent_46 : decode cX3_isDependent 46 = .ok (.iinc 4 1, 3) := by decide +kernel
theorem dX3_isDependent_49 : decode cX3_isDependent 49 = .ok (.goto (-35), 3) := by decide +kernel
theorem dX3_isDependent_52 : decode cX3_isDependent 52 = .ok (.iload_n 3, 1) := by decide +kernel
theorem dX3_isDependent_53 : decode cX3_isDependent 53 = .ok (.aload_n 0, 1) := by decide +kernel
theorem dX3_isDependent_54 : decode cX3_isDependent 54 = .ok (.getfield 7, 3) := by decide +kernel
theorem dX3_isDependent_57 : decode cX3_isDependent 57 = .ok (.iconst 2, 1) := by decide +kernel
theorem dX3_isDependent_58 : decode cX3_isDependent 58 = .ok (.iload_n 1, 1) := by decide +kernel
theorem dX3_isDependent_59 : decode cX3_isDependent 59 = .ok (.iadd, 1) := by decide +kernel
theorem dX3_isDependent_60 : decode cX3_isDependent 60 = .ok (.iaload, 1) := by decide +kernel
theorem dX3_isDependent_61 : decode cX3_isDependent 61 = .ok (.if_icmp .ne 5, 3) := by decide +kernel
theorem dX3_isDependent_64 : decode cX3_isDependent 64 = .ok (.iconst 1, 1) := by decide +kernel
theorem dX3_isDependent_65 : decode cX3_isDependent 65 = .ok (.ireturn, 1) := by decide +kernel
theorem dX3_isDependent_66 : decode cX3_isDependent 66 = .ok (.iinc 2 1, 3) := by decide +kernel
theorem dX3_isDependent_69 : decode cX3_isDependent 69 = .ok (.goto (-67), 3) := by decide +kernel
theorem dX3_isDependent_72 : decode cX3_isDependent 72 = .ok (.iconst 0, 1) := by decide +kernel
theorem dX3_isDependent_73 : decode cX3_isDependent 73 = .ok (.ireturn, 1) := by decide +kernel
set_option maxRecDepth 20000 in
theorem ggX3_removeDependentRows_X3_saves : GoodIn wsX3_removeDependentRows wsX3_saves := goodIn_r _ [6, 7, 8, 1, 17, 18, 19, 20, 21, 22, 23, 24, 25] (by decide +kernel) (by decide +kernel)
set_option maxRecDepth 20000 in
theorem gX3_removeDependentRows_X3_saves : GoodIn wsX3_removeDependentRows (wsV RX3 48 RX3 yX3_saves wsX3_saves) := goodIn_app (goodIn_of _ (by decide +kernel)) ggX3_removeDependentRows_X3_saves
set_option maxRecDepth 20000 in
theorem ggX3_removeDependentRows_X3_isDependent : GoodIn wsX3_removeDependentRows wsX3_isDependent := goodIn_r _ [12, 1, 17, 18, 19, 20, 21, 22, 23, 24, 25] (by decide +kernel) (by decide +kernel)
set_option maxRecDepth 20000 in
theorem gX3_removeDependentRows_X3_isDependent : GoodIn wsX3_removeDependentRows (wsV RX3 62 RX3 yX3_isDependent wsX3_isDependent) := goodIn_app (goodIn_of _ (by decide +kernel)) ggX3_removeDependentRows_X3_isDependent
set_option maxRecDepth 20000 in
theorem ggX3_removeDependentRows_X3_removes : GoodIn wsX3_removeDependentRows wsX3_removes := goodIn_r _ [16, 1, 17, 18, 19, 20, 21, 22, 23, 24, 25] (by decide +kernel) (by decide +kernel)
set_option maxRecDepth 20000 in
theorem gX3_removeDependentRows_X3_removes : GoodIn wsX3_removeDependentRows (wsV RX3 58 RX3 yX3_removes wsX3_removes) := goodIn_app (goodIn_of _ (by decide +kernel)) ggX3_removeDependentRows_X3_removes
theorem dX3_removeDependentRows_0 : decode cX3_removeDependentRows 0 = .ok (.aload_n 0, 1) := by decide +kernel
theorem dX3_removeDependentRows_1 : decode cX3_removeDependentRows 1 = .ok (.invokevirtual 48, 3) := by decide +kernel
theorem dX3_removeDependentRows_4 : decode cX3_removeDependentRows 4 = .ok (.aload_n 0, 1) := by decide +kernel
theorem dX3_removeDependentRows_5 : decode cX3_removeDependentRows 5 = .ok (.getfield 7, 3) := by decide +kernel
theorem dX3_removeDependentRows_8 : decode cX3_removeDependentRows 8 = .ok (.iconst 1, 1) := by decide +kernel
theorem dX3_removeDependentRows_9 : decode cX3_removeDependentRows 9 = .ok (.iaload, 1) := by decide +kernel
theorem dX3_removeDependentRows_10 : decode cX3_removeDependentRows 10 = .ok (.istore_n 1, 1) := by decide +kernel
theorem dX3_removeDependentRows_11 : decode cX3_removeDependentRows 11 = .ok (.iconst 0, 1) := by decide +kernel
theorem dX3_removeDependentRows_12 : decode cX3_removeDependentRows 12 = .ok (.istore_n 2, 1) := by decide +kernel
theorem dX3_removeDependentRows_13 : decode cX3_removeDependentRows 13 = .ok (.iload_n 2, 1) := by decide +kernel
theorem dX3_removeDependentRows_14 : decode cX3_removeDependentRows 14 = .ok (.aload_n 0, 1) := by decide +kernel
theorem dX3_removeDependentRows_15 : decode cX3_removeDependentRows 15 = .ok (.getfield 7, 3) := by decide +kernel
theorem dX3_removeDependentRows_18 : decode cX3_removeDependentRows 18 = .ok (.iconst 1, 1) := by decide +kernel
theorem dX3_removeDependentRows_19 : decode cX3_removeDependentRows 19 = .ok (.iaload, 1) := by decide +kernel
theorem dX3_removeDependentRows_20 : decode cX3_removeDependentRows 20 = .ok (.if_icmp .ge 25, 3) := by decide +kernel
theorem dX3_removeDependentRows_23 : decode cX3_removeDependentRows 23 = .ok (.aload_n 0, 1) := by decide +kernel
theorem dX3_removeDependentRows_24 : decode cX3_removeDependentRows 24 = .ok (.iload_n 2, 1) := by decide +kernel
theorem dX3_removeDependentRows_25 : decode cX3_removeDependentRows 25 = .ok (.invokevirtual 62, 3) := by decide +kernel
theorem dX3_removeDependentRows_28 : decode cX3_removeDependentRows 28 = .ok (.ifCond .eq 11, 3) := by decide +kernel
theorem dX3_removeDependentRows_31 : decode cX3_removeDependentRows 31 = .ok (.aload_n 0, 1) := by decide +kernel
theorem dX3_removeDependentRows_32 : decode cX3_removeDependentRows 32 = .ok (.iload_n 2, 1) := by decide +kernel
theorem dX3_removeDependentRows_33 : decode cX3_removeDependentRows 33 = .ok (.invokevirtual 58, 3) := by decide +kernel
theorem dX3_removeDependentRows_36 : decode cX3_removeDependentRows 36 = .ok (.goto (-23), 3) := by decide +kernel
theorem dX3_removeDependentRows_39 : decode cX3_removeDependentRows 39 = .ok (.iinc 2 1, 3) := by decide +kernel
theorem dX3_removeDependentRows_42 : decode cX3_removeDependentRows 42 = .ok (.goto (-29), 3) := by decide +kernel
theorem dX3_removeDependentRows_45 : decode cX3_removeDependentRows 45 = .ok (.iload_n 1, 1) := by decide +kernel
theorem dX3_removeDependentRows_46 : decode cX3_removeDependentRows 46 = .ok (.aload_n 0, 1) := by decide +kernel
theorem dX3_removeDependentRows_47 : decode cX3_removeDependentRows 47 = .ok (.getfield 7, 3) := by decide +kernel
theorem dX3_removeDependentRows_50 : decode cX3_removeDependentRows 50 = .ok (.iconst 1, 1) := by decide +kernel
theorem dX3_removeDependentRows_51 : decode cX3_removeDependentRows 51 = .ok (.iaload, 1) := by decide +kernel
theorem dX3_removeDependentRows_52 : decode cX3_removeDependentRows 52 = .ok (.isub, 1) := by decide +kernel
theorem dX3_removeDependentRows_53 : decode cX3_removeDependentRows 53 = .ok (.ireturn, 1) := by decide +kernel
set_option maxRecDepth 20000 in
theorem ggX3_row_X3_isRow : GoodIn wsX3_row wsX3_isRow := goodIn_r _ [6, 1, 7, 8, 5, 9, 15, 16, 17, 18, 19, 20, 21, 22, 23] (by decide +kernel) (by decide +kernel)
set_option maxRecDepth 20000 in
theorem gX3_row_X3_isRow : GoodIn wsX3_row (wsV RX3 55 RX3 yX3_isRow wsX3_isRow) := goodIn_app (goodIn_of _ (by decide +kernel)) ggX3_row_X3_isRow
set_option maxRecDepth 20000 in
theorem ggX3_row_X3_fails : GoodIn wsX3_row wsX3_fails := goodIn_r _ [13, 14, 15, 16, 17, 18, 19, 20, 21, 22, 23] (by decide +kernel) (by decide +kernel)
set_option maxRecDepth 20000 in
theorem gX3_row_X3_fails : GoodIn wsX3_row (wsV RX3 44 RX3 yX3_fails wsX3_fails) := goodIn_app (goodIn_of _ (by decide +kernel)) ggX3_row_X3_fails
theorem dX3_row_0 : decode cX3_row 0 = .ok (.aload_n 0, 1) := by decide +kernel
theorem dX3_row_1 : decode cX3_row 1 = .ok (.iload_n 1, 1) := by decide +kernel
theorem dX3_row_2 : decode cX3_row 2 = .ok (.invokevirtual 55, 3) := by decide +kernel
theorem dX3_row_5 : decode cX3_row 5 = .ok (.ifCond .eq 14, 3) := by decide +kernel
theorem dX3_row_8 : decode cX3_row 8 = .ok (.aload_n 0, 1) := by decide +kernel
theorem dX3_row_9 : decode cX3_row 9 = .ok (.getfield 7, 3) := by decide +kernel
theorem dX3_row_12 : decode cX3_row 12 = .ok (.iconst 2, 1) := by decide +kernel
theorem dX3_row_13 : decode cX3_row 13 = .ok (.iload_n 1, 1) := by decide +kernel
theorem dX3_row_14 : decode cX3_row 14 = .ok (.iadd, 1) := by decide +kernel
theorem dX3_row_15 : decode cX3_row 15 = .ok (.iaload, 1) := by decide +kernel
theorem dX3_row_16 : decode cX3_row 16 = .ok (.goto 9, 3) := by decide +kernel
theorem dX3_row_19 : decode cX3_row 19 = .ok (.aload_n 0, 1) := by decide +kernel
theorem dX3_row_20 : decode cX3_row 20 = .ok (.bipush (-2), 2) := by decide +kernel
theorem dX3_row_22 : decode cX3_row 22 = .ok (.invokevirtual 44, 3) := by decide +kernel
theorem dX3_row_25 : decode cX3_row 25 = .ok (.ireturn, 1) := by decide +kernel
set_option maxRecDepth 20000 in
theorem ggX3_isCheck_X3_isRow : GoodIn wsX3_isCheck wsX3_isRow := goodIn_r _ [6, 1, 7, 8, 5, 9, 15, 16, 17, 18, 19, 20, 21, 22, 23] (by decide +kernel) (by decide +kernel)
set_option maxRecDepth 20000 in
theorem gX3_isCheck_X3_isRow : GoodIn wsX3_isCheck (wsV RX3 55 RX3 yX3_isRow wsX3_isRow) := goodIn_app (goodIn_of _ (by decide +kernel)) ggX3_isCheck_X3_isRow
set_option maxRecDepth 20000 in
theorem ggX3_isCheck_X3_fails : GoodIn wsX3_isCheck wsX3_fails := goodIn_r _ [13, 14, 15, 16, 17, 18, 19, 20, 21, 22, 23] (by decide +kernel) (by decide +kernel)
set_option maxRecDepth 20000 in
theorem gX3_isCheck_X3_fails : GoodIn wsX3_isCheck (wsV RX3 44 RX3 yX3_fails wsX3_fails) := goodIn_app (goodIn_of _ (by decide +kernel)) ggX3_isCheck_X3_fails
theorem dX3_isCheck_0 : decode cX3_isCheck 0 = .ok (.aload_n 0, 1) := by decide +kernel
theorem dX3_isCheck_1 : decode cX3_isCheck 1 = .ok (.iload_n 1, 1) := by decide +kernel
theorem dX3_isCheck_2 : decode cX3_isCheck 2 = .ok (.invokevirtual 55, 3) := by decide +kernel
theorem dX3_isCheck_5 : decode cX3_isCheck 5 = .ok (.ifCond .eq 15, 3) := by decide +kernel
theorem dX3_isCheck_8 : decode cX3_isCheck 8 = .ok (.aload_n 0, 1) := by decide +kernel
theorem dX3_isCheck_9 : decode cX3_isCheck 9 = .ok (.getfield 7, 3) := by decide +kernel
theorem dX3_isCheck_12 : decode cX3_isCheck 12 = .ok (.bipush 8, 2) := by decide +kernel
theorem dX3_isCheck_14 : decode cX3_isCheck 14 = .ok (.iload_n 1, 1) := by decide +kernel
theorem dX3_isCheck_15 : decode cX3_isCheck 15 = .ok (.iadd, 1) := by decide +kernel
theorem dX3_isCheck_16 : decode cX3_isCheck 16 = .ok (.iaload, 1) := by decide +kernel
theorem dX3_isCheck_17 : decode cX3_isCheck 17 = .ok (.goto 9, 3) := by decide +kernel
theorem dX3_isCheck_20 : decode cX3_isCheck 20 = .ok (.aload_n 0, 1) := by decide +kernel
theorem dX3_isCheck_21 : decode cX3_isCheck 21 = .ok (.bipush (-2), 2) := by decide +kernel
theorem dX3_isCheck_23 : decode cX3_isCheck 23 = .ok (.invokevirtual 44, 3) := by decide +kernel
theorem dX3_isCheck_26 : decode cX3_isCheck 26 = .ok (.ireturn, 1) := by decide +kernel
theorem dX3_rankOf_0 : decode cX3_rankOf 0 = .ok (.iconst 0, 1) := by decide +kernel
theorem dX3_rankOf_1 : decode cX3_rankOf 1 = .ok (.istore_n 3, 1) := by decide +kernel
theorem dX3_rankOf_2 : decode cX3_rankOf 2 = .ok (.iload_n 3, 1) := by decide +kernel
theorem dX3_rankOf_3 : decode cX3_rankOf 3 = .ok (.aload_n 0, 1) := by decide +kernel
theorem dX3_rankOf_4 : decode cX3_rankOf 4 = .ok (.getfield 7, 3) := by decide +kernel
theorem dX3_rankOf_7 : decode cX3_rankOf 7 = .ok (.iconst 1, 1) := by decide +kernel
theorem dX3_rankOf_8 : decode cX3_rankOf 8 = .ok (.iaload, 1) := by decide +kernel
theorem dX3_rankOf_9 : decode cX3_rankOf 9 = .ok (.if_icmp .ge 47, 3) := by decide +kernel
theorem dX3_rankOf_12 : decode cX3_rankOf 12 = .ok (.aload_n 0, 1) := by decide +kernel
theorem dX3_rankOf_13 : decode cX3_rankOf 13 = .ok (.getfield 19, 3) := by decide +kernel
theorem dX3_rankOf_16 : decode cX3_rankOf 16 = .ok (.iload_n 3, 1) := by decide +kernel
theorem dX3_rankOf_17 : decode cX3_rankOf 17 = .ok (.iload_n 1, 1) := by decide +kernel
theorem dX3_rankOf_18 : decode cX3_rankOf 18 = .ok (.iconst 2, 1) := by decide +kernel
theorem dX3_rankOf_19 : decode cX3_rankOf 19 = .ok (.if_icmp .eq 16, 3) := by decide +kernel
theorem dX3_rankOf_22 : decode cX3_rankOf 22 = .ok (.aload_n 0, 1) := by decide +kernel
theorem dX3_rankOf_23 : decode cX3_rankOf 23 = .ok (.getfield 7, 3) := by decide +kernel
theorem dX3_rankOf_26 : decode cX3_rankOf 26 = .ok (.bipush 8, 2) := by decide +kernel
theorem dX3_rankOf_28 : decode cX3_rankOf 28 = .ok (.iload_n 3, 1) := by decide +kernel
theorem dX3_rankOf_29 : decode cX3_rankOf 29 = .ok (.iadd, 1) := by decide +kernel
theorem dX3_rankOf_30 : decode cX3_rankOf 30 = .ok (.iaload, 1) := by decide +kernel
theorem dX3_rankOf_31 : decode cX3_rankOf 31 = .ok (.iload_n 1, 1) := by decide +kernel
theorem dX3_rankOf_32 : decode cX3_rankOf 32 = .ok (.if_icmp .ne 16, 3) := by decide +kernel
theorem dX3_rankOf_35 : decode cX3_rankOf 35 = .ok (.aload_n 0, 1) := by decide +kernel
theorem dX3_rankOf_36 : decode cX3_rankOf 36 = .ok (.getfield 7, 3) := by decide +kernel
theorem dX3_rankOf_39 : decode cX3_rankOf 39 = .ok (.iconst 2, 1) := by decide +kernel
theorem dX3_rankOf_40 : decode cX3_rankOf 40 = .ok (.iload_n 3, 1) := by decide +kernel
theorem dX3_rankOf_41 : decode cX3_rankOf 41 = .ok (.iadd, 1) := by decide +kernel
theorem dX3_rankOf_42 : decode cX3_rankOf 42 = .ok (.iaload, 1) := by decide +kernel
theorem dX3_rankOf_43 : decode cX3_rankOf 43 = .ok (.iload_n 2, 1) := by decide +kernel
theorem dX3_rankOf_44 : decode cX3_rankOf 44 = .ok (.iand, 1) := by decide +kernel
theorem dX3_rankOf_45 : decode cX3_rankOf 45 = .ok (.goto 4, 3) := by decide +kernel
theorem dX3_rankOf_48 : decode cX3_rankOf 48 = .ok (.iconst 0, 1) := by decide +kernel
theorem dX3_rankOf_49 : decode cX3_rankOf 49 = .ok (.iastore, 1) := by decide +kernel
theorem dX3_rankOf_50 : decode cX3_rankOf 50 = .ok (.iinc 3 1, 3) := by decide +kernel
theorem dX3_rankOf_53 : decode cX3_rankOf 53 = .ok (.goto (-51), 3) := by decide +kernel
theorem dX3_rankOf_56 : decode cX3_rankOf 56 = .ok (.iconst 0, 1) := by decide +kernel
theorem dX3_rankOf_57 : decode cX3_rankOf 57 = .ok (.istore_n 3, 1) := by decide +kernel
theorem dX3_rankOf_58 : decode cX3_rankOf 58 = .ok (.iconst 0, 1) := by decide +kernel
theorem dX3_rankOf_59 : decode cX3_rankOf 59 = .ok (.istore 4, 2) := by decide +kernel
theorem dX3_rankOf_61 : decode cX3_rankOf 61 = .ok (.iload 4, 2) := by decide +kernel
theorem dX3_rankOf_63 : decode cX3_rankOf 63 = .ok (.aload_n 0, 1) := by decide +kernel
theorem dX3_rankOf_64 : decode cX3_rankOf 64 = .ok (.getfield 7, 3) := by decide +kernel
theorem dX3_rankOf_67 : decode cX3_rankOf 67 = .ok (.iconst 1, 1) := by decide +kernel
theorem dX3_rankOf_68 : decode cX3_rankOf 68 = .ok (.iaload, 1) := by decide +kernel
theorem dX3_rankOf_69 : decode cX3_rankOf 69 = .ok (.if_icmp .ge 97, 3) := by decide +kernel
theorem dX3_rankOf_72 : decode cX3_rankOf 72 = .ok (.aload_n 0, 1) := by decide +kernel
theorem dX3_rankOf_73 : decode cX3_rankOf 73 = .ok (.getfield 19, 3) := by decide +kernel
theorem dX3_rankOf_76 : decode cX3_rankOf 76 = .ok (.iload 4, 2) := by decide +kernel
theorem dX3_rankOf_78 : decode cX3_rankOf 78 = .ok (.iaload, 1) := by decide +kernel
theorem dX3_rankOf_79 : decode cX3_rankOf 79 = .ok (.ifCond .eq 81, 3) := by decide +kernel
theorem dX3_rankOf_82 : decode cX3_rankOf 82 = .ok (.iinc 3 1, 3) := by decide +kernel
theorem dX3_rankOf_85 : decode cX3_rankOf 85 = .ok (.aload_n 0, 1) := by decide +kernel
theorem dX3_rankOf_86 : decode cX3_rankOf 86 = .ok (.getfield 19, 3) := by decide +kernel
theorem dX3_rankOf_89 : decode cX3_rankOf 89 = .ok (.iload 4, 2) := by decide +kernel
theorem dX3_rankOf_91 : decode cX3_rankOf 91 = .ok (.iaload, 1) := by decide +kernel
theorem dX3_rankOf_92 : decode cX3_rankOf 92 = .ok (.aload_n 0, 1) := by decide +kernel
theorem dX3_rankOf_93 : decode cX3_rankOf 93 = .ok (.getfield 19, 3) := by decide +kernel
theorem dX3_rankOf_96 : decode cX3_rankOf 96 = .ok (.iload 4, 2) := by decide +kernel
theorem dX3_rankOf_98 : decode cX3_rankOf 98 = .ok (.iaload, 1) := by decide +kernel
theorem dX3_rankOf_99 : decode cX3_rankOf 99 = .ok (.ineg, 1) := by decide +kernel
theorem dX3_rankOf_100 : decode cX3_rankOf 100 = .ok (.iand, 1) := by decide +kernel
theorem dX3_rankOf_101 : decode cX3_rankOf 101 = .ok (.istore 5, 2) := by decide +kernel
theorem dX3_rankOf_103 : decode cX3_rankOf 103 = .ok (.iload 4, 2) := by decide +kernel
theorem dX3_rankOf_105 : decode cX3_rankOf 105 = .ok (.iconst 1, 1) := by decide +kernel
theorem dX3_rankOf_106 : decode cX3_rankOf 106 = .ok (.iadd, 1) := by decide +kernel
theorem dX3_rankOf_107 : decode cX3_rankOf 107 = .ok (.istore 6, 2) := by decide +kernel
end
section
theorem dX3_rankOf_109 : decode cX3_rankOf 109 = .ok (.iload 6, 2) := by decide +kernel
theorem dX3_rankOf_111 : decode cX3_rankOf 111 = .ok (.aload_n 0, 1) := by decide +kernel
theorem dX3_rankOf_112 : decode cX3_rankOf 112 = .ok (.getfield 7, 3) := by decide +kernel
theorem dX3_rankOf_115 : decode cX3_rankOf 115 = .ok (.iconst 1, 1) := by decide +kernel
theorem dX3_rankOf_116 : decode cX3_rankOf 116 = .ok (.iaload, 1) := by decide +kernel
theorem dX3_rankOf_117 : decode cX3_rankOf 117 = .ok (.if_icmp .ge 43, 3) := by decide +kernel
theorem dX3_rankOf_120 : decode cX3_rankOf 120 = .ok (.aload_n 0, 1) := by decide +kernel
theorem dX3_rankOf_121 : decode cX3_rankOf 121 = .ok (.getfield 19, 3) := by decide +kernel
theorem dX3_rankOf_124 : decode cX3_rankOf 124 = .ok (.iload 6, 2) := by decide +kernel
theorem dX3_rankOf_126 : decode cX3_rankOf 126 = .ok (.dup2, 1) := by decide +kernel
theorem dX3_rankOf_127 : decode cX3_rankOf 127 = .ok (.iaload, 1) := by decide +kernel
theorem dX3_rankOf_128 : decode cX3_rankOf 128 = .ok (.aload_n 0, 1) := by decide +kernel
theorem dX3_rankOf_129 : decode cX3_rankOf 129 = .ok (.getfield 19, 3) := by decide +kernel
theorem dX3_rankOf_132 : decode cX3_rankOf 132 = .ok (.iload 6, 2) := by decide +kernel
theorem dX3_rankOf_134 : decode cX3_rankOf 134 = .ok (.iaload, 1) := by decide +kernel
theorem dX3_rankOf_135 : decode cX3_rankOf 135 = .ok (.iload 5, 2) := by decide +kernel
theorem dX3_rankOf_137 : decode cX3_rankOf 137 = .ok (.iand, 1) := by decide +kernel
theorem dX3_rankOf_138 : decode cX3_rankOf 138 = .ok (.ifCond .eq 13, 3) := by decide +kernel
theorem dX3_rankOf_141 : decode cX3_rankOf 141 = .ok (.aload_n 0, 1) := by decide +kernel
theorem dX3_rankOf_142 : decode cX3_rankOf 142 = .ok (.getfield 19, 3) := by decide +kernel
theorem dX3_rankOf_145 : decode cX3_rankOf 145 = .ok (.iload 4, 2) := by decide +kernel
theorem dX3_rankOf_147 : decode cX3_rankOf 147 = .ok (.iaload, 1) := by decide +kernel
theorem dX3_rankOf_148 : decode cX3_rankOf 148 = .ok (.goto 4, 3) := by decide +kernel
theorem dX3_rankOf_151 : decode cX3_rankOf 151 = .ok (.iconst 0, 1) := by decide +kernel
theorem dX3_rankOf_152 : decode cX3_rankOf 152 = .ok (.ixor, 1) := by decide +kernel
theorem dX3_rankOf_153 : decode cX3_rankOf 153 = .ok (.iastore, 1) := by decide +kernel
theorem dX3_rankOf_154 : decode cX3_rankOf 154 = .ok (.iinc 6 1, 3) := by decide +kernel
theorem dX3_rankOf_157 : decode cX3_rankOf 157 = .ok (.goto (-48), 3) := by decide +kernel
theorem dX3_rankOf_160 : decode cX3_rankOf 160 = .ok (.iinc 4 1, 3) := by decide +kernel
theorem dX3_rankOf_163 : decode cX3_rankOf 163 = .ok (.goto (-102), 3) := by decide +kernel
theorem dX3_rankOf_166 : decode cX3_rankOf 166 = .ok (.iload_n 3, 1) := by decide +kernel
theorem dX3_rankOf_167 : decode cX3_rankOf 167 = .ok (.ireturn, 1) := by decide +kernel
set_option maxRecDepth 20000 in
theorem ggX3_rank_X3_within : GoodIn wsX3_rank wsX3_within := goodIn_r _ [4] (by decide +kernel) (by decide +kernel)
set_option maxRecDepth 20000 in
theorem gX3_rank_X3_within : GoodIn wsX3_rank (va_wsS RX3 36 yX3_within wsX3_within) := goodIn_app (goodIn_of _ (by decide +kernel)) ggX3_rank_X3_within
set_option maxRecDepth 20000 in
theorem ggX3_rank_X3_words : GoodIn wsX3_rank wsX3_words := goodIn_r _ [8, 9, 20, 21, 22, 23, 24, 25, 26, 27, 28] (by decide +kernel) (by decide +kernel)
set_option maxRecDepth 20000 in
theorem gX3_rank_X3_words : GoodIn wsX3_rank (wsV RX3 32 RX3 yX3_words wsX3_words) := goodIn_app (goodIn_of _ (by decide +kernel)) ggX3_rank_X3_words
set_option maxRecDepth 20000 in
theorem ggX3_rank_X3_rankOf : GoodIn wsX3_rank wsX3_rankOf := goodIn_r _ [13, 9, 14, 20, 21, 22, 23, 24, 25, 26, 27, 28] (by decide +kernel) (by decide +kernel)
set_option maxRecDepth 20000 in
theorem gX3_rank_X3_rankOf : GoodIn wsX3_rank (wsV RX3 65 RX3 yX3_rankOf wsX3_rankOf) := goodIn_app (goodIn_of _ (by decide +kernel)) ggX3_rank_X3_rankOf
set_option maxRecDepth 20000 in
theorem ggX3_rank_X3_fails : GoodIn wsX3_rank wsX3_fails := goodIn_r _ [18, 19, 20, 21, 22, 23, 24, 25, 26, 27, 28] (by decide +kernel) (by decide +kernel)
set_option maxRecDepth 20000 in
theorem gX3_rank_X3_fails : GoodIn wsX3_rank (wsV RX3 44 RX3 yX3_fails wsX3_fails) := goodIn_app (goodIn_of _ (by decide +kernel)) ggX3_rank_X3_fails
theorem dX3_rank_0 : decode cX3_rank 0 = .ok (.iload_n 1, 1) := by decide +kernel
theorem dX3_rank_1 : decode cX3_rank 1 = .ok (.iconst 0, 1) := by decide +kernel
theorem dX3_rank_2 : decode cX3_rank 2 = .ok (.iconst 2, 1) := by decide +kernel
theorem dX3_rank_3 : decode cX3_rank 3 = .ok (.invokestatic 36, 3) := by decide +kernel
theorem dX3_rank_6 : decode cX3_rank 6 = .ok (.ifCond .eq 17, 3) := by decide +kernel
theorem dX3_rank_9 : decode cX3_rank 9 = .ok (.aload_n 0, 1) := by decide +kernel
theorem dX3_rank_10 : decode cX3_rank 10 = .ok (.iload_n 1, 1) := by decide +kernel
theorem dX3_rank_11 : decode cX3_rank 11 = .ok (.aload_n 0, 1) := by decide +kernel
theorem dX3_rank_12 : decode cX3_rank 12 = .ok (.invokevirtual 32, 3) := by decide +kernel
theorem dX3_rank_15 : decode cX3_rank 15 = .ok (.iconst 1, 1) := by decide +kernel
theorem dX3_rank_16 : decode cX3_rank 16 = .ok (.isub, 1) := by decide +kernel
theorem dX3_rank_17 : decode cX3_rank 17 = .ok (.invokevirtual 65, 3) := by decide +kernel
theorem dX3_rank_20 : decode cX3_rank 20 = .ok (.goto 9, 3) := by decide +kernel
theorem dX3_rank_23 : decode cX3_rank 23 = .ok (.aload_n 0, 1) := by decide +kernel
theorem dX3_rank_24 : decode cX3_rank 24 = .ok (.bipush (-2), 2) := by decide +kernel
theorem dX3_rank_26 : decode cX3_rank 26 = .ok (.invokevirtual 44, 3) := by decide +kernel
theorem dX3_rank_29 : decode cX3_rank 29 = .ok (.ireturn, 1) := by decide +kernel
set_option maxRecDepth 20000 in
theorem ggX3_syndrome_X3_ones : GoodIn wsX3_syndrome wsX3_ones := goodIn_r _ [5] (by decide +kernel) (by decide +kernel)
set_option maxRecDepth 20000 in
theorem gX3_syndrome_X3_ones : GoodIn wsX3_syndrome (va_wsS RX3 69 yX3_ones wsX3_ones) := goodIn_app (goodIn_of _ (by decide +kernel)) ggX3_syndrome_X3_ones
theorem dX3_syndrome_0 : decode cX3_syndrome 0 = .ok (.iconst 0, 1) := by decide +kernel
theorem dX3_syndrome_1 : decode cX3_syndrome 1 = .ok (.istore_n 3, 1) := by decide +kernel
theorem dX3_syndrome_2 : decode cX3_syndrome 2 = .ok (.iconst 0, 1) := by decide +kernel
theorem dX3_syndrome_3 : decode cX3_syndrome 3 = .ok (.istore 4, 2) := by decide +kernel
theorem dX3_syndrome_5 : decode cX3_syndrome 5 = .ok (.iconst 0, 1) := by decide +kernel
theorem dX3_syndrome_6 : decode cX3_syndrome 6 = .ok (.istore 5, 2) := by decide +kernel
theorem dX3_syndrome_8 : decode cX3_syndrome 8 = .ok (.iload 5, 2) := by decide +kernel
theorem dX3_syndrome_10 : decode cX3_syndrome 10 = .ok (.aload_n 0, 1) := by decide +kernel
theorem dX3_syndrome_11 : decode cX3_syndrome 11 = .ok (.getfield 7, 3) := by decide +kernel
theorem dX3_syndrome_14 : decode cX3_syndrome 14 = .ok (.iconst 1, 1) := by decide +kernel
theorem dX3_syndrome_15 : decode cX3_syndrome 15 = .ok (.iaload, 1) := by decide +kernel
theorem dX3_syndrome_16 : decode cX3_syndrome 16 = .ok (.if_icmp .ge 48, 3) := by decide +kernel
theorem dX3_syndrome_19 : decode cX3_syndrome 19 = .ok (.aload_n 0, 1) := by decide +kernel
theorem dX3_syndrome_20 : decode cX3_syndrome 20 = .ok (.getfield 7, 3) := by decide +kernel
theorem dX3_syndrome_23 : decode cX3_syndrome 23 = .ok (.bipush 8, 2) := by decide +kernel
theorem dX3_syndrome_25 : decode cX3_syndrome 25 = .ok (.iload 5, 2) := by decide +kernel
theorem dX3_syndrome_27 : decode cX3_syndrome 27 = .ok (.iadd, 1) := by decide +kernel
theorem dX3_syndrome_28 : decode cX3_syndrome 28 = .ok (.iaload, 1) := by decide +kernel
theorem dX3_syndrome_29 : decode cX3_syndrome 29 = .ok (.iload_n 2, 1) := by decide +kernel
theorem dX3_syndrome_30 : decode cX3_syndrome 30 = .ok (.if_icmp .ne 28, 3) := by decide +kernel
theorem dX3_syndrome_33 : decode cX3_syndrome 33 = .ok (.iload_n 3, 1) := by decide +kernel
theorem dX3_syndrome_34 : decode cX3_syndrome 34 = .ok (.aload_n 0, 1) := by decide +kernel
theorem dX3_syndrome_35 : decode cX3_syndrome 35 = .ok (.getfield 7, 3) := by decide +kernel
theorem dX3_syndrome_38 : decode cX3_syndrome 38 = .ok (.iconst 2, 1) := by decide +kernel
theorem dX3_syndrome_39 : decode cX3_syndrome 39 = .ok (.iload 5, 2) := by decide +kernel
theorem dX3_syndrome_41 : decode cX3_syndrome 41 = .ok (.iadd, 1) := by decide +kernel
theorem dX3_syndrome_42 : decode cX3_syndrome 42 = .ok (.iaload, 1) := by decide +kernel
theorem dX3_syndrome_43 : decode cX3_syndrome 43 = .ok (.iload_n 1, 1) := by decide +kernel
theorem dX3_syndrome_44 : decode cX3_syndrome 44 = .ok (.iand, 1) := by decide +kernel
theorem dX3_syndrome_45 : decode cX3_syndrome 45 = .ok (.invokestatic 69, 3) := by decide +kernel
theorem dX3_syndrome_48 : decode cX3_syndrome 48 = .ok (.iconst 1, 1) := by decide +kernel
theorem dX3_syndrome_49 : decode cX3_syndrome 49 = .ok (.iand, 1) := by decide +kernel
theorem dX3_syndrome_50 : decode cX3_syndrome 50 = .ok (.iload 4, 2) := by decide +kernel
theorem dX3_syndrome_52 : decode cX3_syndrome 52 = .ok (.ishl, 1) := by decide +kernel
theorem dX3_syndrome_53 : decode cX3_syndrome 53 = .ok (.ior, 1) := by decide +kernel
theorem dX3_syndrome_54 : decode cX3_syndrome 54 = .ok (.istore_n 3, 1) := by decide +kernel
theorem dX3_syndrome_55 : decode cX3_syndrome 55 = .ok (.iinc 4 1, 3) := by decide +kernel
theorem dX3_syndrome_58 : decode cX3_syndrome 58 = .ok (.iinc 5 1, 3) := by decide +kernel
theorem dX3_syndrome_61 : decode cX3_syndrome 61 = .ok (.goto (-53), 3) := by decide +kernel
theorem dX3_syndrome_64 : decode cX3_syndrome 64 = .ok (.iload_n 3, 1) := by decide +kernel
theorem dX3_syndrome_65 : decode cX3_syndrome 65 = .ok (.ireturn, 1) := by decide +kernel
set_option maxRecDepth 20000 in
theorem ggX3_message_X3_isWord : GoodIn wsX3_message wsX3_isWord := goodIn_r _ [5, 6, 7, 8, 4, 9, 10, 11, 12, 13, 26, 27, 28, 29, 30, 31, 32, 33, 34] (by decide +kernel) (by decide +kernel)
set_option maxRecDepth 20000 in
theorem gX3_message_X3_isWord : GoodIn wsX3_message (wsV RX3 51 RX3 yX3_isWord wsX3_isWord) := goodIn_app (goodIn_of _ (by decide +kernel)) ggX3_message_X3_isWord
set_option maxRecDepth 20000 in
theorem ggX3_message_X3_syndrome : GoodIn wsX3_message wsX3_syndrome := goodIn_r _ [17, 10, 18, 19, 4, 20, 26, 27, 28, 29, 30, 31, 32, 33, 34] (by decide +kernel) (by decide +kernel)
set_option maxRecDepth 20000 in
theorem gX3_message_X3_syndrome : GoodIn wsX3_message (wsV RX3 72 RX3 yX3_syndrome wsX3_syndrome) := goodIn_app (goodIn_of _ (by decide +kernel)) ggX3_message_X3_syndrome
set_option maxRecDepth 20000 in
theorem ggX3_message_X3_fails : GoodIn wsX3_message wsX3_fails := goodIn_r _ [24, 25, 26, 27, 28, 29, 30, 31, 32, 33, 34] (by decide +kernel) (by decide +kernel)
set_option maxRecDepth 20000 in
theorem gX3_message_X3_fails : GoodIn wsX3_message (wsV RX3 44 RX3 yX3_fails wsX3_fails) := goodIn_app (goodIn_of _ (by decide +kernel)) ggX3_message_X3_fails
theorem dX3_message_0 : decode cX3_message 0 = .ok (.aload_n 0, 1) := by decide +kernel
theorem dX3_message_1 : decode cX3_message 1 = .ok (.iload_n 1, 1) := by decide +kernel
theorem dX3_message_2 : decode cX3_message 2 = .ok (.invokevirtual 51, 3) := by decide +kernel
theorem dX3_message_5 : decode cX3_message 5 = .ok (.ifCond .eq 12, 3) := by decide +kernel
theorem dX3_message_8 : decode cX3_message 8 = .ok (.aload_n 0, 1) := by decide +kernel
theorem dX3_message_9 : decode cX3_message 9 = .ok (.iload_n 1, 1) := by decide +kernel
theorem dX3_message_10 : decode cX3_message 10 = .ok (.iconst 0, 1) := by decide +kernel
theorem dX3_message_11 : decode cX3_message 11 = .ok (.invokevirtual 72, 3) := by decide +kernel
theorem dX3_message_14 : decode cX3_message 14 = .ok (.goto 9, 3) := by decide +kernel
theorem dX3_message_17 : decode cX3_message 17 = .ok (.aload_n 0, 1) := by decide +kernel
theorem dX3_message_18 : decode cX3_message 18 = .ok (.bipush (-2), 2) := by decide +kernel
theorem dX3_message_20 : decode cX3_message 20 = .ok (.invokevirtual 44, 3) := by decide +kernel
theorem dX3_message_23 : decode cX3_message 23 = .ok (.ireturn, 1) := by decide +kernel
set_option maxRecDepth 20000 in
theorem ggX3_checkValue_X3_isWord : GoodIn wsX3_checkValue wsX3_isWord := goodIn_r _ [5, 6, 7, 8, 4, 9, 10, 11, 12, 13, 26, 27, 28, 29, 30, 31, 32, 33, 34] (by decide +kernel) (by decide +kernel)
set_option maxRecDepth 20000 in
theorem gX3_checkValue_X3_isWord : GoodIn wsX3_checkValue (wsV RX3 51 RX3 yX3_isWord wsX3_isWord) := goodIn_app (goodIn_of _ (by decide +kernel)) ggX3_checkValue_X3_isWord
set_option maxRecDepth 20000 in
theorem ggX3_checkValue_X3_syndrome : GoodIn wsX3_checkValue wsX3_syndrome := goodIn_r _ [17, 10, 18, 19, 4, 20, 26, 27, 28, 29, 30, 31, 32, 33, 34] (by decide +kernel) (by decide +kernel)
set_option maxRecDepth 20000 in
theorem gX3_checkValue_X3_syndrome : GoodIn wsX3_checkValue (wsV RX3 72 RX3 yX3_syndrome wsX3_syndrome) := goodIn_app (goodIn_of _ (by decide +kernel)) ggX3_checkValue_X3_syndrome
set_option maxRecDepth 20000 in
theorem ggX3_checkValue_X3_fails : GoodIn wsX3_checkValue wsX3_fails := goodIn_r _ [24, 25, 26, 27, 28, 29, 30, 31, 32, 33, 34] (by decide +kernel) (by decide +kernel)
set_option maxRecDepth 20000 in
theorem gX3_checkValue_X3_fails : GoodIn wsX3_checkValue (wsV RX3 44 RX3 yX3_fails wsX3_fails) := goodIn_app (goodIn_of _ (by decide +kernel)) ggX3_checkValue_X3_fails
theorem dX3_checkValue_0 : decode cX3_checkValue 0 = .ok (.aload_n 0, 1) := by decide +kernel
theorem dX3_checkValue_1 : decode cX3_checkValue 1 = .ok (.iload_n 1, 1) := by decide +kernel
theorem dX3_checkValue_2 : decode cX3_checkValue 2 = .ok (.invokevirtual 51, 3) := by decide +kernel
theorem dX3_checkValue_5 : decode cX3_checkValue 5 = .ok (.ifCond .eq 12, 3) := by decide +kernel
theorem dX3_checkValue_8 : decode cX3_checkValue 8 = .ok (.aload_n 0, 1) := by decide +kernel
theorem dX3_checkValue_9 : decode cX3_checkValue 9 = .ok (.iload_n 1, 1) := by decide +kernel
theorem dX3_checkValue_10 : decode cX3_checkValue 10 = .ok (.iconst 1, 1) := by decide +kernel
theorem dX3_checkValue_11 : decode cX3_checkValue 11 = .ok (.invokevirtual 72, 3) := by decide +kernel
theorem dX3_checkValue_14 : decode cX3_checkValue 14 = .ok (.goto 9, 3) := by decide +kernel
theorem dX3_checkValue_17 : decode cX3_checkValue 17 = .ok (.aload_n 0, 1) := by decide +kernel
theorem dX3_checkValue_18 : decode cX3_checkValue 18 = .ok (.bipush (-2), 2) := by decide +kernel
theorem dX3_checkValue_20 : decode cX3_checkValue 20 = .ok (.invokevirtual 44, 3) := by decide +kernel
theorem dX3_checkValue_23 : decode cX3_checkValue 23 = .ok (.ireturn, 1) := by decide +kernel
set_option maxRecDepth 20000 in
theorem ggX3_laysMessages_X3_words : GoodIn wsX3_laysMessages wsX3_words := goodIn_r _ [6, 7, 15, 16, 17, 18, 19, 20, 21, 22, 23] (by decide +kernel) (by decide +kernel)
set_option maxRecDepth 20000 in
theorem gX3_laysMessages_X3_words : GoodIn wsX3_laysMessages (wsV RX3 32 RX3 yX3_words wsX3_words) := goodIn_app (goodIn_of _ (by decide +kernel)) ggX3_laysMessages_X3_words
set_option maxRecDepth 20000 in
theorem ggX3_laysMessages_X3_syndrome : GoodIn wsX3_laysMessages wsX3_syndrome := goodIn_r _ [11, 7, 12, 13, 5, 14, 15, 16, 17, 18, 19, 20, 21, 22, 23] (by decide +kernel) (by decide +kernel)
set_option maxRecDepth 20000 in
theorem gX3_laysMessages_X3_syndrome : GoodIn wsX3_laysMessages (wsV RX3 72 RX3 yX3_syndrome wsX3_syndrome) := goodIn_app (goodIn_of _ (by decide +kernel)) ggX3_laysMessages_X3_syndrome
theorem dX3_laysMessages_0 : decode cX3_laysMessages 0 = .ok (.iconst 0, 1) := by decide +kernel
theorem dX3_laysMessages_1 : decode cX3_laysMessages 1 = .ok (.istore_n 1, 1) := by decide +kernel
theorem dX3_laysMessages_2 : decode cX3_laysMessages 2 = .ok (.iload_n 1, 1) := by decide +kernel
theorem dX3_laysMessages_3 : decode cX3_laysMessages 3 = .ok (.aload_n 0, 1) := by decide +kernel
theorem dX3_laysMessages_4 : decode cX3_laysMessages 4 = .ok (.invokevirtual 32, 3) := by decide +kernel
theorem dX3_laysMessages_7 : decode cX3_laysMessages 7 = .ok (.if_icmp .ge 34, 3) := by decide +kernel
theorem dX3_laysMessages_10 : decode cX3_laysMessages 10 = .ok (.aload_n 0, 1) := by decide +kernel
theorem dX3_laysMessages_11 : decode cX3_laysMessages 11 = .ok (.getfield 22, 3) := by decide +kernel
theorem dX3_laysMessages_14 : decode cX3_laysMessages 14 = .ok (.iload_n 1, 1) := by decide +kernel
theorem dX3_laysMessages_15 : decode cX3_laysMessages 15 = .ok (.aload_n 0, 1) := by decide +kernel
theorem dX3_laysMessages_16 : decode cX3_laysMessages 16 = .ok (.iload_n 1, 1) := by decide +kernel
theorem dX3_laysMessages_17 : decode cX3_laysMessages 17 = .ok (.iconst 1, 1) := by decide +kernel
theorem dX3_laysMessages_18 : decode cX3_laysMessages 18 = .ok (.invokevirtual 72, 3) := by decide +kernel
theorem dX3_laysMessages_21 : decode cX3_laysMessages 21 = .ok (.ifCond .ne 12, 3) := by decide +kernel
theorem dX3_laysMessages_24 : decode cX3_laysMessages 24 = .ok (.aload_n 0, 1) := by decide +kernel
theorem dX3_laysMessages_25 : decode cX3_laysMessages 25 = .ok (.iload_n 1, 1) := by decide +kernel
theorem dX3_laysMessages_26 : decode cX3_laysMessages 26 = .ok (.iconst 0, 1) := by decide +kernel
theorem dX3_laysMessages_27 : decode cX3_laysMessages 27 = .ok (.invokevirtual 72, 3) := by decide +kernel
theorem dX3_laysMessages_30 : decode cX3_laysMessages 30 = .ok (.goto 4, 3) := by decide +kernel
theorem dX3_laysMessages_33 : decode cX3_laysMessages 33 = .ok (.iconst (-1), 1) := by decide +kernel
theorem dX3_laysMessages_34 : decode cX3_laysMessages 34 = .ok (.iastore, 1) := by decide +kernel
theorem dX3_laysMessages_35 : decode cX3_laysMessages 35 = .ok (.iinc 1 1, 3) := by decide +kernel
theorem dX3_laysMessages_38 : decode cX3_laysMessages 38 = .ok (.goto (-36), 3) := by decide +kernel
theorem dX3_laysMessages_41 : decode cX3_laysMessages 41 = .ok (.return_, 1) := by decide +kernel
set_option maxRecDepth 20000 in
theorem ggX3_meets_X3_laysMessages : GoodIn wsX3_meets wsX3_laysMessages := goodIn_r _ [7, 2, 8, 9, 10, 6, 11, 12, 13, 14, 15, 16, 17, 18, 19, 20, 21, 22, 23, 24, 25, 26, 27, 28] (by decide +kernel) (by decide +kernel)
set_option maxRecDepth 20000 in
theorem gX3_meets_X3_laysMessages : GoodIn wsX3_meets (wsV RX3 75 RX3 yX3_laysMessages wsX3_laysMessages) := goodIn_app (goodIn_of _ (by decide +kernel)) ggX3_meets_X3_laysMessages
set_option maxRecDepth 20000 in
theorem ggX3_meets_X3_words : GoodIn wsX3_meets wsX3_words := goodIn_r _ [11, 12, 20, 21, 22, 23, 24, 25, 26, 27, 28] (by decide +kernel) (by decide +kernel)
set_option maxRecDepth 20000 in
theorem gX3_meets_X3_words : GoodIn wsX3_meets (wsV RX3 32 RX3 yX3_words wsX3_words) := goodIn_app (goodIn_of _ (by decide +kernel)) ggX3_meets_X3_words
theorem dX3_meets_0 : decode cX3_meets 0 = .ok (.aload_n 0, 1) := by decide +kernel
theorem dX3_meets_1 : decode cX3_meets 1 = .ok (.invokevirtual 75, 3) := by decide +kernel
theorem dX3_meets_4 : decode cX3_meets 4 = .ok (.iconst 0, 1) := by decide +kernel
theorem dX3_meets_5 : decode cX3_meets 5 = .ok (.istore_n 3, 1) := by decide +kernel
theorem dX3_meets_6 : decode cX3_meets 6 = .ok (.iload_n 3, 1) := by decide +kernel
theorem dX3_meets_7 : decode cX3_meets 7 = .ok (.bipush 64, 2) := by decide +kernel
theorem dX3_meets_9 : decode cX3_meets 9 = .ok (.if_icmp .ge 16, 3) := by decide +kernel
theorem dX3_meets_12 : decode cX3_meets 12 = .ok (.aload_n 0, 1) := by decide +kernel
theorem dX3_meets_13 : decode cX3_meets 13 = .ok (.getfield 25, 3) := by decide +kernel
theorem dX3_meets_16 : decode cX3_meets 16 = .ok (.iload_n 3, 1) := by decide +kernel
theorem dX3_meets_17 : decode cX3_meets 17 = .ok (.iconst 0, 1) := by decide +kernel
theorem dX3_meets_18 : decode cX3_meets 18 = .ok (.bastore, 1) := by decide +kernel
theorem dX3_meets_19 : decode cX3_meets 19 = .ok (.iinc 3 1, 3) := by decide +kernel
theorem dX3_meets_22 : decode cX3_meets 22 = .ok (.goto (-16), 3) := by decide +kernel
theorem dX3_meets_25 : decode cX3_meets 25 = .ok (.iconst 0, 1) := by decide +kernel
theorem dX3_meets_26 : decode cX3_meets 26 = .ok (.istore_n 3, 1) := by decide +kernel
theorem dX3_meets_27 : decode cX3_meets 27 = .ok (.iconst 0, 1) := by decide +kernel
theorem dX3_meets_28 : decode cX3_meets 28 = .ok (.istore 4, 2) := by decide +kernel
theorem dX3_meets_30 : decode cX3_meets 30 = .ok (.iload 4, 2) := by decide +kernel
theorem dX3_meets_32 : decode cX3_meets 32 = .ok (.aload_n 0, 1) := by decide +kernel
theorem dX3_meets_33 : decode cX3_meets 33 = .ok (.invokevirtual 32, 3) := by decide +kernel
theorem dX3_meets_36 : decode cX3_meets 36 = .ok (.if_icmp .ge 59, 3) := by decide +kernel
theorem dX3_meets_39 : decode cX3_meets 39 = .ok (.aload_n 0, 1) := by decide +kernel
theorem dX3_meets_40 : decode cX3_meets 40 = .ok (.getfield 22, 3) := by decide +kernel
theorem dX3_meets_43 : decode cX3_meets 43 = .ok (.iload 4, 2) := by decide +kernel
theorem dX3_meets_45 : decode cX3_meets 45 = .ok (.iaload, 1) := by decide +kernel
theorem dX3_meets_46 : decode cX3_meets 46 = .ok (.iconst (-1), 1) := by decide +kernel
theorem dX3_meets_47 : decode cX3_meets 47 = .ok (.if_icmp .eq 42, 3) := by decide +kernel
theorem dX3_meets_50 : decode cX3_meets 50 = .ok (.iload 4, 2) := by decide +kernel
theorem dX3_meets_52 : decode cX3_meets 52 = .ok (.iload_n 1, 1) := by decide +kernel
theorem dX3_meets_53 : decode cX3_meets 53 = .ok (.iand, 1) := by decide +kernel
theorem dX3_meets_54 : decode cX3_meets 54 = .ok (.iload_n 2, 1) := by decide +kernel
theorem dX3_meets_55 : decode cX3_meets 55 = .ok (.if_icmp .ne 34, 3) := by decide +kernel
theorem dX3_meets_58 : decode cX3_meets 58 = .ok (.aload_n 0, 1) := by decide +kernel
theorem dX3_meets_59 : decode cX3_meets 59 = .ok (.getfield 25, 3) := by decide +kernel
theorem dX3_meets_62 : decode cX3_meets 62 = .ok (.aload_n 0, 1) := by decide +kernel
theorem dX3_meets_63 : decode cX3_meets 63 = .ok (.getfield 22, 3) := by decide +kernel
theorem dX3_meets_66 : decode cX3_meets 66 = .ok (.iload 4, 2) := by decide +kernel
theorem dX3_meets_68 : decode cX3_meets 68 = .ok (.iaload, 1) := by decide +kernel
theorem dX3_meets_69 : decode cX3_meets 69 = .ok (.baload, 1) := by decide +kernel
theorem dX3_meets_70 : decode cX3_meets 70 = .ok (.ifCond .ne 19, 3) := by decide +kernel
theorem dX3_meets_73 : decode cX3_meets 73 = .ok (.aload_n 0, 1) := by decide +kernel
theorem dX3_meets_74 : decode cX3_meets 74 = .ok (.getfield 25, 3) := by decide +kernel
theorem dX3_meets_77 : decode cX3_meets 77 = .ok (.aload_n 0, 1) := by decide +kernel
theorem dX3_meets_78 : decode cX3_meets 78 = .ok (.getfield 22, 3) := by decide +kernel
theorem dX3_meets_81 : decode cX3_meets 81 = .ok (.iload 4, 2) := by decide +kernel
theorem dX3_meets_83 : decode cX3_meets 83 = .ok (.iaload, 1) := by decide +kernel
theorem dX3_meets_84 : decode cX3_meets 84 = .ok (.iconst 1, 1) := by decide +kernel
theorem dX3_meets_85 : decode cX3_meets 85 = .ok (.bastore, 1) := by decide +kernel
theorem dX3_meets_86 : decode cX3_meets 86 = .ok (.iinc 3 1, 3) := by decide +kernel
theorem dX3_meets_89 : decode cX3_meets 89 = .ok (.iinc 4 1, 3) := by decide +kernel
theorem dX3_meets_92 : decode cX3_meets 92 = .ok (.goto (-62), 3) := by decide +kernel
theorem dX3_meets_95 : decode cX3_meets 95 = .ok (.iload_n 3, 1) := by decide +kernel
theorem dX3_meets_96 : decode cX3_meets 96 = .ok (.ireturn, 1) := by decide +kernel
set_option maxRecDepth 20000 in
theorem ggX3_codewordMany_X3_laysMessages : GoodIn wsX3_codewordMany wsX3_laysMessages := goodIn_r _ [6, 1, 7, 8, 9, 5, 10, 11, 12, 13, 14, 15, 16, 17, 18, 19, 20, 21, 22, 23, 24, 25, 26, 27] (by decide +kernel) (by decide +kernel)
set_option maxRecDepth 20000 in
theorem gX3_codewordMany_X3_laysMessages : GoodIn wsX3_codewordMany (wsV RX3 75 RX3 yX3_laysMessages wsX3_laysMessages) := goodIn_app (goodIn_of _ (by decide +kernel)) ggX3_codewordMany_X3_laysMessages
set_option maxRecDepth 20000 in
theorem ggX3_codewordMany_X3_words : GoodIn wsX3_codewordMany wsX3_words := goodIn_r _ [10, 11, 19, 20, 21, 22, 23, 24, 25, 26, 27] (by decide +kernel) (by decide +kernel)
set_option maxRecDepth 20000 in
theorem gX3_codewordMany_X3_words : GoodIn wsX3_codewordMany (wsV RX3 32 RX3 yX3_words wsX3_words) := goodIn_app (goodIn_of _ (by decide +kernel)) ggX3_codewordMany_X3_words
theorem dX3_codewordMany_0 : decode cX3_codewordMany 0 = .ok (.aload_n 0, 1) := by decide +kernel
theorem dX3_codewordMany_1 : decode cX3_codewordMany 1 = .ok (.invokevirtual 75, 3) := by decide +kernel
theorem dX3_codewordMany_4 : decode cX3_codewordMany 4 = .ok (.iconst 0, 1) := by decide +kernel
theorem dX3_codewordMany_5 : decode cX3_codewordMany 5 = .ok (.istore_n 1, 1) := by decide +kernel
theorem dX3_codewordMany_6 : decode cX3_codewordMany 6 = .ok (.iconst 0, 1) := by decide +kernel
theorem dX3_codewordMany_7 : decode cX3_codewordMany 7 = .ok (.istore_n 2, 1) := by decide +kernel
theorem dX3_codewordMany_8 : decode cX3_codewordMany 8 = .ok (.iload_n 2, 1) := by decide +kernel
theorem dX3_codewordMany_9 : decode cX3_codewordMany 9 = .ok (.aload_n 0, 1) := by decide +kernel
theorem dX3_codewordMany_10 : decode cX3_codewordMany 10 = .ok (.invokevirtual 32, 3) := by decide +kernel
theorem dX3_codewordMany_13 : decode cX3_codewordMany 13 = .ok (.if_icmp .ge 27, 3) := by decide +kernel
theorem dX3_codewordMany_16 : decode cX3_codewordMany 16 = .ok (.iload_n 1, 1) := by decide +kernel
theorem dX3_codewordMany_17 : decode cX3_codewordMany 17 = .ok (.aload_n 0, 1) := by decide +kernel
theorem dX3_codewordMany_18 : decode cX3_codewordMany 18 = .ok (.getfield 22, 3) := by decide +kernel
theorem dX3_codewordMany_21 : decode cX3_codewordMany 21 = .ok (.iload_n 2, 1) := by decide +kernel
theorem dX3_codewordMany_22 : decode cX3_codewordMany 22 = .ok (.iaload, 1) := by decide +kernel
theorem dX3_codewordMany_23 : decode cX3_codewordMany 23 = .ok (.iconst (-1), 1) := by decide +kernel
theorem dX3_codewordMany_24 : decode cX3_codewordMany 24 = .ok (.if_icmp .ne 7, 3) := by decide +kernel
theorem dX3_codewordMany_27 : decode cX3_codewordMany 27 = .ok (.iconst 0, 1) := by decide +kernel
theorem dX3_codewordMany_28 : decode cX3_codewordMany 28 = .ok (.goto 4, 3) := by decide +kernel
theorem dX3_codewordMany_31 : decode cX3_codewordMany 31 = .ok (.iconst 1, 1) := by decide +kernel
theorem dX3_codewordMany_32 : decode cX3_codewordMany 32 = .ok (.iadd, 1) := by decide +kernel
theorem dX3_codewordMany_33 : decode cX3_codewordMany 33 = .ok (.istore_n 1, 1) := by decide +kernel
theorem dX3_codewordMany_34 : decode cX3_codewordMany 34 = .ok (.iinc 2 1, 3) := by decide +kernel
theorem dX3_codewordMany_37 : decode cX3_codewordMany 37 = .ok (.goto (-29), 3) := by decide +kernel
theorem dX3_codewordMany_40 : decode cX3_codewordMany 40 = .ok (.iload_n 1, 1) := by decide +kernel
theorem dX3_codewordMany_41 : decode cX3_codewordMany 41 = .ok (.ireturn, 1) := by decide +kernel
set_option maxRecDepth 20000 in
theorem ggX3_codewords_X3_codewordMany : GoodIn wsX3_codewords wsX3_codewordMany := goodIn_r _ [5, 6, 7, 8, 9, 4, 10, 11, 12, 13, 14, 15, 16, 17, 18, 19, 20, 21, 22, 23, 24, 25, 26, 27, 28, 29, 30, 31] (by decide +kernel) (by decide +kernel)
set_option maxRecDepth 20000 in
theorem gX3_codewords_X3_codewordMany : GoodIn wsX3_codewords (wsV RX3 78 RX3 yX3_codewordMany wsX3_codewordMany) := goodIn_app (goodIn_of _ (by decide +kernel)) ggX3_codewords_X3_codewordMany
theorem dX3_codewords_0 : decode cX3_codewords 0 = .ok (.aload_n 0, 1) := by decide +kernel
theorem dX3_codewords_1 : decode cX3_codewords 1 = .ok (.invokevirtual 78, 3) := by decide +kernel
theorem dX3_codewords_4 : decode cX3_codewords 4 = .ok (.ireturn, 1) := by decide +kernel
set_option maxRecDepth 20000 in
theorem ggX3_messages_X3_meets : GoodIn wsX3_messages wsX3_meets := goodIn_r _ [5, 6, 7, 8, 9, 10, 4, 11, 12, 13, 14, 15, 16, 17, 18, 19, 20, 21, 22, 23, 24, 25, 26, 27, 28, 29, 30, 31, 32] (by decide +kernel) (by decide +kernel)
set_option maxRecDepth 20000 in
theorem gX3_messages_X3_meets : GoodIn wsX3_messages (wsV RX3 81 RX3 yX3_meets wsX3_meets) := goodIn_app (goodIn_of _ (by decide +kernel)) ggX3_messages_X3_meets
theorem dX3_messages_0 : decode cX3_messages 0 = .ok (.aload_n 0, 1) := by decide +kernel
theorem dX3_messages_1 : decode cX3_messages 1 = .ok (.iconst 0, 1) := by decide +kernel
theorem dX3_messages_2 : decode cX3_messages 2 = .ok (.iconst 0, 1) := by decide +kernel
theorem dX3_messages_3 : decode cX3_messages 3 = .ok (.invokevirtual 81, 3) := by decide +kernel
theorem dX3_messages_6 : decode cX3_messages 6 = .ok (.ireturn, 1) := by decide +kernel
set_option maxRecDepth 20000 in
theorem ggX3_choiceMany_X3_laysMessages : GoodIn wsX3_choiceMany wsX3_laysMessages := goodIn_r _ [6, 1, 7, 8, 9, 5, 10, 11, 12, 13, 14, 15, 16, 17, 18, 19, 20, 21, 22, 23, 24, 25, 26, 27] (by decide +kernel) (by decide +kernel)
set_option maxRecDepth 20000 in
theorem gX3_choiceMany_X3_laysMessages : GoodIn wsX3_choiceMany (wsV RX3 75 RX3 yX3_laysMessages wsX3_laysMessages) := goodIn_app (goodIn_of _ (by decide +kernel)) ggX3_choiceMany_X3_laysMessages
set_option maxRecDepth 20000 in
theorem ggX3_choiceMany_X3_words : GoodIn wsX3_choiceMany wsX3_words := goodIn_r _ [10, 11, 19, 20, 21, 22, 23, 24, 25, 26, 27] (by decide +kernel) (by decide +kernel)
set_option maxRecDepth 20000 in
theorem gX3_choiceMany_X3_words : GoodIn wsX3_choiceMany (wsV RX3 32 RX3 yX3_words wsX3_words) := goodIn_app (goodIn_of _ (by decide +kernel)) ggX3_choiceMany_X3_words
theorem dX3_choiceMany_0 : decode cX3_choiceMany 0 = .ok (.aload_n 0, 1) := by decide +kernel
theorem dX3_choiceMany_1 : decode cX3_choiceMany 1 = .ok (.invokevirtual 75, 3) := by decide +kernel
theorem dX3_choiceMany_4 : decode cX3_choiceMany 4 = .ok (.iconst 0, 1) := by decide +kernel
theorem dX3_choiceMany_5 : decode cX3_choiceMany 5 = .ok (.istore_n 2, 1) := by decide +kernel
theorem dX3_choiceMany_6 : decode cX3_choiceMany 6 = .ok (.iconst 0, 1) := by decide +kernel
theorem dX3_choiceMany_7 : decode cX3_choiceMany 7 = .ok (.istore_n 3, 1) := by decide +kernel
theorem dX3_choiceMany_8 : decode cX3_choiceMany 8 = .ok (.iload_n 3, 1) := by decide +kernel
theorem dX3_choiceMany_9 : decode cX3_choiceMany 9 = .ok (.aload_n 0, 1) := by decide +kernel
theorem dX3_choiceMany_10 : decode cX3_choiceMany 10 = .ok (.invokevirtual 32, 3) := by decide +kernel
theorem dX3_choiceMany_13 : decode cX3_choiceMany 13 = .ok (.if_icmp .ge 27, 3) := by decide +kernel
theorem dX3_choiceMany_16 : decode cX3_choiceMany 16 = .ok (.iload_n 2, 1) := by decide +kernel
theorem dX3_choiceMany_17 : decode cX3_choiceMany 17 = .ok (.aload_n 0, 1) := by decide +kernel
theorem dX3_choiceMany_18 : decode cX3_choiceMany 18 = .ok (.getfield 22, 3) := by decide +kernel
theorem dX3_choiceMany_21 : decode cX3_choiceMany 21 = .ok (.iload_n 3, 1) := by decide +kernel
theorem dX3_choiceMany_22 : decode cX3_choiceMany 22 = .ok (.iaload, 1) := by decide +kernel
theorem dX3_choiceMany_23 : decode cX3_choiceMany 23 = .ok (.iload_n 1, 1) := by decide +kernel
theorem dX3_choiceMany_24 : decode cX3_choiceMany 24 = .ok (.if_icmp .ne 7, 3) := by decide +kernel
theorem dX3_choiceMany_27 : decode cX3_choiceMany 27 = .ok (.iconst 1, 1) := by decide +kernel
theorem dX3_choiceMany_28 : decode cX3_choiceMany 28 = .ok (.goto 4, 3) := by decide +kernel
theorem dX3_choiceMany_31 : decode cX3_choiceMany 31 = .ok (.iconst 0, 1) := by decide +kernel
theorem dX3_choiceMany_32 : decode cX3_choiceMany 32 = .ok (.iadd, 1) := by decide +kernel
theorem dX3_choiceMany_33 : decode cX3_choiceMany 33 = .ok (.istore_n 2, 1) := by decide +kernel
theorem dX3_choiceMany_34 : decode cX3_choiceMany 34 = .ok (.iinc 3 1, 3) := by decide +kernel
theorem dX3_choiceMany_37 : decode cX3_choiceMany 37 = .ok (.goto (-29), 3) := by decide +kernel
theorem dX3_choiceMany_40 : decode cX3_choiceMany 40 = .ok (.iload_n 2, 1) := by decide +kernel
theorem dX3_choiceMany_41 : decode cX3_choiceMany 41 = .ok (.ireturn, 1) := by decide +kernel
set_option maxRecDepth 20000 in
theorem ggX3_choices_X3_within : GoodIn wsX3_choices wsX3_within := goodIn_r _ [4] (by decide +kernel) (by decide +kernel)
set_option maxRecDepth 20000 in
theorem gX3_choices_X3_within : GoodIn wsX3_choices (va_wsS RX3 36 yX3_within wsX3_within) := goodIn_app (goodIn_of _ (by decide +kernel)) ggX3_choices_X3_within
set_option maxRecDepth 20000 in
theorem ggX3_choices_X3_choiceMany : GoodIn wsX3_choices wsX3_choiceMany := goodIn_r _ [8, 9, 10, 11, 12, 3, 13, 14, 15, 16, 17, 18, 19, 20, 21, 22, 23, 24, 25, 31, 32, 33, 34, 35, 36, 37, 38, 39] (by decide +kernel) (by decide +kernel)
set_option maxRecDepth 20000 in
theorem gX3_choices_X3_choiceMany : GoodIn wsX3_choices (wsV RX3 84 RX3 yX3_choiceMany wsX3_choiceMany) := goodIn_app (goodIn_of _ (by decide +kernel)) ggX3_choices_X3_choiceMany
set_option maxRecDepth 20000 in
theorem ggX3_choices_X3_fails : GoodIn wsX3_choices wsX3_fails := goodIn_r _ [29, 30, 31, 32, 33, 34, 35, 36, 37, 38, 39] (by decide +kernel) (by decide +kernel)
set_option maxRecDepth 20000 in
theorem gX3_choices_X3_fails : GoodIn wsX3_choices (wsV RX3 44 RX3 yX3_fails wsX3_fails) := goodIn_app (goodIn_of _ (by decide +kernel)) ggX3_choices_X3_fails
theorem dX3_choices_0 : decode cX3_choices 0 = .ok (.iload_n 1, 1) := by decide +kernel
theorem dX3_choices_1 : decode cX3_choices 1 = .ok (.iconst 0, 1) := by decide +kernel
theorem dX3_choices_2 : decode cX3_choices 2 = .ok (.bipush 63, 2) := by decide +kernel
theorem dX3_choices_4 : decode cX3_choices 4 = .ok (.invokestatic 36, 3) := by decide +kernel
theorem dX3_choices_7 : decode cX3_choices 7 = .ok (.ifCond .eq 11, 3) := by decide +kernel
theorem dX3_choices_10 : decode cX3_choices 10 = .ok (.aload_n 0, 1) := by decide +kernel
theorem dX3_choices_11 : decode cX3_choices 11 = .ok (.iload_n 1, 1) := by decide +kernel
theorem dX3_choices_12 : decode cX3_choices 12 = .ok (.invokevirtual 84, 3) := by decide +kernel
theorem dX3_choices_15 : decode cX3_choices 15 = .ok (.goto 9, 3) := by decide +kernel
theorem dX3_choices_18 : decode cX3_choices 18 = .ok (.aload_n 0, 1) := by decide +kernel
theorem dX3_choices_19 : decode cX3_choices 19 = .ok (.bipush (-2), 2) := by decide +kernel
theorem dX3_choices_21 : decode cX3_choices 21 = .ok (.invokevirtual 44, 3) := by decide +kernel
theorem dX3_choices_24 : decode cX3_choices 24 = .ok (.ireturn, 1) := by decide +kernel
set_option maxRecDepth 20000 in
theorem ggX3_encode_X3_within : GoodIn wsX3_encode wsX3_within := goodIn_r _ [5] (by decide +kernel) (by decide +kernel)
set_option maxRecDepth 20000 in
theorem gX3_encode_X3_within : GoodIn wsX3_encode (va_wsS RX3 36 yX3_within wsX3_within) := goodIn_app (goodIn_of _ (by decide +kernel)) ggX3_encode_X3_within
set_option maxRecDepth 20000 in
theorem ggX3_encode_X3_fails : GoodIn wsX3_encode wsX3_fails := goodIn_r _ [9, 10, 27, 28, 29, 30, 31, 32, 33, 34, 35] (by decide +kernel) (by decide +kernel)
set_option maxRecDepth 20000 in
theorem gX3_encode_X3_fails : GoodIn wsX3_encode (wsV RX3 44 RX3 yX3_fails wsX3_fails) := goodIn_app (goodIn_of _ (by decide +kernel)) ggX3_encode_X3_fails
set_option maxRecDepth 20000 in
theorem ggX3_encode_X3_laysMessages : GoodIn wsX3_encode wsX3_laysMessages := goodIn_r _ [14, 1, 15, 16, 17, 4, 18, 19, 20, 21, 22, 23, 24, 25, 26, 27, 28, 29, 30, 31, 32, 33, 34, 35] (by decide +kernel) (by decide +kernel)
set_option maxRecDepth 20000 in
theorem gX3_encode_X3_laysMessages : GoodIn wsX3_encode (wsV RX3 75 RX3 yX3_laysMessages wsX3_laysMessages) := goodIn_app (goodIn_of _ (by decide +kernel)) ggX3_encode_X3_laysMessages
set_option maxRecDepth 20000 in
theorem ggX3_encode_X3_words : GoodIn wsX3_encode wsX3_words := goodIn_r _ [18, 19, 27, 28, 29, 30, 31, 32, 33, 34, 35] (by decide +kernel) (by decide +kernel)
set_option maxRecDepth 20000 in
theorem gX3_encode_X3_words : GoodIn wsX3_encode (wsV RX3 32 RX3 yX3_words wsX3_words) := goodIn_app (goodIn_of _ (by decide +kernel)) ggX3_encode_X3_words
theorem dX3_encode_0 : decode cX3_encode 0 = .ok (.iload_n 1, 1) := by decide +kernel
theorem dX3_encode_1 : decode cX3_encode 1 = .ok (.iconst 0, 1) := by decide +kernel
theorem dX3_encode_2 : decode cX3_encode 2 = .ok (.bipush 63, 2) := by decide +kernel
theorem dX3_encode_4 : decode cX3_encode 4 = .ok (.invokestatic 36, 3) := by decide +kernel
theorem dX3_encode_7 : decode cX3_encode 7 = .ok (.ifCond .eq 7, 3) := by decide +kernel
theorem dX3_encode_10 : decode cX3_encode 10 = .ok (.iload_n 2, 1) := by decide +kernel
theorem dX3_encode_11 : decode cX3_encode 11 = .ok (.ifCond .ge 10, 3) := by decide +kernel
theorem dX3_encode_14 : decode cX3_encode 14 = .ok (.aload_n 0, 1) := by decide +kernel
theorem dX3_encode_15 : decode cX3_encode 15 = .ok (.bipush (-2), 2) := by decide +kernel
theorem dX3_encode_17 : decode cX3_encode 17 = .ok (.invokevirtual 44, 3) := by decide +kernel
theorem dX3_encode_20 : decode cX3_encode 20 = .ok (.ireturn, 1) := by decide +kernel
theorem dX3_encode_21 : decode cX3_encode 21 = .ok (.aload_n 0, 1) := by decide +kernel
theorem dX3_encode_22 : decode cX3_encode 22 = .ok (.invokevirtual 75, 3) := by decide +kernel
theorem dX3_encode_25 : decode cX3_encode 25 = .ok (.iconst 0, 1) := by decide +kernel
theorem dX3_encode_26 : decode cX3_encode 26 = .ok (.istore_n 3, 1) := by decide +kernel
theorem dX3_encode_27 : decode cX3_encode 27 = .ok (.iconst 0, 1) := by decide +kernel
theorem dX3_encode_28 : decode cX3_encode 28 = .ok (.istore 4, 2) := by decide +kernel
theorem dX3_encode_30 : decode cX3_encode 30 = .ok (.iload 4, 2) := by decide +kernel
theorem dX3_encode_32 : decode cX3_encode 32 = .ok (.aload_n 0, 1) := by decide +kernel
theorem dX3_encode_33 : decode cX3_encode 33 = .ok (.invokevirtual 32, 3) := by decide +kernel
theorem dX3_encode_36 : decode cX3_encode 36 = .ok (.if_icmp .ge 31, 3) := by decide +kernel
theorem dX3_encode_39 : decode cX3_encode 39 = .ok (.aload_n 0, 1) := by decide +kernel
theorem dX3_encode_40 : decode cX3_encode 40 = .ok (.getfield 22, 3) := by decide +kernel
theorem dX3_encode_43 : decode cX3_encode 43 = .ok (.iload 4, 2) := by decide +kernel
theorem dX3_encode_45 : decode cX3_encode 45 = .ok (.iaload, 1) := by decide +kernel
theorem dX3_encode_46 : decode cX3_encode 46 = .ok (.iload_n 1, 1) := by decide +kernel
theorem dX3_encode_47 : decode cX3_encode 47 = .ok (.if_icmp .ne 14, 3) := by decide +kernel
theorem dX3_encode_50 : decode cX3_encode 50 = .ok (.iload_n 3, 1) := by decide +kernel
theorem dX3_encode_51 : decode cX3_encode 51 = .ok (.iload_n 2, 1) := by decide +kernel
theorem dX3_encode_52 : decode cX3_encode 52 = .ok (.if_icmp .ne 6, 3) := by decide +kernel
theorem dX3_encode_55 : decode cX3_encode 55 = .ok (.iload 4, 2) := by decide +kernel
theorem dX3_encode_57 : decode cX3_encode 57 = .ok (.ireturn, 1) := by decide +kernel
theorem dX3_encode_58 : decode cX3_encode 58 = .ok (.iinc 3 1, 3) := by decide +kernel
theorem dX3_encode_61 : decode cX3_encode 61 = .ok (.iinc 4 1, 3) := by decide +kernel
theorem dX3_encode_64 : decode cX3_encode 64 = .ok (.goto (-34), 3) := by decide +kernel
theorem dX3_encode_67 : decode cX3_encode 67 = .ok (.aload_n 0, 1) := by decide +kernel
theorem dX3_encode_68 : decode cX3_encode 68 = .ok (.bipush (-3), 2) := by decide +kernel
theorem dX3_encode_70 : decode cX3_encode 70 = .ok (.invokevirtual 44, 3) := by decide +kernel
theorem dX3_encode_73 : decode cX3_encode 73 = .ok (.ireturn, 1) := by decide +kernel
set_option maxRecDepth 20000 in
theorem ggX3_nearest_X3_words : GoodIn wsX3_nearest wsX3_words := goodIn_r _ [6, 7, 11, 12, 13, 14, 15, 16, 17, 18, 19] (by decide +kernel) (by decide +kernel)
set_option maxRecDepth 20000 in
theorem gX3_nearest_X3_words : GoodIn wsX3_nearest (wsV RX3 32 RX3 yX3_words wsX3_words) := goodIn_app (goodIn_of _ (by decide +kernel)) ggX3_nearest_X3_words
set_option maxRecDepth 20000 in
theorem ggX3_nearest_X3_ones : GoodIn wsX3_nearest wsX3_ones := goodIn_r _ [10] (by decide +kernel) (by decide +kernel)
set_option maxRecDepth 20000 in
theorem gX3_nearest_X3_ones : GoodIn wsX3_nearest (va_wsS RX3 69 yX3_ones wsX3_ones) := goodIn_app (goodIn_of _ (by decide +kernel)) ggX3_nearest_X3_ones
theorem dX3_nearest_0 : decode cX3_nearest 0 = .ok (.bipush 99, 2) := by decide +kernel
theorem dX3_nearest_2 : decode cX3_nearest 2 = .ok (.istore_n 2, 1) := by decide +kernel
theorem dX3_nearest_3 : decode cX3_nearest 3 = .ok (.iconst 0, 1) := by decide +kernel
theorem dX3_nearest_4 : decode cX3_nearest 4 = .ok (.istore_n 3, 1) := by decide +kernel
theorem dX3_nearest_5 : decode cX3_nearest 5 = .ok (.iload_n 3, 1) := by decide +kernel
theorem dX3_nearest_6 : decode cX3_nearest 6 = .ok (.aload_n 0, 1) := by decide +kernel
theorem dX3_nearest_7 : decode cX3_nearest 7 = .ok (.invokevirtual 32, 3) := by decide +kernel
theorem dX3_nearest_10 : decode cX3_nearest 10 = .ok (.if_icmp .ge 45, 3) := by decide +kernel
theorem dX3_nearest_13 : decode cX3_nearest 13 = .ok (.aload_n 0, 1) := by decide +kernel
theorem dX3_nearest_14 : decode cX3_nearest 14 = .ok (.getfield 22, 3) := by decide +kernel
theorem dX3_nearest_17 : decode cX3_nearest 17 = .ok (.iload_n 3, 1) := by decide +kernel
theorem dX3_nearest_18 : decode cX3_nearest 18 = .ok (.iaload, 1) := by decide +kernel
theorem dX3_nearest_19 : decode cX3_nearest 19 = .ok (.iconst (-1), 1) := by decide +kernel
theorem dX3_nearest_20 : decode cX3_nearest 20 = .ok (.if_icmp .ne 8, 3) := by decide +kernel
theorem dX3_nearest_23 : decode cX3_nearest 23 = .ok (.bipush 99, 2) := by decide +kernel
theorem dX3_nearest_25 : decode cX3_nearest 25 = .ok (.goto 9, 3) := by decide +kernel
theorem dX3_nearest_28 : decode cX3_nearest 28 = .ok (.iload_n 3, 1) := by decide +kernel
theorem dX3_nearest_29 : decode cX3_nearest 29 = .ok (.iload_n 1, 1) := by decide +kernel
theorem dX3_nearest_30 : decode cX3_nearest 30 = .ok (.ixor, 1) := by decide +kernel
theorem dX3_nearest_31 : decode cX3_nearest 31 = .ok (.invokestatic 69, 3) := by decide +kernel
theorem dX3_nearest_34 : decode cX3_nearest 34 = .ok (.istore 4, 2) := by decide +kernel
theorem dX3_nearest_36 : decode cX3_nearest 36 = .ok (.iload 4, 2) := by decide +kernel
theorem dX3_nearest_38 : decode cX3_nearest 38 = .ok (.iload_n 2, 1) := by decide +kernel
theorem dX3_nearest_39 : decode cX3_nearest 39 = .ok (.if_icmp .ge 8, 3) := by decide +kernel
theorem dX3_nearest_42 : decode cX3_nearest 42 = .ok (.iload 4, 2) := by decide +kernel
theorem dX3_nearest_44 : decode cX3_nearest 44 = .ok (.goto 4, 3) := by decide +kernel
theorem dX3_nearest_47 : decode cX3_nearest 47 = .ok (.iload_n 2, 1) := by decide +kernel
theorem dX3_nearest_48 : decode cX3_nearest 48 = .ok (.istore_n 2, 1) := by decide +kernel
theorem dX3_nearest_49 : decode cX3_nearest 49 = .ok (.iinc 3 1, 3) := by decide +kernel
theorem dX3_nearest_52 : decode cX3_nearest 52 = .ok (.goto (-47), 3) := by decide +kernel
theorem dX3_nearest_55 : decode cX3_nearest 55 = .ok (.iload_n 2, 1) := by decide +kernel
theorem dX3_nearest_56 : decode cX3_nearest 56 = .ok (.ireturn, 1) := by decide +kernel
set_option maxRecDepth 20000 in
theorem ggX3_decoded_X3_nearest : GoodIn wsX3_decoded wsX3_nearest := goodIn_r _ [6, 1, 7, 8, 9, 5, 10, 11, 12, 13, 14, 15, 16, 17, 18, 19, 20, 21, 22, 23] (by decide +kernel) (by decide +kernel)
set_option maxRecDepth 20000 in
theorem gX3_decoded_X3_nearest : GoodIn wsX3_decoded (wsV RX3 87 RX3 yX3_nearest wsX3_nearest) := goodIn_app (goodIn_of _ (by decide +kernel)) ggX3_decoded_X3_nearest
set_option maxRecDepth 20000 in
theorem ggX3_decoded_X3_words : GoodIn wsX3_decoded wsX3_words := goodIn_r _ [10, 11, 15, 16, 17, 18, 19, 20, 21, 22, 23] (by decide +kernel) (by decide +kernel)
set_option maxRecDepth 20000 in
theorem gX3_decoded_X3_words : GoodIn wsX3_decoded (wsV RX3 32 RX3 yX3_words wsX3_words) := goodIn_app (goodIn_of _ (by decide +kernel)) ggX3_decoded_X3_words
set_option maxRecDepth 20000 in
theorem ggX3_decoded_X3_ones : GoodIn wsX3_decoded wsX3_ones := goodIn_r _ [14] (by decide +kernel) (by decide +kernel)
set_option maxRecDepth 20000 in
theorem gX3_decoded_X3_ones : GoodIn wsX3_decoded (va_wsS RX3 69 yX3_ones wsX3_ones) := goodIn_app (goodIn_of _ (by decide +kernel)) ggX3_decoded_X3_ones
theorem dX3_decoded_0 : decode cX3_decoded 0 = .ok (.aload_n 0, 1) := by decide +kernel
theorem dX3_decoded_1 : decode cX3_decoded 1 = .ok (.iload_n 1, 1) := by decide +kernel
theorem dX3_decoded_2 : decode cX3_decoded 2 = .ok (.invokevirtual 87, 3) := by decide +kernel
theorem dX3_decoded_5 : decode cX3_decoded 5 = .ok (.istore_n 2, 1) := by decide +kernel
theorem dX3_decoded_6 : decode cX3_decoded 6 = .ok (.iconst (-1), 1) := by decide +kernel
theorem dX3_decoded_7 : decode cX3_decoded 7 = .ok (.istore_n 3, 1) := by decide +kernel
theorem dX3_decoded_8 : decode cX3_decoded 8 = .ok (.iconst 0, 1) := by decide +kernel
theorem dX3_decoded_9 : decode cX3_decoded 9 = .ok (.istore 4, 2) := by decide +kernel
theorem dX3_decoded_11 : decode cX3_decoded 11 = .ok (.iload 4, 2) := by decide +kernel
theorem dX3_decoded_13 : decode cX3_decoded 13 = .ok (.aload_n 0, 1) := by decide +kernel
theorem dX3_decoded_14 : decode cX3_decoded 14 = .ok (.invokevirtual 32, 3) := by decide +kernel
theorem dX3_decoded_17 : decode cX3_decoded 17 = .ok (.if_icmp .ge 58, 3) := by decide +kernel
theorem dX3_decoded_20 : decode cX3_decoded 20 = .ok (.aload_n 0, 1) := by decide +kernel
theorem dX3_decoded_21 : decode cX3_decoded 21 = .ok (.getfield 22, 3) := by decide +kernel
theorem dX3_decoded_24 : decode cX3_decoded 24 = .ok (.iload 4, 2) := by decide +kernel
theorem dX3_decoded_26 : decode cX3_decoded 26 = .ok (.iaload, 1) := by decide +kernel
theorem dX3_decoded_27 : decode cX3_decoded 27 = .ok (.iconst (-1), 1) := by decide +kernel
theorem dX3_decoded_28 : decode cX3_decoded 28 = .ok (.if_icmp .eq 41, 3) := by decide +kernel
theorem dX3_decoded_31 : decode cX3_decoded 31 = .ok (.iload 4, 2) := by decide +kernel
theorem dX3_decoded_33 : decode cX3_decoded 33 = .ok (.iload_n 1, 1) := by decide +kernel
theorem dX3_decoded_34 : decode cX3_decoded 34 = .ok (.ixor, 1) := by decide +kernel
theorem dX3_decoded_35 : decode cX3_decoded 35 = .ok (.invokestatic 69, 3) := by decide +kernel
theorem dX3_decoded_38 : decode cX3_decoded 38 = .ok (.iload_n 2, 1) := by decide +kernel
theorem dX3_decoded_39 : decode cX3_decoded 39 = .ok (.if_icmp .ne 30, 3) := by decide +kernel
theorem dX3_decoded_42 : decode cX3_decoded 42 = .ok (.iload_n 3, 1) := by decide +kernel
theorem dX3_decoded_43 : decode cX3_decoded 43 = .ok (.iconst (-1), 1) := by decide +kernel
theorem dX3_decoded_44 : decode cX3_decoded 44 = .ok (.if_icmp .eq 17, 3) := by decide +kernel
theorem dX3_decoded_47 : decode cX3_decoded 47 = .ok (.iload_n 3, 1) := by decide +kernel
theorem dX3_decoded_48 : decode cX3_decoded 48 = .ok (.aload_n 0, 1) := by decide +kernel
theorem dX3_decoded_49 : decode cX3_decoded 49 = .ok (.getfield 22, 3) := by decide +kernel
theorem dX3_decoded_52 : decode cX3_decoded 52 = .ok (.iload 4, 2) := by decide +kernel
theorem dX3_decoded_54 : decode cX3_decoded 54 = .ok (.iaload, 1) := by decide +kernel
theorem dX3_decoded_55 : decode cX3_decoded 55 = .ok (.if_icmp .eq 6, 3) := by decide +kernel
theorem dX3_decoded_58 : decode cX3_decoded 58 = .ok (.bipush (-5), 2) := by decide +kernel
theorem dX3_decoded_60 : decode cX3_decoded 60 = .ok (.ireturn, 1) := by decide +kernel
theorem dX3_decoded_61 : decode cX3_decoded 61 = .ok (.aload_n 0, 1) := by decide +kernel
theorem dX3_decoded_62 : decode cX3_decoded 62 = .ok (.getfield 22, 3) := by decide +kernel
theorem dX3_decoded_65 : decode cX3_decoded 65 = .ok (.iload 4, 2) := by decide +kernel
theorem dX3_decoded_67 : decode cX3_decoded 67 = .ok (.iaload, 1) := by decide +kernel
theorem dX3_decoded_68 : decode cX3_decoded 68 = .ok (.istore_n 3, 1) := by decide +kernel
theorem dX3_decoded_69 : decode cX3_decoded 69 = .ok (.iinc 4 1, 3) := by decide +kernel
theorem dX3_decoded_72 : decode cX3_decoded 72 = .ok (.goto (-61), 3) := by decide +kernel
theorem dX3_decoded_75 : decode cX3_decoded 75 = .ok (.iload_n 3, 1) := by decide +kernel
theorem dX3_decoded_76 : decode cX3_decoded 76 = .ok (.ireturn, 1) := by decide +kernel
set_option maxRecDepth 20000 in
theorem ggX3_decode_X3_isWord : GoodIn wsX3_decode wsX3_isWord := goodIn_r _ [5, 6, 7, 8, 4, 9, 10, 11, 12, 13, 39, 40, 41, 42, 43, 44, 45, 46, 47] (by decide +kernel) (by decide +kernel)
set_option maxRecDepth 20000 in
theorem gX3_decode_X3_isWord : GoodIn wsX3_decode (wsV RX3 51 RX3 yX3_isWord wsX3_isWord) := goodIn_app (goodIn_of _ (by decide +kernel)) ggX3_decode_X3_isWord
set_option maxRecDepth 20000 in
theorem ggX3_decode_X3_fails : GoodIn wsX3_decode wsX3_fails := goodIn_r _ [17, 18, 39, 40, 41, 42, 43, 44, 45, 46, 47] (by decide +kernel) (by decide +kernel)
set_option maxRecDepth 20000 in
theorem gX3_decode_X3_fails : GoodIn wsX3_decode (wsV RX3 44 RX3 yX3_fails wsX3_fails) := goodIn_app (goodIn_of _ (by decide +kernel)) ggX3_decode_X3_fails
set_option maxRecDepth 20000 in
theorem ggX3_decode_X3_laysMessages : GoodIn wsX3_decode wsX3_laysMessages := goodIn_r _ [22, 23, 6, 7, 8, 4, 9, 10, 24, 25, 26, 27, 28, 29, 30, 39, 40, 41, 42, 43, 44, 45, 46, 47] (by decide +kernel) (by decide +kernel)
set_option maxRecDepth 20000 in
theorem gX3_decode_X3_laysMessages : GoodIn wsX3_decode (wsV RX3 75 RX3 yX3_laysMessages wsX3_laysMessages) := goodIn_app (goodIn_of _ (by decide +kernel)) ggX3_decode_X3_laysMessages
set_option maxRecDepth 20000 in
theorem ggX3_decode_X3_decoded : GoodIn wsX3_decode wsX3_decoded := goodIn_r _ [34, 23, 35, 36, 37, 4, 38, 6, 7, 8, 9, 10, 28, 29, 30, 39, 40, 41, 42, 43, 44, 45, 46, 47] (by decide +kernel) (by decide +kernel)
set_option maxRecDepth 20000 in
theorem gX3_decode_X3_decoded : GoodIn wsX3_decode (wsV RX3 90 RX3 yX3_decoded wsX3_decoded) := goodIn_app (goodIn_of _ (by decide +kernel)) ggX3_decode_X3_decoded
theorem dX3_decode_0 : decode cX3_decode 0 = .ok (.aload_n 0, 1) := by decide +kernel
theorem dX3_decode_1 : decode cX3_decode 1 = .ok (.iload_n 1, 1) := by decide +kernel
theorem dX3_decode_2 : decode cX3_decode 2 = .ok (.invokevirtual 51, 3) := by decide +kernel
theorem dX3_decode_5 : decode cX3_decode 5 = .ok (.ifCond .ne 10, 3) := by decide +kernel
theorem dX3_decode_8 : decode cX3_decode 8 = .ok (.aload_n 0, 1) := by decide +kernel
theorem dX3_decode_9 : decode cX3_decode 9 = .ok (.bipush (-2), 2) := by decide +kernel
theorem dX3_decode_11 : decode cX3_decode 11 = .ok (.invokevirtual 44, 3) := by decide +kernel
theorem dX3_decode_14 : decode cX3_decode 14 = .ok (.ireturn, 1) := by decide +kernel
theorem dX3_decode_15 : decode cX3_decode 15 = .ok (.aload_n 0, 1) := by decide +kernel
theorem dX3_decode_16 : decode cX3_decode 16 = .ok (.invokevirtual 75, 3) := by decide +kernel
theorem dX3_decode_19 : decode cX3_decode 19 = .ok (.aload_n 0, 1) := by decide +kernel
theorem dX3_decode_20 : decode cX3_decode 20 = .ok (.iload_n 1, 1) := by decide +kernel
theorem dX3_decode_21 : decode cX3_decode 21 = .ok (.invokevirtual 90, 3) := by decide +kernel
theorem dX3_decode_24 : decode cX3_decode 24 = .ok (.istore_n 2, 1) := by decide +kernel
theorem dX3_decode_25 : decode cX3_decode 25 = .ok (.iload_n 2, 1) := by decide +kernel
theorem dX3_decode_26 : decode cX3_decode 26 = .ok (.bipush (-5), 2) := by decide +kernel
theorem dX3_decode_28 : decode cX3_decode 28 = .ok (.if_icmp .ne 12, 3) := by decide +kernel
theorem dX3_decode_31 : decode cX3_decode 31 = .ok (.aload_n 0, 1) := by decide +kernel
theorem dX3_decode_32 : decode cX3_decode 32 = .ok (.bipush (-5), 2) := by decide +kernel
theorem dX3_decode_34 : decode cX3_decode 34 = .ok (.invokevirtual 44, 3) := by decide +kernel
theorem dX3_decode_37 : decode cX3_decode 37 = .ok (.goto 4, 3) := by decide +kernel
theorem dX3_decode_40 : decode cX3_decode 40 = .ok (.iload_n 2, 1) := by decide +kernel
theorem dX3_decode_41 : decode cX3_decode 41 = .ok (.ireturn, 1) := by decide +kernel
set_option maxRecDepth 20000 in
theorem ggX3_distance_X3_isWord : GoodIn wsX3_distance wsX3_isWord := goodIn_r _ [5, 6, 7, 8, 4, 9, 10, 11, 12, 13, 35, 36, 37, 38, 39, 40, 41, 42, 43] (by decide +kernel) (by decide +kernel)
set_option maxRecDepth 20000 in
theorem gX3_distance_X3_isWord : GoodIn wsX3_distance (wsV RX3 51 RX3 yX3_isWord wsX3_isWord) := goodIn_app (goodIn_of _ (by decide +kernel)) ggX3_distance_X3_isWord
set_option maxRecDepth 20000 in
theorem ggX3_distance_X3_fails : GoodIn wsX3_distance wsX3_fails := goodIn_r _ [17, 18, 35, 36, 37, 38, 39, 40, 41, 42, 43] (by decide +kernel) (by decide +kernel)
set_option maxRecDepth 20000 in
theorem gX3_distance_X3_fails : GoodIn wsX3_distance (wsV RX3 44 RX3 yX3_fails wsX3_fails) := goodIn_app (goodIn_of _ (by decide +kernel)) ggX3_distance_X3_fails
set_option maxRecDepth 20000 in
theorem ggX3_distance_X3_laysMessages : GoodIn wsX3_distance wsX3_laysMessages := goodIn_r _ [22, 23, 6, 7, 8, 4, 9, 10, 24, 25, 26, 27, 28, 29, 30, 35, 36, 37, 38, 39, 40, 41, 42, 43] (by decide +kernel) (by decide +kernel)
set_option maxRecDepth 20000 in
theorem gX3_distance_X3_laysMessages : GoodIn wsX3_distance (wsV RX3 75 RX3 yX3_laysMessages wsX3_laysMessages) := goodIn_app (goodIn_of _ (by decide +kernel)) ggX3_distance_X3_laysMessages
set_option maxRecDepth 20000 in
theorem ggX3_distance_X3_nearest : GoodIn wsX3_distance wsX3_nearest := goodIn_r _ [34, 23, 6, 7, 8, 4, 9, 10, 28, 29, 30, 35, 36, 37, 38, 39, 40, 41, 42, 43] (by decide +kernel) (by decide +kernel)
set_option maxRecDepth 20000 in
theorem gX3_distance_X3_nearest : GoodIn wsX3_distance (wsV RX3 87 RX3 yX3_nearest wsX3_nearest) := goodIn_app (goodIn_of _ (by decide +kernel)) ggX3_distance_X3_nearest
theorem dX3_distance_0 : decode cX3_distance 0 = .ok (.aload_n 0, 1) := by decide +kernel
theorem dX3_distance_1 : decode cX3_distance 1 = .ok (.iload_n 1, 1) := by decide +kernel
theorem dX3_distance_2 : decode cX3_distance 2 = .ok (.invokevirtual 51, 3) := by decide +kernel
theorem dX3_distance_5 : decode cX3_distance 5 = .ok (.ifCond .ne 10, 3) := by decide +kernel
theorem dX3_distance_8 : decode cX3_distance 8 = .ok (.aload_n 0, 1) := by decide +kernel
theorem dX3_distance_9 : decode cX3_distance 9 = .ok (.bipush (-2), 2) := by decide +kernel
theorem dX3_distance_11 : decode cX3_distance 11 = .ok (.invokevirtual 44, 3) := by decide +kernel
theorem dX3_distance_14 : decode cX3_distance 14 = .ok (.ireturn, 1) := by decide +kernel
theorem dX3_distance_15 : decode cX3_distance 15 = .ok (.aload_n 0, 1) := by decide +kernel
theorem dX3_distance_16 : decode cX3_distance 16 = .ok (.invokevirtual 75, 3) := by decide +kernel
theorem dX3_distance_19 : decode cX3_distance 19 = .ok (.aload_n 0, 1) := by decide +kernel
theorem dX3_distance_20 : decode cX3_distance 20 = .ok (.iload_n 1, 1) := by decide +kernel
theorem dX3_distance_21 : decode cX3_distance 21 = .ok (.invokevirtual 87, 3) := by decide +kernel
theorem dX3_distance_24 : decode cX3_distance 24 = .ok (.ireturn, 1) := by decide +kernel
set_option maxRecDepth 20000 in
theorem ggX3_weakness_X3_laysMessages : GoodIn wsX3_weakness wsX3_laysMessages := goodIn_r _ [6, 1, 7, 8, 9, 5, 10, 11, 12, 13, 14, 15, 16, 17, 18, 27, 28, 29, 30, 31, 32, 33, 34, 35] (by decide +kernel) (by decide +kernel)
set_option maxRecDepth 20000 in
theorem gX3_weakness_X3_laysMessages : GoodIn wsX3_weakness (wsV RX3 75 RX3 yX3_laysMessages wsX3_laysMessages) := goodIn_app (goodIn_of _ (by decide +kernel)) ggX3_weakness_X3_laysMessages
set_option maxRecDepth 20000 in
theorem ggX3_weakness_X3_words : GoodIn wsX3_weakness wsX3_words := goodIn_r _ [10, 11, 27, 28, 29, 30, 31, 32, 33, 34, 35] (by decide +kernel) (by decide +kernel)
set_option maxRecDepth 20000 in
theorem gX3_weakness_X3_words : GoodIn wsX3_weakness (wsV RX3 32 RX3 yX3_words wsX3_words) := goodIn_app (goodIn_of _ (by decide +kernel)) ggX3_weakness_X3_words
set_option maxRecDepth 20000 in
theorem ggX3_weakness_X3_decoded : GoodIn wsX3_weakness wsX3_decoded := goodIn_r _ [22, 1, 23, 24, 25, 5, 26, 7, 8, 9, 10, 11, 16, 17, 18, 27, 28, 29, 30, 31, 32, 33, 34, 35] (by decide +kernel) (by decide +kernel)
set_option maxRecDepth 20000 in
theorem gX3_weakness_X3_decoded : GoodIn wsX3_weakness (wsV RX3 90 RX3 yX3_decoded wsX3_decoded) := goodIn_app (goodIn_of _ (by decide +kernel)) ggX3_weakness_X3_decoded
set_option maxRecDepth 20000 in
theorem ggX3_weakness_X3_ones : GoodIn wsX3_weakness wsX3_ones := goodIn_r _ [18] (by decide +kernel) (by decide +kernel)
set_option maxRecDepth 20000 in
theorem gX3_weakness_X3_ones : GoodIn wsX3_weakness (va_wsS RX3 69 yX3_ones wsX3_ones) := goodIn_app (goodIn_of _ (by decide +kernel)) ggX3_weakness_X3_ones
theorem dX3_weakness_0 : decode cX3_weakness 0 = .ok (.aload_n 0, 1) := by decide +kernel
theorem dX3_weakness_1 : decode cX3_weakness 1 = .ok (.invokevirtual 75, 3) := by decide +kernel
theorem dX3_weakness_4 : decode cX3_weakness 4 = .ok (.bipush 99, 2) := by decide +kernel
theorem dX3_weakness_6 : decode cX3_weakness 6 = .ok (.istore_n 1, 1) := by decide +kernel
theorem dX3_weakness_7 : decode cX3_weakness 7 = .ok (.iconst 0, 1) := by decide +kernel
theorem dX3_weakness_8 : decode cX3_weakness 8 = .ok (.istore_n 2, 1) := by decide +kernel
theorem dX3_weakness_9 : decode cX3_weakness 9 = .ok (.iload_n 2, 1) := by decide +kernel
theorem dX3_weakness_10 : decode cX3_weakness 10 = .ok (.aload_n 0, 1) := by decide +kernel
theorem dX3_weakness_11 : decode cX3_weakness 11 = .ok (.invokevirtual 32, 3) := by decide +kernel
theorem dX3_weakness_14 : decode cX3_weakness 14 = .ok (.if_icmp .ge 90, 3) := by decide +kernel
theorem dX3_weakness_17 : decode cX3_weakness 17 = .ok (.aload_n 0, 1) := by decide +kernel
theorem dX3_weakness_18 : decode cX3_weakness 18 = .ok (.iload_n 2, 1) := by decide +kernel
theorem dX3_weakness_19 : decode cX3_weakness 19 = .ok (.invokevirtual 90, 3) := by decide +kernel
theorem dX3_weakness_22 : decode cX3_weakness 22 = .ok (.istore_n 3, 1) := by decide +kernel
theorem dX3_weakness_23 : decode cX3_weakness 23 = .ok (.iconst 0, 1) := by decide +kernel
theorem dX3_weakness_24 : decode cX3_weakness 24 = .ok (.istore 4, 2) := by decide +kernel
theorem dX3_weakness_26 : decode cX3_weakness 26 = .ok (.iload 4, 2) := by decide +kernel
theorem dX3_weakness_28 : decode cX3_weakness 28 = .ok (.aload_n 0, 1) := by decide +kernel
theorem dX3_weakness_29 : decode cX3_weakness 29 = .ok (.invokevirtual 32, 3) := by decide +kernel
theorem dX3_weakness_32 : decode cX3_weakness 32 = .ok (.if_icmp .ge 66, 3) := by decide +kernel
theorem dX3_weakness_35 : decode cX3_weakness 35 = .ok (.aload_n 0, 1) := by decide +kernel
theorem dX3_weakness_36 : decode cX3_weakness 36 = .ok (.getfield 22, 3) := by decide +kernel
theorem dX3_weakness_39 : decode cX3_weakness 39 = .ok (.iload 4, 2) := by decide +kernel
theorem dX3_weakness_41 : decode cX3_weakness 41 = .ok (.iaload, 1) := by decide +kernel
theorem dX3_weakness_42 : decode cX3_weakness 42 = .ok (.iconst (-1), 1) := by decide +kernel
theorem dX3_weakness_43 : decode cX3_weakness 43 = .ok (.if_icmp .eq 29, 3) := by decide +kernel
theorem dX3_weakness_46 : decode cX3_weakness 46 = .ok (.aload_n 0, 1) := by decide +kernel
theorem dX3_weakness_47 : decode cX3_weakness 47 = .ok (.getfield 22, 3) := by decide +kernel
theorem dX3_weakness_50 : decode cX3_weakness 50 = .ok (.iload 4, 2) := by decide +kernel
theorem dX3_weakness_52 : decode cX3_weakness 52 = .ok (.iaload, 1) := by decide +kernel
theorem dX3_weakness_53 : decode cX3_weakness 53 = .ok (.iload_n 3, 1) := by decide +kernel
theorem dX3_weakness_54 : decode cX3_weakness 54 = .ok (.if_icmp .eq 18, 3) := by decide +kernel
theorem dX3_weakness_57 : decode cX3_weakness 57 = .ok (.iload 4, 2) := by decide +kernel
theorem dX3_weakness_59 : decode cX3_weakness 59 = .ok (.iload_n 2, 1) := by decide +kernel
theorem dX3_weakness_60 : decode cX3_weakness 60 = .ok (.ixor, 1) := by decide +kernel
theorem dX3_weakness_61 : decode cX3_weakness 61 = .ok (.invokestatic 69, 3) := by decide +kernel
theorem dX3_weakness_64 : decode cX3_weakness 64 = .ok (.iload_n 1, 1) := by decide +kernel
theorem dX3_weakness_65 : decode cX3_weakness 65 = .ok (.if_icmp .ge 7, 3) := by decide +kernel
theorem dX3_weakness_68 : decode cX3_weakness 68 = .ok (.iconst 1, 1) := by decide +kernel
theorem dX3_weakness_69 : decode cX3_weakness 69 = .ok (.goto 4, 3) := by decide +kernel
theorem dX3_weakness_72 : decode cX3_weakness 72 = .ok (.iconst 0, 1) := by decide +kernel
theorem dX3_weakness_73 : decode cX3_weakness 73 = .ok (.istore 5, 2) := by decide +kernel
theorem dX3_weakness_75 : decode cX3_weakness 75 = .ok (.iload 5, 2) := by decide +kernel
theorem dX3_weakness_77 : decode cX3_weakness 77 = .ok (.ifCond .eq 13, 3) := by decide +kernel
theorem dX3_weakness_80 : decode cX3_weakness 80 = .ok (.iload 4, 2) := by decide +kernel
theorem dX3_weakness_82 : decode cX3_weakness 82 = .ok (.iload_n 2, 1) := by decide +kernel
theorem dX3_weakness_83 : decode cX3_weakness 83 = .ok (.ixor, 1) := by decide +kernel
theorem dX3_weakness_84 : decode cX3_weakness 84 = .ok (.invokestatic 69, 3) := by decide +kernel
theorem dX3_weakness_87 : decode cX3_weakness 87 = .ok (.goto 4, 3) := by decide +kernel
theorem dX3_weakness_90 : decode cX3_weakness 90 = .ok (.iload_n 1, 1) := by decide +kernel
theorem dX3_weakness_91 : decode cX3_weakness 91 = .ok (.istore_n 1, 1) := by decide +kernel
theorem dX3_weakness_92 : decode cX3_weakness 92 = .ok (.iinc 4 1, 3) := by decide +kernel
theorem dX3_weakness_95 : decode cX3_weakness 95 = .ok (.goto (-69), 3) := by decide +kernel
theorem dX3_weakness_98 : decode cX3_weakness 98 = .ok (.iinc 2 1, 3) := by decide +kernel
theorem dX3_weakness_101 : decode cX3_weakness 101 = .ok (.goto (-92), 3) := by decide +kernel
theorem dX3_weakness_104 : decode cX3_weakness 104 = .ok (.iload_n 1, 1) := by decide +kernel
theorem dX3_weakness_105 : decode cX3_weakness 105 = .ok (.bipush 99, 2) := by decide +kernel
theorem dX3_weakness_107 : decode cX3_weakness 107 = .ok (.if_icmp .ne 7, 3) := by decide +kernel
theorem dX3_weakness_110 : decode cX3_weakness 110 = .ok (.iconst (-1), 1) := by decide +kernel
theorem dX3_weakness_111 : decode cX3_weakness 111 = .ok (.goto 4, 3) := by decide +kernel
theorem dX3_weakness_114 : decode cX3_weakness 114 = .ok (.iload_n 1, 1) := by decide +kernel
theorem dX3_weakness_115 : decode cX3_weakness 115 = .ok (.ireturn, 1) := by decide +kernel
set_option maxRecDepth 20000 in
theorem ggX3_lost_X3_words : GoodIn wsX3_lost wsX3_words := goodIn_r _ [5, 6, 12, 13, 14, 15, 16, 17, 18, 19, 20] (by decide +kernel) (by decide +kernel)
set_option maxRecDepth 20000 in
theorem gX3_lost_X3_words : GoodIn wsX3_lost (wsV RX3 32 RX3 yX3_words wsX3_words) := goodIn_app (goodIn_of _ (by decide +kernel)) ggX3_lost_X3_words
set_option maxRecDepth 20000 in
theorem ggX3_lost_X3_rankOf : GoodIn wsX3_lost wsX3_rankOf := goodIn_r _ [10, 6, 11, 12, 13, 14, 15, 16, 17, 18, 19, 20] (by decide +kernel) (by decide +kernel)
set_option maxRecDepth 20000 in
theorem gX3_lost_X3_rankOf : GoodIn wsX3_lost (wsV RX3 65 RX3 yX3_rankOf wsX3_rankOf) := goodIn_app (goodIn_of _ (by decide +kernel)) ggX3_lost_X3_rankOf
theorem dX3_lost_0 : decode cX3_lost 0 = .ok (.aload_n 0, 1) := by decide +kernel
theorem dX3_lost_1 : decode cX3_lost 1 = .ok (.invokevirtual 32, 3) := by decide +kernel
theorem dX3_lost_4 : decode cX3_lost 4 = .ok (.iconst 1, 1) := by decide +kernel
theorem dX3_lost_5 : decode cX3_lost 5 = .ok (.isub, 1) := by decide +kernel
theorem dX3_lost_6 : decode cX3_lost 6 = .ok (.istore_n 3, 1) := by decide +kernel
theorem dX3_lost_7 : decode cX3_lost 7 = .ok (.aload_n 0, 1) := by decide +kernel
theorem dX3_lost_8 : decode cX3_lost 8 = .ok (.iload_n 1, 1) := by decide +kernel
theorem dX3_lost_9 : decode cX3_lost 9 = .ok (.iload_n 3, 1) := by decide +kernel
theorem dX3_lost_10 : decode cX3_lost 10 = .ok (.invokevirtual 65, 3) := by decide +kernel
theorem dX3_lost_13 : decode cX3_lost 13 = .ok (.aload_n 0, 1) := by decide +kernel
theorem dX3_lost_14 : decode cX3_lost 14 = .ok (.iload_n 1, 1) := by decide +kernel
theorem dX3_lost_15 : decode cX3_lost 15 = .ok (.iload_n 3, 1) := by decide +kernel
theorem dX3_lost_16 : decode cX3_lost 16 = .ok (.iload_n 2, 1) := by decide +kernel
theorem dX3_lost_17 : decode cX3_lost 17 = .ok (.iconst (-1), 1) := by decide +kernel
theorem dX3_lost_18 : decode cX3_lost 18 = .ok (.ixor, 1) := by decide +kernel
theorem dX3_lost_19 : decode cX3_lost 19 = .ok (.iand, 1) := by decide +kernel
theorem dX3_lost_20 : decode cX3_lost 20 = .ok (.invokevirtual 65, 3) := by decide +kernel
theorem dX3_lost_23 : decode cX3_lost 23 = .ok (.isub, 1) := by decide +kernel
theorem dX3_lost_24 : decode cX3_lost 24 = .ok (.ireturn, 1) := by decide +kernel
set_option maxRecDepth 20000 in
theorem ggX3_leakageOf_X3_lost : GoodIn wsX3_leakageOf wsX3_lost := goodIn_r _ [5, 6, 7, 8, 4, 9, 10, 11, 12, 13, 14, 15, 16, 17, 18, 19, 20, 21, 22, 23, 24] (by decide +kernel) (by decide +kernel)
set_option maxRecDepth 20000 in
theorem gX3_leakageOf_X3_lost : GoodIn wsX3_leakageOf (wsV RX3 93 RX3 yX3_lost wsX3_lost) := goodIn_app (goodIn_of _ (by decide +kernel)) ggX3_leakageOf_X3_lost
theorem dX3_leakageOf_0 : decode cX3_leakageOf 0 = .ok (.aload_n 0, 1) := by decide +kernel
theorem dX3_leakageOf_1 : decode cX3_leakageOf 1 = .ok (.iconst 2, 1) := by decide +kernel
theorem dX3_leakageOf_2 : decode cX3_leakageOf 2 = .ok (.iload_n 1, 1) := by decide +kernel
theorem dX3_leakageOf_3 : decode cX3_leakageOf 3 = .ok (.invokevirtual 93, 3) := by decide +kernel
theorem dX3_leakageOf_6 : decode cX3_leakageOf 6 = .ok (.aload_n 0, 1) := by decide +kernel
theorem dX3_leakageOf_7 : decode cX3_leakageOf 7 = .ok (.iconst 1, 1) := by decide +kernel
theorem dX3_leakageOf_8 : decode cX3_leakageOf 8 = .ok (.iload_n 1, 1) := by decide +kernel
theorem dX3_leakageOf_9 : decode cX3_leakageOf 9 = .ok (.invokevirtual 93, 3) := by decide +kernel
theorem dX3_leakageOf_12 : decode cX3_leakageOf 12 = .ok (.isub, 1) := by decide +kernel
theorem dX3_leakageOf_13 : decode cX3_leakageOf 13 = .ok (.ireturn, 1) := by decide +kernel
set_option maxRecDepth 20000 in
theorem ggX3_leakage_X3_isWord : GoodIn wsX3_leakage wsX3_isWord := goodIn_r _ [5, 6, 7, 8, 4, 9, 10, 11, 12, 13, 32, 33, 34, 35, 36, 37, 38, 39, 40] (by decide +kernel) (by decide +kernel)
set_option maxRecDepth 20000 in
theorem gX3_leakage_X3_isWord : GoodIn wsX3_leakage (wsV RX3 51 RX3 yX3_isWord wsX3_isWord) := goodIn_app (goodIn_of _ (by decide +kernel)) ggX3_leakage_X3_isWord
set_option maxRecDepth 20000 in
theorem ggX3_leakage_X3_leakageOf : GoodIn wsX3_leakage wsX3_leakageOf := goodIn_r _ [17, 18, 19, 20, 4, 21, 6, 7, 8, 9, 10, 22, 23, 24, 25, 26, 32, 33, 34, 35, 36, 37, 38, 39, 40] (by decide +kernel) (by decide +kernel)
set_option maxRecDepth 20000 in
theorem gX3_leakage_X3_leakageOf : GoodIn wsX3_leakage (wsV RX3 96 RX3 yX3_leakageOf wsX3_leakageOf) := goodIn_app (goodIn_of _ (by decide +kernel)) ggX3_leakage_X3_leakageOf
set_option maxRecDepth 20000 in
theorem ggX3_leakage_X3_fails : GoodIn wsX3_leakage wsX3_fails := goodIn_r _ [30, 31, 32, 33, 34, 35, 36, 37, 38, 39, 40] (by decide +kernel) (by decide +kernel)
set_option maxRecDepth 20000 in
theorem gX3_leakage_X3_fails : GoodIn wsX3_leakage (wsV RX3 44 RX3 yX3_fails wsX3_fails) := goodIn_app (goodIn_of _ (by decide +kernel)) ggX3_leakage_X3_fails
theorem dX3_leakage_0 : decode cX3_leakage 0 = .ok (.aload_n 0, 1) := by decide +kernel
theorem dX3_leakage_1 : decode cX3_leakage 1 = .ok (.iload_n 1, 1) := by decide +kernel
theorem dX3_leakage_2 : decode cX3_leakage 2 = .ok (.invokevirtual 51, 3) := by decide +kernel
theorem dX3_leakage_5 : decode cX3_leakage 5 = .ok (.ifCond .eq 11, 3) := by decide +kernel
theorem dX3_leakage_8 : decode cX3_leakage 8 = .ok (.aload_n 0, 1) := by decide +kernel
theorem dX3_leakage_9 : decode cX3_leakage 9 = .ok (.iload_n 1, 1) := by decide +kernel
theorem dX3_leakage_10 : decode cX3_leakage 10 = .ok (.invokevirtual 96, 3) := by decide +kernel
theorem dX3_leakage_13 : decode cX3_leakage 13 = .ok (.goto 9, 3) := by decide +kernel
theorem dX3_leakage_16 : decode cX3_leakage 16 = .ok (.aload_n 0, 1) := by decide +kernel
theorem dX3_leakage_17 : decode cX3_leakage 17 = .ok (.bipush (-2), 2) := by decide +kernel
theorem dX3_leakage_19 : decode cX3_leakage 19 = .ok (.invokevirtual 44, 3) := by decide +kernel
theorem dX3_leakage_22 : decode cX3_leakage 22 = .ok (.ireturn, 1) := by decide +kernel
set_option maxRecDepth 20000 in
theorem ggX3_worstOf_X3_words : GoodIn wsX3_worstOf wsX3_words := goodIn_r _ [5, 6, 23, 24, 25, 26, 27, 28, 29, 30, 31] (by decide +kernel) (by decide +kernel)
set_option maxRecDepth 20000 in
theorem gX3_worstOf_X3_words : GoodIn wsX3_worstOf (wsV RX3 32 RX3 yX3_words wsX3_words) := goodIn_app (goodIn_of _ (by decide +kernel)) ggX3_worstOf_X3_words
set_option maxRecDepth 20000 in
theorem ggX3_worstOf_X3_ones : GoodIn wsX3_worstOf wsX3_ones := goodIn_r _ [9] (by decide +kernel) (by decide +kernel)
set_option maxRecDepth 20000 in
theorem gX3_worstOf_X3_ones : GoodIn wsX3_worstOf (va_wsS RX3 69 yX3_ones wsX3_ones) := goodIn_app (goodIn_of _ (by decide +kernel)) ggX3_worstOf_X3_ones
set_option maxRecDepth 20000 in
theorem ggX3_worstOf_X3_leakageOf : GoodIn wsX3_worstOf wsX3_leakageOf := goodIn_r _ [13, 14, 15, 16, 4, 17, 1, 2, 3, 5, 6, 18, 19, 20, 21, 22, 23, 24, 25, 26, 27, 28, 29, 30, 31] (by decide +kernel) (by decide +kernel)
set_option maxRecDepth 20000 in
theorem gX3_worstOf_X3_leakageOf : GoodIn wsX3_worstOf (wsV RX3 96 RX3 yX3_leakageOf wsX3_leakageOf) := goodIn_app (goodIn_of _ (by decide +kernel)) ggX3_worstOf_X3_leakageOf
theorem dX3_worstOf_0 : decode cX3_worstOf 0 = .ok (.iconst (-1), 1) := by decide +kernel
theorem dX3_worstOf_1 : decode cX3_worstOf 1 = .ok (.istore_n 2, 1) := by decide +kernel
theorem dX3_worstOf_2 : decode cX3_worstOf 2 = .ok (.iconst (-1), 1) := by decide +kernel
theorem dX3_worstOf_3 : decode cX3_worstOf 3 = .ok (.istore_n 3, 1) := by decide +kernel
theorem dX3_worstOf_4 : decode cX3_worstOf 4 = .ok (.iconst 0, 1) := by decide +kernel
theorem dX3_worstOf_5 : decode cX3_worstOf 5 = .ok (.istore 4, 2) := by decide +kernel
theorem dX3_worstOf_7 : decode cX3_worstOf 7 = .ok (.iload 4, 2) := by decide +kernel
theorem dX3_worstOf_9 : decode cX3_worstOf 9 = .ok (.aload_n 0, 1) := by decide +kernel
theorem dX3_worstOf_10 : decode cX3_worstOf 10 = .ok (.invokevirtual 32, 3) := by decide +kernel
theorem dX3_worstOf_13 : decode cX3_worstOf 13 = .ok (.if_icmp .ge 56, 3) := by decide +kernel
theorem dX3_worstOf_16 : decode cX3_worstOf 16 = .ok (.iload 4, 2) := by decide +kernel
theorem dX3_worstOf_18 : decode cX3_worstOf 18 = .ok (.invokestatic 69, 3) := by decide +kernel
theorem dX3_worstOf_21 : decode cX3_worstOf 21 = .ok (.iload_n 1, 1) := by decide +kernel
theorem dX3_worstOf_22 : decode cX3_worstOf 22 = .ok (.if_icmp .ne 12, 3) := by decide +kernel
theorem dX3_worstOf_25 : decode cX3_worstOf 25 = .ok (.aload_n 0, 1) := by decide +kernel
theorem dX3_worstOf_26 : decode cX3_worstOf 26 = .ok (.iload 4, 2) := by decide +kernel
theorem dX3_worstOf_28 : decode cX3_worstOf 28 = .ok (.invokevirtual 96, 3) := by decide +kernel
theorem dX3_worstOf_31 : decode cX3_worstOf 31 = .ok (.goto 4, 3) := by decide +kernel
theorem dX3_worstOf_34 : decode cX3_worstOf 34 = .ok (.iconst (-1), 1) := by decide +kernel
theorem dX3_worstOf_35 : decode cX3_worstOf 35 = .ok (.istore 5, 2) := by decide +kernel
theorem dX3_worstOf_37 : decode cX3_worstOf 37 = .ok (.iload 5, 2) := by decide +kernel
theorem dX3_worstOf_39 : decode cX3_worstOf 39 = .ok (.iload_n 3, 1) := by decide +kernel
theorem dX3_worstOf_40 : decode cX3_worstOf 40 = .ok (.if_icmp .le 8, 3) := by decide +kernel
theorem dX3_worstOf_43 : decode cX3_worstOf 43 = .ok (.iload 4, 2) := by decide +kernel
theorem dX3_worstOf_45 : decode cX3_worstOf 45 = .ok (.goto 4, 3) := by decide +kernel
theorem dX3_worstOf_48 : decode cX3_worstOf 48 = .ok (.iload_n 2, 1) := by decide +kernel
theorem dX3_worstOf_49 : decode cX3_worstOf 49 = .ok (.istore_n 2, 1) := by decide +kernel
theorem dX3_worstOf_50 : decode cX3_worstOf 50 = .ok (.iload 5, 2) := by decide +kernel
theorem dX3_worstOf_52 : decode cX3_worstOf 52 = .ok (.iload_n 3, 1) := by decide +kernel
theorem dX3_worstOf_53 : decode cX3_worstOf 53 = .ok (.if_icmp .le 8, 3) := by decide +kernel
theorem dX3_worstOf_56 : decode cX3_worstOf 56 = .ok (.iload 5, 2) := by decide +kernel
theorem dX3_worstOf_58 : decode cX3_worstOf 58 = .ok (.goto 4, 3) := by decide +kernel
theorem dX3_worstOf_61 : decode cX3_worstOf 61 = .ok (.iload_n 3, 1) := by decide +kernel
theorem dX3_worstOf_62 : decode cX3_worstOf 62 = .ok (.istore_n 3, 1) := by decide +kernel
theorem dX3_worstOf_63 : decode cX3_worstOf 63 = .ok (.iinc 4 1, 3) := by decide +kernel
theorem dX3_worstOf_66 : decode cX3_worstOf 66 = .ok (.goto (-59), 3) := by decide +kernel
theorem dX3_worstOf_69 : decode cX3_worstOf 69 = .ok (.iload_n 2, 1) := by decide +kernel
theorem dX3_worstOf_70 : decode cX3_worstOf 70 = .ok (.ireturn, 1) := by decide +kernel
set_option maxRecDepth 20000 in
theorem ggX3_isSize_X3_within : GoodIn wsX3_isSize wsX3_within := goodIn_r _ [5] (by decide +kernel) (by decide +kernel)
set_option maxRecDepth 20000 in
theorem gX3_isSize_X3_within : GoodIn wsX3_isSize (va_wsS RX3 36 yX3_within wsX3_within) := goodIn_app (goodIn_of _ (by decide +kernel)) ggX3_isSize_X3_within
theorem dX3_isSize_0 : decode cX3_isSize 0 = .ok (.iload_n 1, 1) := by decide +kernel
theorem dX3_isSize_1 : decode cX3_isSize 1 = .ok (.iconst 0, 1) := by decide +kernel
theorem dX3_isSize_2 : decode cX3_isSize 2 = .ok (.aload_n 0, 1) := by decide +kernel
theorem dX3_isSize_3 : decode cX3_isSize 3 = .ok (.getfield 7, 3) := by decide +kernel
theorem dX3_isSize_6 : decode cX3_isSize 6 = .ok (.iconst 0, 1) := by decide +kernel
theorem dX3_isSize_7 : decode cX3_isSize 7 = .ok (.iaload, 1) := by decide +kernel
theorem dX3_isSize_8 : decode cX3_isSize 8 = .ok (.invokestatic 36, 3) := by decide +kernel
theorem dX3_isSize_11 : decode cX3_isSize 11 = .ok (.ireturn, 1) := by decide +kernel
set_option maxRecDepth 20000 in
theorem ggX3_worstLeakage_X3_isSize : GoodIn wsX3_worstLeakage wsX3_isSize := goodIn_r _ [5, 6, 7, 8, 4, 9, 39, 40, 41, 42, 43, 44, 45, 46, 47] (by decide +kernel) (by decide +kernel)
set_option maxRecDepth 20000 in
theorem gX3_worstLeakage_X3_isSize : GoodIn wsX3_worstLeakage (wsV RX3 99 RX3 yX3_isSize wsX3_isSize) := goodIn_app (goodIn_of _ (by decide +kernel)) ggX3_worstLeakage_X3_isSize
set_option maxRecDepth 20000 in
theorem ggX3_worstLeakage_X3_worstOf : GoodIn wsX3_worstLeakage wsX3_worstOf := goodIn_r _ [13, 14, 15, 16, 4, 17, 6, 18, 19, 20, 21, 22, 23, 24, 25, 26, 27, 28, 29, 30, 31, 32, 33, 39, 40, 41, 42, 43, 44, 45, 46, 47] (by decide +kernel) (by decide +kernel)
set_option maxRecDepth 20000 in
theorem gX3_worstLeakage_X3_worstOf : GoodIn wsX3_worstLeakage (wsV RX3 102 RX3 yX3_worstOf wsX3_worstOf) := goodIn_app (goodIn_of _ (by decide +kernel)) ggX3_worstLeakage_X3_worstOf
set_option maxRecDepth 20000 in
theorem ggX3_worstLeakage_X3_leakageOf : GoodIn wsX3_worstLeakage wsX3_leakageOf := goodIn_r _ [24, 25, 26, 27, 4, 28, 14, 15, 16, 17, 6, 29, 30, 31, 32, 33, 39, 40, 41, 42, 43, 44, 45, 46, 47] (by decide +kernel) (by decide +kernel)
set_option maxRecDepth 20000 in
theorem gX3_worstLeakage_X3_leakageOf : GoodIn wsX3_worstLeakage (wsV RX3 96 RX3 yX3_leakageOf wsX3_leakageOf) := goodIn_app (goodIn_of _ (by decide +kernel)) ggX3_worstLeakage_X3_leakageOf
end
section
set_option maxRecDepth 20000 in
theorem ggX3_worstLeakage_X3_fails : GoodIn wsX3_worstLeakage wsX3_fails := goodIn_r _ [37, 38, 39, 40, 41, 42, 43, 44, 45, 46, 47] (by decide +kernel) (by decide +kernel)
set_option maxRecDepth 20000 in
theorem gX3_worstLeakage_X3_fails : GoodIn wsX3_worstLeakage (wsV RX3 44 RX3 yX3_fails wsX3_fails) := goodIn_app (goodIn_of _ (by decide +kernel)) ggX3_worstLeakage_X3_fails
theorem dX3_worstLeakage_0 : decode cX3_worstLeakage 0 = .ok (.aload_n 0, 1) := by decide +kernel
theorem dX3_worstLeakage_1 : decode cX3_worstLeakage 1 = .ok (.iload_n 1, 1) := by decide +kernel
theorem dX3_worstLeakage_2 : decode cX3_worstLeakage 2 = .ok (.invokevirtual 99, 3) := by decide +kernel
theorem dX3_worstLeakage_5 : decode cX3_worstLeakage 5 = .ok (.ifCond .eq 15, 3) := by decide +kernel
theorem dX3_worstLeakage_8 : decode cX3_worstLeakage 8 = .ok (.aload_n 0, 1) := by decide +kernel
theorem dX3_worstLeakage_9 : decode cX3_worstLeakage 9 = .ok (.aload_n 0, 1) := by decide +kernel
theorem dX3_worstLeakage_10 : decode cX3_worstLeakage 10 = .ok (.iload_n 1, 1) := by decide +kernel
theorem dX3_worstLeakage_11 : decode cX3_worstLeakage 11 = .ok (.invokevirtual 102, 3) := by decide +kernel
theorem dX3_worstLeakage_14 : decode cX3_worstLeakage 14 = .ok (.invokevirtual 96, 3) := by decide +kernel
theorem dX3_worstLeakage_17 : decode cX3_worstLeakage 17 = .ok (.goto 9, 3) := by decide +kernel
theorem dX3_worstLeakage_20 : decode cX3_worstLeakage 20 = .ok (.aload_n 0, 1) := by decide +kernel
theorem dX3_worstLeakage_21 : decode cX3_worstLeakage 21 = .ok (.bipush (-2), 2) := by decide +kernel
theorem dX3_worstLeakage_23 : decode cX3_worstLeakage 23 = .ok (.invokevirtual 44, 3) := by decide +kernel
theorem dX3_worstLeakage_26 : decode cX3_worstLeakage 26 = .ok (.ireturn, 1) := by decide +kernel
set_option maxRecDepth 20000 in
theorem ggX3_worstSet_X3_isSize : GoodIn wsX3_worstSet wsX3_isSize := goodIn_r _ [5, 6, 7, 8, 4, 9, 39, 40, 41, 42, 43, 44, 45, 46, 47] (by decide +kernel) (by decide +kernel)
set_option maxRecDepth 20000 in
theorem gX3_worstSet_X3_isSize : GoodIn wsX3_worstSet (wsV RX3 99 RX3 yX3_isSize wsX3_isSize) := goodIn_app (goodIn_of _ (by decide +kernel)) ggX3_worstSet_X3_isSize
set_option maxRecDepth 20000 in
theorem ggX3_worstSet_X3_worstOf : GoodIn wsX3_worstSet wsX3_worstOf := goodIn_r _ [13, 14, 15, 16, 4, 17, 6, 18, 19, 20, 21, 22, 23, 24, 25, 26, 27, 28, 29, 30, 31, 32, 33, 39, 40, 41, 42, 43, 44, 45, 46, 47] (by decide +kernel) (by decide +kernel)
set_option maxRecDepth 20000 in
theorem gX3_worstSet_X3_worstOf : GoodIn wsX3_worstSet (wsV RX3 102 RX3 yX3_worstOf wsX3_worstOf) := goodIn_app (goodIn_of _ (by decide +kernel)) ggX3_worstSet_X3_worstOf
set_option maxRecDepth 20000 in
theorem ggX3_worstSet_X3_fails : GoodIn wsX3_worstSet wsX3_fails := goodIn_r _ [37, 38, 39, 40, 41, 42, 43, 44, 45, 46, 47] (by decide +kernel) (by decide +kernel)
set_option maxRecDepth 20000 in
theorem gX3_worstSet_X3_fails : GoodIn wsX3_worstSet (wsV RX3 44 RX3 yX3_fails wsX3_fails) := goodIn_app (goodIn_of _ (by decide +kernel)) ggX3_worstSet_X3_fails
theorem dX3_worstSet_0 : decode cX3_worstSet 0 = .ok (.aload_n 0, 1) := by decide +kernel
theorem dX3_worstSet_1 : decode cX3_worstSet 1 = .ok (.iload_n 1, 1) := by decide +kernel
theorem dX3_worstSet_2 : decode cX3_worstSet 2 = .ok (.invokevirtual 99, 3) := by decide +kernel
theorem dX3_worstSet_5 : decode cX3_worstSet 5 = .ok (.ifCond .eq 11, 3) := by decide +kernel
theorem dX3_worstSet_8 : decode cX3_worstSet 8 = .ok (.aload_n 0, 1) := by decide +kernel
theorem dX3_worstSet_9 : decode cX3_worstSet 9 = .ok (.iload_n 1, 1) := by decide +kernel
theorem dX3_worstSet_10 : decode cX3_worstSet 10 = .ok (.invokevirtual 102, 3) := by decide +kernel
theorem dX3_worstSet_13 : decode cX3_worstSet 13 = .ok (.goto 9, 3) := by decide +kernel
theorem dX3_worstSet_16 : decode cX3_worstSet 16 = .ok (.aload_n 0, 1) := by decide +kernel
theorem dX3_worstSet_17 : decode cX3_worstSet 17 = .ok (.bipush (-2), 2) := by decide +kernel
theorem dX3_worstSet_19 : decode cX3_worstSet 19 = .ok (.invokevirtual 44, 3) := by decide +kernel
theorem dX3_worstSet_22 : decode cX3_worstSet 22 = .ok (.ireturn, 1) := by decide +kernel
set_option maxRecDepth 20000 in
theorem ggX3_threshold_X3_worstOf : GoodIn wsX3_threshold wsX3_worstOf := goodIn_r _ [6, 7, 8, 9, 5, 10, 1, 11, 12, 13, 14, 15, 16, 17, 18, 19, 20, 21, 22, 23, 24, 25, 26, 27, 28, 29, 30, 31, 32, 33, 34, 35] (by decide +kernel) (by decide +kernel)
set_option maxRecDepth 20000 in
theorem gX3_threshold_X3_worstOf : GoodIn wsX3_threshold (wsV RX3 102 RX3 yX3_worstOf wsX3_worstOf) := goodIn_app (goodIn_of _ (by decide +kernel)) ggX3_threshold_X3_worstOf
set_option maxRecDepth 20000 in
theorem ggX3_threshold_X3_leakageOf : GoodIn wsX3_threshold wsX3_leakageOf := goodIn_r _ [17, 18, 19, 20, 5, 21, 7, 8, 9, 10, 1, 22, 23, 24, 25, 26, 27, 28, 29, 30, 31, 32, 33, 34, 35] (by decide +kernel) (by decide +kernel)
set_option maxRecDepth 20000 in
theorem gX3_threshold_X3_leakageOf : GoodIn wsX3_threshold (wsV RX3 96 RX3 yX3_leakageOf wsX3_leakageOf) := goodIn_app (goodIn_of _ (by decide +kernel)) ggX3_threshold_X3_leakageOf
theorem dX3_threshold_0 : decode cX3_threshold 0 = .ok (.iconst 0, 1) := by decide +kernel
theorem dX3_threshold_1 : decode cX3_threshold 1 = .ok (.istore_n 1, 1) := by decide +kernel
theorem dX3_threshold_2 : decode cX3_threshold 2 = .ok (.iload_n 1, 1) := by decide +kernel
theorem dX3_threshold_3 : decode cX3_threshold 3 = .ok (.aload_n 0, 1) := by decide +kernel
theorem dX3_threshold_4 : decode cX3_threshold 4 = .ok (.getfield 7, 3) := by decide +kernel
theorem dX3_threshold_7 : decode cX3_threshold 7 = .ok (.iconst 0, 1) := by decide +kernel
theorem dX3_threshold_8 : decode cX3_threshold 8 = .ok (.iaload, 1) := by decide +kernel
theorem dX3_threshold_9 : decode cX3_threshold 9 = .ok (.if_icmp .ge 23, 3) := by decide +kernel
theorem dX3_threshold_12 : decode cX3_threshold 12 = .ok (.aload_n 0, 1) := by decide +kernel
theorem dX3_threshold_13 : decode cX3_threshold 13 = .ok (.aload_n 0, 1) := by decide +kernel
theorem dX3_threshold_14 : decode cX3_threshold 14 = .ok (.iload_n 1, 1) := by decide +kernel
theorem dX3_threshold_15 : decode cX3_threshold 15 = .ok (.iconst 1, 1) := by decide +kernel
theorem dX3_threshold_16 : decode cX3_threshold 16 = .ok (.iadd, 1) := by decide +kernel
theorem dX3_threshold_17 : decode cX3_threshold 17 = .ok (.invokevirtual 102, 3) := by decide +kernel
theorem dX3_threshold_20 : decode cX3_threshold 20 = .ok (.invokevirtual 96, 3) := by decide +kernel
theorem dX3_threshold_23 : decode cX3_threshold 23 = .ok (.ifCond .ne 9, 3) := by decide +kernel
theorem dX3_threshold_26 : decode cX3_threshold 26 = .ok (.iinc 1 1, 3) := by decide +kernel
theorem dX3_threshold_29 : decode cX3_threshold 29 = .ok (.goto (-27), 3) := by decide +kernel
theorem dX3_threshold_32 : decode cX3_threshold 32 = .ok (.iload_n 1, 1) := by decide +kernel
theorem dX3_threshold_33 : decode cX3_threshold 33 = .ok (.ireturn, 1) := by decide +kernel
set_option maxRecDepth 20000 in
theorem ggX3_leastSize_X3_within : GoodIn wsX3_leastSize wsX3_within := goodIn_r _ [5] (by decide +kernel) (by decide +kernel)
set_option maxRecDepth 20000 in
theorem gX3_leastSize_X3_within : GoodIn wsX3_leastSize (va_wsS RX3 36 yX3_within wsX3_within) := goodIn_app (goodIn_of _ (by decide +kernel)) ggX3_leastSize_X3_within
set_option maxRecDepth 20000 in
theorem ggX3_leastSize_X3_fails : GoodIn wsX3_leastSize wsX3_fails := goodIn_r _ [9, 10, 35, 36, 37, 38, 39, 40, 41, 42, 43] (by decide +kernel) (by decide +kernel)
set_option maxRecDepth 20000 in
theorem gX3_leastSize_X3_fails : GoodIn wsX3_leastSize (wsV RX3 44 RX3 yX3_fails wsX3_fails) := goodIn_app (goodIn_of _ (by decide +kernel)) ggX3_leastSize_X3_fails
set_option maxRecDepth 20000 in
theorem ggX3_leastSize_X3_worstOf : GoodIn wsX3_leastSize wsX3_worstOf := goodIn_r _ [14, 15, 16, 17, 4, 18, 1, 19, 20, 21, 22, 23, 24, 25, 26, 27, 28, 29, 30, 31, 32, 33, 34, 35, 36, 37, 38, 39, 40, 41, 42, 43] (by decide +kernel) (by decide +kernel)
set_option maxRecDepth 20000 in
theorem gX3_leastSize_X3_worstOf : GoodIn wsX3_leastSize (wsV RX3 102 RX3 yX3_worstOf wsX3_worstOf) := goodIn_app (goodIn_of _ (by decide +kernel)) ggX3_leastSize_X3_worstOf
set_option maxRecDepth 20000 in
theorem ggX3_leastSize_X3_leakageOf : GoodIn wsX3_leastSize wsX3_leakageOf := goodIn_r _ [25, 26, 27, 28, 4, 29, 15, 16, 17, 18, 1, 30, 31, 32, 33, 34, 35, 36, 37, 38, 39, 40, 41, 42, 43] (by decide +kernel) (by decide +kernel)
set_option maxRecDepth 20000 in
theorem gX3_leastSize_X3_leakageOf : GoodIn wsX3_leastSize (wsV RX3 96 RX3 yX3_leakageOf wsX3_leakageOf) := goodIn_app (goodIn_of _ (by decide +kernel)) ggX3_leastSize_X3_leakageOf
theorem dX3_leastSize_0 : decode cX3_leastSize 0 = .ok (.iload_n 1, 1) := by decide +kernel
theorem dX3_leastSize_1 : decode cX3_leastSize 1 = .ok (.iconst 1, 1) := by decide +kernel
theorem dX3_leastSize_2 : decode cX3_leastSize 2 = .ok (.bipush 6, 2) := by decide +kernel
theorem dX3_leastSize_4 : decode cX3_leastSize 4 = .ok (.invokestatic 36, 3) := by decide +kernel
theorem dX3_leastSize_7 : decode cX3_leastSize 7 = .ok (.ifCond .ne 10, 3) := by decide +kernel
theorem dX3_leastSize_10 : decode cX3_leastSize 10 = .ok (.aload_n 0, 1) := by decide +kernel
theorem dX3_leastSize_11 : decode cX3_leastSize 11 = .ok (.bipush (-2), 2) := by decide +kernel
theorem dX3_leastSize_13 : decode cX3_leastSize 13 = .ok (.invokevirtual 44, 3) := by decide +kernel
theorem dX3_leastSize_16 : decode cX3_leastSize 16 = .ok (.ireturn, 1) := by decide +kernel
theorem dX3_leastSize_17 : decode cX3_leastSize 17 = .ok (.iconst 0, 1) := by decide +kernel
theorem dX3_leastSize_18 : decode cX3_leastSize 18 = .ok (.istore_n 2, 1) := by decide +kernel
theorem dX3_leastSize_19 : decode cX3_leastSize 19 = .ok (.iload_n 2, 1) := by decide +kernel
theorem dX3_leastSize_20 : decode cX3_leastSize 20 = .ok (.aload_n 0, 1) := by decide +kernel
theorem dX3_leastSize_21 : decode cX3_leastSize 21 = .ok (.getfield 7, 3) := by decide +kernel
theorem dX3_leastSize_24 : decode cX3_leastSize 24 = .ok (.iconst 0, 1) := by decide +kernel
theorem dX3_leastSize_25 : decode cX3_leastSize 25 = .ok (.iaload, 1) := by decide +kernel
theorem dX3_leastSize_26 : decode cX3_leastSize 26 = .ok (.if_icmp .gt 22, 3) := by decide +kernel
theorem dX3_leastSize_29 : decode cX3_leastSize 29 = .ok (.aload_n 0, 1) := by decide +kernel
theorem dX3_leastSize_30 : decode cX3_leastSize 30 = .ok (.aload_n 0, 1) := by decide +kernel
theorem dX3_leastSize_31 : decode cX3_leastSize 31 = .ok (.iload_n 2, 1) := by decide +kernel
theorem dX3_leastSize_32 : decode cX3_leastSize 32 = .ok (.invokevirtual 102, 3) := by decide +kernel
theorem dX3_leastSize_35 : decode cX3_leastSize 35 = .ok (.invokevirtual 96, 3) := by decide +kernel
theorem dX3_leastSize_38 : decode cX3_leastSize 38 = .ok (.iload_n 1, 1) := by decide +kernel
theorem dX3_leastSize_39 : decode cX3_leastSize 39 = .ok (.if_icmp .ge 9, 3) := by decide +kernel
theorem dX3_leastSize_42 : decode cX3_leastSize 42 = .ok (.iinc 2 1, 3) := by decide +kernel
theorem dX3_leastSize_45 : decode cX3_leastSize 45 = .ok (.goto (-26), 3) := by decide +kernel
theorem dX3_leastSize_48 : decode cX3_leastSize 48 = .ok (.iload_n 2, 1) := by decide +kernel
theorem dX3_leastSize_49 : decode cX3_leastSize 49 = .ok (.aload_n 0, 1) := by decide +kernel
theorem dX3_leastSize_50 : decode cX3_leastSize 50 = .ok (.getfield 7, 3) := by decide +kernel
theorem dX3_leastSize_53 : decode cX3_leastSize 53 = .ok (.iconst 0, 1) := by decide +kernel
theorem dX3_leastSize_54 : decode cX3_leastSize 54 = .ok (.iaload, 1) := by decide +kernel
theorem dX3_leastSize_55 : decode cX3_leastSize 55 = .ok (.if_icmp .le 7, 3) := by decide +kernel
theorem dX3_leastSize_58 : decode cX3_leastSize 58 = .ok (.iconst (-1), 1) := by decide +kernel
theorem dX3_leastSize_59 : decode cX3_leastSize 59 = .ok (.goto 4, 3) := by decide +kernel
theorem dX3_leastSize_62 : decode cX3_leastSize 62 = .ok (.iload_n 2, 1) := by decide +kernel
theorem dX3_leastSize_63 : decode cX3_leastSize 63 = .ok (.ireturn, 1) := by decide +kernel
set_option maxRecDepth 20000 in
theorem ggX3_isObservation_X3_isWord : GoodIn wsX3_isObservation wsX3_isWord := goodIn_r _ [5, 6, 7, 8, 4, 9, 10, 11, 12, 13, 14, 15, 16, 17, 18, 19, 20, 21, 22] (by decide +kernel) (by decide +kernel)
set_option maxRecDepth 20000 in
theorem gX3_isObservation_X3_isWord : GoodIn wsX3_isObservation (wsV RX3 51 RX3 yX3_isWord wsX3_isWord) := goodIn_app (goodIn_of _ (by decide +kernel)) ggX3_isObservation_X3_isWord
theorem dX3_isObservation_0 : decode cX3_isObservation 0 = .ok (.aload_n 0, 1) := by decide +kernel
theorem dX3_isObservation_1 : decode cX3_isObservation 1 = .ok (.iload_n 1, 1) := by decide +kernel
theorem dX3_isObservation_2 : decode cX3_isObservation 2 = .ok (.invokevirtual 51, 3) := by decide +kernel
theorem dX3_isObservation_5 : decode cX3_isObservation 5 = .ok (.ifCond .eq 23, 3) := by decide +kernel
theorem dX3_isObservation_8 : decode cX3_isObservation 8 = .ok (.aload_n 0, 1) := by decide +kernel
theorem dX3_isObservation_9 : decode cX3_isObservation 9 = .ok (.iload_n 2, 1) := by decide +kernel
theorem dX3_isObservation_10 : decode cX3_isObservation 10 = .ok (.invokevirtual 51, 3) := by decide +kernel
theorem dX3_isObservation_13 : decode cX3_isObservation 13 = .ok (.ifCond .eq 15, 3) := by decide +kernel
theorem dX3_isObservation_16 : decode cX3_isObservation 16 = .ok (.iload_n 2, 1) := by decide +kernel
theorem dX3_isObservation_17 : decode cX3_isObservation 17 = .ok (.iload_n 1, 1) := by decide +kernel
theorem dX3_isObservation_18 : decode cX3_isObservation 18 = .ok (.iconst (-1), 1) := by decide +kernel
theorem dX3_isObservation_19 : decode cX3_isObservation 19 = .ok (.ixor, 1) := by decide +kernel
theorem dX3_isObservation_20 : decode cX3_isObservation 20 = .ok (.iand, 1) := by decide +kernel
theorem dX3_isObservation_21 : decode cX3_isObservation 21 = .ok (.ifCond .ne 7, 3) := by decide +kernel
theorem dX3_isObservation_24 : decode cX3_isObservation 24 = .ok (.iconst 1, 1) := by decide +kernel
theorem dX3_isObservation_25 : decode cX3_isObservation 25 = .ok (.goto 4, 3) := by decide +kernel
theorem dX3_isObservation_28 : decode cX3_isObservation 28 = .ok (.iconst 0, 1) := by decide +kernel
theorem dX3_isObservation_29 : decode cX3_isObservation 29 = .ok (.ireturn, 1) := by decide +kernel
set_option maxRecDepth 20000 in
theorem ggX3_possibleMessages_X3_isObservation : GoodIn wsX3_possibleMessages wsX3_isObservation := goodIn_r _ [5, 6, 7, 8, 4, 9, 10, 11, 12, 13, 14, 15, 16, 17, 40, 41, 42, 43, 44, 45, 46, 47, 48] (by decide +kernel) (by decide +kernel)
set_option maxRecDepth 20000 in
theorem gX3_possibleMessages_X3_isObservation : GoodIn wsX3_possibleMessages (wsV RX3 105 RX3 yX3_isObservation wsX3_isObservation) := goodIn_app (goodIn_of _ (by decide +kernel)) ggX3_possibleMessages_X3_isObservation
set_option maxRecDepth 20000 in
theorem ggX3_possibleMessages_X3_meets : GoodIn wsX3_possibleMessages wsX3_meets := goodIn_r _ [21, 22, 23, 24, 25, 26, 4, 27, 10, 11, 12, 13, 14, 28, 29, 30, 31, 32, 33, 34, 40, 41, 42, 43, 44, 45, 46, 47, 48] (by decide +kernel) (by decide +kernel)
set_option maxRecDepth 20000 in
theorem gX3_possibleMessages_X3_meets : GoodIn wsX3_possibleMessages (wsV RX3 81 RX3 yX3_meets wsX3_meets) := goodIn_app (goodIn_of _ (by decide +kernel)) ggX3_possibleMessages_X3_meets
set_option maxRecDepth 20000 in
theorem ggX3_possibleMessages_X3_fails : GoodIn wsX3_possibleMessages wsX3_fails := goodIn_r _ [38, 39, 40, 41, 42, 43, 44, 45, 46, 47, 48] (by decide +kernel) (by decide +kernel)
set_option maxRecDepth 20000 in
theorem gX3_possibleMessages_X3_fails : GoodIn wsX3_possibleMessages (wsV RX3 44 RX3 yX3_fails wsX3_fails) := goodIn_app (goodIn_of _ (by decide +kernel)) ggX3_possibleMessages_X3_fails
theorem dX3_possibleMessages_0 : decode cX3_possibleMessages 0 = .ok (.aload_n 0, 1) := by decide +kernel
theorem dX3_possibleMessages_1 : decode cX3_possibleMessages 1 = .ok (.iload_n 1, 1) := by decide +kernel
theorem dX3_possibleMessages_2 : decode cX3_possibleMessages 2 = .ok (.iload_n 2, 1) := by decide +kernel
theorem dX3_possibleMessages_3 : decode cX3_possibleMessages 3 = .ok (.invokevirtual 105, 3) := by decide +kernel
theorem dX3_possibleMessages_6 : decode cX3_possibleMessages 6 = .ok (.ifCond .eq 12, 3) := by decide +kernel
theorem dX3_possibleMessages_9 : decode cX3_possibleMessages 9 = .ok (.aload_n 0, 1) := by decide +kernel
theorem dX3_possibleMessages_10 : decode cX3_possibleMessages 10 = .ok (.iload_n 1, 1) := by decide +kernel
theorem dX3_possibleMessages_11 : decode cX3_possibleMessages 11 = .ok (.iload_n 2, 1) := by decide +kernel
theorem dX3_possibleMessages_12 : decode cX3_possibleMessages 12 = .ok (.invokevirtual 81, 3) := by decide +kernel
theorem dX3_possibleMessages_15 : decode cX3_possibleMessages 15 = .ok (.goto 9, 3) := by decide +kernel
theorem dX3_possibleMessages_18 : decode cX3_possibleMessages 18 = .ok (.aload_n 0, 1) := by decide +kernel
theorem dX3_possibleMessages_19 : decode cX3_possibleMessages 19 = .ok (.bipush (-2), 2) := by decide +kernel
theorem dX3_possibleMessages_21 : decode cX3_possibleMessages 21 = .ok (.invokevirtual 44, 3) := by decide +kernel
theorem dX3_possibleMessages_24 : decode cX3_possibleMessages 24 = .ok (.ireturn, 1) := by decide +kernel
set_option maxRecDepth 20000 in
theorem ggX3_possibleMessage_X3_isObservation : GoodIn wsX3_possibleMessage wsX3_isObservation := goodIn_r _ [6, 7, 8, 9, 5, 10, 11, 12, 13, 14, 15, 16, 17, 18, 40, 41, 42, 43, 44, 45, 46, 47, 48] (by decide +kernel) (by decide +kernel)
set_option maxRecDepth 20000 in
theorem gX3_possibleMessage_X3_isObservation : GoodIn wsX3_possibleMessage (wsV RX3 105 RX3 yX3_isObservation wsX3_isObservation) := goodIn_app (goodIn_of _ (by decide +kernel)) ggX3_possibleMessage_X3_isObservation
set_option maxRecDepth 20000 in
theorem ggX3_possibleMessage_X3_fails : GoodIn wsX3_possibleMessage wsX3_fails := goodIn_r _ [22, 23, 40, 41, 42, 43, 44, 45, 46, 47, 48] (by decide +kernel) (by decide +kernel)
set_option maxRecDepth 20000 in
theorem gX3_possibleMessage_X3_fails : GoodIn wsX3_possibleMessage (wsV RX3 44 RX3 yX3_fails wsX3_fails) := goodIn_app (goodIn_of _ (by decide +kernel)) ggX3_possibleMessage_X3_fails
set_option maxRecDepth 20000 in
theorem ggX3_possibleMessage_X3_meets : GoodIn wsX3_possibleMessage wsX3_meets := goodIn_r _ [27, 1, 28, 29, 30, 31, 5, 32, 11, 12, 13, 14, 15, 33, 34, 35, 36, 37, 38, 39, 40, 41, 42, 43, 44, 45, 46, 47, 48] (by decide +kernel) (by decide +kernel)
set_option maxRecDepth 20000 in
theorem gX3_possibleMessage_X3_meets : GoodIn wsX3_possibleMessage (wsV RX3 81 RX3 yX3_meets wsX3_meets) := goodIn_app (goodIn_of _ (by decide +kernel)) ggX3_possibleMessage_X3_meets
theorem dX3_possibleMessage_0 : decode cX3_possibleMessage 0 = .ok (.aload_n 0, 1) := by decide +kernel
theorem dX3_possibleMessage_1 : decode cX3_possibleMessage 1 = .ok (.iload_n 1, 1) := by decide +kernel
theorem dX3_possibleMessage_2 : decode cX3_possibleMessage 2 = .ok (.iload_n 2, 1) := by decide +kernel
theorem dX3_possibleMessage_3 : decode cX3_possibleMessage 3 = .ok (.invokevirtual 105, 3) := by decide +kernel
theorem dX3_possibleMessage_6 : decode cX3_possibleMessage 6 = .ok (.ifCond .eq 7, 3) := by decide +kernel
theorem dX3_possibleMessage_9 : decode cX3_possibleMessage 9 = .ok (.iload_n 3, 1) := by decide +kernel
theorem dX3_possibleMessage_10 : decode cX3_possibleMessage 10 = .ok (.ifCond .ge 10, 3) := by decide +kernel
theorem dX3_possibleMessage_13 : decode cX3_possibleMessage 13 = .ok (.aload_n 0, 1) := by decide +kernel
theorem dX3_possibleMessage_14 : decode cX3_possibleMessage 14 = .ok (.bipush (-2), 2) := by decide +kernel
theorem dX3_possibleMessage_16 : decode cX3_possibleMessage 16 = .ok (.invokevirtual 44, 3) := by decide +kernel
theorem dX3_possibleMessage_19 : decode cX3_possibleMessage 19 = .ok (.ireturn, 1) := by decide +kernel
theorem dX3_possibleMessage_20 : decode cX3_possibleMessage 20 = .ok (.aload_n 0, 1) := by decide +kernel
theorem dX3_possibleMessage_21 : decode cX3_possibleMessage 21 = .ok (.iload_n 1, 1) := by decide +kernel
theorem dX3_possibleMessage_22 : decode cX3_possibleMessage 22 = .ok (.iload_n 2, 1) := by decide +kernel
theorem dX3_possibleMessage_23 : decode cX3_possibleMessage 23 = .ok (.invokevirtual 81, 3) := by decide +kernel
theorem dX3_possibleMessage_26 : decode cX3_possibleMessage 26 = .ok (.pop, 1) := by decide +kernel
theorem dX3_possibleMessage_27 : decode cX3_possibleMessage 27 = .ok (.iconst 0, 1) := by decide +kernel
theorem dX3_possibleMessage_28 : decode cX3_possibleMessage 28 = .ok (.istore 4, 2) := by decide +kernel
theorem dX3_possibleMessage_30 : decode cX3_possibleMessage 30 = .ok (.iconst 0, 1) := by decide +kernel
theorem dX3_possibleMessage_31 : decode cX3_possibleMessage 31 = .ok (.istore 5, 2) := by decide +kernel
theorem dX3_possibleMessage_33 : decode cX3_possibleMessage 33 = .ok (.iload 5, 2) := by decide +kernel
theorem dX3_possibleMessage_35 : decode cX3_possibleMessage 35 = .ok (.bipush 64, 2) := by decide +kernel
theorem dX3_possibleMessage_37 : decode cX3_possibleMessage 37 = .ok (.if_icmp .ge 31, 3) := by decide +kernel
theorem dX3_possibleMessage_40 : decode cX3_possibleMessage 40 = .ok (.aload_n 0, 1) := by decide +kernel
theorem dX3_possibleMessage_41 : decode cX3_possibleMessage 41 = .ok (.getfield 25, 3) := by decide +kernel
theorem dX3_possibleMessage_44 : decode cX3_possibleMessage 44 = .ok (.iload 5, 2) := by decide +kernel
theorem dX3_possibleMessage_46 : decode cX3_possibleMessage 46 = .ok (.baload, 1) := by decide +kernel
theorem dX3_possibleMessage_47 : decode cX3_possibleMessage 47 = .ok (.ifCond .eq 15, 3) := by decide +kernel
theorem dX3_possibleMessage_50 : decode cX3_possibleMessage 50 = .ok (.iload 4, 2) := by decide +kernel
theorem dX3_possibleMessage_52 : decode cX3_possibleMessage 52 = .ok (.iload_n 3, 1) := by decide +kernel
theorem dX3_possibleMessage_53 : decode cX3_possibleMessage 53 = .ok (.if_icmp .ne 6, 3) := by decide +kernel
theorem dX3_possibleMessage_56 : decode cX3_possibleMessage 56 = .ok (.iload 5, 2) := by decide +kernel
theorem dX3_possibleMessage_58 : decode cX3_possibleMessage 58 = .ok (.ireturn, 1) := by decide +kernel
theorem dX3_possibleMessage_59 : decode cX3_possibleMessage 59 = .ok (.iinc 4 1, 3) := by decide +kernel
theorem dX3_possibleMessage_62 : decode cX3_possibleMessage 62 = .ok (.iinc 5 1, 3) := by decide +kernel
theorem dX3_possibleMessage_65 : decode cX3_possibleMessage 65 = .ok (.goto (-32), 3) := by decide +kernel
theorem dX3_possibleMessage_68 : decode cX3_possibleMessage 68 = .ok (.aload_n 0, 1) := by decide +kernel
theorem dX3_possibleMessage_69 : decode cX3_possibleMessage 69 = .ok (.bipush (-3), 2) := by decide +kernel
theorem dX3_possibleMessage_71 : decode cX3_possibleMessage 71 = .ok (.invokevirtual 44, 3) := by decide +kernel
theorem dX3_possibleMessage_74 : decode cX3_possibleMessage 74 = .ok (.ireturn, 1) := by decide +kernel
set_option maxRecDepth 20000 in
theorem ggX3_isKnown_X3_words : GoodIn wsX3_isKnown wsX3_words := goodIn_r _ [7, 8, 12, 13, 14, 15, 16, 17, 18, 19, 20] (by decide +kernel) (by decide +kernel)
set_option maxRecDepth 20000 in
theorem gX3_isKnown_X3_words : GoodIn wsX3_isKnown (wsV RX3 32 RX3 yX3_words wsX3_words) := goodIn_app (goodIn_of _ (by decide +kernel)) ggX3_isKnown_X3_words
set_option maxRecDepth 20000 in
theorem ggX3_isKnown_X3_ones : GoodIn wsX3_isKnown wsX3_ones := goodIn_r _ [11] (by decide +kernel) (by decide +kernel)
set_option maxRecDepth 20000 in
theorem gX3_isKnown_X3_ones : GoodIn wsX3_isKnown (va_wsS RX3 69 yX3_ones wsX3_ones) := goodIn_app (goodIn_of _ (by decide +kernel)) ggX3_isKnown_X3_ones
theorem dX3_isKnown_0 : decode cX3_isKnown 0 = .ok (.iconst 0, 1) := by decide +kernel
theorem dX3_isKnown_1 : decode cX3_isKnown 1 = .ok (.istore_n 3, 1) := by decide +kernel
theorem dX3_isKnown_2 : decode cX3_isKnown 2 = .ok (.iload_n 3, 1) := by decide +kernel
theorem dX3_isKnown_3 : decode cX3_isKnown 3 = .ok (.aload_n 0, 1) := by decide +kernel
theorem dX3_isKnown_4 : decode cX3_isKnown 4 = .ok (.invokevirtual 32, 3) := by decide +kernel
theorem dX3_isKnown_7 : decode cX3_isKnown 7 = .ok (.if_icmp .ge 16, 3) := by decide +kernel
theorem dX3_isKnown_10 : decode cX3_isKnown 10 = .ok (.aload_n 0, 1) := by decide +kernel
theorem dX3_isKnown_11 : decode cX3_isKnown 11 = .ok (.getfield 29, 3) := by decide +kernel
theorem dX3_isKnown_14 : decode cX3_isKnown 14 = .ok (.iload_n 3, 1) := by decide +kernel
theorem dX3_isKnown_15 : decode cX3_isKnown 15 = .ok (.iconst (-1), 1) := by decide +kernel
theorem dX3_isKnown_16 : decode cX3_isKnown 16 = .ok (.iastore, 1) := by decide +kernel
theorem dX3_isKnown_17 : decode cX3_isKnown 17 = .ok (.iinc 3 1, 3) := by decide +kernel
theorem dX3_isKnown_20 : decode cX3_isKnown 20 = .ok (.goto (-18), 3) := by decide +kernel
theorem dX3_isKnown_23 : decode cX3_isKnown 23 = .ok (.iconst 0, 1) := by decide +kernel
theorem dX3_isKnown_24 : decode cX3_isKnown 24 = .ok (.istore_n 3, 1) := by decide +kernel
theorem dX3_isKnown_25 : decode cX3_isKnown 25 = .ok (.iload_n 3, 1) := by decide +kernel
theorem dX3_isKnown_26 : decode cX3_isKnown 26 = .ok (.aload_n 0, 1) := by decide +kernel
theorem dX3_isKnown_27 : decode cX3_isKnown 27 = .ok (.invokevirtual 32, 3) := by decide +kernel
theorem dX3_isKnown_30 : decode cX3_isKnown 30 = .ok (.if_icmp .ge 61, 3) := by decide +kernel
theorem dX3_isKnown_33 : decode cX3_isKnown 33 = .ok (.aload_n 0, 1) := by decide +kernel
theorem dX3_isKnown_34 : decode cX3_isKnown 34 = .ok (.getfield 22, 3) := by decide +kernel
theorem dX3_isKnown_37 : decode cX3_isKnown 37 = .ok (.iload_n 3, 1) := by decide +kernel
theorem dX3_isKnown_38 : decode cX3_isKnown 38 = .ok (.iaload, 1) := by decide +kernel
theorem dX3_isKnown_39 : decode cX3_isKnown 39 = .ok (.iconst (-1), 1) := by decide +kernel
theorem dX3_isKnown_40 : decode cX3_isKnown 40 = .ok (.if_icmp .eq 45, 3) := by decide +kernel
theorem dX3_isKnown_43 : decode cX3_isKnown 43 = .ok (.iload_n 2, 1) := by decide +kernel
theorem dX3_isKnown_44 : decode cX3_isKnown 44 = .ok (.aload_n 0, 1) := by decide +kernel
theorem dX3_isKnown_45 : decode cX3_isKnown 45 = .ok (.getfield 22, 3) := by decide +kernel
theorem dX3_isKnown_48 : decode cX3_isKnown 48 = .ok (.iload_n 3, 1) := by decide +kernel
theorem dX3_isKnown_49 : decode cX3_isKnown 49 = .ok (.iaload, 1) := by decide +kernel
theorem dX3_isKnown_50 : decode cX3_isKnown 50 = .ok (.iand, 1) := by decide +kernel
theorem dX3_isKnown_51 : decode cX3_isKnown 51 = .ok (.invokestatic 69, 3) := by decide +kernel
theorem dX3_isKnown_54 : decode cX3_isKnown 54 = .ok (.iconst 1, 1) := by decide +kernel
theorem dX3_isKnown_55 : decode cX3_isKnown 55 = .ok (.iand, 1) := by decide +kernel
theorem dX3_isKnown_56 : decode cX3_isKnown 56 = .ok (.istore 4, 2) := by decide +kernel
theorem dX3_isKnown_58 : decode cX3_isKnown 58 = .ok (.aload_n 0, 1) := by decide +kernel
theorem dX3_isKnown_59 : decode cX3_isKnown 59 = .ok (.getfield 29, 3) := by decide +kernel
theorem dX3_isKnown_62 : decode cX3_isKnown 62 = .ok (.iload_n 3, 1) := by decide +kernel
theorem dX3_isKnown_63 : decode cX3_isKnown 63 = .ok (.iload_n 1, 1) := by decide +kernel
theorem dX3_isKnown_64 : decode cX3_isKnown 64 = .ok (.iand, 1) := by decide +kernel
theorem dX3_isKnown_65 : decode cX3_isKnown 65 = .ok (.iaload, 1) := by decide +kernel
theorem dX3_isKnown_66 : decode cX3_isKnown 66 = .ok (.iconst 1, 1) := by decide +kernel
theorem dX3_isKnown_67 : decode cX3_isKnown 67 = .ok (.iload 4, 2) := by decide +kernel
theorem dX3_isKnown_69 : decode cX3_isKnown 69 = .ok (.isub, 1) := by decide +kernel
theorem dX3_isKnown_70 : decode cX3_isKnown 70 = .ok (.if_icmp .ne 5, 3) := by decide +kernel
theorem dX3_isKnown_73 : decode cX3_isKnown 73 = .ok (.iconst 0, 1) := by decide +kernel
theorem dX3_isKnown_74 : decode cX3_isKnown 74 = .ok (.ireturn, 1) := by decide +kernel
theorem dX3_isKnown_75 : decode cX3_isKnown 75 = .ok (.aload_n 0, 1) := by decide +kernel
theorem dX3_isKnown_76 : decode cX3_isKnown 76 = .ok (.getfield 29, 3) := by decide +kernel
theorem dX3_isKnown_79 : decode cX3_isKnown 79 = .ok (.iload_n 3, 1) := by decide +kernel
theorem dX3_isKnown_80 : decode cX3_isKnown 80 = .ok (.iload_n 1, 1) := by decide +kernel
theorem dX3_isKnown_81 : decode cX3_isKnown 81 = .ok (.iand, 1) := by decide +kernel
theorem dX3_isKnown_82 : decode cX3_isKnown 82 = .ok (.iload 4, 2) := by decide +kernel
theorem dX3_isKnown_84 : decode cX3_isKnown 84 = .ok (.iastore, 1) := by decide +kernel
theorem dX3_isKnown_85 : decode cX3_isKnown 85 = .ok (.iinc 3 1, 3) := by decide +kernel
theorem dX3_isKnown_88 : decode cX3_isKnown 88 = .ok (.goto (-63), 3) := by decide +kernel
theorem dX3_isKnown_91 : decode cX3_isKnown 91 = .ok (.iconst 1, 1) := by decide +kernel
theorem dX3_isKnown_92 : decode cX3_isKnown 92 = .ok (.ireturn, 1) := by decide +kernel
set_option maxRecDepth 20000 in
theorem ggX3_knownCombinations_X3_isWord : GoodIn wsX3_knownCombinations wsX3_isWord := goodIn_r _ [6, 7, 8, 9, 5, 10, 1, 11, 12, 13, 36, 37, 38, 39, 40, 41, 42, 43, 44] (by decide +kernel) (by decide +kernel)
set_option maxRecDepth 20000 in
theorem gX3_knownCombinations_X3_isWord : GoodIn wsX3_knownCombinations (wsV RX3 51 RX3 yX3_isWord wsX3_isWord) := goodIn_app (goodIn_of _ (by decide +kernel)) ggX3_knownCombinations_X3_isWord
set_option maxRecDepth 20000 in
theorem ggX3_knownCombinations_X3_fails : GoodIn wsX3_knownCombinations wsX3_fails := goodIn_r _ [17, 18, 36, 37, 38, 39, 40, 41, 42, 43, 44] (by decide +kernel) (by decide +kernel)
set_option maxRecDepth 20000 in
theorem gX3_knownCombinations_X3_fails : GoodIn wsX3_knownCombinations (wsV RX3 44 RX3 yX3_fails wsX3_fails) := goodIn_app (goodIn_of _ (by decide +kernel)) ggX3_knownCombinations_X3_fails
set_option maxRecDepth 20000 in
theorem ggX3_knownCombinations_X3_laysMessages : GoodIn wsX3_knownCombinations wsX3_laysMessages := goodIn_r _ [22, 23, 7, 8, 9, 5, 10, 1, 24, 25, 26, 27, 28, 29, 30, 36, 37, 38, 39, 40, 41, 42, 43, 44] (by decide +kernel) (by decide +kernel)
set_option maxRecDepth 20000 in
theorem gX3_knownCombinations_X3_laysMessages : GoodIn wsX3_knownCombinations (wsV RX3 75 RX3 yX3_laysMessages wsX3_laysMessages) := goodIn_app (goodIn_of _ (by decide +kernel)) ggX3_knownCombinations_X3_laysMessages
set_option maxRecDepth 20000 in
theorem ggX3_knownCombinations_X3_isKnown : GoodIn wsX3_knownCombinations wsX3_isKnown := goodIn_r _ [34, 35, 23, 7, 8, 9, 5, 10, 1, 28, 29, 30, 36, 37, 38, 39, 40, 41, 42, 43, 44] (by decide +kernel) (by decide +kernel)
set_option maxRecDepth 20000 in
theorem gX3_knownCombinations_X3_isKnown : GoodIn wsX3_knownCombinations (wsV RX3 109 RX3 yX3_isKnown wsX3_isKnown) := goodIn_app (goodIn_of _ (by decide +kernel)) ggX3_knownCombinations_X3_isKnown
theorem dX3_knownCombinations_0 : decode cX3_knownCombinations 0 = .ok (.aload_n 0, 1) := by decide +kernel
theorem dX3_knownCombinations_1 : decode cX3_knownCombinations 1 = .ok (.iload_n 1, 1) := by decide +kernel
theorem dX3_knownCombinations_2 : decode cX3_knownCombinations 2 = .ok (.invokevirtual 51, 3) := by decide +kernel
theorem dX3_knownCombinations_5 : decode cX3_knownCombinations 5 = .ok (.ifCond .ne 10, 3) := by decide +kernel
theorem dX3_knownCombinations_8 : decode cX3_knownCombinations 8 = .ok (.aload_n 0, 1) := by decide +kernel
theorem dX3_knownCombinations_9 : decode cX3_knownCombinations 9 = .ok (.bipush (-2), 2) := by decide +kernel
theorem dX3_knownCombinations_11 : decode cX3_knownCombinations 11 = .ok (.invokevirtual 44, 3) := by decide +kernel
theorem dX3_knownCombinations_14 : decode cX3_knownCombinations 14 = .ok (.ireturn, 1) := by decide +kernel
theorem dX3_knownCombinations_15 : decode cX3_knownCombinations 15 = .ok (.aload_n 0, 1) := by decide +kernel
theorem dX3_knownCombinations_16 : decode cX3_knownCombinations 16 = .ok (.invokevirtual 75, 3) := by decide +kernel
theorem dX3_knownCombinations_19 : decode cX3_knownCombinations 19 = .ok (.iconst 0, 1) := by decide +kernel
theorem dX3_knownCombinations_20 : decode cX3_knownCombinations 20 = .ok (.istore_n 2, 1) := by decide +kernel
theorem dX3_knownCombinations_21 : decode cX3_knownCombinations 21 = .ok (.iconst 0, 1) := by decide +kernel
theorem dX3_knownCombinations_22 : decode cX3_knownCombinations 22 = .ok (.istore_n 3, 1) := by decide +kernel
theorem dX3_knownCombinations_23 : decode cX3_knownCombinations 23 = .ok (.iload_n 3, 1) := by decide +kernel
theorem dX3_knownCombinations_24 : decode cX3_knownCombinations 24 = .ok (.aload_n 0, 1) := by decide +kernel
theorem dX3_knownCombinations_25 : decode cX3_knownCombinations 25 = .ok (.getfield 7, 3) := by decide +kernel
theorem dX3_knownCombinations_28 : decode cX3_knownCombinations 28 = .ok (.iconst 1, 1) := by decide +kernel
theorem dX3_knownCombinations_29 : decode cX3_knownCombinations 29 = .ok (.iaload, 1) := by decide +kernel
theorem dX3_knownCombinations_30 : decode cX3_knownCombinations 30 = .ok (.if_icmp .ge 23, 3) := by decide +kernel
theorem dX3_knownCombinations_33 : decode cX3_knownCombinations 33 = .ok (.iload_n 2, 1) := by decide +kernel
theorem dX3_knownCombinations_34 : decode cX3_knownCombinations 34 = .ok (.iconst 1, 1) := by decide +kernel
theorem dX3_knownCombinations_35 : decode cX3_knownCombinations 35 = .ok (.aload_n 0, 1) := by decide +kernel
theorem dX3_knownCombinations_36 : decode cX3_knownCombinations 36 = .ok (.getfield 7, 3) := by decide +kernel
theorem dX3_knownCombinations_39 : decode cX3_knownCombinations 39 = .ok (.bipush 8, 2) := by decide +kernel
theorem dX3_knownCombinations_41 : decode cX3_knownCombinations 41 = .ok (.iload_n 3, 1) := by decide +kernel
theorem dX3_knownCombinations_42 : decode cX3_knownCombinations 42 = .ok (.iadd, 1) := by decide +kernel
theorem dX3_knownCombinations_43 : decode cX3_knownCombinations 43 = .ok (.iaload, 1) := by decide +kernel
theorem dX3_knownCombinations_44 : decode cX3_knownCombinations 44 = .ok (.isub, 1) := by decide +kernel
theorem dX3_knownCombinations_45 : decode cX3_knownCombinations 45 = .ok (.iadd, 1) := by decide +kernel
theorem dX3_knownCombinations_46 : decode cX3_knownCombinations 46 = .ok (.istore_n 2, 1) := by decide +kernel
theorem dX3_knownCombinations_47 : decode cX3_knownCombinations 47 = .ok (.iinc 3 1, 3) := by decide +kernel
theorem dX3_knownCombinations_50 : decode cX3_knownCombinations 50 = .ok (.goto (-27), 3) := by decide +kernel
theorem dX3_knownCombinations_53 : decode cX3_knownCombinations 53 = .ok (.iconst 0, 1) := by decide +kernel
theorem dX3_knownCombinations_54 : decode cX3_knownCombinations 54 = .ok (.istore_n 3, 1) := by decide +kernel
theorem dX3_knownCombinations_55 : decode cX3_knownCombinations 55 = .ok (.iconst 1, 1) := by decide +kernel
theorem dX3_knownCombinations_56 : decode cX3_knownCombinations 56 = .ok (.istore 4, 2) := by decide +kernel
theorem dX3_knownCombinations_58 : decode cX3_knownCombinations 58 = .ok (.iload 4, 2) := by decide +kernel
theorem dX3_knownCombinations_60 : decode cX3_knownCombinations 60 = .ok (.iconst 1, 1) := by decide +kernel
theorem dX3_knownCombinations_61 : decode cX3_knownCombinations 61 = .ok (.iload_n 2, 1) := by decide +kernel
theorem dX3_knownCombinations_62 : decode cX3_knownCombinations 62 = .ok (.ishl, 1) := by decide +kernel
theorem dX3_knownCombinations_63 : decode cX3_knownCombinations 63 = .ok (.if_icmp .ge 27, 3) := by decide +kernel
theorem dX3_knownCombinations_66 : decode cX3_knownCombinations 66 = .ok (.iload_n 3, 1) := by decide +kernel
theorem dX3_knownCombinations_67 : decode cX3_knownCombinations 67 = .ok (.aload_n 0, 1) := by decide +kernel
theorem dX3_knownCombinations_68 : decode cX3_knownCombinations 68 = .ok (.iload_n 1, 1) := by decide +kernel
theorem dX3_knownCombinations_69 : decode cX3_knownCombinations 69 = .ok (.iload 4, 2) := by decide +kernel
theorem dX3_knownCombinations_71 : decode cX3_knownCombinations 71 = .ok (.invokevirtual 109, 3) := by decide +kernel
theorem dX3_knownCombinations_74 : decode cX3_knownCombinations 74 = .ok (.ifCond .eq 7, 3) := by decide +kernel
theorem dX3_knownCombinations_77 : decode cX3_knownCombinations 77 = .ok (.iconst 1, 1) := by decide +kernel
theorem dX3_knownCombinations_78 : decode cX3_knownCombinations 78 = .ok (.goto 4, 3) := by decide +kernel
theorem dX3_knownCombinations_81 : decode cX3_knownCombinations 81 = .ok (.iconst 0, 1) := by decide +kernel
theorem dX3_knownCombinations_82 : decode cX3_knownCombinations 82 = .ok (.iadd, 1) := by decide +kernel
theorem dX3_knownCombinations_83 : decode cX3_knownCombinations 83 = .ok (.istore_n 3, 1) := by decide +kernel
theorem dX3_knownCombinations_84 : decode cX3_knownCombinations 84 = .ok (.iinc 4 1, 3) := by decide +kernel
theorem dX3_knownCombinations_87 : decode cX3_knownCombinations 87 = .ok (.goto (-29), 3) := by decide +kernel
theorem dX3_knownCombinations_90 : decode cX3_knownCombinations 90 = .ok (.iload_n 3, 1) := by decide +kernel
theorem dX3_knownCombinations_91 : decode cX3_knownCombinations 91 = .ok (.ireturn, 1) := by decide +kernel
set_option maxRecDepth 20000 in
theorem ggX3_errorCount_X3_within : GoodIn wsX3_errorCount wsX3_within := goodIn_r _ [5] (by decide +kernel) (by decide +kernel)
set_option maxRecDepth 20000 in
theorem gX3_errorCount_X3_within : GoodIn wsX3_errorCount (va_wsS RX3 36 yX3_within wsX3_within) := goodIn_app (goodIn_of _ (by decide +kernel)) ggX3_errorCount_X3_within
set_option maxRecDepth 20000 in
theorem ggX3_errorCount_X3_fails : GoodIn wsX3_errorCount wsX3_fails := goodIn_r _ [9, 1, 10, 11, 12, 13, 14, 15, 16, 17, 18] (by decide +kernel) (by decide +kernel)
set_option maxRecDepth 20000 in
theorem gX3_errorCount_X3_fails : GoodIn wsX3_errorCount (wsV RX3 44 RX3 yX3_fails wsX3_fails) := goodIn_app (goodIn_of _ (by decide +kernel)) ggX3_errorCount_X3_fails
theorem dX3_errorCount_0 : decode cX3_errorCount 0 = .ok (.iload_n 1, 1) := by decide +kernel
theorem dX3_errorCount_1 : decode cX3_errorCount 1 = .ok (.bipush (-6), 2) := by decide +kernel
theorem dX3_errorCount_3 : decode cX3_errorCount 3 = .ok (.bipush (-2), 2) := by decide +kernel
theorem dX3_errorCount_5 : decode cX3_errorCount 5 = .ok (.invokestatic 36, 3) := by decide +kernel
theorem dX3_errorCount_8 : decode cX3_errorCount 8 = .ok (.ifCond .eq 15, 3) := by decide +kernel
theorem dX3_errorCount_11 : decode cX3_errorCount 11 = .ok (.aload_n 0, 1) := by decide +kernel
theorem dX3_errorCount_12 : decode cX3_errorCount 12 = .ok (.getfield 16, 3) := by decide +kernel
theorem dX3_errorCount_15 : decode cX3_errorCount 15 = .ok (.bipush (-2), 2) := by decide +kernel
theorem dX3_errorCount_17 : decode cX3_errorCount 17 = .ok (.iload_n 1, 1) := by decide +kernel
theorem dX3_errorCount_18 : decode cX3_errorCount 18 = .ok (.isub, 1) := by decide +kernel
theorem dX3_errorCount_19 : decode cX3_errorCount 19 = .ok (.iaload, 1) := by decide +kernel
theorem dX3_errorCount_20 : decode cX3_errorCount 20 = .ok (.goto 9, 3) := by decide +kernel
theorem dX3_errorCount_23 : decode cX3_errorCount 23 = .ok (.aload_n 0, 1) := by decide +kernel
theorem dX3_errorCount_24 : decode cX3_errorCount 24 = .ok (.bipush (-2), 2) := by decide +kernel
theorem dX3_errorCount_26 : decode cX3_errorCount 26 = .ok (.invokevirtual 44, 3) := by decide +kernel
theorem dX3_errorCount_29 : decode cX3_errorCount 29 = .ok (.ireturn, 1) := by decide +kernel
theorem dX3_mix_0 : decode cX3_mix 0 = .ok (.aload_n 0, 1) := by decide +kernel
theorem dX3_mix_1 : decode cX3_mix 1 = .ok (.ldc2_w 112, 3) := by decide +kernel
theorem dX3_mix_4 : decode cX3_mix 4 = .ok (.aload_n 0, 1) := by decide +kernel
theorem dX3_mix_5 : decode cX3_mix 5 = .ok (.getfield 114, 3) := by decide +kernel
theorem dX3_mix_8 : decode cX3_mix 8 = .ok (.lmul, 1) := by decide +kernel
theorem dX3_mix_9 : decode cX3_mix 9 = .ok (.iload_n 1, 1) := by decide +kernel
theorem dX3_mix_10 : decode cX3_mix 10 = .ok (.i2l, 1) := by decide +kernel
theorem dX3_mix_11 : decode cX3_mix 11 = .ok (.ladd, 1) := by decide +kernel
theorem dX3_mix_12 : decode cX3_mix 12 = .ok (.putfield 114, 3) := by decide +kernel
theorem dX3_mix_15 : decode cX3_mix 15 = .ok (.return_, 1) := by decide +kernel
set_option maxRecDepth 20000 in
theorem ggX3_digest_X3_mix : GoodIn wsX3_digest wsX3_mix := goodIn_r _ [10, 11, 2, 70, 71, 72, 73, 74, 75, 76, 77, 78] (by decide +kernel) (by decide +kernel)
set_option maxRecDepth 20000 in
theorem gX3_digest_X3_mix : GoodIn wsX3_digest (wsV RX3 120 RX3 yX3_mix wsX3_mix) := goodIn_app (goodIn_of _ (by decide +kernel)) ggX3_digest_X3_mix
set_option maxRecDepth 20000 in
theorem ggX3_digest_X3_words : GoodIn wsX3_digest wsX3_words := goodIn_r _ [15, 4, 70, 71, 72, 73, 74, 75, 76, 77, 78] (by decide +kernel) (by decide +kernel)
set_option maxRecDepth 20000 in
theorem gX3_digest_X3_words : GoodIn wsX3_digest (wsV RX3 32 RX3 yX3_words wsX3_words) := goodIn_app (goodIn_of _ (by decide +kernel)) ggX3_digest_X3_words
set_option maxRecDepth 20000 in
theorem ggX3_digest_X3_rankOf : GoodIn wsX3_digest wsX3_rankOf := goodIn_r _ [19, 4, 20, 70, 71, 72, 73, 74, 75, 76, 77, 78] (by decide +kernel) (by decide +kernel)
set_option maxRecDepth 20000 in
theorem gX3_digest_X3_rankOf : GoodIn wsX3_digest (wsV RX3 65 RX3 yX3_rankOf wsX3_rankOf) := goodIn_app (goodIn_of _ (by decide +kernel)) ggX3_digest_X3_rankOf
set_option maxRecDepth 20000 in
theorem ggX3_digest_X3_codewordMany : GoodIn wsX3_digest wsX3_codewordMany := goodIn_r _ [24, 25, 26, 27, 28, 9, 29, 12, 13, 14, 15, 4, 30, 31, 32, 33, 34, 35, 36, 70, 71, 72, 73, 74, 75, 76, 77, 78] (by decide +kernel) (by decide +kernel)
set_option maxRecDepth 20000 in
theorem gX3_digest_X3_codewordMany : GoodIn wsX3_digest (wsV RX3 78 RX3 yX3_codewordMany wsX3_codewordMany) := goodIn_app (goodIn_of _ (by decide +kernel)) ggX3_digest_X3_codewordMany
set_option maxRecDepth 20000 in
theorem ggX3_digest_X3_meets : GoodIn wsX3_digest wsX3_meets := goodIn_r _ [40, 41, 25, 26, 27, 28, 9, 29, 12, 13, 14, 15, 4, 30, 31, 32, 33, 34, 35, 36, 70, 71, 72, 73, 74, 75, 76, 77, 78] (by decide +kernel) (by decide +kernel)
set_option maxRecDepth 20000 in
theorem gX3_digest_X3_meets : GoodIn wsX3_digest (wsV RX3 81 RX3 yX3_meets wsX3_meets) := goodIn_app (goodIn_of _ (by decide +kernel)) ggX3_digest_X3_meets
set_option maxRecDepth 20000 in
theorem ggX3_digest_X3_threshold : GoodIn wsX3_digest wsX3_threshold := goodIn_r _ [45, 4, 46, 47, 48, 9, 49, 12, 13, 14, 15, 34, 35, 36, 50, 51, 52, 53, 54, 55, 56, 57, 16, 17, 18, 19, 20, 70, 71, 72, 73, 74, 75, 76, 77, 78] (by decide +kernel) (by decide +kernel)
set_option maxRecDepth 20000 in
theorem gX3_digest_X3_threshold : GoodIn wsX3_digest (wsV RX3 123 RX3 yX3_threshold wsX3_threshold) := goodIn_app (goodIn_of _ (by decide +kernel)) ggX3_digest_X3_threshold
set_option maxRecDepth 20000 in
theorem ggX3_digest_X3_weakness : GoodIn wsX3_digest wsX3_weakness := goodIn_r _ [61, 25, 26, 27, 28, 9, 29, 12, 13, 14, 15, 4, 30, 31, 32, 33, 34, 35, 36, 62, 63, 64, 65, 66, 67, 68, 69, 70, 71, 72, 73, 74, 75, 76, 77, 78] (by decide +kernel) (by decide +kernel)
set_option maxRecDepth 20000 in
theorem gX3_digest_X3_weakness : GoodIn wsX3_digest (wsV RX3 126 RX3 yX3_weakness wsX3_weakness) := goodIn_app (goodIn_of _ (by decide +kernel)) ggX3_digest_X3_weakness
set_option maxRecDepth 20000 in
theorem ggX3_digest_X3_worstOf : GoodIn wsX3_digest wsX3_worstOf := goodIn_r _ [49, 12, 13, 14, 9, 15, 4, 34, 35, 36, 50, 51, 52, 53, 54, 55, 56, 57, 16, 17, 18, 19, 20, 70, 71, 72, 73, 74, 75, 76, 77, 78] (by decide +kernel) (by decide +kernel)
set_option maxRecDepth 20000 in
theorem gX3_digest_X3_worstOf : GoodIn wsX3_digest (wsV RX3 102 RX3 yX3_worstOf wsX3_worstOf) := goodIn_app (goodIn_of _ (by decide +kernel)) ggX3_digest_X3_worstOf
set_option maxRecDepth 20000 in
theorem ggX3_digest_X3_leakageOf : GoodIn wsX3_digest wsX3_leakageOf := goodIn_r _ [53, 54, 55, 56, 9, 57, 12, 13, 14, 15, 4, 16, 17, 18, 19, 20, 70, 71, 72, 73, 74, 75, 76, 77, 78] (by decide +kernel) (by decide +kernel)
set_option maxRecDepth 20000 in
theorem gX3_digest_X3_leakageOf : GoodIn wsX3_digest (wsV RX3 96 RX3 yX3_leakageOf wsX3_leakageOf) := goodIn_app (goodIn_of _ (by decide +kernel)) ggX3_digest_X3_leakageOf
theorem dX3_digest_0 : decode cX3_digest 0 = .ok (.aload_n 0, 1) := by decide +kernel
theorem dX3_digest_1 : decode cX3_digest 1 = .ok (.ldc2_w 118, 3) := by decide +kernel
theorem dX3_digest_4 : decode cX3_digest 4 = .ok (.putfield 114, 3) := by decide +kernel
theorem dX3_digest_7 : decode cX3_digest 7 = .ok (.iconst 0, 1) := by decide +kernel
theorem dX3_digest_8 : decode cX3_digest 8 = .ok (.istore_n 1, 1) := by decide +kernel
theorem dX3_digest_9 : decode cX3_digest 9 = .ok (.iload_n 1, 1) := by decide +kernel
theorem dX3_digest_10 : decode cX3_digest 10 = .ok (.iconst 5, 1) := by decide +kernel
theorem dX3_digest_11 : decode cX3_digest 11 = .ok (.if_icmp .ge 19, 3) := by decide +kernel
theorem dX3_digest_14 : decode cX3_digest 14 = .ok (.aload_n 0, 1) := by decide +kernel
theorem dX3_digest_15 : decode cX3_digest 15 = .ok (.aload_n 0, 1) := by decide +kernel
theorem dX3_digest_16 : decode cX3_digest 16 = .ok (.getfield 16, 3) := by decide +kernel
theorem dX3_digest_19 : decode cX3_digest 19 = .ok (.iload_n 1, 1) := by decide +kernel
theorem dX3_digest_20 : decode cX3_digest 20 = .ok (.iaload, 1) := by decide +kernel
theorem dX3_digest_21 : decode cX3_digest 21 = .ok (.invokevirtual 120, 3) := by decide +kernel
theorem dX3_digest_24 : decode cX3_digest 24 = .ok (.iinc 1 1, 3) := by decide +kernel
theorem dX3_digest_27 : decode cX3_digest 27 = .ok (.goto (-18), 3) := by decide +kernel
theorem dX3_digest_30 : decode cX3_digest 30 = .ok (.aload_n 0, 1) := by decide +kernel
theorem dX3_digest_31 : decode cX3_digest 31 = .ok (.aload_n 0, 1) := by decide +kernel
theorem dX3_digest_32 : decode cX3_digest 32 = .ok (.getfield 7, 3) := by decide +kernel
theorem dX3_digest_35 : decode cX3_digest 35 = .ok (.iconst 0, 1) := by decide +kernel
theorem dX3_digest_36 : decode cX3_digest 36 = .ok (.iaload, 1) := by decide +kernel
theorem dX3_digest_37 : decode cX3_digest 37 = .ok (.invokevirtual 120, 3) := by decide +kernel
theorem dX3_digest_40 : decode cX3_digest 40 = .ok (.aload_n 0, 1) := by decide +kernel
theorem dX3_digest_41 : decode cX3_digest 41 = .ok (.aload_n 0, 1) := by decide +kernel
theorem dX3_digest_42 : decode cX3_digest 42 = .ok (.getfield 7, 3) := by decide +kernel
theorem dX3_digest_45 : decode cX3_digest 45 = .ok (.iconst 1, 1) := by decide +kernel
theorem dX3_digest_46 : decode cX3_digest 46 = .ok (.iaload, 1) := by decide +kernel
theorem dX3_digest_47 : decode cX3_digest 47 = .ok (.invokevirtual 120, 3) := by decide +kernel
theorem dX3_digest_50 : decode cX3_digest 50 = .ok (.iconst 0, 1) := by decide +kernel
theorem dX3_digest_51 : decode cX3_digest 51 = .ok (.istore_n 1, 1) := by decide +kernel
theorem dX3_digest_52 : decode cX3_digest 52 = .ok (.iload_n 1, 1) := by decide +kernel
theorem dX3_digest_53 : decode cX3_digest 53 = .ok (.aload_n 0, 1) := by decide +kernel
theorem dX3_digest_54 : decode cX3_digest 54 = .ok (.getfield 7, 3) := by decide +kernel
theorem dX3_digest_57 : decode cX3_digest 57 = .ok (.iconst 1, 1) := by decide +kernel
theorem dX3_digest_58 : decode cX3_digest 58 = .ok (.iaload, 1) := by decide +kernel
theorem dX3_digest_59 : decode cX3_digest 59 = .ok (.if_icmp .ge 34, 3) := by decide +kernel
theorem dX3_digest_62 : decode cX3_digest 62 = .ok (.aload_n 0, 1) := by decide +kernel
theorem dX3_digest_63 : decode cX3_digest 63 = .ok (.aload_n 0, 1) := by decide +kernel
theorem dX3_digest_64 : decode cX3_digest 64 = .ok (.getfield 7, 3) := by decide +kernel
theorem dX3_digest_67 : decode cX3_digest 67 = .ok (.iconst 2, 1) := by decide +kernel
theorem dX3_digest_68 : decode cX3_digest 68 = .ok (.iload_n 1, 1) := by decide +kernel
theorem dX3_digest_69 : decode cX3_digest 69 = .ok (.iadd, 1) := by decide +kernel
theorem dX3_digest_70 : decode cX3_digest 70 = .ok (.iaload, 1) := by decide +kernel
theorem dX3_digest_71 : decode cX3_digest 71 = .ok (.invokevirtual 120, 3) := by decide +kernel
theorem dX3_digest_74 : decode cX3_digest 74 = .ok (.aload_n 0, 1) := by decide +kernel
theorem dX3_digest_75 : decode cX3_digest 75 = .ok (.aload_n 0, 1) := by decide +kernel
theorem dX3_digest_76 : decode cX3_digest 76 = .ok (.getfield 7, 3) := by decide +kernel
theorem dX3_digest_79 : decode cX3_digest 79 = .ok (.bipush 8, 2) := by decide +kernel
theorem dX3_digest_81 : decode cX3_digest 81 = .ok (.iload_n 1, 1) := by decide +kernel
theorem dX3_digest_82 : decode cX3_digest 82 = .ok (.iadd, 1) := by decide +kernel
theorem dX3_digest_83 : decode cX3_digest 83 = .ok (.iaload, 1) := by decide +kernel
theorem dX3_digest_84 : decode cX3_digest 84 = .ok (.invokevirtual 120, 3) := by decide +kernel
theorem dX3_digest_87 : decode cX3_digest 87 = .ok (.iinc 1 1, 3) := by decide +kernel
theorem dX3_digest_90 : decode cX3_digest 90 = .ok (.goto (-38), 3) := by decide +kernel
theorem dX3_digest_93 : decode cX3_digest 93 = .ok (.iconst 0, 1) := by decide +kernel
theorem dX3_digest_94 : decode cX3_digest 94 = .ok (.istore_n 1, 1) := by decide +kernel
theorem dX3_digest_95 : decode cX3_digest 95 = .ok (.iload_n 1, 1) := by decide +kernel
theorem dX3_digest_96 : decode cX3_digest 96 = .ok (.iconst 3, 1) := by decide +kernel
theorem dX3_digest_97 : decode cX3_digest 97 = .ok (.if_icmp .ge 24, 3) := by decide +kernel
theorem dX3_digest_100 : decode cX3_digest 100 = .ok (.aload_n 0, 1) := by decide +kernel
theorem dX3_digest_101 : decode cX3_digest 101 = .ok (.aload_n 0, 1) := by decide +kernel
theorem dX3_digest_102 : decode cX3_digest 102 = .ok (.iload_n 1, 1) := by decide +kernel
theorem dX3_digest_103 : decode cX3_digest 103 = .ok (.aload_n 0, 1) := by decide +kernel
theorem dX3_digest_104 : decode cX3_digest 104 = .ok (.invokevirtual 32, 3) := by decide +kernel
theorem dX3_digest_107 : decode cX3_digest 107 = .ok (.iconst 1, 1) := by decide +kernel
theorem dX3_digest_108 : decode cX3_digest 108 = .ok (.isub, 1) := by decide +kernel
theorem dX3_digest_109 : decode cX3_digest 109 = .ok (.invokevirtual 65, 3) := by decide +kernel
theorem dX3_digest_112 : decode cX3_digest 112 = .ok (.invokevirtual 120, 3) := by decide +kernel
theorem dX3_digest_115 : decode cX3_digest 115 = .ok (.iinc 1 1, 3) := by decide +kernel
theorem dX3_digest_118 : decode cX3_digest 118 = .ok (.goto (-23), 3) := by decide +kernel
theorem dX3_digest_121 : decode cX3_digest 121 = .ok (.aload_n 0, 1) := by decide +kernel
theorem dX3_digest_122 : decode cX3_digest 122 = .ok (.aload_n 0, 1) := by decide +kernel
theorem dX3_digest_123 : decode cX3_digest 123 = .ok (.invokevirtual 78, 3) := by decide +kernel
theorem dX3_digest_126 : decode cX3_digest 126 = .ok (.invokevirtual 120, 3) := by decide +kernel
theorem dX3_digest_129 : decode cX3_digest 129 = .ok (.aload_n 0, 1) := by decide +kernel
theorem dX3_digest_130 : decode cX3_digest 130 = .ok (.aload_n 0, 1) := by decide +kernel
theorem dX3_digest_131 : decode cX3_digest 131 = .ok (.iconst 0, 1) := by decide +kernel
theorem dX3_digest_132 : decode cX3_digest 132 = .ok (.iconst 0, 1) := by decide +kernel
theorem dX3_digest_133 : decode cX3_digest 133 = .ok (.invokevirtual 81, 3) := by decide +kernel
theorem dX3_digest_136 : decode cX3_digest 136 = .ok (.invokevirtual 120, 3) := by decide +kernel
theorem dX3_digest_139 : decode cX3_digest 139 = .ok (.aload_n 0, 1) := by decide +kernel
theorem dX3_digest_140 : decode cX3_digest 140 = .ok (.aload_n 0, 1) := by decide +kernel
theorem dX3_digest_141 : decode cX3_digest 141 = .ok (.invokevirtual 123, 3) := by decide +kernel
theorem dX3_digest_144 : decode cX3_digest 144 = .ok (.invokevirtual 120, 3) := by decide +kernel
theorem dX3_digest_147 : decode cX3_digest 147 = .ok (.aload_n 0, 1) := by decide +kernel
theorem dX3_digest_148 : decode cX3_digest 148 = .ok (.aload_n 0, 1) := by decide +kernel
theorem dX3_digest_149 : decode cX3_digest 149 = .ok (.invokevirtual 126, 3) := by decide +kernel
theorem dX3_digest_152 : decode cX3_digest 152 = .ok (.invokevirtual 120, 3) := by decide +kernel
theorem dX3_digest_155 : decode cX3_digest 155 = .ok (.iconst 0, 1) := by decide +kernel
theorem dX3_digest_156 : decode cX3_digest 156 = .ok (.istore_n 1, 1) := by decide +kernel
theorem dX3_digest_157 : decode cX3_digest 157 = .ok (.iload_n 1, 1) := by decide +kernel
theorem dX3_digest_158 : decode cX3_digest 158 = .ok (.aload_n 0, 1) := by decide +kernel
theorem dX3_digest_159 : decode cX3_digest 159 = .ok (.getfield 7, 3) := by decide +kernel
theorem dX3_digest_162 : decode cX3_digest 162 = .ok (.iconst 0, 1) := by decide +kernel
theorem dX3_digest_163 : decode cX3_digest 163 = .ok (.iaload, 1) := by decide +kernel
theorem dX3_digest_164 : decode cX3_digest 164 = .ok (.if_icmp .gt 29, 3) := by decide +kernel
theorem dX3_digest_167 : decode cX3_digest 167 = .ok (.aload_n 0, 1) := by decide +kernel
theorem dX3_digest_168 : decode cX3_digest 168 = .ok (.iload_n 1, 1) := by decide +kernel
theorem dX3_digest_169 : decode cX3_digest 169 = .ok (.invokevirtual 102, 3) := by decide +kernel
theorem dX3_digest_172 : decode cX3_digest 172 = .ok (.istore_n 2, 1) := by decide +kernel
theorem dX3_digest_173 : decode cX3_digest 173 = .ok (.aload_n 0, 1) := by decide +kernel
theorem dX3_digest_174 : decode cX3_digest 174 = .ok (.aload_n 0, 1) := by decide +kernel
theorem dX3_digest_175 : decode cX3_digest 175 = .ok (.iload_n 2, 1) := by decide +kernel
theorem dX3_digest_176 : decode cX3_digest 176 = .ok (.invokevirtual 96, 3) := by decide +kernel
theorem dX3_digest_179 : decode cX3_digest 179 = .ok (.invokevirtual 120, 3) := by decide +kernel
theorem dX3_digest_182 : decode cX3_digest 182 = .ok (.aload_n 0, 1) := by decide +kernel
theorem dX3_digest_183 : decode cX3_digest 183 = .ok (.iload_n 2, 1) := by decide +kernel
theorem dX3_digest_184 : decode cX3_digest 184 = .ok (.invokevirtual 120, 3) := by decide +kernel
theorem dX3_digest_187 : decode cX3_digest 187 = .ok (.iinc 1 1, 3) := by decide +kernel
theorem dX3_digest_190 : decode cX3_digest 190 = .ok (.goto (-33), 3) := by decide +kernel
theorem dX3_digest_193 : decode cX3_digest 193 = .ok (.aload_n 0, 1) := by decide +kernel
theorem dX3_digest_194 : decode cX3_digest 194 = .ok (.aload_n 0, 1) := by decide +kernel
theorem dX3_digest_195 : decode cX3_digest 195 = .ok (.getfield 40, 3) := by decide +kernel
theorem dX3_digest_198 : decode cX3_digest 198 = .ok (.invokevirtual 120, 3) := by decide +kernel
theorem dX3_digest_201 : decode cX3_digest 201 = .ok (.aload_n 0, 1) := by decide +kernel
theorem dX3_digest_202 : decode cX3_digest 202 = .ok (.getfield 114, 3) := by decide +kernel
theorem dX3_digest_205 : decode cX3_digest 205 = .ok (.lreturn, 1) := by decide +kernel
theorem dJ6_bitCount_0f7a4_0 : decode cJ6_bitCount_0f7a4 0 = .ok (.iload_n 0, 1) := by decide +kernel
theorem dJ6_bitCount_0f7a4_1 : decode cJ6_bitCount_0f7a4 1 = .ok (.iload_n 0, 1) := by decide +kernel
theorem dJ6_bitCount_0f7a4_2 : decode cJ6_bitCount_0f7a4 2 = .ok (.iconst 1, 1) := by decide +kernel
theorem dJ6_bitCount_0f7a4_3 : decode cJ6_bitCount_0f7a4 3 = .ok (.iushr, 1) := by decide +kernel
theorem dJ6_bitCount_0f7a4_4 : decode cJ6_bitCount_0f7a4 4 = .ok (.ldc_w 265, 3) := by decide +kernel
theorem dJ6_bitCount_0f7a4_7 : decode cJ6_bitCount_0f7a4 7 = .ok (.iand, 1) := by decide +kernel
theorem dJ6_bitCount_0f7a4_8 : decode cJ6_bitCount_0f7a4 8 = .ok (.isub, 1) := by decide +kernel
theorem dJ6_bitCount_0f7a4_9 : decode cJ6_bitCount_0f7a4 9 = .ok (.istore_n 0, 1) := by decide +kernel
theorem dJ6_bitCount_0f7a4_10 : decode cJ6_bitCount_0f7a4 10 = .ok (.iload_n 0, 1) := by decide +kernel
theorem dJ6_bitCount_0f7a4_11 : decode cJ6_bitCount_0f7a4 11 = .ok (.ldc_w 266, 3) := by decide +kernel
theorem dJ6_bitCount_0f7a4_14 : decode cJ6_bitCount_0f7a4 14 = .ok (.iand, 1) := by decide +kernel
theorem dJ6_bitCount_0f7a4_15 : decode cJ6_bitCount_0f7a4 15 = .ok (.iload_n 0, 1) := by decide +kernel
theorem dJ6_bitCount_0f7a4_16 : decode cJ6_bitCount_0f7a4 16 = .ok (.iconst 2, 1) := by decide +kernel
theorem dJ6_bitCount_0f7a4_17 : decode cJ6_bitCount_0f7a4 17 = .ok (.iushr, 1) := by decide +kernel
theorem dJ6_bitCount_0f7a4_18 : decode cJ6_bitCount_0f7a4 18 = .ok (.ldc_w 266, 3) := by decide +kernel
theorem dJ6_bitCount_0f7a4_21 : decode cJ6_bitCount_0f7a4 21 = .ok (.iand, 1) := by decide +kernel
theorem dJ6_bitCount_0f7a4_22 : decode cJ6_bitCount_0f7a4 22 = .ok (.iadd, 1) := by decide +kernel
theorem dJ6_bitCount_0f7a4_23 : decode cJ6_bitCount_0f7a4 23 = .ok (.istore_n 0, 1) := by decide +kernel
theorem dJ6_bitCount_0f7a4_24 : decode cJ6_bitCount_0f7a4 24 = .ok (.iload_n 0, 1) := by decide +kernel
theorem dJ6_bitCount_0f7a4_25 : decode cJ6_bitCount_0f7a4 25 = .ok (.iload_n 0, 1) := by decide +kernel
theorem dJ6_bitCount_0f7a4_26 : decode cJ6_bitCount_0f7a4 26 = .ok (.iconst 4, 1) := by decide +kernel
theorem dJ6_bitCount_0f7a4_27 : decode cJ6_bitCount_0f7a4 27 = .ok (.iushr, 1) := by decide +kernel
theorem dJ6_bitCount_0f7a4_28 : decode cJ6_bitCount_0f7a4 28 = .ok (.iadd, 1) := by decide +kernel
theorem dJ6_bitCount_0f7a4_29 : decode cJ6_bitCount_0f7a4 29 = .ok (.ldc_w 267, 3) := by decide +kernel
theorem dJ6_bitCount_0f7a4_32 : decode cJ6_bitCount_0f7a4 32 = .ok (.iand, 1) := by decide +kernel
theorem dJ6_bitCount_0f7a4_33 : decode cJ6_bitCount_0f7a4 33 = .ok (.istore_n 0, 1) := by decide +kernel
theorem dJ6_bitCount_0f7a4_34 : decode cJ6_bitCount_0f7a4 34 = .ok (.iload_n 0, 1) := by decide +kernel
theorem dJ6_bitCount_0f7a4_35 : decode cJ6_bitCount_0f7a4 35 = .ok (.iload_n 0, 1) := by decide +kernel
theorem dJ6_bitCount_0f7a4_36 : decode cJ6_bitCount_0f7a4 36 = .ok (.bipush 8, 2) := by decide +kernel
theorem dJ6_bitCount_0f7a4_38 : decode cJ6_bitCount_0f7a4 38 = .ok (.iushr, 1) := by decide +kernel
theorem dJ6_bitCount_0f7a4_39 : decode cJ6_bitCount_0f7a4 39 = .ok (.iadd, 1) := by decide +kernel
theorem dJ6_bitCount_0f7a4_40 : decode cJ6_bitCount_0f7a4 40 = .ok (.istore_n 0, 1) := by decide +kernel
theorem dJ6_bitCount_0f7a4_41 : decode cJ6_bitCount_0f7a4 41 = .ok (.iload_n 0, 1) := by decide +kernel
theorem dJ6_bitCount_0f7a4_42 : decode cJ6_bitCount_0f7a4 42 = .ok (.iload_n 0, 1) := by decide +kernel
theorem dJ6_bitCount_0f7a4_43 : decode cJ6_bitCount_0f7a4 43 = .ok (.bipush 16, 2) := by decide +kernel
theorem dJ6_bitCount_0f7a4_45 : decode cJ6_bitCount_0f7a4 45 = .ok (.iushr, 1) := by decide +kernel
theorem dJ6_bitCount_0f7a4_46 : decode cJ6_bitCount_0f7a4 46 = .ok (.iadd, 1) := by decide +kernel
theorem dJ6_bitCount_0f7a4_47 : decode cJ6_bitCount_0f7a4 47 = .ok (.istore_n 0, 1) := by decide +kernel
theorem dJ6_bitCount_0f7a4_48 : decode cJ6_bitCount_0f7a4 48 = .ok (.iload_n 0, 1) := by decide +kernel
theorem dJ6_bitCount_0f7a4_49 : decode cJ6_bitCount_0f7a4 49 = .ok (.bipush 63, 2) := by decide +kernel
theorem dJ6_bitCount_0f7a4_51 : decode cJ6_bitCount_0f7a4 51 = .ok (.iand, 1) := by decide +kernel
theorem dJ6_bitCount_0f7a4_52 : decode cJ6_bitCount_0f7a4 52 = .ok (.ireturn, 1) := by decide +kernel
theorem dJ13_bitCount_95d88_0 : decode cJ13_bitCount_95d88 0 = .ok (.lload_n 0, 1) := by decide +kernel
theorem dJ13_bitCount_95d88_1 : decode cJ13_bitCount_95d88 1 = .ok (.lload_n 0, 1) := by decide +kernel
theorem dJ13_bitCount_95d88_2 : decode cJ13_bitCount_95d88 2 = .ok (.iconst 1, 1) := by decide +kernel
theorem dJ13_bitCount_95d88_3 : decode cJ13_bitCount_95d88 3 = .ok (.lushr, 1) := by decide +kernel
theorem dJ13_bitCount_95d88_4 : decode cJ13_bitCount_95d88 4 = .ok (.ldc2_w 314, 3) := by decide +kernel
theorem dJ13_bitCount_95d88_7 : decode cJ13_bitCount_95d88 7 = .ok (.land, 1) := by decide +kernel
theorem dJ13_bitCount_95d88_8 : decode cJ13_bitCount_95d88 8 = .ok (.lsub, 1) := by decide +kernel
theorem dJ13_bitCount_95d88_9 : decode cJ13_bitCount_95d88 9 = .ok (.lstore_n 0, 1) := by decide +kernel
theorem dJ13_bitCount_95d88_10 : decode cJ13_bitCount_95d88 10 = .ok (.lload_n 0, 1) := by decide +kernel
theorem dJ13_bitCount_95d88_11 : decode cJ13_bitCount_95d88 11 = .ok (.ldc2_w 316, 3) := by decide +kernel
theorem dJ13_bitCount_95d88_14 : decode cJ13_bitCount_95d88 14 = .ok (.land, 1) := by decide +kernel
theorem dJ13_bitCount_95d88_15 : decode cJ13_bitCount_95d88 15 = .ok (.lload_n 0, 1) := by decide +kernel
theorem dJ13_bitCount_95d88_16 : decode cJ13_bitCount_95d88 16 = .ok (.iconst 2, 1) := by decide +kernel
theorem dJ13_bitCount_95d88_17 : decode cJ13_bitCount_95d88 17 = .ok (.lushr, 1) := by decide +kernel
theorem dJ13_bitCount_95d88_18 : decode cJ13_bitCount_95d88 18 = .ok (.ldc2_w 316, 3) := by decide +kernel
theorem dJ13_bitCount_95d88_21 : decode cJ13_bitCount_95d88 21 = .ok (.land, 1) := by decide +kernel
theorem dJ13_bitCount_95d88_22 : decode cJ13_bitCount_95d88 22 = .ok (.ladd, 1) := by decide +kernel
theorem dJ13_bitCount_95d88_23 : decode cJ13_bitCount_95d88 23 = .ok (.lstore_n 0, 1) := by decide +kernel
theorem dJ13_bitCount_95d88_24 : decode cJ13_bitCount_95d88 24 = .ok (.lload_n 0, 1) := by decide +kernel
theorem dJ13_bitCount_95d88_25 : decode cJ13_bitCount_95d88 25 = .ok (.lload_n 0, 1) := by decide +kernel
theorem dJ13_bitCount_95d88_26 : decode cJ13_bitCount_95d88 26 = .ok (.iconst 4, 1) := by decide +kernel
theorem dJ13_bitCount_95d88_27 : decode cJ13_bitCount_95d88 27 = .ok (.lushr, 1) := by decide +kernel
theorem dJ13_bitCount_95d88_28 : decode cJ13_bitCount_95d88 28 = .ok (.ladd, 1) := by decide +kernel
theorem dJ13_bitCount_95d88_29 : decode cJ13_bitCount_95d88 29 = .ok (.ldc2_w 318, 3) := by decide +kernel
theorem dJ13_bitCount_95d88_32 : decode cJ13_bitCount_95d88 32 = .ok (.land, 1) := by decide +kernel
theorem dJ13_bitCount_95d88_33 : decode cJ13_bitCount_95d88 33 = .ok (.lstore_n 0, 1) := by decide +kernel
theorem dJ13_bitCount_95d88_34 : decode cJ13_bitCount_95d88 34 = .ok (.lload_n 0, 1) := by decide +kernel
theorem dJ13_bitCount_95d88_35 : decode cJ13_bitCount_95d88 35 = .ok (.lload_n 0, 1) := by decide +kernel
theorem dJ13_bitCount_95d88_36 : decode cJ13_bitCount_95d88 36 = .ok (.bipush 8, 2) := by decide +kernel
theorem dJ13_bitCount_95d88_38 : decode cJ13_bitCount_95d88 38 = .ok (.lushr, 1) := by decide +kernel
theorem dJ13_bitCount_95d88_39 : decode cJ13_bitCount_95d88 39 = .ok (.ladd, 1) := by decide +kernel
theorem dJ13_bitCount_95d88_40 : decode cJ13_bitCount_95d88 40 = .ok (.lstore_n 0, 1) := by decide +kernel
theorem dJ13_bitCount_95d88_41 : decode cJ13_bitCount_95d88 41 = .ok (.lload_n 0, 1) := by decide +kernel
theorem dJ13_bitCount_95d88_42 : decode cJ13_bitCount_95d88 42 = .ok (.lload_n 0, 1) := by decide +kernel
theorem dJ13_bitCount_95d88_43 : decode cJ13_bitCount_95d88 43 = .ok (.bipush 16, 2) := by decide +kernel
theorem dJ13_bitCount_95d88_45 : decode cJ13_bitCount_95d88 45 = .ok (.lushr, 1) := by decide +kernel
theorem dJ13_bitCount_95d88_46 : decode cJ13_bitCount_95d88 46 = .ok (.ladd, 1) := by decide +kernel
theorem dJ13_bitCount_95d88_47 : decode cJ13_bitCount_95d88 47 = .ok (.lstore_n 0, 1) := by decide +kernel
theorem dJ13_bitCount_95d88_48 : decode cJ13_bitCount_95d88 48 = .ok (.lload_n 0, 1) := by decide +kernel
theorem dJ13_bitCount_95d88_49 : decode cJ13_bitCount_95d88 49 = .ok (.lload_n 0, 1) := by decide +kernel
theorem dJ13_bitCount_95d88_50 : decode cJ13_bitCount_95d88 50 = .ok (.bipush 32, 2) := by decide +kernel
theorem dJ13_bitCount_95d88_52 : decode cJ13_bitCount_95d88 52 = .ok (.lushr, 1) := by decide +kernel
theorem dJ13_bitCount_95d88_53 : decode cJ13_bitCount_95d88 53 = .ok (.ladd, 1) := by decide +kernel
theorem dJ13_bitCount_95d88_54 : decode cJ13_bitCount_95d88 54 = .ok (.lstore_n 0, 1) := by decide +kernel
theorem dJ13_bitCount_95d88_55 : decode cJ13_bitCount_95d88 55 = .ok (.lload_n 0, 1) := by decide +kernel
theorem dJ13_bitCount_95d88_56 : decode cJ13_bitCount_95d88 56 = .ok (.l2i, 1) := by decide +kernel
theorem dJ13_bitCount_95d88_57 : decode cJ13_bitCount_95d88 57 = .ok (.bipush 127, 2) := by decide +kernel
theorem dJ13_bitCount_95d88_59 : decode cJ13_bitCount_95d88 59 = .ok (.iand, 1) := by decide +kernel
theorem dJ13_bitCount_95d88_60 : decode cJ13_bitCount_95d88 60 = .ok (.ireturn, 1) := by decide +kernel
theorem dJ9_min_7cf53_0 : decode cJ9_min_7cf53 0 = .ok (.iload_n 0, 1) := by decide +kernel
theorem dJ9_min_7cf53_1 : decode cJ9_min_7cf53 1 = .ok (.iload_n 1, 1) := by decide +kernel
theorem dJ9_min_7cf53_2 : decode cJ9_min_7cf53 2 = .ok (.if_icmp .gt 7, 3) := by decide +kernel
theorem dJ9_min_7cf53_5 : decode cJ9_min_7cf53 5 = .ok (.iload_n 0, 1) := by decide +kernel
theorem dJ9_min_7cf53_6 : decode cJ9_min_7cf53 6 = .ok (.goto 4, 3) := by decide +kernel
theorem dJ9_min_7cf53_9 : decode cJ9_min_7cf53 9 = .ok (.iload_n 1, 1) := by decide +kernel
theorem dJ9_min_7cf53_10 : decode cJ9_min_7cf53 10 = .ok (.ireturn, 1) := by decide +kernel
set_option maxRecDepth 20000 in
theorem ggL_law_X2_init : GoodIn wsL_law wsX2_init := goodIn_r _ [8, 9, 10, 11, 12, 13, 14, 15, 16, 17, 18, 19, 20, 21, 22, 23, 24, 25, 26, 27, 28, 29, 30, 31, 32, 33, 34, 35, 36, 504, 505, 506, 507, 490, 491, 492, 493, 494, 508, 509] (by decide +kernel) (by decide +kernel)
set_option maxRecDepth 20000 in
theorem gL_law_X2_init : GoodIn wsL_law (wsX2_init) := ggL_law_X2_init
set_option maxRecDepth 20000 in
theorem ggL_law_X3_init : GoodIn wsL_law wsX3_init := goodIn_r _ [39, 40, 10, 11, 18, 41, 42, 43, 44, 45, 30, 46, 47, 495, 496, 497, 498, 499, 500, 501, 502, 503] (by decide +kernel) (by decide +kernel)
set_option maxRecDepth 20000 in
theorem gL_law_X3_init : GoodIn wsL_law (wsX3_init) := ggL_law_X3_init
set_option maxRecDepth 20000 in
theorem ggL_law_X2_setLength : GoodIn wsL_law wsX2_setLength := goodIn_r _ [51, 15, 52, 53, 54, 2, 55, 19, 56, 57, 58, 59, 17, 16, 60, 61, 62, 63, 64, 14, 65, 66, 27, 28, 29, 31, 490, 491, 492, 493, 494, 504, 505, 506, 507] (by decide +kernel) (by decide +kernel)
set_option maxRecDepth 20000 in
theorem gL_law_X2_setLength : GoodIn wsL_law (wsV RL 13 RX2 yX2_setLength wsX2_setLength) := goodIn_app (goodIn_of _ (by decide +kernel)) ggL_law_X2_setLength
set_option maxRecDepth 20000 in
theorem ggL_law_X3_setLength : GoodIn wsL_law wsX3_setLength := goodIn_r _ [70, 41, 71, 72, 5, 73, 74, 75, 76, 77, 43, 78, 79, 80, 81, 82, 42, 495, 496, 497, 498, 499, 500, 501, 502, 503] (by decide +kernel) (by decide +kernel)
set_option maxRecDepth 20000 in
theorem gL_law_X3_setLength : GoodIn wsL_law (wsV RL 17 RX3 yX3_setLength wsX3_setLength) := goodIn_app (goodIn_of _ (by decide +kernel)) ggL_law_X3_setLength
set_option maxRecDepth 20000 in
theorem ggL_law_X2_addRow : GoodIn wsL_law wsX2_addRow := goodIn_r _ [86, 15, 87, 88, 89, 2, 90, 91, 92, 93, 94, 52, 53, 54, 55, 19, 56, 57, 58, 59, 17, 16, 60, 61, 62, 63, 64, 14, 65, 66, 27, 28, 29, 31, 95, 96, 97, 490, 491, 492, 493, 494, 504, 505, 506, 507] (by decide +kernel) (by decide +kernel)
set_option maxRecDepth 20000 in
theorem gL_law_X2_addRow : GoodIn wsL_law (wsV RL 18 RX2 yX2_addRow wsX2_addRow) := goodIn_app (goodIn_of _ (by decide +kernel)) ggL_law_X2_addRow
set_option maxRecDepth 20000 in
theorem ggL_law_X3_addRow : GoodIn wsL_law wsX3_addRow := goodIn_r _ [101, 41, 102, 103, 104, 5, 105, 106, 107, 108, 109, 71, 72, 73, 74, 75, 76, 77, 43, 78, 79, 80, 81, 82, 42, 495, 496, 497, 498, 499, 500, 501, 502, 503] (by decide +kernel) (by decide +kernel)
set_option maxRecDepth 20000 in
theorem gL_law_X3_addRow : GoodIn wsL_law (wsV RL 22 RX3 yX3_addRow wsX3_addRow) := goodIn_app (goodIn_of _ (by decide +kernel)) ggL_law_X3_addRow
set_option maxRecDepth 20000 in
theorem ggL_law_X2_removeRow : GoodIn wsL_law wsX2_removeRow := goodIn_r _ [113, 15, 114, 115, 116, 2, 117, 52, 53, 54, 55, 19, 56, 57, 58, 59, 17, 16, 60, 61, 62, 63, 64, 14, 65, 66, 27, 28, 29, 31, 95, 96, 97, 490, 491, 492, 493, 494, 504, 505, 506, 507] (by decide +kernel) (by decide +kernel)
set_option maxRecDepth 20000 in
theorem gL_law_X2_removeRow : GoodIn wsL_law (wsV RL 23 RX2 yX2_removeRow wsX2_removeRow) := goodIn_app (goodIn_of _ (by decide +kernel)) ggL_law_X2_removeRow
set_option maxRecDepth 20000 in
theorem ggL_law_X3_removeRow : GoodIn wsL_law wsX3_removeRow := goodIn_r _ [121, 41, 122, 123, 124, 5, 125, 71, 72, 73, 74, 75, 76, 77, 43, 78, 79, 80, 81, 82, 42, 126, 127, 128, 129, 495, 496, 497, 498, 499, 500, 501, 502, 503] (by decide +kernel) (by decide +kernel)
set_option maxRecDepth 20000 in
theorem gL_law_X3_removeRow : GoodIn wsL_law (wsV RL 26 RX3 yX3_removeRow wsX3_removeRow) := goodIn_app (goodIn_of _ (by decide +kernel)) ggL_law_X3_removeRow
set_option maxRecDepth 20000 in
theorem ggL_law_X2_removeDependentRows : GoodIn wsL_law wsX2_removeDependentRows := goodIn_r _ [133, 23, 15, 56, 57, 58, 2, 59, 17, 16, 60, 61, 62, 63, 64, 14, 65, 66, 27, 28, 29, 31, 134, 22, 135, 136, 36, 137, 138, 139, 35, 140, 141, 142, 143, 95, 96, 97, 490, 491, 492, 493, 494, 504, 505, 506, 507, 508, 509] (by decide +kernel) (by decide +kernel)
set_option maxRecDepth 20000 in
theorem gL_law_X2_removeDependentRows : GoodIn wsL_law (wsV RL 27 RX2 yX2_removeDependentRows wsX2_removeDependentRows) := goodIn_app (goodIn_of _ (by decide +kernel)) ggL_law_X2_removeDependentRows
set_option maxRecDepth 20000 in
theorem ggL_law_X3_removeDependentRows : GoodIn wsL_law wsX3_removeDependentRows := goodIn_r _ [147, 41, 78, 79, 80, 5, 81, 82, 42, 148, 149, 150, 151, 126, 127, 128, 129, 495, 496, 497, 498, 499, 500, 501, 502, 503] (by decide +kernel) (by decide +kernel)
set_option maxRecDepth 20000 in
theorem gL_law_X3_removeDependentRows : GoodIn wsL_law (wsV RL 31 RX3 yX3_removeDependentRows wsX3_removeDependentRows) := goodIn_app (goodIn_of _ (by decide +kernel)) ggL_law_X3_removeDependentRows
set_option maxRecDepth 20000 in
theorem ggL_law_X2_row : GoodIn wsL_law wsX2_row := goodIn_r _ [155, 15, 114, 115, 116, 2, 117, 52, 53, 54, 55, 19, 490, 491, 492, 493, 494, 504, 505, 506, 507] (by decide +kernel) (by decide +kernel)
set_option maxRecDepth 20000 in
theorem gL_law_X2_row : GoodIn wsL_law (wsV RL 32 RX2 yX2_row wsX2_row) := goodIn_app (goodIn_of _ (by decide +kernel)) ggL_law_X2_row
set_option maxRecDepth 20000 in
theorem ggL_law_X3_row : GoodIn wsL_law wsX3_row := goodIn_r _ [159, 41, 122, 123, 124, 5, 125, 71, 72, 73, 74, 75, 76, 77, 43, 495, 496, 497, 498, 499, 500, 501, 502, 503] (by decide +kernel) (by decide +kernel)
set_option maxRecDepth 20000 in
theorem gL_law_X3_row : GoodIn wsL_law (wsV RL 35 RX3 yX3_row wsX3_row) := goodIn_app (goodIn_of _ (by decide +kernel)) ggL_law_X3_row
set_option maxRecDepth 20000 in
theorem ggL_law_X2_isCheck : GoodIn wsL_law wsX2_isCheck := goodIn_r _ [163, 15, 114, 115, 116, 2, 117, 52, 53, 54, 55, 19, 490, 491, 492, 493, 494, 504, 505, 506, 507] (by decide +kernel) (by decide +kernel)
set_option maxRecDepth 20000 in
theorem gL_law_X2_isCheck : GoodIn wsL_law (wsV RL 36 RX2 yX2_isCheck wsX2_isCheck) := goodIn_app (goodIn_of _ (by decide +kernel)) ggL_law_X2_isCheck
set_option maxRecDepth 20000 in
theorem ggL_law_X3_isCheck : GoodIn wsL_law wsX3_isCheck := goodIn_r _ [167, 41, 122, 123, 124, 5, 125, 71, 72, 73, 74, 75, 76, 77, 43, 495, 496, 497, 498, 499, 500, 501, 502, 503] (by decide +kernel) (by decide +kernel)
set_option maxRecDepth 20000 in
theorem gL_law_X3_isCheck : GoodIn wsL_law (wsV RL 39 RX3 yX3_isCheck wsX3_isCheck) := goodIn_app (goodIn_of _ (by decide +kernel)) ggL_law_X3_isCheck
set_option maxRecDepth 20000 in
theorem ggL_law_X2_rank : GoodIn wsL_law wsX2_rank := goodIn_r _ [171, 52, 53, 54, 2, 55, 19, 172, 173, 174, 175, 23, 134, 22, 135, 136, 36, 91, 92, 93, 94, 15, 176, 177, 178, 179, 137, 138, 139, 35, 140, 141, 142, 143, 490, 491, 492, 493, 494, 508, 509, 504, 505, 506, 507] (by decide +kernel) (by decide +kernel)
set_option maxRecDepth 20000 in
theorem gL_law_X2_rank : GoodIn wsL_law (wsV RL 40 RX2 yX2_rank wsX2_rank) := goodIn_app (goodIn_of _ (by decide +kernel)) ggL_law_X2_rank
set_option maxRecDepth 20000 in
theorem ggL_law_X3_rank : GoodIn wsL_law wsX3_rank := goodIn_r _ [183, 71, 72, 5, 73, 106, 107, 108, 109, 41, 184, 185, 186, 187, 44, 74, 75, 76, 77, 43, 495, 496, 497, 498, 499, 500, 501, 502, 503] (by decide +kernel) (by decide +kernel)
set_option maxRecDepth 20000 in
theorem gL_law_X3_rank : GoodIn wsL_law (wsV RL 43 RX3 yX3_rank wsX3_rank) := goodIn_app (goodIn_of _ (by decide +kernel)) ggL_law_X3_rank
set_option maxRecDepth 20000 in
theorem ggL_law_X2_message : GoodIn wsL_law wsX2_message := goodIn_r _ [191, 87, 88, 89, 2, 90, 91, 92, 93, 94, 15, 52, 53, 54, 55, 19, 192, 193, 194, 195, 196, 197, 198, 199, 200, 201, 202, 490, 491, 492, 493, 494, 504, 505, 506, 507] (by decide +kernel) (by decide +kernel)
set_option maxRecDepth 20000 in
theorem gL_law_X2_message : GoodIn wsL_law (wsV RL 44 RX2 yX2_message wsX2_message) := goodIn_app (goodIn_of _ (by decide +kernel)) ggL_law_X2_message
set_option maxRecDepth 20000 in
theorem ggL_law_X3_message : GoodIn wsL_law wsX3_message := goodIn_r _ [206, 102, 103, 104, 5, 105, 106, 107, 108, 109, 41, 71, 72, 73, 207, 208, 209, 210, 211, 212, 213, 74, 75, 76, 77, 43, 495, 496, 497, 498, 499, 500, 501, 502, 503] (by decide +kernel) (by decide +kernel)
set_option maxRecDepth 20000 in
theorem gL_law_X3_message : GoodIn wsL_law (wsV RL 47 RX3 yX3_message wsX3_message) := goodIn_app (goodIn_of _ (by decide +kernel)) ggL_law_X3_message
set_option maxRecDepth 20000 in
theorem ggL_law_X2_checkValue : GoodIn wsL_law wsX2_checkValue := goodIn_r _ [217, 87, 88, 89, 2, 90, 91, 92, 93, 94, 15, 52, 53, 54, 55, 19, 192, 193, 194, 195, 196, 197, 198, 199, 200, 201, 202, 490, 491, 492, 493, 494, 504, 505, 506, 507] (by decide +kernel) (by decide +kernel)
set_option maxRecDepth 20000 in
theorem gL_law_X2_checkValue : GoodIn wsL_law (wsV RL 48 RX2 yX2_checkValue wsX2_checkValue) := goodIn_app (goodIn_of _ (by decide +kernel)) ggL_law_X2_checkValue
set_option maxRecDepth 20000 in
theorem ggL_law_X3_checkValue : GoodIn wsL_law wsX3_checkValue := goodIn_r _ [221, 102, 103, 104, 5, 105, 106, 107, 108, 109, 41, 71, 72, 73, 207, 208, 209, 210, 211, 212, 213, 74, 75, 76, 77, 43, 495, 496, 497, 498, 499, 500, 501, 502, 503] (by decide +kernel) (by decide +kernel)
set_option maxRecDepth 20000 in
theorem gL_law_X3_checkValue : GoodIn wsL_law (wsV RL 51 RX3 yX3_checkValue wsX3_checkValue) := goodIn_app (goodIn_of _ (by decide +kernel)) ggL_law_X3_checkValue
set_option maxRecDepth 20000 in
theorem ggL_law_X2_codewords : GoodIn wsL_law wsX2_codewords := goodIn_r _ [225, 15, 172, 173, 174, 2, 175, 23, 134, 22, 135, 136, 36, 91, 92, 93, 94, 176, 177, 178, 179, 137, 138, 139, 35, 140, 141, 142, 143, 490, 491, 492, 493, 494, 504, 505, 506, 507, 508, 509] (by decide +kernel) (by decide +kernel)
set_option maxRecDepth 20000 in
theorem gL_law_X2_codewords : GoodIn wsL_law (wsV RL 52 RX2 yX2_codewords wsX2_codewords) := goodIn_app (goodIn_of _ (by decide +kernel)) ggL_law_X2_codewords
set_option maxRecDepth 20000 in
theorem ggL_law_X3_codewords : GoodIn wsL_law wsX3_codewords := goodIn_r _ [229, 230, 231, 232, 5, 233, 45, 234, 235, 236, 237, 106, 107, 108, 109, 41, 207, 208, 209, 210, 211, 212, 213, 495, 496, 497, 498, 499, 500, 501, 502, 503] (by decide +kernel) (by decide +kernel)
set_option maxRecDepth 20000 in
theorem gL_law_X3_codewords : GoodIn wsL_law (wsV RL 55 RX3 yX3_codewords wsX3_codewords) := goodIn_app (goodIn_of _ (by decide +kernel)) ggL_law_X3_codewords
set_option maxRecDepth 20000 in
theorem ggL_law_X2_messages : GoodIn wsL_law wsX2_messages := goodIn_r _ [241, 91, 92, 93, 2, 94, 15, 242, 243, 244, 245, 23, 134, 22, 135, 136, 36, 176, 177, 178, 179, 137, 138, 139, 35, 140, 141, 142, 143, 490, 491, 492, 493, 494, 504, 505, 506, 507, 508, 509] (by decide +kernel) (by decide +kernel)
set_option maxRecDepth 20000 in
theorem gL_law_X2_messages : GoodIn wsL_law (wsV RL 56 RX2 yX2_messages wsX2_messages) := goodIn_app (goodIn_of _ (by decide +kernel)) ggL_law_X2_messages
set_option maxRecDepth 20000 in
theorem ggL_law_X3_messages : GoodIn wsL_law wsX3_messages := goodIn_r _ [249, 250, 251, 252, 5, 253, 46, 45, 234, 235, 236, 237, 106, 107, 108, 109, 41, 207, 208, 209, 210, 211, 212, 213, 495, 496, 497, 498, 499, 500, 501, 502, 503] (by decide +kernel) (by decide +kernel)
set_option maxRecDepth 20000 in
theorem gL_law_X3_messages : GoodIn wsL_law (wsV RL 59 RX3 yX3_messages wsX3_messages) := goodIn_app (goodIn_of _ (by decide +kernel)) ggL_law_X3_messages
set_option maxRecDepth 20000 in
theorem ggL_law_X2_choices : GoodIn wsL_law wsX2_choices := goodIn_r _ [257, 258, 259, 2, 260, 52, 53, 54, 55, 19, 91, 92, 93, 94, 15, 261, 262, 263, 264, 265, 266, 267, 268, 192, 193, 194, 195, 196, 197, 198, 199, 200, 201, 202, 490, 491, 492, 493, 494, 504, 505, 506, 507] (by decide +kernel) (by decide +kernel)
set_option maxRecDepth 20000 in
theorem gL_law_X2_choices : GoodIn wsL_law (wsV RL 60 RX2 yX2_choices wsX2_choices) := goodIn_app (goodIn_of _ (by decide +kernel)) ggL_law_X2_choices
set_option maxRecDepth 20000 in
theorem ggL_law_X3_choices : GoodIn wsL_law wsX3_choices := goodIn_r _ [272, 71, 72, 5, 73, 273, 274, 275, 276, 45, 234, 235, 236, 237, 106, 107, 108, 109, 41, 207, 208, 209, 210, 211, 212, 213, 74, 75, 76, 77, 43, 495, 496, 497, 498, 499, 500, 501, 502, 503] (by decide +kernel) (by decide +kernel)
set_option maxRecDepth 20000 in
theorem gL_law_X3_choices : GoodIn wsL_law (wsV RL 63 RX3 yX3_choices wsX3_choices) := goodIn_app (goodIn_of _ (by decide +kernel)) ggL_law_X3_choices
set_option maxRecDepth 20000 in
theorem ggL_law_X2_encode : GoodIn wsL_law wsX2_encode := goodIn_r _ [280, 258, 259, 2, 260, 52, 53, 54, 55, 19, 91, 92, 93, 94, 15, 261, 262, 263, 264, 265, 266, 267, 268, 192, 193, 194, 195, 196, 197, 198, 199, 200, 201, 202, 490, 491, 492, 493, 494, 504, 505, 506, 507] (by decide +kernel) (by decide +kernel)
set_option maxRecDepth 20000 in
theorem gL_law_X2_encode : GoodIn wsL_law (wsV RL 64 RX2 yX2_encode wsX2_encode) := goodIn_app (goodIn_of _ (by decide +kernel)) ggL_law_X2_encode
set_option maxRecDepth 20000 in
theorem ggL_law_X3_encode : GoodIn wsL_law wsX3_encode := goodIn_r _ [284, 45, 71, 72, 5, 73, 74, 75, 76, 77, 43, 234, 235, 236, 237, 106, 107, 108, 109, 41, 207, 208, 209, 210, 211, 212, 213, 495, 496, 497, 498, 499, 500, 501, 502, 503] (by decide +kernel) (by decide +kernel)
set_option maxRecDepth 20000 in
theorem gL_law_X3_encode : GoodIn wsL_law (wsV RL 67 RX3 yX3_encode wsX3_encode) := goodIn_app (goodIn_of _ (by decide +kernel)) ggL_law_X3_encode
set_option maxRecDepth 20000 in
theorem ggL_law_X2_decode : GoodIn wsL_law wsX2_decode := goodIn_r _ [288, 87, 88, 89, 2, 90, 91, 92, 93, 94, 15, 52, 53, 54, 55, 19, 289, 290, 291, 292, 196, 197, 198, 199, 200, 201, 202, 265, 266, 267, 268, 192, 193, 194, 195, 490, 491, 492, 493, 494, 504, 505, 506, 507] (by decide +kernel) (by decide +kernel)
set_option maxRecDepth 20000 in
theorem gL_law_X2_decode : GoodIn wsL_law (wsV RL 68 RX2 yX2_decode wsX2_decode) := goodIn_app (goodIn_of _ (by decide +kernel)) ggL_law_X2_decode
set_option maxRecDepth 20000 in
theorem ggL_law_X3_decode : GoodIn wsL_law wsX3_decode := goodIn_r _ [296, 102, 103, 104, 5, 105, 106, 107, 108, 109, 41, 71, 72, 73, 74, 75, 76, 77, 43, 234, 235, 236, 237, 45, 207, 208, 209, 210, 211, 212, 213, 297, 298, 299, 300, 301, 302, 303, 304, 495, 496, 497, 498, 499, 500, 501, 502, 503] (by decide +kernel) (by decide +kernel)
set_option maxRecDepth 20000 in
theorem gL_law_X3_decode : GoodIn wsL_law (wsV RL 71 RX3 yX3_decode wsX3_decode) := goodIn_app (goodIn_of _ (by decide +kernel)) ggL_law_X3_decode
set_option maxRecDepth 20000 in
theorem ggL_law_X2_distance : GoodIn wsL_law wsX2_distance := goodIn_r _ [308, 87, 88, 89, 2, 90, 91, 92, 93, 94, 15, 52, 53, 54, 55, 19, 289, 290, 291, 292, 196, 197, 198, 199, 200, 201, 202, 265, 266, 267, 268, 192, 193, 194, 195, 490, 491, 492, 493, 494, 504, 505, 506, 507] (by decide +kernel) (by decide +kernel)
set_option maxRecDepth 20000 in
theorem gL_law_X2_distance : GoodIn wsL_law (wsV RL 72 RX2 yX2_distance wsX2_distance) := goodIn_app (goodIn_of _ (by decide +kernel)) ggL_law_X2_distance
set_option maxRecDepth 20000 in
theorem ggL_law_X3_distance : GoodIn wsL_law wsX3_distance := goodIn_r _ [312, 102, 103, 104, 5, 105, 106, 107, 108, 109, 41, 71, 72, 73, 74, 75, 76, 77, 43, 234, 235, 236, 237, 45, 207, 208, 209, 210, 211, 212, 213, 301, 302, 303, 304, 495, 496, 497, 498, 499, 500, 501, 502, 503] (by decide +kernel) (by decide +kernel)
set_option maxRecDepth 20000 in
theorem gL_law_X3_distance : GoodIn wsL_law (wsV RL 75 RX3 yX3_distance wsX3_distance) := goodIn_app (goodIn_of _ (by decide +kernel)) ggL_law_X3_distance
set_option maxRecDepth 20000 in
theorem ggL_law_X2_weakness : GoodIn wsL_law wsX2_weakness := goodIn_r _ [316, 317, 318, 319, 2, 320, 91, 92, 93, 94, 15, 196, 197, 198, 199, 200, 201, 202, 265, 266, 267, 268, 192, 193, 194, 195, 490, 491, 492, 493, 494, 504, 505, 506, 507] (by decide +kernel) (by decide +kernel)
set_option maxRecDepth 20000 in
theorem gL_law_X2_weakness : GoodIn wsL_law (wsV RL 76 RX2 yX2_weakness wsX2_weakness) := goodIn_app (goodIn_of _ (by decide +kernel)) ggL_law_X2_weakness
set_option maxRecDepth 20000 in
theorem ggL_law_X3_weakness : GoodIn wsL_law wsX3_weakness := goodIn_r _ [324, 45, 234, 235, 236, 5, 237, 106, 107, 108, 109, 41, 207, 208, 209, 210, 211, 212, 213, 297, 298, 299, 300, 301, 302, 303, 304, 495, 496, 497, 498, 499, 500, 501, 502, 503] (by decide +kernel) (by decide +kernel)
set_option maxRecDepth 20000 in
theorem gL_law_X3_weakness : GoodIn wsL_law (wsV RL 79 RX3 yX3_weakness wsX3_weakness) := goodIn_app (goodIn_of _ (by decide +kernel)) ggL_law_X3_weakness
set_option maxRecDepth 20000 in
theorem ggL_law_X2_leakage : GoodIn wsL_law wsX2_leakage := goodIn_r _ [328, 87, 88, 89, 2, 90, 91, 92, 93, 94, 15, 52, 53, 54, 55, 19, 329, 330, 331, 332, 242, 243, 244, 245, 23, 134, 22, 135, 136, 36, 176, 177, 178, 179, 137, 138, 139, 35, 140, 141, 142, 143, 490, 491, 492, 493, 494, 504, 505, 506, 507, 508, 509] (by decide +kernel) (by decide +kernel)
set_option maxRecDepth 20000 in
theorem gL_law_X2_leakage : GoodIn wsL_law (wsV RL 80 RX2 yX2_leakage wsX2_leakage) := goodIn_app (goodIn_of _ (by decide +kernel)) ggL_law_X2_leakage
set_option maxRecDepth 20000 in
theorem ggL_law_X3_leakage : GoodIn wsL_law wsX3_leakage := goodIn_r _ [336, 102, 103, 104, 5, 105, 106, 107, 108, 109, 41, 71, 72, 73, 337, 338, 339, 340, 341, 342, 343, 344, 184, 185, 186, 187, 44, 74, 75, 76, 77, 43, 495, 496, 497, 498, 499, 500, 501, 502, 503] (by decide +kernel) (by decide +kernel)
set_option maxRecDepth 20000 in
theorem gL_law_X3_leakage : GoodIn wsL_law (wsV RL 83 RX3 yX3_leakage wsX3_leakage) := goodIn_app (goodIn_of _ (by decide +kernel)) ggL_law_X3_leakage
set_option maxRecDepth 20000 in
theorem ggL_law_X2_worstLeakage : GoodIn wsL_law wsX2_worstLeakage := goodIn_r _ [348, 349, 350, 351, 2, 352, 15, 52, 53, 54, 55, 19, 353, 354, 355, 356, 91, 92, 93, 94, 196, 197, 198, 199, 200, 201, 202, 242, 243, 244, 245, 23, 134, 22, 135, 136, 36, 176, 177, 178, 179, 137, 138, 139, 35, 140, 141, 142, 143, 329, 330, 331, 332, 490, 491, 492, 493, 494, 504, 505, 506, 507, 508, 509] (by decide +kernel) (by decide +kernel)
set_option maxRecDepth 20000 in
theorem gL_law_X2_worstLeakage : GoodIn wsL_law (wsV RL 84 RX2 yX2_worstLeakage wsX2_worstLeakage) := goodIn_app (goodIn_of _ (by decide +kernel)) ggL_law_X2_worstLeakage
set_option maxRecDepth 20000 in
theorem ggL_law_X3_worstLeakage : GoodIn wsL_law wsX3_worstLeakage := goodIn_r _ [360, 361, 362, 363, 5, 364, 41, 71, 72, 73, 365, 366, 367, 368, 106, 107, 108, 109, 211, 212, 213, 337, 338, 339, 340, 341, 342, 343, 344, 184, 185, 186, 187, 44, 74, 75, 76, 77, 43, 495, 496, 497, 498, 499, 500, 501, 502, 503] (by decide +kernel) (by decide +kernel)
set_option maxRecDepth 20000 in
theorem gL_law_X3_worstLeakage : GoodIn wsL_law (wsV RL 87 RX3 yX3_worstLeakage wsX3_worstLeakage) := goodIn_app (goodIn_of _ (by decide +kernel)) ggL_law_X3_worstLeakage
set_option maxRecDepth 20000 in
theorem ggL_law_X2_worstSet : GoodIn wsL_law wsX2_worstSet := goodIn_r _ [372, 349, 350, 351, 2, 352, 15, 52, 53, 54, 55, 19, 353, 354, 355, 356, 91, 92, 93, 94, 196, 197, 198, 199, 200, 201, 202, 242, 243, 244, 245, 23, 134, 22, 135, 136, 36, 176, 177, 178, 179, 137, 138, 139, 35, 140, 141, 142, 143, 490, 491, 492, 493, 494, 504, 505, 506, 507, 508, 509] (by decide +kernel) (by decide +kernel)
end
section
set_option maxRecDepth 20000 in
theorem gL_law_X2_worstSet : GoodIn wsL_law (wsV RL 88 RX2 yX2_worstSet wsX2_worstSet) := goodIn_app (goodIn_of _ (by decide +kernel)) ggL_law_X2_worstSet
set_option maxRecDepth 20000 in
theorem ggL_law_X3_worstSet : GoodIn wsL_law wsX3_worstSet := goodIn_r _ [376, 361, 362, 363, 5, 364, 41, 71, 72, 73, 365, 366, 367, 368, 106, 107, 108, 109, 211, 212, 213, 337, 338, 339, 340, 341, 342, 343, 344, 184, 185, 186, 187, 44, 74, 75, 76, 77, 43, 495, 496, 497, 498, 499, 500, 501, 502, 503] (by decide +kernel) (by decide +kernel)
set_option maxRecDepth 20000 in
theorem gL_law_X3_worstSet : GoodIn wsL_law (wsV RL 91 RX3 yX3_worstSet wsX3_worstSet) := goodIn_app (goodIn_of _ (by decide +kernel)) ggL_law_X3_worstSet
set_option maxRecDepth 20000 in
theorem ggL_law_X2_threshold : GoodIn wsL_law wsX2_threshold := goodIn_r _ [380, 15, 381, 382, 383, 2, 384, 91, 92, 93, 94, 242, 243, 244, 245, 23, 134, 22, 135, 136, 36, 176, 177, 178, 179, 137, 138, 139, 35, 140, 141, 142, 143, 196, 197, 198, 199, 200, 201, 202, 490, 491, 492, 493, 494, 504, 505, 506, 507, 508, 509] (by decide +kernel) (by decide +kernel)
set_option maxRecDepth 20000 in
theorem gL_law_X2_threshold : GoodIn wsL_law (wsV RL 92 RX2 yX2_threshold wsX2_threshold) := goodIn_app (goodIn_of _ (by decide +kernel)) ggL_law_X2_threshold
set_option maxRecDepth 20000 in
theorem ggL_law_X3_threshold : GoodIn wsL_law wsX3_threshold := goodIn_r _ [388, 41, 365, 366, 367, 5, 368, 106, 107, 108, 109, 211, 212, 213, 337, 338, 339, 340, 341, 342, 343, 344, 184, 185, 186, 187, 44, 495, 496, 497, 498, 499, 500, 501, 502, 503] (by decide +kernel) (by decide +kernel)
set_option maxRecDepth 20000 in
theorem gL_law_X3_threshold : GoodIn wsL_law (wsV RL 95 RX3 yX3_threshold wsX3_threshold) := goodIn_app (goodIn_of _ (by decide +kernel)) ggL_law_X3_threshold
set_option maxRecDepth 20000 in
theorem ggL_law_X2_leastSize : GoodIn wsL_law wsX2_leastSize := goodIn_r _ [392, 52, 53, 54, 2, 55, 19, 381, 382, 383, 384, 91, 92, 93, 94, 15, 242, 243, 244, 245, 23, 134, 22, 135, 136, 36, 176, 177, 178, 179, 137, 138, 139, 35, 140, 141, 142, 143, 196, 197, 198, 199, 200, 201, 202, 490, 491, 492, 493, 494, 504, 505, 506, 507, 508, 509] (by decide +kernel) (by decide +kernel)
set_option maxRecDepth 20000 in
theorem gL_law_X2_leastSize : GoodIn wsL_law (wsV RL 96 RX2 yX2_leastSize wsX2_leastSize) := goodIn_app (goodIn_of _ (by decide +kernel)) ggL_law_X2_leastSize
set_option maxRecDepth 20000 in
theorem ggL_law_X3_leastSize : GoodIn wsL_law wsX3_leastSize := goodIn_r _ [396, 41, 71, 72, 5, 73, 74, 75, 76, 77, 43, 365, 366, 367, 368, 106, 107, 108, 109, 211, 212, 213, 337, 338, 339, 340, 341, 342, 343, 344, 184, 185, 186, 187, 44, 495, 496, 497, 498, 499, 500, 501, 502, 503] (by decide +kernel) (by decide +kernel)
set_option maxRecDepth 20000 in
theorem gL_law_X3_leastSize : GoodIn wsL_law (wsV RL 99 RX3 yX3_leastSize wsX3_leastSize) := goodIn_app (goodIn_of _ (by decide +kernel)) ggL_law_X3_leastSize
set_option maxRecDepth 20000 in
theorem ggL_law_X2_possibleMessages : GoodIn wsL_law wsX2_possibleMessages := goodIn_r _ [400, 401, 402, 403, 2, 404, 87, 88, 89, 90, 91, 92, 93, 94, 15, 52, 53, 54, 55, 19, 405, 406, 407, 408, 265, 266, 267, 268, 192, 193, 194, 195, 196, 197, 198, 199, 200, 201, 202, 409, 410, 411, 412, 413, 414, 415, 490, 491, 492, 493, 494, 504, 505, 506, 507] (by decide +kernel) (by decide +kernel)
set_option maxRecDepth 20000 in
theorem gL_law_X2_possibleMessages : GoodIn wsL_law (wsV RL 100 RX2 yX2_possibleMessages wsX2_possibleMessages) := goodIn_app (goodIn_of _ (by decide +kernel)) ggL_law_X2_possibleMessages
set_option maxRecDepth 20000 in
theorem ggL_law_X3_possibleMessages : GoodIn wsL_law wsX3_possibleMessages := goodIn_r _ [419, 420, 421, 422, 5, 423, 102, 103, 104, 105, 106, 107, 108, 109, 41, 71, 72, 73, 250, 251, 252, 253, 46, 45, 234, 235, 236, 237, 207, 208, 209, 210, 211, 212, 213, 74, 75, 76, 77, 43, 495, 496, 497, 498, 499, 500, 501, 502, 503] (by decide +kernel) (by decide +kernel)
set_option maxRecDepth 20000 in
theorem gL_law_X3_possibleMessages : GoodIn wsL_law (wsV RL 103 RX3 yX3_possibleMessages wsX3_possibleMessages) := goodIn_app (goodIn_of _ (by decide +kernel)) ggL_law_X3_possibleMessages
set_option maxRecDepth 20000 in
theorem ggL_law_X2_possibleMessage : GoodIn wsL_law wsX2_possibleMessage := goodIn_r _ [427, 401, 402, 403, 2, 404, 87, 88, 89, 90, 91, 92, 93, 94, 15, 52, 53, 54, 55, 19, 405, 406, 407, 408, 265, 266, 267, 268, 192, 193, 194, 195, 196, 197, 198, 199, 200, 201, 202, 490, 491, 492, 493, 494, 504, 505, 506, 507] (by decide +kernel) (by decide +kernel)
set_option maxRecDepth 20000 in
theorem gL_law_X2_possibleMessage : GoodIn wsL_law (wsV RL 104 RX2 yX2_possibleMessage wsX2_possibleMessage) := goodIn_app (goodIn_of _ (by decide +kernel)) ggL_law_X2_possibleMessage
set_option maxRecDepth 20000 in
theorem ggL_law_X3_possibleMessage : GoodIn wsL_law wsX3_possibleMessage := goodIn_r _ [431, 46, 420, 421, 422, 5, 423, 102, 103, 104, 105, 106, 107, 108, 109, 41, 71, 72, 73, 74, 75, 76, 77, 43, 250, 251, 252, 253, 45, 234, 235, 236, 237, 207, 208, 209, 210, 211, 212, 213, 495, 496, 497, 498, 499, 500, 501, 502, 503] (by decide +kernel) (by decide +kernel)
set_option maxRecDepth 20000 in
theorem gL_law_X3_possibleMessage : GoodIn wsL_law (wsV RL 108 RX3 yX3_possibleMessage wsX3_possibleMessage) := goodIn_app (goodIn_of _ (by decide +kernel)) ggL_law_X3_possibleMessage
set_option maxRecDepth 20000 in
theorem ggL_law_X2_knownCombinations : GoodIn wsL_law wsX2_knownCombinations := goodIn_r _ [435, 87, 88, 89, 2, 90, 91, 92, 93, 94, 15, 52, 53, 54, 55, 19, 242, 243, 244, 245, 23, 134, 22, 135, 136, 36, 176, 177, 178, 179, 137, 138, 139, 35, 140, 141, 142, 143, 436, 437, 438, 439, 490, 491, 492, 493, 494, 504, 505, 506, 507, 508, 509] (by decide +kernel) (by decide +kernel)
set_option maxRecDepth 20000 in
theorem gL_law_X2_knownCombinations : GoodIn wsL_law (wsV RL 109 RX2 yX2_knownCombinations wsX2_knownCombinations) := goodIn_app (goodIn_of _ (by decide +kernel)) ggL_law_X2_knownCombinations
set_option maxRecDepth 20000 in
theorem ggL_law_X3_knownCombinations : GoodIn wsL_law wsX3_knownCombinations := goodIn_r _ [443, 41, 102, 103, 104, 5, 105, 106, 107, 108, 109, 71, 72, 73, 74, 75, 76, 77, 43, 234, 235, 236, 237, 45, 207, 208, 209, 210, 211, 212, 213, 444, 445, 446, 447, 47, 495, 496, 497, 498, 499, 500, 501, 502, 503] (by decide +kernel) (by decide +kernel)
set_option maxRecDepth 20000 in
theorem gL_law_X3_knownCombinations : GoodIn wsL_law (wsV RL 112 RX3 yX3_knownCombinations wsX3_knownCombinations) := goodIn_app (goodIn_of _ (by decide +kernel)) ggL_law_X3_knownCombinations
set_option maxRecDepth 20000 in
theorem ggL_law_X2_undo : GoodIn wsL_law wsX2_undo := goodIn_r _ [451, 17, 15, 16, 52, 53, 54, 2, 55, 19, 64, 14, 65, 66, 27, 28, 29, 31, 490, 491, 492, 493, 494, 504, 505, 506, 507] (by decide +kernel) (by decide +kernel)
set_option maxRecDepth 20000 in
theorem gL_law_X2_undo : GoodIn wsL_law (wsV RL 113 RX2 yX2_undo wsX2_undo) := goodIn_app (goodIn_of _ (by decide +kernel)) ggL_law_X2_undo
set_option maxRecDepth 20000 in
theorem ggL_law_X3_undo : GoodIn wsL_law wsX3_undo := goodIn_r _ [455, 82, 41, 42, 74, 75, 76, 5, 77, 43, 495, 496, 497, 498, 499, 500, 501, 502, 503] (by decide +kernel) (by decide +kernel)
set_option maxRecDepth 20000 in
theorem gL_law_X3_undo : GoodIn wsL_law (wsV RL 116 RX3 yX3_undo wsX3_undo) := goodIn_app (goodIn_of _ (by decide +kernel)) ggL_law_X3_undo
set_option maxRecDepth 20000 in
theorem ggL_law_X2_errorCount : GoodIn wsL_law wsX2_errorCount := goodIn_r _ [459, 19, 52, 53, 54, 2, 55, 490, 491, 492, 493, 494] (by decide +kernel) (by decide +kernel)
set_option maxRecDepth 20000 in
theorem gL_law_X2_errorCount : GoodIn wsL_law (wsV RL 117 RX2 yX2_errorCount wsX2_errorCount) := goodIn_app (goodIn_of _ (by decide +kernel)) ggL_law_X2_errorCount
set_option maxRecDepth 20000 in
theorem ggL_law_X3_errorCount : GoodIn wsL_law wsX3_errorCount := goodIn_r _ [463, 43, 71, 72, 5, 73, 74, 75, 76, 77, 495, 496, 497, 498, 499, 500, 501, 502, 503] (by decide +kernel) (by decide +kernel)
set_option maxRecDepth 20000 in
theorem gL_law_X3_errorCount : GoodIn wsL_law (wsV RL 120 RX3 yX3_errorCount wsX3_errorCount) := goodIn_app (goodIn_of _ (by decide +kernel)) ggL_law_X3_errorCount
set_option maxRecDepth 20000 in
theorem ggL_law_X2_digest : GoodIn wsL_law wsX2_digest := goodIn_r _ [467, 468, 19, 15, 17, 469, 470, 2, 471, 472, 172, 173, 174, 175, 23, 134, 22, 135, 136, 36, 91, 92, 93, 94, 176, 177, 178, 179, 137, 138, 139, 35, 140, 141, 142, 143, 473, 223, 224, 225, 474, 239, 240, 241, 242, 243, 244, 245, 475, 378, 379, 380, 381, 382, 383, 384, 196, 197, 198, 199, 200, 201, 202, 476, 314, 315, 316, 317, 318, 319, 320, 265, 266, 267, 268, 192, 193, 194, 195, 353, 354, 355, 356, 329, 330, 331, 332, 490, 491, 492, 493, 494, 504, 505, 506, 507, 508, 509] (by decide +kernel) (by decide +kernel)
set_option maxRecDepth 20000 in
theorem gL_law_X2_digest : GoodIn wsL_law (wsV RL 121 RX2 yX2_digest wsX2_digest) := goodIn_app (goodIn_of _ (by decide +kernel)) ggL_law_X2_digest
set_option maxRecDepth 20000 in
theorem ggL_law_X3_digest : GoodIn wsL_law wsX3_digest := goodIn_r _ [480, 481, 482, 43, 41, 82, 483, 484, 485, 5, 486, 487, 106, 107, 108, 109, 184, 185, 186, 187, 44, 230, 231, 232, 233, 45, 234, 235, 236, 237, 207, 208, 209, 210, 211, 212, 213, 250, 251, 252, 253, 46, 488, 386, 387, 388, 365, 366, 367, 368, 337, 338, 339, 340, 341, 342, 343, 344, 489, 322, 323, 324, 297, 298, 299, 300, 301, 302, 303, 304, 495, 496, 497, 498, 499, 500, 501, 502, 503] (by decide +kernel) (by decide +kernel)
set_option maxRecDepth 20000 in
theorem gL_law_X3_digest : GoodIn wsL_law (wsV RL 125 RX3 yX3_digest wsX3_digest) := goodIn_app (goodIn_of _ (by decide +kernel)) ggL_law_X3_digest
theorem dL_law_0 : decode cL_law 0 = .ok (.new 7, 3) := by decide +kernel
theorem dL_law_3 : decode cL_law 3 = .ok (.dup, 1) := by decide +kernel
theorem dL_law_4 : decode cL_law 4 = .ok (.invokespecial 9, 3) := by decide +kernel
theorem dL_law_7 : decode cL_law 7 = .ok (.astore_n 1, 1) := by decide +kernel
theorem dL_law_8 : decode cL_law 8 = .ok (.new 10, 3) := by decide +kernel
theorem dL_law_11 : decode cL_law 11 = .ok (.dup, 1) := by decide +kernel
theorem dL_law_12 : decode cL_law 12 = .ok (.invokespecial 12, 3) := by decide +kernel
theorem dL_law_15 : decode cL_law 15 = .ok (.astore_n 2, 1) := by decide +kernel
theorem dL_law_16 : decode cL_law 16 = .ok (.iconst 0, 1) := by decide +kernel
theorem dL_law_17 : decode cL_law 17 = .ok (.istore_n 3, 1) := by decide +kernel
theorem dL_law_18 : decode cL_law 18 = .ok (.iload_n 3, 1) := by decide +kernel
theorem dL_law_19 : decode cL_law 19 = .ok (.aload_n 0, 1) := by decide +kernel
theorem dL_law_20 : decode cL_law 20 = .ok (.arraylength, 1) := by decide +kernel
theorem dL_law_21 : decode cL_law 21 = .ok (.iconst 4, 1) := by decide +kernel
theorem dL_law_22 : decode cL_law 22 = .ok (.isub, 1) := by decide +kernel
theorem dL_law_23 : decode cL_law 23 = .ok (.if_icmp .gt 741, 3) := by decide +kernel
theorem dL_law_26 : decode cL_law 26 = .ok (.aload_n 0, 1) := by decide +kernel
theorem dL_law_27 : decode cL_law 27 = .ok (.iload_n 3, 1) := by decide +kernel
theorem dL_law_28 : decode cL_law 28 = .ok (.iaload, 1) := by decide +kernel
theorem dL_law_29 : decode cL_law 29 = .ok (.bipush 31, 2) := by decide +kernel
theorem dL_law_31 : decode cL_law 31 = .ok (.iand, 1) := by decide +kernel
theorem dL_law_32 : decode cL_law 32 = .ok (.tableswitch 726 0 26 #[124, 147, 180, 203, 216, 239, 262, 285, 308, 331, 344, 357, 380, 413, 436, 459, 472, 495, 518, 541, 554, 577, 610, 653, 676, 689, 712], 124) := by decide +kernel
theorem dL_law_156 : decode cL_law 156 = .ok (.aload_n 1, 1) := by decide +kernel
theorem dL_law_157 : decode cL_law 157 = .ok (.aload_n 0, 1) := by decide +kernel
theorem dL_law_158 : decode cL_law 158 = .ok (.iload_n 3, 1) := by decide +kernel
theorem dL_law_159 : decode cL_law 159 = .ok (.iconst 1, 1) := by decide +kernel
theorem dL_law_160 : decode cL_law 160 = .ok (.iadd, 1) := by decide +kernel
theorem dL_law_161 : decode cL_law 161 = .ok (.iaload, 1) := by decide +kernel
theorem dL_law_162 : decode cL_law 162 = .ok (.invokevirtual 13, 3) := by decide +kernel
theorem dL_law_165 : decode cL_law 165 = .ok (.aload_n 2, 1) := by decide +kernel
theorem dL_law_166 : decode cL_law 166 = .ok (.aload_n 0, 1) := by decide +kernel
theorem dL_law_167 : decode cL_law 167 = .ok (.iload_n 3, 1) := by decide +kernel
theorem dL_law_168 : decode cL_law 168 = .ok (.iconst 1, 1) := by decide +kernel
theorem dL_law_169 : decode cL_law 169 = .ok (.iadd, 1) := by decide +kernel
theorem dL_law_170 : decode cL_law 170 = .ok (.iaload, 1) := by decide +kernel
theorem dL_law_171 : decode cL_law 171 = .ok (.invokevirtual 17, 3) := by decide +kernel
theorem dL_law_174 : decode cL_law 174 = .ok (.if_icmp .eq 584, 3) := by decide +kernel
theorem dL_law_177 : decode cL_law 177 = .ok (.iconst 0, 1) := by decide +kernel
theorem dL_law_178 : decode cL_law 178 = .ok (.ireturn, 1) := by decide +kernel
theorem dL_law_179 : decode cL_law 179 = .ok (.aload_n 1, 1) := by decide +kernel
theorem dL_law_180 : decode cL_law 180 = .ok (.aload_n 0, 1) := by decide +kernel
theorem dL_law_181 : decode cL_law 181 = .ok (.iload_n 3, 1) := by decide +kernel
theorem dL_law_182 : decode cL_law 182 = .ok (.iconst 1, 1) := by decide +kernel
theorem dL_law_183 : decode cL_law 183 = .ok (.iadd, 1) := by decide +kernel
theorem dL_law_184 : decode cL_law 184 = .ok (.iaload, 1) := by decide +kernel
theorem dL_law_185 : decode cL_law 185 = .ok (.aload_n 0, 1) := by decide +kernel
theorem dL_law_186 : decode cL_law 186 = .ok (.iload_n 3, 1) := by decide +kernel
theorem dL_law_187 : decode cL_law 187 = .ok (.iconst 2, 1) := by decide +kernel
theorem dL_law_188 : decode cL_law 188 = .ok (.iadd, 1) := by decide +kernel
theorem dL_law_189 : decode cL_law 189 = .ok (.iaload, 1) := by decide +kernel
theorem dL_law_190 : decode cL_law 190 = .ok (.invokevirtual 18, 3) := by decide +kernel
theorem dL_law_193 : decode cL_law 193 = .ok (.aload_n 2, 1) := by decide +kernel
theorem dL_law_194 : decode cL_law 194 = .ok (.aload_n 0, 1) := by decide +kernel
theorem dL_law_195 : decode cL_law 195 = .ok (.iload_n 3, 1) := by decide +kernel
theorem dL_law_196 : decode cL_law 196 = .ok (.iconst 1, 1) := by decide +kernel
theorem dL_law_197 : decode cL_law 197 = .ok (.iadd, 1) := by decide +kernel
theorem dL_law_198 : decode cL_law 198 = .ok (.iaload, 1) := by decide +kernel
theorem dL_law_199 : decode cL_law 199 = .ok (.aload_n 0, 1) := by decide +kernel
theorem dL_law_200 : decode cL_law 200 = .ok (.iload_n 3, 1) := by decide +kernel
theorem dL_law_201 : decode cL_law 201 = .ok (.iconst 2, 1) := by decide +kernel
theorem dL_law_202 : decode cL_law 202 = .ok (.iadd, 1) := by decide +kernel
theorem dL_law_203 : decode cL_law 203 = .ok (.iaload, 1) := by decide +kernel
theorem dL_law_204 : decode cL_law 204 = .ok (.invokevirtual 22, 3) := by decide +kernel
theorem dL_law_207 : decode cL_law 207 = .ok (.if_icmp .eq 551, 3) := by decide +kernel
theorem dL_law_210 : decode cL_law 210 = .ok (.iconst 0, 1) := by decide +kernel
theorem dL_law_211 : decode cL_law 211 = .ok (.ireturn, 1) := by decide +kernel
theorem dL_law_212 : decode cL_law 212 = .ok (.aload_n 1, 1) := by decide +kernel
theorem dL_law_213 : decode cL_law 213 = .ok (.aload_n 0, 1) := by decide +kernel
theorem dL_law_214 : decode cL_law 214 = .ok (.iload_n 3, 1) := by decide +kernel
theorem dL_law_215 : decode cL_law 215 = .ok (.iconst 1, 1) := by decide +kernel
theorem dL_law_216 : decode cL_law 216 = .ok (.iadd, 1) := by decide +kernel
theorem dL_law_217 : decode cL_law 217 = .ok (.iaload, 1) := by decide +kernel
theorem dL_law_218 : decode cL_law 218 = .ok (.invokevirtual 23, 3) := by decide +kernel
theorem dL_law_221 : decode cL_law 221 = .ok (.aload_n 2, 1) := by decide +kernel
theorem dL_law_222 : decode cL_law 222 = .ok (.aload_n 0, 1) := by decide +kernel
theorem dL_law_223 : decode cL_law 223 = .ok (.iload_n 3, 1) := by decide +kernel
theorem dL_law_224 : decode cL_law 224 = .ok (.iconst 1, 1) := by decide +kernel
theorem dL_law_225 : decode cL_law 225 = .ok (.iadd, 1) := by decide +kernel
theorem dL_law_226 : decode cL_law 226 = .ok (.iaload, 1) := by decide +kernel
theorem dL_law_227 : decode cL_law 227 = .ok (.invokevirtual 26, 3) := by decide +kernel
theorem dL_law_230 : decode cL_law 230 = .ok (.if_icmp .eq 528, 3) := by decide +kernel
theorem dL_law_233 : decode cL_law 233 = .ok (.iconst 0, 1) := by decide +kernel
theorem dL_law_234 : decode cL_law 234 = .ok (.ireturn, 1) := by decide +kernel
theorem dL_law_235 : decode cL_law 235 = .ok (.aload_n 1, 1) := by decide +kernel
theorem dL_law_236 : decode cL_law 236 = .ok (.invokevirtual 27, 3) := by decide +kernel
theorem dL_law_239 : decode cL_law 239 = .ok (.aload_n 2, 1) := by decide +kernel
theorem dL_law_240 : decode cL_law 240 = .ok (.invokevirtual 31, 3) := by decide +kernel
theorem dL_law_243 : decode cL_law 243 = .ok (.if_icmp .eq 515, 3) := by decide +kernel
theorem dL_law_246 : decode cL_law 246 = .ok (.iconst 0, 1) := by decide +kernel
theorem dL_law_247 : decode cL_law 247 = .ok (.ireturn, 1) := by decide +kernel
theorem dL_law_248 : decode cL_law 248 = .ok (.aload_n 1, 1) := by decide +kernel
theorem dL_law_249 : decode cL_law 249 = .ok (.aload_n 0, 1) := by decide +kernel
theorem dL_law_250 : decode cL_law 250 = .ok (.iload_n 3, 1) := by decide +kernel
theorem dL_law_251 : decode cL_law 251 = .ok (.iconst 1, 1) := by decide +kernel
theorem dL_law_252 : decode cL_law 252 = .ok (.iadd, 1) := by decide +kernel
theorem dL_law_253 : decode cL_law 253 = .ok (.iaload, 1) := by decide +kernel
theorem dL_law_254 : decode cL_law 254 = .ok (.invokevirtual 32, 3) := by decide +kernel
theorem dL_law_257 : decode cL_law 257 = .ok (.aload_n 2, 1) := by decide +kernel
theorem dL_law_258 : decode cL_law 258 = .ok (.aload_n 0, 1) := by decide +kernel
theorem dL_law_259 : decode cL_law 259 = .ok (.iload_n 3, 1) := by decide +kernel
theorem dL_law_260 : decode cL_law 260 = .ok (.iconst 1, 1) := by decide +kernel
theorem dL_law_261 : decode cL_law 261 = .ok (.iadd, 1) := by decide +kernel
theorem dL_law_262 : decode cL_law 262 = .ok (.iaload, 1) := by decide +kernel
theorem dL_law_263 : decode cL_law 263 = .ok (.invokevirtual 35, 3) := by decide +kernel
theorem dL_law_266 : decode cL_law 266 = .ok (.if_icmp .eq 492, 3) := by decide +kernel
theorem dL_law_269 : decode cL_law 269 = .ok (.iconst 0, 1) := by decide +kernel
theorem dL_law_270 : decode cL_law 270 = .ok (.ireturn, 1) := by decide +kernel
theorem dL_law_271 : decode cL_law 271 = .ok (.aload_n 1, 1) := by decide +kernel
theorem dL_law_272 : decode cL_law 272 = .ok (.aload_n 0, 1) := by decide +kernel
theorem dL_law_273 : decode cL_law 273 = .ok (.iload_n 3, 1) := by decide +kernel
theorem dL_law_274 : decode cL_law 274 = .ok (.iconst 1, 1) := by decide +kernel
theorem dL_law_275 : decode cL_law 275 = .ok (.iadd, 1) := by decide +kernel
theorem dL_law_276 : decode cL_law 276 = .ok (.iaload, 1) := by decide +kernel
theorem dL_law_277 : decode cL_law 277 = .ok (.invokevirtual 36, 3) := by decide +kernel
theorem dL_law_280 : decode cL_law 280 = .ok (.aload_n 2, 1) := by decide +kernel
theorem dL_law_281 : decode cL_law 281 = .ok (.aload_n 0, 1) := by decide +kernel
theorem dL_law_282 : decode cL_law 282 = .ok (.iload_n 3, 1) := by decide +kernel
theorem dL_law_283 : decode cL_law 283 = .ok (.iconst 1, 1) := by decide +kernel
theorem dL_law_284 : decode cL_law 284 = .ok (.iadd, 1) := by decide +kernel
theorem dL_law_285 : decode cL_law 285 = .ok (.iaload, 1) := by decide +kernel
theorem dL_law_286 : decode cL_law 286 = .ok (.invokevirtual 39, 3) := by decide +kernel
theorem dL_law_289 : decode cL_law 289 = .ok (.if_icmp .eq 469, 3) := by decide +kernel
theorem dL_law_292 : decode cL_law 292 = .ok (.iconst 0, 1) := by decide +kernel
theorem dL_law_293 : decode cL_law 293 = .ok (.ireturn, 1) := by decide +kernel
theorem dL_law_294 : decode cL_law 294 = .ok (.aload_n 1, 1) := by decide +kernel
theorem dL_law_295 : decode cL_law 295 = .ok (.aload_n 0, 1) := by decide +kernel
theorem dL_law_296 : decode cL_law 296 = .ok (.iload_n 3, 1) := by decide +kernel
theorem dL_law_297 : decode cL_law 297 = .ok (.iconst 1, 1) := by decide +kernel
theorem dL_law_298 : decode cL_law 298 = .ok (.iadd, 1) := by decide +kernel
theorem dL_law_299 : decode cL_law 299 = .ok (.iaload, 1) := by decide +kernel
theorem dL_law_300 : decode cL_law 300 = .ok (.invokevirtual 40, 3) := by decide +kernel
theorem dL_law_303 : decode cL_law 303 = .ok (.aload_n 2, 1) := by decide +kernel
theorem dL_law_304 : decode cL_law 304 = .ok (.aload_n 0, 1) := by decide +kernel
theorem dL_law_305 : decode cL_law 305 = .ok (.iload_n 3, 1) := by decide +kernel
theorem dL_law_306 : decode cL_law 306 = .ok (.iconst 1, 1) := by decide +kernel
theorem dL_law_307 : decode cL_law 307 = .ok (.iadd, 1) := by decide +kernel
theorem dL_law_308 : decode cL_law 308 = .ok (.iaload, 1) := by decide +kernel
theorem dL_law_309 : decode cL_law 309 = .ok (.invokevirtual 43, 3) := by decide +kernel
theorem dL_law_312 : decode cL_law 312 = .ok (.if_icmp .eq 446, 3) := by decide +kernel
theorem dL_law_315 : decode cL_law 315 = .ok (.iconst 0, 1) := by decide +kernel
theorem dL_law_316 : decode cL_law 316 = .ok (.ireturn, 1) := by decide +kernel
theorem dL_law_317 : decode cL_law 317 = .ok (.aload_n 1, 1) := by decide +kernel
theorem dL_law_318 : decode cL_law 318 = .ok (.aload_n 0, 1) := by decide +kernel
theorem dL_law_319 : decode cL_law 319 = .ok (.iload_n 3, 1) := by decide +kernel
theorem dL_law_320 : decode cL_law 320 = .ok (.iconst 1, 1) := by decide +kernel
theorem dL_law_321 : decode cL_law 321 = .ok (.iadd, 1) := by decide +kernel
theorem dL_law_322 : decode cL_law 322 = .ok (.iaload, 1) := by decide +kernel
theorem dL_law_323 : decode cL_law 323 = .ok (.invokevirtual 44, 3) := by decide +kernel
theorem dL_law_326 : decode cL_law 326 = .ok (.aload_n 2, 1) := by decide +kernel
theorem dL_law_327 : decode cL_law 327 = .ok (.aload_n 0, 1) := by decide +kernel
theorem dL_law_328 : decode cL_law 328 = .ok (.iload_n 3, 1) := by decide +kernel
theorem dL_law_329 : decode cL_law 329 = .ok (.iconst 1, 1) := by decide +kernel
theorem dL_law_330 : decode cL_law 330 = .ok (.iadd, 1) := by decide +kernel
theorem dL_law_331 : decode cL_law 331 = .ok (.iaload, 1) := by decide +kernel
theorem dL_law_332 : decode cL_law 332 = .ok (.invokevirtual 47, 3) := by decide +kernel
theorem dL_law_335 : decode cL_law 335 = .ok (.if_icmp .eq 423, 3) := by decide +kernel
theorem dL_law_338 : decode cL_law 338 = .ok (.iconst 0, 1) := by decide +kernel
theorem dL_law_339 : decode cL_law 339 = .ok (.ireturn, 1) := by decide +kernel
theorem dL_law_340 : decode cL_law 340 = .ok (.aload_n 1, 1) := by decide +kernel
theorem dL_law_341 : decode cL_law 341 = .ok (.aload_n 0, 1) := by decide +kernel
theorem dL_law_342 : decode cL_law 342 = .ok (.iload_n 3, 1) := by decide +kernel
theorem dL_law_343 : decode cL_law 343 = .ok (.iconst 1, 1) := by decide +kernel
theorem dL_law_344 : decode cL_law 344 = .ok (.iadd, 1) := by decide +kernel
theorem dL_law_345 : decode cL_law 345 = .ok (.iaload, 1) := by decide +kernel
theorem dL_law_346 : decode cL_law 346 = .ok (.invokevirtual 48, 3) := by decide +kernel
theorem dL_law_349 : decode cL_law 349 = .ok (.aload_n 2, 1) := by decide +kernel
theorem dL_law_350 : decode cL_law 350 = .ok (.aload_n 0, 1) := by decide +kernel
theorem dL_law_351 : decode cL_law 351 = .ok (.iload_n 3, 1) := by decide +kernel
theorem dL_law_352 : decode cL_law 352 = .ok (.iconst 1, 1) := by decide +kernel
theorem dL_law_353 : decode cL_law 353 = .ok (.iadd, 1) := by decide +kernel
theorem dL_law_354 : decode cL_law 354 = .ok (.iaload, 1) := by decide +kernel
theorem dL_law_355 : decode cL_law 355 = .ok (.invokevirtual 51, 3) := by decide +kernel
theorem dL_law_358 : decode cL_law 358 = .ok (.if_icmp .eq 400, 3) := by decide +kernel
theorem dL_law_361 : decode cL_law 361 = .ok (.iconst 0, 1) := by decide +kernel
theorem dL_law_362 : decode cL_law 362 = .ok (.ireturn, 1) := by decide +kernel
theorem dL_law_363 : decode cL_law 363 = .ok (.aload_n 1, 1) := by decide +kernel
theorem dL_law_364 : decode cL_law 364 = .ok (.invokevirtual 52, 3) := by decide +kernel
theorem dL_law_367 : decode cL_law 367 = .ok (.aload_n 2, 1) := by decide +kernel
theorem dL_law_368 : decode cL_law 368 = .ok (.invokevirtual 55, 3) := by decide +kernel
theorem dL_law_371 : decode cL_law 371 = .ok (.if_icmp .eq 387, 3) := by decide +kernel
theorem dL_law_374 : decode cL_law 374 = .ok (.iconst 0, 1) := by decide +kernel
theorem dL_law_375 : decode cL_law 375 = .ok (.ireturn, 1) := by decide +kernel
theorem dL_law_376 : decode cL_law 376 = .ok (.aload_n 1, 1) := by decide +kernel
theorem dL_law_377 : decode cL_law 377 = .ok (.invokevirtual 56, 3) := by decide +kernel
theorem dL_law_380 : decode cL_law 380 = .ok (.aload_n 2, 1) := by decide +kernel
theorem dL_law_381 : decode cL_law 381 = .ok (.invokevirtual 59, 3) := by decide +kernel
theorem dL_law_384 : decode cL_law 384 = .ok (.if_icmp .eq 374, 3) := by decide +kernel
theorem dL_law_387 : decode cL_law 387 = .ok (.iconst 0, 1) := by decide +kernel
theorem dL_law_388 : decode cL_law 388 = .ok (.ireturn, 1) := by decide +kernel
theorem dL_law_389 : decode cL_law 389 = .ok (.aload_n 1, 1) := by decide +kernel
theorem dL_law_390 : decode cL_law 390 = .ok (.aload_n 0, 1) := by decide +kernel
theorem dL_law_391 : decode cL_law 391 = .ok (.iload_n 3, 1) := by decide +kernel
theorem dL_law_392 : decode cL_law 392 = .ok (.iconst 1, 1) := by decide +kernel
theorem dL_law_393 : decode cL_law 393 = .ok (.iadd, 1) := by decide +kernel
theorem dL_law_394 : decode cL_law 394 = .ok (.iaload, 1) := by decide +kernel
theorem dL_law_395 : decode cL_law 395 = .ok (.invokevirtual 60, 3) := by decide +kernel
theorem dL_law_398 : decode cL_law 398 = .ok (.aload_n 2, 1) := by decide +kernel
theorem dL_law_399 : decode cL_law 399 = .ok (.aload_n 0, 1) := by decide +kernel
theorem dL_law_400 : decode cL_law 400 = .ok (.iload_n 3, 1) := by decide +kernel
theorem dL_law_401 : decode cL_law 401 = .ok (.iconst 1, 1) := by decide +kernel
theorem dL_law_402 : decode cL_law 402 = .ok (.iadd, 1) := by decide +kernel
theorem dL_law_403 : decode cL_law 403 = .ok (.iaload, 1) := by decide +kernel
theorem dL_law_404 : decode cL_law 404 = .ok (.invokevirtual 63, 3) := by decide +kernel
theorem dL_law_407 : decode cL_law 407 = .ok (.if_icmp .eq 351, 3) := by decide +kernel
theorem dL_law_410 : decode cL_law 410 = .ok (.iconst 0, 1) := by decide +kernel
theorem dL_law_411 : decode cL_law 411 = .ok (.ireturn, 1) := by decide +kernel
theorem dL_law_412 : decode cL_law 412 = .ok (.aload_n 1, 1) := by decide +kernel
theorem dL_law_413 : decode cL_law 413 = .ok (.aload_n 0, 1) := by decide +kernel
theorem dL_law_414 : decode cL_law 414 = .ok (.iload_n 3, 1) := by decide +kernel
theorem dL_law_415 : decode cL_law 415 = .ok (.iconst 1, 1) := by decide +kernel
theorem dL_law_416 : decode cL_law 416 = .ok (.iadd, 1) := by decide +kernel
theorem dL_law_417 : decode cL_law 417 = .ok (.iaload, 1) := by decide +kernel
theorem dL_law_418 : decode cL_law 418 = .ok (.aload_n 0, 1) := by decide +kernel
theorem dL_law_419 : decode cL_law 419 = .ok (.iload_n 3, 1) := by decide +kernel
theorem dL_law_420 : decode cL_law 420 = .ok (.iconst 2, 1) := by decide +kernel
theorem dL_law_421 : decode cL_law 421 = .ok (.iadd, 1) := by decide +kernel
theorem dL_law_422 : decode cL_law 422 = .ok (.iaload, 1) := by decide +kernel
theorem dL_law_423 : decode cL_law 423 = .ok (.invokevirtual 64, 3) := by decide +kernel
theorem dL_law_426 : decode cL_law 426 = .ok (.aload_n 2, 1) := by decide +kernel
theorem dL_law_427 : decode cL_law 427 = .ok (.aload_n 0, 1) := by decide +kernel
theorem dL_law_428 : decode cL_law 428 = .ok (.iload_n 3, 1) := by decide +kernel
theorem dL_law_429 : decode cL_law 429 = .ok (.iconst 1, 1) := by decide +kernel
theorem dL_law_430 : decode cL_law 430 = .ok (.iadd, 1) := by decide +kernel
theorem dL_law_431 : decode cL_law 431 = .ok (.iaload, 1) := by decide +kernel
theorem dL_law_432 : decode cL_law 432 = .ok (.aload_n 0, 1) := by decide +kernel
theorem dL_law_433 : decode cL_law 433 = .ok (.iload_n 3, 1) := by decide +kernel
theorem dL_law_434 : decode cL_law 434 = .ok (.iconst 2, 1) := by decide +kernel
theorem dL_law_435 : decode cL_law 435 = .ok (.iadd, 1) := by decide +kernel
theorem dL_law_436 : decode cL_law 436 = .ok (.iaload, 1) := by decide +kernel
theorem dL_law_437 : decode cL_law 437 = .ok (.invokevirtual 67, 3) := by decide +kernel
theorem dL_law_440 : decode cL_law 440 = .ok (.if_icmp .eq 318, 3) := by decide +kernel
theorem dL_law_443 : decode cL_law 443 = .ok (.iconst 0, 1) := by decide +kernel
theorem dL_law_444 : decode cL_law 444 = .ok (.ireturn, 1) := by decide +kernel
theorem dL_law_445 : decode cL_law 445 = .ok (.aload_n 1, 1) := by decide +kernel
theorem dL_law_446 : decode cL_law 446 = .ok (.aload_n 0, 1) := by decide +kernel
theorem dL_law_447 : decode cL_law 447 = .ok (.iload_n 3, 1) := by decide +kernel
theorem dL_law_448 : decode cL_law 448 = .ok (.iconst 1, 1) := by decide +kernel
theorem dL_law_449 : decode cL_law 449 = .ok (.iadd, 1) := by decide +kernel
theorem dL_law_450 : decode cL_law 450 = .ok (.iaload, 1) := by decide +kernel
theorem dL_law_451 : decode cL_law 451 = .ok (.invokevirtual 68, 3) := by decide +kernel
theorem dL_law_454 : decode cL_law 454 = .ok (.aload_n 2, 1) := by decide +kernel
theorem dL_law_455 : decode cL_law 455 = .ok (.aload_n 0, 1) := by decide +kernel
theorem dL_law_456 : decode cL_law 456 = .ok (.iload_n 3, 1) := by decide +kernel
theorem dL_law_457 : decode cL_law 457 = .ok (.iconst 1, 1) := by decide +kernel
theorem dL_law_458 : decode cL_law 458 = .ok (.iadd, 1) := by decide +kernel
theorem dL_law_459 : decode cL_law 459 = .ok (.iaload, 1) := by decide +kernel
theorem dL_law_460 : decode cL_law 460 = .ok (.invokevirtual 71, 3) := by decide +kernel
theorem dL_law_463 : decode cL_law 463 = .ok (.if_icmp .eq 295, 3) := by decide +kernel
theorem dL_law_466 : decode cL_law 466 = .ok (.iconst 0, 1) := by decide +kernel
theorem dL_law_467 : decode cL_law 467 = .ok (.ireturn, 1) := by decide +kernel
theorem dL_law_468 : decode cL_law 468 = .ok (.aload_n 1, 1) := by decide +kernel
theorem dL_law_469 : decode cL_law 469 = .ok (.aload_n 0, 1) := by decide +kernel
theorem dL_law_470 : decode cL_law 470 = .ok (.iload_n 3, 1) := by decide +kernel
theorem dL_law_471 : decode cL_law 471 = .ok (.iconst 1, 1) := by decide +kernel
theorem dL_law_472 : decode cL_law 472 = .ok (.iadd, 1) := by decide +kernel
theorem dL_law_473 : decode cL_law 473 = .ok (.iaload, 1) := by decide +kernel
theorem dL_law_474 : decode cL_law 474 = .ok (.invokevirtual 72, 3) := by decide +kernel
theorem dL_law_477 : decode cL_law 477 = .ok (.aload_n 2, 1) := by decide +kernel
theorem dL_law_478 : decode cL_law 478 = .ok (.aload_n 0, 1) := by decide +kernel
theorem dL_law_479 : decode cL_law 479 = .ok (.iload_n 3, 1) := by decide +kernel
theorem dL_law_480 : decode cL_law 480 = .ok (.iconst 1, 1) := by decide +kernel
theorem dL_law_481 : decode cL_law 481 = .ok (.iadd, 1) := by decide +kernel
theorem dL_law_482 : decode cL_law 482 = .ok (.iaload, 1) := by decide +kernel
theorem dL_law_483 : decode cL_law 483 = .ok (.invokevirtual 75, 3) := by decide +kernel
theorem dL_law_486 : decode cL_law 486 = .ok (.if_icmp .eq 272, 3) := by decide +kernel
theorem dL_law_489 : decode cL_law 489 = .ok (.iconst 0, 1) := by decide +kernel
theorem dL_law_490 : decode cL_law 490 = .ok (.ireturn, 1) := by decide +kernel
theorem dL_law_491 : decode cL_law 491 = .ok (.aload_n 1, 1) := by decide +kernel
theorem dL_law_492 : decode cL_law 492 = .ok (.invokevirtual 76, 3) := by decide +kernel
theorem dL_law_495 : decode cL_law 495 = .ok (.aload_n 2, 1) := by decide +kernel
theorem dL_law_496 : decode cL_law 496 = .ok (.invokevirtual 79, 3) := by decide +kernel
theorem dL_law_499 : decode cL_law 499 = .ok (.if_icmp .eq 259, 3) := by decide +kernel
theorem dL_law_502 : decode cL_law 502 = .ok (.iconst 0, 1) := by decide +kernel
theorem dL_law_503 : decode cL_law 503 = .ok (.ireturn, 1) := by decide +kernel
theorem dL_law_504 : decode cL_law 504 = .ok (.aload_n 1, 1) := by decide +kernel
theorem dL_law_505 : decode cL_law 505 = .ok (.aload_n 0, 1) := by decide +kernel
theorem dL_law_506 : decode cL_law 506 = .ok (.iload_n 3, 1) := by decide +kernel
theorem dL_law_507 : decode cL_law 507 = .ok (.iconst 1, 1) := by decide +kernel
theorem dL_law_508 : decode cL_law 508 = .ok (.iadd, 1) := by decide +kernel
theorem dL_law_509 : decode cL_law 509 = .ok (.iaload, 1) := by decide +kernel
theorem dL_law_510 : decode cL_law 510 = .ok (.invokevirtual 80, 3) := by decide +kernel
theorem dL_law_513 : decode cL_law 513 = .ok (.aload_n 2, 1) := by decide +kernel
theorem dL_law_514 : decode cL_law 514 = .ok (.aload_n 0, 1) := by decide +kernel
theorem dL_law_515 : decode cL_law 515 = .ok (.iload_n 3, 1) := by decide +kernel
theorem dL_law_516 : decode cL_law 516 = .ok (.iconst 1, 1) := by decide +kernel
theorem dL_law_517 : decode cL_law 517 = .ok (.iadd, 1) := by decide +kernel
theorem dL_law_518 : decode cL_law 518 = .ok (.iaload, 1) := by decide +kernel
theorem dL_law_519 : decode cL_law 519 = .ok (.invokevirtual 83, 3) := by decide +kernel
theorem dL_law_522 : decode cL_law 522 = .ok (.if_icmp .eq 236, 3) := by decide +kernel
theorem dL_law_525 : decode cL_law 525 = .ok (.iconst 0, 1) := by decide +kernel
theorem dL_law_526 : decode cL_law 526 = .ok (.ireturn, 1) := by decide +kernel
theorem dL_law_527 : decode cL_law 527 = .ok (.aload_n 1, 1) := by decide +kernel
theorem dL_law_528 : decode cL_law 528 = .ok (.aload_n 0, 1) := by decide +kernel
theorem dL_law_529 : decode cL_law 529 = .ok (.iload_n 3, 1) := by decide +kernel
theorem dL_law_530 : decode cL_law 530 = .ok (.iconst 1, 1) := by decide +kernel
theorem dL_law_531 : decode cL_law 531 = .ok (.iadd, 1) := by decide +kernel
theorem dL_law_532 : decode cL_law 532 = .ok (.iaload, 1) := by decide +kernel
theorem dL_law_533 : decode cL_law 533 = .ok (.invokevirtual 84, 3) := by decide +kernel
theorem dL_law_536 : decode cL_law 536 = .ok (.aload_n 2, 1) := by decide +kernel
theorem dL_law_537 : decode cL_law 537 = .ok (.aload_n 0, 1) := by decide +kernel
theorem dL_law_538 : decode cL_law 538 = .ok (.iload_n 3, 1) := by decide +kernel
theorem dL_law_539 : decode cL_law 539 = .ok (.iconst 1, 1) := by decide +kernel
theorem dL_law_540 : decode cL_law 540 = .ok (.iadd, 1) := by decide +kernel
theorem dL_law_541 : decode cL_law 541 = .ok (.iaload, 1) := by decide +kernel
theorem dL_law_542 : decode cL_law 542 = .ok (.invokevirtual 87, 3) := by decide +kernel
theorem dL_law_545 : decode cL_law 545 = .ok (.if_icmp .eq 213, 3) := by decide +kernel
theorem dL_law_548 : decode cL_law 548 = .ok (.iconst 0, 1) := by decide +kernel
theorem dL_law_549 : decode cL_law 549 = .ok (.ireturn, 1) := by decide +kernel
theorem dL_law_550 : decode cL_law 550 = .ok (.aload_n 1, 1) := by decide +kernel
theorem dL_law_551 : decode cL_law 551 = .ok (.aload_n 0, 1) := by decide +kernel
theorem dL_law_552 : decode cL_law 552 = .ok (.iload_n 3, 1) := by decide +kernel
theorem dL_law_553 : decode cL_law 553 = .ok (.iconst 1, 1) := by decide +kernel
theorem dL_law_554 : decode cL_law 554 = .ok (.iadd, 1) := by decide +kernel
theorem dL_law_555 : decode cL_law 555 = .ok (.iaload, 1) := by decide +kernel
theorem dL_law_556 : decode cL_law 556 = .ok (.invokevirtual 88, 3) := by decide +kernel
theorem dL_law_559 : decode cL_law 559 = .ok (.aload_n 2, 1) := by decide +kernel
theorem dL_law_560 : decode cL_law 560 = .ok (.aload_n 0, 1) := by decide +kernel
theorem dL_law_561 : decode cL_law 561 = .ok (.iload_n 3, 1) := by decide +kernel
theorem dL_law_562 : decode cL_law 562 = .ok (.iconst 1, 1) := by decide +kernel
theorem dL_law_563 : decode cL_law 563 = .ok (.iadd, 1) := by decide +kernel
theorem dL_law_564 : decode cL_law 564 = .ok (.iaload, 1) := by decide +kernel
theorem dL_law_565 : decode cL_law 565 = .ok (.invokevirtual 91, 3) := by decide +kernel
theorem dL_law_568 : decode cL_law 568 = .ok (.if_icmp .eq 190, 3) := by decide +kernel
theorem dL_law_571 : decode cL_law 571 = .ok (.iconst 0, 1) := by decide +kernel
theorem dL_law_572 : decode cL_law 572 = .ok (.ireturn, 1) := by decide +kernel
theorem dL_law_573 : decode cL_law 573 = .ok (.aload_n 1, 1) := by decide +kernel
theorem dL_law_574 : decode cL_law 574 = .ok (.invokevirtual 92, 3) := by decide +kernel
theorem dL_law_577 : decode cL_law 577 = .ok (.aload_n 2, 1) := by decide +kernel
theorem dL_law_578 : decode cL_law 578 = .ok (.invokevirtual 95, 3) := by decide +kernel
theorem dL_law_581 : decode cL_law 581 = .ok (.if_icmp .eq 177, 3) := by decide +kernel
theorem dL_law_584 : decode cL_law 584 = .ok (.iconst 0, 1) := by decide +kernel
theorem dL_law_585 : decode cL_law 585 = .ok (.ireturn, 1) := by decide +kernel
theorem dL_law_586 : decode cL_law 586 = .ok (.aload_n 1, 1) := by decide +kernel
theorem dL_law_587 : decode cL_law 587 = .ok (.aload_n 0, 1) := by decide +kernel
theorem dL_law_588 : decode cL_law 588 = .ok (.iload_n 3, 1) := by decide +kernel
theorem dL_law_589 : decode cL_law 589 = .ok (.iconst 1, 1) := by decide +kernel
theorem dL_law_590 : decode cL_law 590 = .ok (.iadd, 1) := by decide +kernel
theorem dL_law_591 : decode cL_law 591 = .ok (.iaload, 1) := by decide +kernel
theorem dL_law_592 : decode cL_law 592 = .ok (.invokevirtual 96, 3) := by decide +kernel
theorem dL_law_595 : decode cL_law 595 = .ok (.aload_n 2, 1) := by decide +kernel
theorem dL_law_596 : decode cL_law 596 = .ok (.aload_n 0, 1) := by decide +kernel
theorem dL_law_597 : decode cL_law 597 = .ok (.iload_n 3, 1) := by decide +kernel
theorem dL_law_598 : decode cL_law 598 = .ok (.iconst 1, 1) := by decide +kernel
theorem dL_law_599 : decode cL_law 599 = .ok (.iadd, 1) := by decide +kernel
theorem dL_law_600 : decode cL_law 600 = .ok (.iaload, 1) := by decide +kernel
theorem dL_law_601 : decode cL_law 601 = .ok (.invokevirtual 99, 3) := by decide +kernel
theorem dL_law_604 : decode cL_law 604 = .ok (.if_icmp .eq 154, 3) := by decide +kernel
theorem dL_law_607 : decode cL_law 607 = .ok (.iconst 0, 1) := by decide +kernel
theorem dL_law_608 : decode cL_law 608 = .ok (.ireturn, 1) := by decide +kernel
theorem dL_law_609 : decode cL_law 609 = .ok (.aload_n 1, 1) := by decide +kernel
theorem dL_law_610 : decode cL_law 610 = .ok (.aload_n 0, 1) := by decide +kernel
theorem dL_law_611 : decode cL_law 611 = .ok (.iload_n 3, 1) := by decide +kernel
theorem dL_law_612 : decode cL_law 612 = .ok (.iconst 1, 1) := by decide +kernel
theorem dL_law_613 : decode cL_law 613 = .ok (.iadd, 1) := by decide +kernel
theorem dL_law_614 : decode cL_law 614 = .ok (.iaload, 1) := by decide +kernel
theorem dL_law_615 : decode cL_law 615 = .ok (.aload_n 0, 1) := by decide +kernel
theorem dL_law_616 : decode cL_law 616 = .ok (.iload_n 3, 1) := by decide +kernel
theorem dL_law_617 : decode cL_law 617 = .ok (.iconst 2, 1) := by decide +kernel
theorem dL_law_618 : decode cL_law 618 = .ok (.iadd, 1) := by decide +kernel
theorem dL_law_619 : decode cL_law 619 = .ok (.iaload, 1) := by decide +kernel
theorem dL_law_620 : decode cL_law 620 = .ok (.invokevirtual 100, 3) := by decide +kernel
theorem dL_law_623 : decode cL_law 623 = .ok (.aload_n 2, 1) := by decide +kernel
theorem dL_law_624 : decode cL_law 624 = .ok (.aload_n 0, 1) := by decide +kernel
theorem dL_law_625 : decode cL_law 625 = .ok (.iload_n 3, 1) := by decide +kernel
theorem dL_law_626 : decode cL_law 626 = .ok (.iconst 1, 1) := by decide +kernel
theorem dL_law_627 : decode cL_law 627 = .ok (.iadd, 1) := by decide +kernel
theorem dL_law_628 : decode cL_law 628 = .ok (.iaload, 1) := by decide +kernel
theorem dL_law_629 : decode cL_law 629 = .ok (.aload_n 0, 1) := by decide +kernel
theorem dL_law_630 : decode cL_law 630 = .ok (.iload_n 3, 1) := by decide +kernel
theorem dL_law_631 : decode cL_law 631 = .ok (.iconst 2, 1) := by decide +kernel
theorem dL_law_632 : decode cL_law 632 = .ok (.iadd, 1) := by decide +kernel
theorem dL_law_633 : decode cL_law 633 = .ok (.iaload, 1) := by decide +kernel
theorem dL_law_634 : decode cL_law 634 = .ok (.invokevirtual 103, 3) := by decide +kernel
theorem dL_law_637 : decode cL_law 637 = .ok (.if_icmp .eq 121, 3) := by decide +kernel
theorem dL_law_640 : decode cL_law 640 = .ok (.iconst 0, 1) := by decide +kernel
theorem dL_law_641 : decode cL_law 641 = .ok (.ireturn, 1) := by decide +kernel
theorem dL_law_642 : decode cL_law 642 = .ok (.aload_n 1, 1) := by decide +kernel
theorem dL_law_643 : decode cL_law 643 = .ok (.aload_n 0, 1) := by decide +kernel
theorem dL_law_644 : decode cL_law 644 = .ok (.iload_n 3, 1) := by decide +kernel
theorem dL_law_645 : decode cL_law 645 = .ok (.iconst 1, 1) := by decide +kernel
theorem dL_law_646 : decode cL_law 646 = .ok (.iadd, 1) := by decide +kernel
theorem dL_law_647 : decode cL_law 647 = .ok (.iaload, 1) := by decide +kernel
theorem dL_law_648 : decode cL_law 648 = .ok (.aload_n 0, 1) := by decide +kernel
theorem dL_law_649 : decode cL_law 649 = .ok (.iload_n 3, 1) := by decide +kernel
theorem dL_law_650 : decode cL_law 650 = .ok (.iconst 2, 1) := by decide +kernel
theorem dL_law_651 : decode cL_law 651 = .ok (.iadd, 1) := by decide +kernel
theorem dL_law_652 : decode cL_law 652 = .ok (.iaload, 1) := by decide +kernel
theorem dL_law_653 : decode cL_law 653 = .ok (.aload_n 0, 1) := by decide +kernel
theorem dL_law_654 : decode cL_law 654 = .ok (.iload_n 3, 1) := by decide +kernel
theorem dL_law_655 : decode cL_law 655 = .ok (.iconst 3, 1) := by decide +kernel
theorem dL_law_656 : decode cL_law 656 = .ok (.iadd, 1) := by decide +kernel
theorem dL_law_657 : decode cL_law 657 = .ok (.iaload, 1) := by decide +kernel
theorem dL_law_658 : decode cL_law 658 = .ok (.invokevirtual 104, 3) := by decide +kernel
theorem dL_law_661 : decode cL_law 661 = .ok (.aload_n 2, 1) := by decide +kernel
theorem dL_law_662 : decode cL_law 662 = .ok (.aload_n 0, 1) := by decide +kernel
theorem dL_law_663 : decode cL_law 663 = .ok (.iload_n 3, 1) := by decide +kernel
theorem dL_law_664 : decode cL_law 664 = .ok (.iconst 1, 1) := by decide +kernel
theorem dL_law_665 : decode cL_law 665 = .ok (.iadd, 1) := by decide +kernel
theorem dL_law_666 : decode cL_law 666 = .ok (.iaload, 1) := by decide +kernel
theorem dL_law_667 : decode cL_law 667 = .ok (.aload_n 0, 1) := by decide +kernel
theorem dL_law_668 : decode cL_law 668 = .ok (.iload_n 3, 1) := by decide +kernel
theorem dL_law_669 : decode cL_law 669 = .ok (.iconst 2, 1) := by decide +kernel
theorem dL_law_670 : decode cL_law 670 = .ok (.iadd, 1) := by decide +kernel
theorem dL_law_671 : decode cL_law 671 = .ok (.iaload, 1) := by decide +kernel
theorem dL_law_672 : decode cL_law 672 = .ok (.aload_n 0, 1) := by decide +kernel
theorem dL_law_673 : decode cL_law 673 = .ok (.iload_n 3, 1) := by decide +kernel
theorem dL_law_674 : decode cL_law 674 = .ok (.iconst 3, 1) := by decide +kernel
theorem dL_law_675 : decode cL_law 675 = .ok (.iadd, 1) := by decide +kernel
theorem dL_law_676 : decode cL_law 676 = .ok (.iaload, 1) := by decide +kernel
theorem dL_law_677 : decode cL_law 677 = .ok (.invokevirtual 108, 3) := by decide +kernel
theorem dL_law_680 : decode cL_law 680 = .ok (.if_icmp .eq 78, 3) := by decide +kernel
theorem dL_law_683 : decode cL_law 683 = .ok (.iconst 0, 1) := by decide +kernel
theorem dL_law_684 : decode cL_law 684 = .ok (.ireturn, 1) := by decide +kernel
theorem dL_law_685 : decode cL_law 685 = .ok (.aload_n 1, 1) := by decide +kernel
theorem dL_law_686 : decode cL_law 686 = .ok (.aload_n 0, 1) := by decide +kernel
theorem dL_law_687 : decode cL_law 687 = .ok (.iload_n 3, 1) := by decide +kernel
theorem dL_law_688 : decode cL_law 688 = .ok (.iconst 1, 1) := by decide +kernel
theorem dL_law_689 : decode cL_law 689 = .ok (.iadd, 1) := by decide +kernel
theorem dL_law_690 : decode cL_law 690 = .ok (.iaload, 1) := by decide +kernel
theorem dL_law_691 : decode cL_law 691 = .ok (.invokevirtual 109, 3) := by decide +kernel
theorem dL_law_694 : decode cL_law 694 = .ok (.aload_n 2, 1) := by decide +kernel
theorem dL_law_695 : decode cL_law 695 = .ok (.aload_n 0, 1) := by decide +kernel
theorem dL_law_696 : decode cL_law 696 = .ok (.iload_n 3, 1) := by decide +kernel
theorem dL_law_697 : decode cL_law 697 = .ok (.iconst 1, 1) := by decide +kernel
theorem dL_law_698 : decode cL_law 698 = .ok (.iadd, 1) := by decide +kernel
theorem dL_law_699 : decode cL_law 699 = .ok (.iaload, 1) := by decide +kernel
theorem dL_law_700 : decode cL_law 700 = .ok (.invokevirtual 112, 3) := by decide +kernel
theorem dL_law_703 : decode cL_law 703 = .ok (.if_icmp .eq 55, 3) := by decide +kernel
theorem dL_law_706 : decode cL_law 706 = .ok (.iconst 0, 1) := by decide +kernel
theorem dL_law_707 : decode cL_law 707 = .ok (.ireturn, 1) := by decide +kernel
theorem dL_law_708 : decode cL_law 708 = .ok (.aload_n 1, 1) := by decide +kernel
theorem dL_law_709 : decode cL_law 709 = .ok (.invokevirtual 113, 3) := by decide +kernel
theorem dL_law_712 : decode cL_law 712 = .ok (.aload_n 2, 1) := by decide +kernel
theorem dL_law_713 : decode cL_law 713 = .ok (.invokevirtual 116, 3) := by decide +kernel
theorem dL_law_716 : decode cL_law 716 = .ok (.if_icmp .eq 42, 3) := by decide +kernel
theorem dL_law_719 : decode cL_law 719 = .ok (.iconst 0, 1) := by decide +kernel
theorem dL_law_720 : decode cL_law 720 = .ok (.ireturn, 1) := by decide +kernel
theorem dL_law_721 : decode cL_law 721 = .ok (.aload_n 1, 1) := by decide +kernel
theorem dL_law_722 : decode cL_law 722 = .ok (.aload_n 0, 1) := by decide +kernel
theorem dL_law_723 : decode cL_law 723 = .ok (.iload_n 3, 1) := by decide +kernel
theorem dL_law_724 : decode cL_law 724 = .ok (.iconst 1, 1) := by decide +kernel
theorem dL_law_725 : decode cL_law 725 = .ok (.iadd, 1) := by decide +kernel
theorem dL_law_726 : decode cL_law 726 = .ok (.iaload, 1) := by decide +kernel
theorem dL_law_727 : decode cL_law 727 = .ok (.invokevirtual 117, 3) := by decide +kernel
theorem dL_law_730 : decode cL_law 730 = .ok (.aload_n 2, 1) := by decide +kernel
theorem dL_law_731 : decode cL_law 731 = .ok (.aload_n 0, 1) := by decide +kernel
theorem dL_law_732 : decode cL_law 732 = .ok (.iload_n 3, 1) := by decide +kernel
theorem dL_law_733 : decode cL_law 733 = .ok (.iconst 1, 1) := by decide +kernel
theorem dL_law_734 : decode cL_law 734 = .ok (.iadd, 1) := by decide +kernel
theorem dL_law_735 : decode cL_law 735 = .ok (.iaload, 1) := by decide +kernel
theorem dL_law_736 : decode cL_law 736 = .ok (.invokevirtual 120, 3) := by decide +kernel
theorem dL_law_739 : decode cL_law 739 = .ok (.if_icmp .eq 19, 3) := by decide +kernel
theorem dL_law_742 : decode cL_law 742 = .ok (.iconst 0, 1) := by decide +kernel
theorem dL_law_743 : decode cL_law 743 = .ok (.ireturn, 1) := by decide +kernel
theorem dL_law_744 : decode cL_law 744 = .ok (.aload_n 1, 1) := by decide +kernel
theorem dL_law_745 : decode cL_law 745 = .ok (.invokevirtual 121, 3) := by decide +kernel
theorem dL_law_748 : decode cL_law 748 = .ok (.aload_n 2, 1) := by decide +kernel
theorem dL_law_749 : decode cL_law 749 = .ok (.invokevirtual 125, 3) := by decide +kernel
theorem dL_law_752 : decode cL_law 752 = .ok (.lcmp, 1) := by decide +kernel
theorem dL_law_753 : decode cL_law 753 = .ok (.ifCond .eq 5, 3) := by decide +kernel
theorem dL_law_756 : decode cL_law 756 = .ok (.iconst 0, 1) := by decide +kernel
theorem dL_law_757 : decode cL_law 757 = .ok (.ireturn, 1) := by decide +kernel
theorem dL_law_758 : decode cL_law 758 = .ok (.iinc 3 4, 3) := by decide +kernel
theorem dL_law_761 : decode cL_law 761 = .ok (.goto (-743), 3) := by decide +kernel
theorem dL_law_764 : decode cL_law 764 = .ok (.iconst 1, 1) := by decide +kernel
theorem dL_law_765 : decode cL_law 765 = .ok (.ireturn, 1) := by decide +kernel
abbrev vwCl : List vw_C := [(RX0, TX0, 2), (RX1, TX1, 4), (RX2, TX2, 5), (RX3, TX3, 9)]
end
section
/-! ===== my own words for the walk ===== -/
/-- layouts of the classes, and the classes of int[], boolean[], State[] -/
abbrev KK : Type := va_G × ClassId × ClassId × ClassId
def TY (K : KK) : List (ClassId × FieldType) := [(K.2.1, .int), (K.2.2.1, .boolean), (K.2.2.2, .object RX1)]
/-- the words on nest mates' private members -/
def NW (U : State) : Prop := va_Nw (.fieldLinkNest RX2 42 RX1 "length" "I" RX2) U ∧ va_Nw (.fieldLinkNest RX2 45 RX1 "size" "I" RX2) U ∧ va_Nw (.fieldLinkNest RX2 59 RX1 "words" "[I" RX2) U ∧ va_Nw (.fieldLinkNest RX2 62 RX1 "checks" "[Z" RX2) U ∧ va_Nw (.methodLinkNest RX2 11 yX1_init RX2) U ∧ va_Nw (.methodLinkNest RX2 30 yX0_init RX2) U ∧ va_Nw (.methodLinkNest RX2 52 yX1_put RX2) U ∧ va_Nw (.methodLinkNest RX2 66 yX0_clear RX2) U ∧ va_Nw (.methodLinkNest RX2 69 yX0_extend RX2) U ∧ va_Nw (.methodLinkNest RX2 134 yX1_copyFrom RX2) U
theorem NW.warm {s U : State} (h : NW s) (hW : s.WarmedH U.vm) : NW U := ⟨va_Nw.warmF hW h.1, va_Nw.warmF hW h.2.1, va_Nw.warmF hW h.2.2.1, va_Nw.warmF hW h.2.2.2.1, va_Nw.warmM hW h.2.2.2.2.1, va_Nw.warmM hW h.2.2.2.2.2.1, va_Nw.warmM hW h.2.2.2.2.2.2.1, va_Nw.warmM hW h.2.2.2.2.2.2.2.1, va_Nw.warmM hW h.2.2.2.2.2.2.2.2.1, va_Nw.warmM hW h.2.2.2.2.2.2.2.2.2⟩
theorem NW.same {u U : State} (h : NW u) (e : u.vm = U.vm) : NW U := ⟨va_Nw.same rfl e h.1, va_Nw.same rfl e h.2.1, va_Nw.same rfl e h.2.2.1, va_Nw.same rfl e h.2.2.2.1, va_Nw.same rfl e h.2.2.2.2.1, va_Nw.same rfl e h.2.2.2.2.2.1, va_Nw.same rfl e h.2.2.2.2.2.2.1, va_Nw.same rfl e h.2.2.2.2.2.2.2.1, va_Nw.same rfl e h.2.2.2.2.2.2.2.2.1, va_Nw.same rfl e h.2.2.2.2.2.2.2.2.2⟩
/-- what holds all through a method -/
def Cx (p : Program) (s : State) (m : MethodId) (args : Array Value) (meth : Method) (c : Code) (K : KK) (A : Nat → Prop) (cc : ByteArray) (nL : Nat) (own : String) (Ts : List Cond) (ret : Option FieldType) : Prop :=
  (p.tables.exec = Jvm.exec ∧ c.code = cc ∧ c.maxLocals = nL ∧ s.vm.findClass own = some m.cls ∧ ∀ w ∈ Ts, w.before args s = true) ∧ va_K K.1 vwCl (TY K) s ∧ NW s ∧ meth.sig.returnType = ret ∧ meth.locks = false ∧ ∀ q, s.heap.size ≤ q → A q
/-- the machine, at pc with these locals and this stack, in any heap that holds the world ws, comes to Q -/
def Go (p : Program) (l : Launch) (e : Env) (R : Room) (s : State) (m : MethodId) (args : Array Value) (below : List Frame) (meth : Method) (c : Code) (K : KK) (A : Nat → Prop) (nL cells slots : Nat) (Q : State → Prop) (ws : va_W) (pc : Nat) (lv : List (Nat × Value)) (st : List Value) : Prop :=
  ∀ (H : Heap) (locs : List Loc) (ls : Array Slot), va_P K.1 vwCl ws H → va_D A ws → va_S A s.heap H locs → lv_has ls nL lv → W p l e R s m args below meth c H locs cells slots Q (F0 m pc ls st)
def RM (d : Nat) : Room := { frames := d, cells := 0, slots := 0, locals := 40 * d }
def QR (K : KK) (res : Option Value) (ws' : va_W) (A : Nat → Prop) : Array Value → State → Outcome → State → Prop := fun _ st oc t => oc = .returned res ∧ va_P K.1 vwCl ws' t.heap ∧ va_D A ws' ∧ va_F A st t
/-- a contract over a world: from ws with arguments av the method answers res, and leaves ws' -/
def Con (l : Launch) (y : MethodName) (wsy : List Cond) (d : Nat) (K : KK) (av : List Value) (ws : va_W) (res : Option Value) (ws' : va_W) : Prop :=
  ∀ sz : Nat, Met l y wsy (RM d) (va_Pc av (fun U => U.heap.size = sz ∧ va_P K.1 vwCl ws U.heap ∧ va_K K.1 vwCl (TY K) U ∧ va_D (fun _ => True) ws ∧ NW U)) (QR K res ws' (va_A ws sz)) 0 0 (va_A ws sz)
theorem con_of {l : Launch} {y : MethodName} {wsy wsy' : List Cond} {d : Nat} {K : KK} {av : List Value} {ws : va_W} {res : Option Value} {w' : va_W} {cc : ByteArray} {maxL : Nat} {ret : Option FieldType} {own : String} {lv0 : List (Nat × Value)}
    (hy : plainName y.cls = true) (hw : wsy = Cond.code y cc maxL ret :: wsy') (hown : y.cls = own) (hlen : (lg_sl av).length ≤ maxL) (hlv : lv_args 0 av = lv0)
    (body : ∀ (p : Program) (e : Env) (s : State) (m : MethodId) (args : Array Value) (below : List Frame) (meth : Method) (c : Code) (A : Nat → Prop), Cx p s m args meth c K A cc maxL own wsy ret → Go p l e (RM d) s m args below meth c K A maxL 0 0 (MQ below (QR K res w' A) args s 0 0 A) ws 0 lv0 []) : Con l y wsy d K av ws res w' := by
  intro sz
  refine Met.ofW (cc := cc) (maxL := maxL) (ret := ret) hy hw ?_
  intro p e s m args below meth c s₁ B hml hv
  obtain ⟨rfl, hsz, hP, hK, hD0, hN⟩ := hv
  subst hsz
  have hD := hD0.self (sz := s.heap.size)
  have C : Cx p s m av.toArray meth c K (va_A ws s.heap.size) cc maxL own wsy ret := ⟨⟨B.exec, B.bytes, hml, by rw [← hown]; exact findClass_of_methodNamed B.named, atoms_spec (ws := wsy) B.pre⟩, hK, hN, B.returns, B.notSynchronized, fun q h => Or.inr h⟩
  have hl := lv_entry av hlen
  rw [lg_entry_eq]
  rw [hlv] at hl
  exact body p e s m av.toArray below meth c _ C s.heap [] _ hP hD va_S.rf hl
theorem free_of {A : Nat → Prop} {ws : va_W} {H0 H : Heap} {locs : List Loc} (hD : va_D A ws) (hS : va_S A H0 H locs) (hA : ∀ q, H0.size ≤ q → A q) : ∀ q, va_A ws H.size q → A q := fun q h => h.elim (fun ⟨k, e, h⟩ => hD.2 k (q, e) h) (fun h => hA q (Nat.le_trans hS.1 h))
/-! two worlds side by side -/
theorem vP_l {D : va_G} {w1 w2 : va_W} {H : Heap} (h : va_P D vwCl (w1 ++ w2) H) : va_P D vwCl w1 H := fun k q hk => h k q (by rw [List.getElem?_append_left (List.getElem?_eq_some_iff.mp hk).1]; exact hk)
theorem vP_r {D : va_G} {w1 w2 : va_W} {H : Heap} (h : va_P D vwCl (w1 ++ w2) H) : va_P D vwCl w2 H := fun k q hk => h (w1.length + k) q (by rw [List.getElem?_append_right (by omega)]; rw [Nat.add_sub_cancel_left]; exact hk)
theorem vD_l {A : Nat → Prop} {w1 w2 : va_W} (h : va_D A (w1 ++ w2)) : va_D A w1 := by
  have key : ∀ (k : Nat) (q : Nat × va_E), w1[k]? = some q → (w1 ++ w2)[k]? = some q := fun k q hk => by rw [List.getElem?_append_left (List.getElem?_eq_some_iff.mp hk).1]; exact hk
  exact ⟨fun i j p q hi hj => h.1 i j p q (key i p hi) (key j q hj), fun k q hk => h.2 k q (key k q hk)⟩
theorem vD_rk {w1 w2 : va_W} (k : Nat) (q : Nat × va_E) (hk : w2[k]? = some q) : (w1 ++ w2)[w1.length + k]? = some q := by
  rw [List.getElem?_append_right (by omega), Nat.add_sub_cancel_left]; exact hk
theorem vD_r {A : Nat → Prop} {w1 w2 : va_W} (h : va_D A (w1 ++ w2)) : va_D A w2 :=
  ⟨fun i j p q hi hj e => by have := h.1 _ _ p q (vD_rk i p hi) (vD_rk j q hj) e; omega, fun k q hk => h.2 _ q (vD_rk k q hk)⟩
theorem vD_x {A : Nat → Prop} {w1 w2 : va_W} (h : va_D A (w1 ++ w2)) {i j : Nat} {p q : Nat × va_E} (hi : w1[i]? = some p) (hj : w2[j]? = some q) : p.1 ≠ q.1 := by
  intro e
  have hl := (List.getElem?_eq_some_iff.mp hi).1
  have := h.1 i _ p q (by rw [List.getElem?_append_left hl]; exact hi) (vD_rk j q hj) e
  omega
theorem join_l {A : Nat → Prop} {D : va_G} {w1 w2 w1' : va_W} {H H1 : Heap} (hP : va_P D vwCl (w1 ++ w2) H) (hD : va_D A (w1 ++ w2)) (hF : ∀ q, va_A w1 H.size q → A q) (hP1 : va_P D vwCl w1' H1) (hD1 : va_D (va_A w1 H.size) w1') (hk : ∀ q : Nat, q < H.size → ¬ va_A w1 H.size q → H1[q]? = H[q]?) : va_P D vwCl (w1' ++ w2) H1 ∧ va_D A (w1' ++ w2) := by
  have apart : ∀ (k : Nat) (q : Nat × va_E), w2[k]? = some q → q.1 < H.size ∧ ¬ va_A w1 H.size q.1 := by
    intro k q hq
    have hl := (vP_r hP k q hq).lt
    refine ⟨hl, fun h => ?_⟩
    rcases h with ⟨k2, e, h⟩ | h
    · exact vD_x hD h hq rfl
    · omega
  exact ⟨va_P.app hP1 (fun k q hq => (vP_r hP k q hq).kept (hk q.1 (apart k q hq).1 (apart k q hq).2)), va_D.app (hD1.weaken (fun k q _ h => hF q.1 h)) (vD_r hD) (fun i j x y hx hy e => (apart j y hy).2 (by rw [← e]; exact hD1.2 i x hx))⟩
theorem join_r {A : Nat → Prop} {D : va_G} {w1 w2 w2' : va_W} {H H1 : Heap} (hP : va_P D vwCl (w1 ++ w2) H) (hD : va_D A (w1 ++ w2)) (hF : ∀ q, va_A w2 H.size q → A q) (hP1 : va_P D vwCl w2' H1) (hD1 : va_D (va_A w2 H.size) w2') (hk : ∀ q : Nat, q < H.size → ¬ va_A w2 H.size q → H1[q]? = H[q]?) : va_P D vwCl (w1 ++ w2') H1 ∧ va_D A (w1 ++ w2') := by
  have apart : ∀ (k : Nat) (q : Nat × va_E), w1[k]? = some q → q.1 < H.size ∧ ¬ va_A w2 H.size q.1 := by
    intro k q hq
    have hl := (vP_l hP k q hq).lt
    refine ⟨hl, fun h => ?_⟩
    rcases h with ⟨k2, e, h⟩ | h
    · exact vD_x hD hq h rfl
    · omega
  exact ⟨va_P.app (fun k q hq => (vP_l hP k q hq).kept (hk q.1 (apart k q hq).1 (apart k q hq).2)) hP1, va_D.app (vD_l hD) (hD1.weaken (fun k q _ h => hF q.1 h)) (fun i j x y hx hy e => (apart i x hx).2 (by rw [e]; exact hD1.2 j y hy))⟩
/-! pure helpers of the printed functions: reads and writes inside the bounds, or nothing -/
def rdA {α : Type} (n : Nat) (f : Nat → Int32) (i : Int32) (k : Int32 → Option α) : Option α := if ¬ (i < 0 ∨ n ≤ i.toNatClampNeg) then k (f i.toNatClampNeg) else none
def wrA {α : Type} (n : Nat) (f : Nat → Int32) (i x : Int32) (k : (Nat → Int32) → Option α) : Option α := if ¬ (i < 0 ∨ n ≤ i.toNatClampNeg) then k (upd f i.toNatClampNeg x) else none
def ckB {α : Type} (x : Int32) (k : Option α) : Option α := if x &&& 1 = x then k else none
def ckD {α : Type} (y : Int32) (k : Option α) : Option α := if y = 0 then none else k
theorem rdA_some {α : Type} {n : Nat} {f : Nat → Int32} {i : Int32} {k : Int32 → Option α} {z : α} (h : rdA n f i k = some z) : vp_in i n ∧ k (f i.toNatClampNeg) = some z := by
  unfold rdA at h
  split at h
  · exact ⟨‹_›, h⟩
  · cases h
theorem wrA_some {α : Type} {n : Nat} {f : Nat → Int32} {i x : Int32} {k : (Nat → Int32) → Option α} {z : α} (h : wrA n f i x k = some z) : vp_in i n ∧ k (upd f i.toNatClampNeg x) = some z := by
  unfold wrA at h
  split at h
  · exact ⟨‹_›, h⟩
  · cases h
theorem ckB_some {α : Type} {x : Int32} {k : Option α} {z : α} (h : ckB x k = some z) : x &&& 1 = x ∧ k = some z := by
  unfold ckB at h
  split at h
  · exact ⟨‹_›, h⟩
  · cases h
theorem ckD_some {α : Type} {y : Int32} {k : Option α} {z : α} (h : ckD y k = some z) : ¬ y = 0 ∧ k = some z := by
  unfold ckD at h
  split at h
  · cases h
  · exact ⟨‹_›, h⟩
theorem bd_some {α β : Type} {a : Option α} {k : α → Option β} {z : β} (h : a.bind k = some z) : ∃ v, a = some v ∧ k v = some z := by
  cases a with
  | none => cases h
  | some v => exact ⟨v, rfl, h⟩
section GO
variable {p : Program} {l : Launch} {e : Env} {R : Room} {s : State} {m : MethodId} {args : Array Value} {below : List Frame} {meth : Method} {c : Code} {K : KK} {A : Nat → Prop} {cells slots : Nat} {Q : State → Prop} {cc : ByteArray} {nL : Nat} {own : String} {Ts : List Cond} {ret : Option FieldType} {ws : va_W} {pc : Nat} {lv : List (Nat × Value)} {st : List Value}
theorem go_iconst (C : Cx p s m args meth c K A cc nL own Ts ret) {n : Int} {v : Int32} (hd : decode cc pc = .ok (.iconst n, 1)) (hv : Int32.ofInt n = v) (k : Go p l e R s m args below meth c K A nL cells slots Q ws (pc + 1) lv (.int v :: st)) : Go p l e R s m args below meth c K A nL cells slots Q ws pc lv st := fun H locs ls hP hD hS hl => lv_iconst C.1.1 C.1.2.1 hd hv (k H locs ls hP hD hS hl)
theorem go_bipush (C : Cx p s m args meth c K A cc nL own Ts ret) {n : Int} {v : Int32} (hd : decode cc pc = .ok (.bipush n, 2)) (hv : (Int8.ofInt n).toInt32 = v) (k : Go p l e R s m args below meth c K A nL cells slots Q ws (pc + 2) lv (.int v :: st)) : Go p l e R s m args below meth c K A nL cells slots Q ws pc lv st := fun H locs ls hP hD hS hl => lv_bipush C.1.1 C.1.2.1 hd hv (k H locs ls hP hD hS hl)
theorem go_sipush (C : Cx p s m args meth c K A cc nL own Ts ret) {n : Int} {v : Int32} (hd : decode cc pc = .ok (.sipush n, 3)) (hv : (Int16.ofInt n).toInt32 = v) (k : Go p l e R s m args below meth c K A nL cells slots Q ws (pc + 3) lv (.int v :: st)) : Go p l e R s m args below meth c K A nL cells slots Q ws pc lv st := fun H locs ls hP hD hS hl => lv_sipush C.1.1 C.1.2.1 hd hv (k H locs ls hP hD hS hl)
theorem go_lconst (C : Cx p s m args meth c K A cc nL own Ts ret) {n : Fin 2} {v : Int64} (hd : decode cc pc = .ok (.lconst n, 1)) (hv : Int64.ofNat (n : Nat) = v) (k : Go p l e R s m args below meth c K A nL cells slots Q ws (pc + 1) lv (.long v :: st)) : Go p l e R s m args below meth c K A nL cells slots Q ws pc lv st := fun H locs ls hP hD hS hl => lv_lconst C.1.1 C.1.2.1 hd hv (k H locs ls hP hD hS hl)
theorem go_ldcw (C : Cx p s m args meth c K A cc nL own Ts ret) {ix : Nat} {v : Int32} (hd : decode cc pc = .ok (.ldc_w ix, 3)) (hc : Cond.constant own ix v ∈ Ts) (k : Go p l e R s m args below meth c K A nL cells slots Q ws (pc + 3) lv (.int v :: st)) : Go p l e R s m args below meth c K A nL cells slots Q ws pc lv st := fun H locs ls hP hD hS hl => lv_ldcw C.1.1 C.1.2.1 C.1.2.2.2.1 (C.1.2.2.2.2 _ hc) hd (k H locs ls hP hD hS hl)
theorem go_ldc2 (C : Cx p s m args meth c K A cc nL own Ts ret) {ix : Nat} {v : Int64} (hd : decode cc pc = .ok (.ldc2_w ix, 3)) (hc : Cond.constantLong own ix v ∈ Ts) (k : Go p l e R s m args below meth c K A nL cells slots Q ws (pc + 3) lv (.long v :: st)) : Go p l e R s m args below meth c K A nL cells slots Q ws pc lv st := fun H locs ls hP hD hS hl => lv_ldc2 C.1.1 C.1.2.1 C.1.2.2.2.1 (C.1.2.2.2.2 _ hc) hd (k H locs ls hP hD hS hl)
theorem go_iload_n (C : Cx p s m args meth c K A cc nL own Ts ret) {f : Fin 4} {i : Nat} {x : Int32} (j : Nat) (hd : decode cc pc = .ok (.iload_n f, 1)) (hi : (f : Nat) = i) (hj : lv[j]? = some (i, .int x)) (k : Go p l e R s m args below meth c K A nL cells slots Q ws (pc + 1) lv (.int x :: st)) : Go p l e R s m args below meth c K A nL cells slots Q ws pc lv st := fun H locs ls hP hD hS hl => lv_iload_n C.1.1 C.1.2.1 hd hi (lv_at hl j hj) (k H locs ls hP hD hS hl)
theorem go_iload (C : Cx p s m args meth c K A cc nL own Ts ret) {i : Nat} {x : Int32} (j : Nat) (hd : decode cc pc = .ok (.iload i, 2)) (hj : lv[j]? = some (i, .int x)) (k : Go p l e R s m args below meth c K A nL cells slots Q ws (pc + 2) lv (.int x :: st)) : Go p l e R s m args below meth c K A nL cells slots Q ws pc lv st := fun H locs ls hP hD hS hl => lv_iload C.1.1 C.1.2.1 hd (lv_at hl j hj) (k H locs ls hP hD hS hl)
theorem go_istore_n (C : Cx p s m args meth c K A cc nL own Ts ret) {f : Fin 4} {i : Nat} {x : Int32} {lv' : List (Nat × Value)} (ks : List Nat) (hd : decode cc pc = .ok (.istore_n f, 1)) (hi : (f : Nat) = i) (hn : i < nL) (hl' : lv_pick ((i, Value.int x) :: lv.filter (fun q => !(q.1 == i) && !(q.1 + 1 == i && q.2.category == 2))) ks = lv') (k : Go p l e R s m args below meth c K A nL cells slots Q ws (pc + 1) lv' st) : Go p l e R s m args below meth c K A nL cells slots Q ws pc lv (.int x :: st) := fun H locs ls hP hD hS hl => lv_istore_n C.1.1 C.1.2.1 hd hi hl hn rfl (fun ls' h' => k H locs ls' hP hD hS (lv_sub h' ks hl'))
theorem go_istore (C : Cx p s m args meth c K A cc nL own Ts ret) {i : Nat} {x : Int32} {lv' : List (Nat × Value)} (ks : List Nat) (hd : decode cc pc = .ok (.istore i, 2)) (hn : i < nL) (hl' : lv_pick ((i, Value.int x) :: lv.filter (fun q => !(q.1 == i) && !(q.1 + 1 == i && q.2.category == 2))) ks = lv') (k : Go p l e R s m args below meth c K A nL cells slots Q ws (pc + 2) lv' st) : Go p l e R s m args below meth c K A nL cells slots Q ws pc lv (.int x :: st) := fun H locs ls hP hD hS hl => lv_istore C.1.1 C.1.2.1 hd hl hn rfl (fun ls' h' => k H locs ls' hP hD hS (lv_sub h' ks hl'))
theorem go_lload_n (C : Cx p s m args meth c K A cc nL own Ts ret) {f : Fin 4} {i : Nat} {x : Int64} (j : Nat) (hd : decode cc pc = .ok (.lload_n f, 1)) (hi : (f : Nat) = i) (hj : lv[j]? = some (i, .long x)) (k : Go p l e R s m args below meth c K A nL cells slots Q ws (pc + 1) lv (.long x :: st)) : Go p l e R s m args below meth c K A nL cells slots Q ws pc lv st := fun H locs ls hP hD hS hl => lv_lload_n C.1.1 C.1.2.1 hd hi (lv_at hl j hj) (k H locs ls hP hD hS hl)
theorem go_lload (C : Cx p s m args meth c K A cc nL own Ts ret) {i : Nat} {x : Int64} (j : Nat) (hd : decode cc pc = .ok (.lload i, 2)) (hj : lv[j]? = some (i, .long x)) (k : Go p l e R s m args below meth c K A nL cells slots Q ws (pc + 2) lv (.long x :: st)) : Go p l e R s m args below meth c K A nL cells slots Q ws pc lv st := fun H locs ls hP hD hS hl => lv_lload C.1.1 C.1.2.1 hd (lv_at hl j hj) (k H locs ls hP hD hS hl)
theorem go_lstore_n (C : Cx p s m args meth c K A cc nL own Ts ret) {f : Fin 4} {i : Nat} {x : Int64} {lv' : List (Nat × Value)} (ks : List Nat) (hd : decode cc pc = .ok (.lstore_n f, 1)) (hi : (f : Nat) = i) (hn : i + 1 < nL) (hl' : lv_pick ((i, Value.long x) :: lv.filter (fun q => !(q.1 == i) && (!(q.1 == i + 1) && !(q.1 + 1 == i && q.2.category == 2)))) ks = lv') (k : Go p l e R s m args below meth c K A nL cells slots Q ws (pc + 1) lv' st) : Go p l e R s m args below meth c K A nL cells slots Q ws pc lv (.long x :: st) := fun H locs ls hP hD hS hl => lv_lstore_n C.1.1 C.1.2.1 hd hi hl hn rfl (fun ls' h' => k H locs ls' hP hD hS (lv_sub h' ks hl'))
theorem go_lstore (C : Cx p s m args meth c K A cc nL own Ts ret) {i : Nat} {x : Int64} {lv' : List (Nat × Value)} (ks : List Nat) (hd : decode cc pc = .ok (.lstore i, 2)) (hn : i + 1 < nL) (hl' : lv_pick ((i, Value.long x) :: lv.filter (fun q => !(q.1 == i) && (!(q.1 == i + 1) && !(q.1 + 1 == i && q.2.category == 2)))) ks = lv') (k : Go p l e R s m args below meth c K A nL cells slots Q ws (pc + 2) lv' st) : Go p l e R s m args below meth c K A nL cells slots Q ws pc lv (.long x :: st) := fun H locs ls hP hD hS hl => lv_lstore C.1.1 C.1.2.1 hd hl hn rfl (fun ls' h' => k H locs ls' hP hD hS (lv_sub h' ks hl'))
theorem go_aload_n (C : Cx p s m args meth c K A cc nL own Ts ret) {f : Fin 4} {i : Nat} {x : Nat} (j : Nat) (hd : decode cc pc = .ok (.aload_n f, 1)) (hi : (f : Nat) = i) (hj : lv[j]? = some (i, .ref x)) (k : Go p l e R s m args below meth c K A nL cells slots Q ws (pc + 1) lv (.ref x :: st)) : Go p l e R s m args below meth c K A nL cells slots Q ws pc lv st := fun H locs ls hP hD hS hl => lv_aload_n C.1.1 C.1.2.1 hd hi (lv_at hl j hj) (k H locs ls hP hD hS hl)
theorem go_aload (C : Cx p s m args meth c K A cc nL own Ts ret) {i : Nat} {x : Nat} (j : Nat) (hd : decode cc pc = .ok (.aload i, 2)) (hj : lv[j]? = some (i, .ref x)) (k : Go p l e R s m args below meth c K A nL cells slots Q ws (pc + 2) lv (.ref x :: st)) : Go p l e R s m args below meth c K A nL cells slots Q ws pc lv st := fun H locs ls hP hD hS hl => lv_aload C.1.1 C.1.2.1 hd (lv_at hl j hj) (k H locs ls hP hD hS hl)
theorem go_astore_n (C : Cx p s m args meth c K A cc nL own Ts ret) {f : Fin 4} {i : Nat} {x : Nat} {lv' : List (Nat × Value)} (ks : List Nat) (hd : decode cc pc = .ok (.astore_n f, 1)) (hi : (f : Nat) = i) (hn : i < nL) (hl' : lv_pick ((i, Value.ref x) :: lv.filter (fun q => !(q.1 == i) && !(q.1 + 1 == i && q.2.category == 2))) ks = lv') (k : Go p l e R s m args below meth c K A nL cells slots Q ws (pc + 1) lv' st) : Go p l e R s m args below meth c K A nL cells slots Q ws pc lv (.ref x :: st) := fun H locs ls hP hD hS hl => lv_astore_n C.1.1 C.1.2.1 hd hi hl hn rfl (fun ls' h' => k H locs ls' hP hD hS (lv_sub h' ks hl'))
theorem go_astore (C : Cx p s m args meth c K A cc nL own Ts ret) {i : Nat} {x : Nat} {lv' : List (Nat × Value)} (ks : List Nat) (hd : decode cc pc = .ok (.astore i, 2)) (hn : i < nL) (hl' : lv_pick ((i, Value.ref x) :: lv.filter (fun q => !(q.1 == i) && !(q.1 + 1 == i && q.2.category == 2))) ks = lv') (k : Go p l e R s m args below meth c K A nL cells slots Q ws (pc + 2) lv' st) : Go p l e R s m args below meth c K A nL cells slots Q ws pc lv (.ref x :: st) := fun H locs ls hP hD hS hl => lv_astore C.1.1 C.1.2.1 hd hl hn rfl (fun ls' h' => k H locs ls' hP hD hS (lv_sub h' ks hl'))
theorem go_iinc (C : Cx p s m args meth c K A cc nL own Ts ret) {i : Nat} {n : Int} {x v : Int32} {lv' : List (Nat × Value)} (j : Nat) (ks : List Nat) (hd : decode cc pc = .ok (.iinc i n, 3)) (hj : lv[j]? = some (i, .int x)) (hv : x + Int32.ofInt n = v) (hn : i < nL) (hl' : lv_pick ((i, Value.int v) :: lv.filter (fun q => !(q.1 == i) && !(q.1 + 1 == i && q.2.category == 2))) ks = lv') (k : Go p l e R s m args below meth c K A nL cells slots Q ws (pc + 3) lv' st) : Go p l e R s m args below meth c K A nL cells slots Q ws pc lv st := fun H locs ls hP hD hS hl => lv_iinc C.1.1 C.1.2.1 hd hl hj hv hn rfl (fun ls' h' => k H locs ls' hP hD hS (lv_sub h' ks hl'))
theorem go_iadd (C : Cx p s m args meth c K A cc nL own Ts ret) {x y : Int32} (hd : decode cc pc = .ok (.iadd, 1)) (k : Go p l e R s m args below meth c K A nL cells slots Q ws (pc + 1) lv (.int (x + y) :: st)) : Go p l e R s m args below meth c K A nL cells slots Q ws pc lv (.int y :: .int x :: st) := fun H locs ls hP hD hS hl => lv_iadd C.1.1 C.1.2.1 hd (k H locs ls hP hD hS hl)
theorem go_isub (C : Cx p s m args meth c K A cc nL own Ts ret) {x y : Int32} (hd : decode cc pc = .ok (.isub, 1)) (k : Go p l e R s m args below meth c K A nL cells slots Q ws (pc + 1) lv (.int (x - y) :: st)) : Go p l e R s m args below meth c K A nL cells slots Q ws pc lv (.int y :: .int x :: st) := fun H locs ls hP hD hS hl => lv_isub C.1.1 C.1.2.1 hd (k H locs ls hP hD hS hl)
theorem go_imul (C : Cx p s m args meth c K A cc nL own Ts ret) {x y : Int32} (hd : decode cc pc = .ok (.imul, 1)) (k : Go p l e R s m args below meth c K A nL cells slots Q ws (pc + 1) lv (.int (x * y) :: st)) : Go p l e R s m args below meth c K A nL cells slots Q ws pc lv (.int y :: .int x :: st) := fun H locs ls hP hD hS hl => lv_imul C.1.1 C.1.2.1 hd (k H locs ls hP hD hS hl)
theorem go_iand (C : Cx p s m args meth c K A cc nL own Ts ret) {x y : Int32} (hd : decode cc pc = .ok (.iand, 1)) (k : Go p l e R s m args below meth c K A nL cells slots Q ws (pc + 1) lv (.int (x &&& y) :: st)) : Go p l e R s m args below meth c K A nL cells slots Q ws pc lv (.int y :: .int x :: st) := fun H locs ls hP hD hS hl => lv_iand C.1.1 C.1.2.1 hd (k H locs ls hP hD hS hl)
theorem go_ior (C : Cx p s m args meth c K A cc nL own Ts ret) {x y : Int32} (hd : decode cc pc = .ok (.ior, 1)) (k : Go p l e R s m args below meth c K A nL cells slots Q ws (pc + 1) lv (.int (x ||| y) :: st)) : Go p l e R s m args below meth c K A nL cells slots Q ws pc lv (.int y :: .int x :: st) := fun H locs ls hP hD hS hl => lv_ior C.1.1 C.1.2.1 hd (k H locs ls hP hD hS hl)
theorem go_ixor (C : Cx p s m args meth c K A cc nL own Ts ret) {x y : Int32} (hd : decode cc pc = .ok (.ixor, 1)) (k : Go p l e R s m args below meth c K A nL cells slots Q ws (pc + 1) lv (.int (x ^^^ y) :: st)) : Go p l e R s m args below meth c K A nL cells slots Q ws pc lv (.int y :: .int x :: st) := fun H locs ls hP hD hS hl => lv_ixor C.1.1 C.1.2.1 hd (k H locs ls hP hD hS hl)
theorem go_ishl (C : Cx p s m args meth c K A cc nL own Ts ret) {x y : Int32} (hd : decode cc pc = .ok (.ishl, 1)) (k : Go p l e R s m args below meth c K A nL cells slots Q ws (pc + 1) lv (.int (x <<< (y &&& 31)) :: st)) : Go p l e R s m args below meth c K A nL cells slots Q ws pc lv (.int y :: .int x :: st) := fun H locs ls hP hD hS hl => lv_ishl C.1.1 C.1.2.1 hd (k H locs ls hP hD hS hl)
theorem go_ishr (C : Cx p s m args meth c K A cc nL own Ts ret) {x y : Int32} (hd : decode cc pc = .ok (.ishr, 1)) (k : Go p l e R s m args below meth c K A nL cells slots Q ws (pc + 1) lv (.int (x >>> (y &&& 31)) :: st)) : Go p l e R s m args below meth c K A nL cells slots Q ws pc lv (.int y :: .int x :: st) := fun H locs ls hP hD hS hl => lv_ishr C.1.1 C.1.2.1 hd (k H locs ls hP hD hS hl)
theorem go_iushr (C : Cx p s m args meth c K A cc nL own Ts ret) {x y : Int32} (hd : decode cc pc = .ok (.iushr, 1)) (k : Go p l e R s m args below meth c K A nL cells slots Q ws (pc + 1) lv (.int (x.toUInt32 >>> (y.toUInt32 &&& Int32.toUInt32 31)).toInt32 :: st)) : Go p l e R s m args below meth c K A nL cells slots Q ws pc lv (.int y :: .int x :: st) := fun H locs ls hP hD hS hl => lv_iushr C.1.1 C.1.2.1 hd rfl (k H locs ls hP hD hS hl)
theorem go_idiv (C : Cx p s m args meth c K A cc nL own Ts ret) {x y : Int32} (hd : decode cc pc = .ok (.idiv, 1)) (hne : ¬ y = 0) (k : Go p l e R s m args below meth c K A nL cells slots Q ws (pc + 1) lv (.int (x / y) :: st)) : Go p l e R s m args below meth c K A nL cells slots Q ws pc lv (.int y :: .int x :: st) := fun H locs ls hP hD hS hl => lv_idiv C.1.1 C.1.2.1 hd hne (k H locs ls hP hD hS hl)
theorem go_ineg (C : Cx p s m args meth c K A cc nL own Ts ret) {x : Int32} (hd : decode cc pc = .ok (.ineg, 1)) (k : Go p l e R s m args below meth c K A nL cells slots Q ws (pc + 1) lv (.int (-x) :: st)) : Go p l e R s m args below meth c K A nL cells slots Q ws pc lv (.int x :: st) := fun H locs ls hP hD hS hl => lv_ineg C.1.1 C.1.2.1 hd (k H locs ls hP hD hS hl)
theorem go_ladd (C : Cx p s m args meth c K A cc nL own Ts ret) {x y : Int64} (hd : decode cc pc = .ok (.ladd, 1)) (k : Go p l e R s m args below meth c K A nL cells slots Q ws (pc + 1) lv (.long (x + y) :: st)) : Go p l e R s m args below meth c K A nL cells slots Q ws pc lv (.long y :: .long x :: st) := fun H locs ls hP hD hS hl => lv_ladd C.1.1 C.1.2.1 hd (k H locs ls hP hD hS hl)
theorem go_lsub (C : Cx p s m args meth c K A cc nL own Ts ret) {x y : Int64} (hd : decode cc pc = .ok (.lsub, 1)) (k : Go p l e R s m args below meth c K A nL cells slots Q ws (pc + 1) lv (.long (x - y) :: st)) : Go p l e R s m args below meth c K A nL cells slots Q ws pc lv (.long y :: .long x :: st) := fun H locs ls hP hD hS hl => lv_lsub C.1.1 C.1.2.1 hd (k H locs ls hP hD hS hl)
theorem go_lmul (C : Cx p s m args meth c K A cc nL own Ts ret) {x y : Int64} (hd : decode cc pc = .ok (.lmul, 1)) (k : Go p l e R s m args below meth c K A nL cells slots Q ws (pc + 1) lv (.long (x * y) :: st)) : Go p l e R s m args below meth c K A nL cells slots Q ws pc lv (.long y :: .long x :: st) := fun H locs ls hP hD hS hl => lv_lmul C.1.1 C.1.2.1 hd (k H locs ls hP hD hS hl)
theorem go_land (C : Cx p s m args meth c K A cc nL own Ts ret) {x y : Int64} (hd : decode cc pc = .ok (.land, 1)) (k : Go p l e R s m args below meth c K A nL cells slots Q ws (pc + 1) lv (.long (x &&& y) :: st)) : Go p l e R s m args below meth c K A nL cells slots Q ws pc lv (.long y :: .long x :: st) := fun H locs ls hP hD hS hl => lv_land C.1.1 C.1.2.1 hd (k H locs ls hP hD hS hl)
theorem go_lor (C : Cx p s m args meth c K A cc nL own Ts ret) {x y : Int64} (hd : decode cc pc = .ok (.lor, 1)) (k : Go p l e R s m args below meth c K A nL cells slots Q ws (pc + 1) lv (.long (x ||| y) :: st)) : Go p l e R s m args below meth c K A nL cells slots Q ws pc lv (.long y :: .long x :: st) := fun H locs ls hP hD hS hl => lv_lor C.1.1 C.1.2.1 hd (k H locs ls hP hD hS hl)
theorem go_lushr (C : Cx p s m args meth c K A cc nL own Ts ret) {x : Int64} {y : Int32} (hd : decode cc pc = .ok (.lushr, 1)) (k : Go p l e R s m args below meth c K A nL cells slots Q ws (pc + 1) lv (.long (x.toUInt64 >>> (y.toInt64.toUInt64 &&& Int64.toUInt64 63)).toInt64 :: st)) : Go p l e R s m args below meth c K A nL cells slots Q ws pc lv (.int y :: .long x :: st) := fun H locs ls hP hD hS hl => lv_lushr C.1.1 C.1.2.1 hd rfl (k H locs ls hP hD hS hl)
theorem go_lshl (C : Cx p s m args meth c K A cc nL own Ts ret) {x : Int64} {y : Int32} (hd : decode cc pc = .ok (.lshl, 1)) (k : Go p l e R s m args below meth c K A nL cells slots Q ws (pc + 1) lv (.long (x <<< (y.toInt64 &&& 63)) :: st)) : Go p l e R s m args below meth c K A nL cells slots Q ws pc lv (.int y :: .long x :: st) := fun H locs ls hP hD hS hl => lv_lshl C.1.1 C.1.2.1 hd rfl (k H locs ls hP hD hS hl)
theorem go_i2l (C : Cx p s m args meth c K A cc nL own Ts ret) {x : Int32} (hd : decode cc pc = .ok (.i2l, 1)) (k : Go p l e R s m args below meth c K A nL cells slots Q ws (pc + 1) lv (.long x.toInt64 :: st)) : Go p l e R s m args below meth c K A nL cells slots Q ws pc lv (.int x :: st) := fun H locs ls hP hD hS hl => lv_i2l C.1.1 C.1.2.1 hd rfl (k H locs ls hP hD hS hl)
theorem go_l2i (C : Cx p s m args meth c K A cc nL own Ts ret) {x : Int64} (hd : decode cc pc = .ok (.l2i, 1)) (k : Go p l e R s m args below meth c K A nL cells slots Q ws (pc + 1) lv (.int x.toInt32 :: st)) : Go p l e R s m args below meth c K A nL cells slots Q ws pc lv (.long x :: st) := fun H locs ls hP hD hS hl => lv_l2i C.1.1 C.1.2.1 hd rfl (k H locs ls hP hD hS hl)
theorem go_lcmp (C : Cx p s m args meth c K A cc nL own Ts ret) {x y : Int64} (hd : decode cc pc = .ok (.lcmp, 1)) (k : Go p l e R s m args below meth c K A nL cells slots Q ws (pc + 1) lv (.int (lg_cmp x y) :: st)) : Go p l e R s m args below meth c K A nL cells slots Q ws pc lv (.long y :: .long x :: st) := fun H locs ls hP hD hS hl => W.lcmp C.1.1 C.1.2.1 hd (k H locs ls hP hD hS hl)
theorem go_dup (C : Cx p s m args meth c K A cc nL own Ts ret) {va : Value} (hd : decode cc pc = .ok (.dup, 1)) (hva : va.category = 1) (k : Go p l e R s m args below meth c K A nL cells slots Q ws (pc + 1) lv (va :: va :: st)) : Go p l e R s m args below meth c K A nL cells slots Q ws pc lv (va :: st) := fun H locs ls hP hD hS hl => lv_dup C.1.1 C.1.2.1 hd hva (k H locs ls hP hD hS hl)
theorem go_pop (C : Cx p s m args meth c K A cc nL own Ts ret) {va : Value} (hd : decode cc pc = .ok (.pop, 1)) (hva : va.category = 1) (k : Go p l e R s m args below meth c K A nL cells slots Q ws (pc + 1) lv st) : Go p l e R s m args below meth c K A nL cells slots Q ws pc lv (va :: st) := fun H locs ls hP hD hS hl => lv_pop C.1.1 C.1.2.1 hd hva (k H locs ls hP hD hS hl)
theorem go_dup2 (C : Cx p s m args meth c K A cc nL own Ts ret) {va vb : Value} (hd : decode cc pc = .ok (.dup2, 1)) (hva : va.category = 1) (hvb : vb.category = 1) (k : Go p l e R s m args below meth c K A nL cells slots Q ws (pc + 1) lv (va :: vb :: va :: vb :: st)) : Go p l e R s m args below meth c K A nL cells slots Q ws pc lv (va :: vb :: st) := fun H locs ls hP hD hS hl => lv_dup2_11 C.1.1 C.1.2.1 hd hva hvb (k H locs ls hP hD hS hl)
theorem go_if_eq (C : Cx p s m args meth c K A cc nL own Ts ret) {x : Int32} {off : Int} {tgt : Nat} (hd : decode cc pc = .ok (.ifCond .eq off, 3)) (ht : (pc : Int) + off = (tgt : Int)) (kt : x = 0 → Go p l e R s m args below meth c K A nL cells slots Q ws tgt lv st) (kf : ¬ x = 0 → Go p l e R s m args below meth c K A nL cells slots Q ws (pc + 3) lv st) : Go p l e R s m args below meth c K A nL cells slots Q ws pc lv (.int x :: st) := fun H locs ls hP hD hS hl => lv_if_eq C.1.1 C.1.2.1 hd ht (fun h => kt h H locs ls hP hD hS hl) (fun h => kf h H locs ls hP hD hS hl)
theorem go_icmp_eq (C : Cx p s m args meth c K A cc nL own Ts ret) {x y : Int32} {off : Int} {tgt : Nat} (hd : decode cc pc = .ok (.if_icmp .eq off, 3)) (ht : (pc : Int) + off = (tgt : Int)) (kt : x = y → Go p l e R s m args below meth c K A nL cells slots Q ws tgt lv st) (kf : ¬ x = y → Go p l e R s m args below meth c K A nL cells slots Q ws (pc + 3) lv st) : Go p l e R s m args below meth c K A nL cells slots Q ws pc lv (.int y :: .int x :: st) := fun H locs ls hP hD hS hl => lv_icmp_eq C.1.1 C.1.2.1 hd ht (fun h => kt h H locs ls hP hD hS hl) (fun h => kf h H locs ls hP hD hS hl)
theorem go_if_ne (C : Cx p s m args meth c K A cc nL own Ts ret) {x : Int32} {off : Int} {tgt : Nat} (hd : decode cc pc = .ok (.ifCond .ne off, 3)) (ht : (pc : Int) + off = (tgt : Int)) (kt : ¬ x = 0 → Go p l e R s m args below meth c K A nL cells slots Q ws tgt lv st) (kf : x = 0 → Go p l e R s m args below meth c K A nL cells slots Q ws (pc + 3) lv st) : Go p l e R s m args below meth c K A nL cells slots Q ws pc lv (.int x :: st) := fun H locs ls hP hD hS hl => lv_if_ne C.1.1 C.1.2.1 hd ht (fun h => kt h H locs ls hP hD hS hl) (fun h => kf h H locs ls hP hD hS hl)
theorem go_icmp_ne (C : Cx p s m args meth c K A cc nL own Ts ret) {x y : Int32} {off : Int} {tgt : Nat} (hd : decode cc pc = .ok (.if_icmp .ne off, 3)) (ht : (pc : Int) + off = (tgt : Int)) (kt : ¬ x = y → Go p l e R s m args below meth c K A nL cells slots Q ws tgt lv st) (kf : x = y → Go p l e R s m args below meth c K A nL cells slots Q ws (pc + 3) lv st) : Go p l e R s m args below meth c K A nL cells slots Q ws pc lv (.int y :: .int x :: st) := fun H locs ls hP hD hS hl => lv_icmp_ne C.1.1 C.1.2.1 hd ht (fun h => kt h H locs ls hP hD hS hl) (fun h => kf h H locs ls hP hD hS hl)
theorem go_if_lt (C : Cx p s m args meth c K A cc nL own Ts ret) {x : Int32} {off : Int} {tgt : Nat} (hd : decode cc pc = .ok (.ifCond .lt off, 3)) (ht : (pc : Int) + off = (tgt : Int)) (kt : x < 0 → Go p l e R s m args below meth c K A nL cells slots Q ws tgt lv st) (kf : ¬ x < 0 → Go p l e R s m args below meth c K A nL cells slots Q ws (pc + 3) lv st) : Go p l e R s m args below meth c K A nL cells slots Q ws pc lv (.int x :: st) := fun H locs ls hP hD hS hl => lv_if_lt C.1.1 C.1.2.1 hd ht (fun h => kt h H locs ls hP hD hS hl) (fun h => kf h H locs ls hP hD hS hl)
theorem go_icmp_lt (C : Cx p s m args meth c K A cc nL own Ts ret) {x y : Int32} {off : Int} {tgt : Nat} (hd : decode cc pc = .ok (.if_icmp .lt off, 3)) (ht : (pc : Int) + off = (tgt : Int)) (kt : x < y → Go p l e R s m args below meth c K A nL cells slots Q ws tgt lv st) (kf : ¬ x < y → Go p l e R s m args below meth c K A nL cells slots Q ws (pc + 3) lv st) : Go p l e R s m args below meth c K A nL cells slots Q ws pc lv (.int y :: .int x :: st) := fun H locs ls hP hD hS hl => lv_icmp_lt C.1.1 C.1.2.1 hd ht (fun h => kt h H locs ls hP hD hS hl) (fun h => kf h H locs ls hP hD hS hl)
theorem go_if_ge (C : Cx p s m args meth c K A cc nL own Ts ret) {x : Int32} {off : Int} {tgt : Nat} (hd : decode cc pc = .ok (.ifCond .ge off, 3)) (ht : (pc : Int) + off = (tgt : Int)) (kt : 0 ≤ x → Go p l e R s m args below meth c K A nL cells slots Q ws tgt lv st) (kf : ¬ 0 ≤ x → Go p l e R s m args below meth c K A nL cells slots Q ws (pc + 3) lv st) : Go p l e R s m args below meth c K A nL cells slots Q ws pc lv (.int x :: st) := fun H locs ls hP hD hS hl => lv_if_ge C.1.1 C.1.2.1 hd ht (fun h => kt h H locs ls hP hD hS hl) (fun h => kf h H locs ls hP hD hS hl)
theorem go_icmp_ge (C : Cx p s m args meth c K A cc nL own Ts ret) {x y : Int32} {off : Int} {tgt : Nat} (hd : decode cc pc = .ok (.if_icmp .ge off, 3)) (ht : (pc : Int) + off = (tgt : Int)) (kt : y ≤ x → Go p l e R s m args below meth c K A nL cells slots Q ws tgt lv st) (kf : ¬ y ≤ x → Go p l e R s m args below meth c K A nL cells slots Q ws (pc + 3) lv st) : Go p l e R s m args below meth c K A nL cells slots Q ws pc lv (.int y :: .int x :: st) := fun H locs ls hP hD hS hl => lv_icmp_ge C.1.1 C.1.2.1 hd ht (fun h => kt h H locs ls hP hD hS hl) (fun h => kf h H locs ls hP hD hS hl)
theorem go_if_gt (C : Cx p s m args meth c K A cc nL own Ts ret) {x : Int32} {off : Int} {tgt : Nat} (hd : decode cc pc = .ok (.ifCond .gt off, 3)) (ht : (pc : Int) + off = (tgt : Int)) (kt : 0 < x → Go p l e R s m args below meth c K A nL cells slots Q ws tgt lv st) (kf : ¬ 0 < x → Go p l e R s m args below meth c K A nL cells slots Q ws (pc + 3) lv st) : Go p l e R s m args below meth c K A nL cells slots Q ws pc lv (.int x :: st) := fun H locs ls hP hD hS hl => lv_if_gt C.1.1 C.1.2.1 hd ht (fun h => kt h H locs ls hP hD hS hl) (fun h => kf h H locs ls hP hD hS hl)
theorem go_icmp_gt (C : Cx p s m args meth c K A cc nL own Ts ret) {x y : Int32} {off : Int} {tgt : Nat} (hd : decode cc pc = .ok (.if_icmp .gt off, 3)) (ht : (pc : Int) + off = (tgt : Int)) (kt : y < x → Go p l e R s m args below meth c K A nL cells slots Q ws tgt lv st) (kf : ¬ y < x → Go p l e R s m args below meth c K A nL cells slots Q ws (pc + 3) lv st) : Go p l e R s m args below meth c K A nL cells slots Q ws pc lv (.int y :: .int x :: st) := fun H locs ls hP hD hS hl => lv_icmp_gt C.1.1 C.1.2.1 hd ht (fun h => kt h H locs ls hP hD hS hl) (fun h => kf h H locs ls hP hD hS hl)
theorem go_if_le (C : Cx p s m args meth c K A cc nL own Ts ret) {x : Int32} {off : Int} {tgt : Nat} (hd : decode cc pc = .ok (.ifCond .le off, 3)) (ht : (pc : Int) + off = (tgt : Int)) (kt : x ≤ 0 → Go p l e R s m args below meth c K A nL cells slots Q ws tgt lv st) (kf : ¬ x ≤ 0 → Go p l e R s m args below meth c K A nL cells slots Q ws (pc + 3) lv st) : Go p l e R s m args below meth c K A nL cells slots Q ws pc lv (.int x :: st) := fun H locs ls hP hD hS hl => lv_if_le C.1.1 C.1.2.1 hd ht (fun h => kt h H locs ls hP hD hS hl) (fun h => kf h H locs ls hP hD hS hl)
theorem go_icmp_le (C : Cx p s m args meth c K A cc nL own Ts ret) {x y : Int32} {off : Int} {tgt : Nat} (hd : decode cc pc = .ok (.if_icmp .le off, 3)) (ht : (pc : Int) + off = (tgt : Int)) (kt : x ≤ y → Go p l e R s m args below meth c K A nL cells slots Q ws tgt lv st) (kf : ¬ x ≤ y → Go p l e R s m args below meth c K A nL cells slots Q ws (pc + 3) lv st) : Go p l e R s m args below meth c K A nL cells slots Q ws pc lv (.int y :: .int x :: st) := fun H locs ls hP hD hS hl => lv_icmp_le C.1.1 C.1.2.1 hd ht (fun h => kt h H locs ls hP hD hS hl) (fun h => kf h H locs ls hP hD hS hl)
theorem go_c1_eq (C : Cx p s m args meth c K A cc nL own Ts ret) {x : Int32} {off : Int} {tgt : Nat} {α : Type} {E1 E2 : Option α} {z : α} (hd : decode cc pc = .ok (.ifCond .eq off, 3)) (ht : (pc : Int) + off = (tgt : Int)) (hf : (if x = 0 then E1 else E2) = some z) (kt : x = 0 → E1 = some z → Go p l e R s m args below meth c K A nL cells slots Q ws tgt lv st) (kf : ¬ x = 0 → E2 = some z → Go p l e R s m args below meth c K A nL cells slots Q ws (pc + 3) lv st) : Go p l e R s m args below meth c K A nL cells slots Q ws pc lv (.int x :: st) := go_if_eq C hd ht (fun h => kt h (by rw [if_pos h] at hf; exact hf)) (fun h => kf h (by rw [if_neg h] at hf; exact hf))
theorem go_c2_eq (C : Cx p s m args meth c K A cc nL own Ts ret) {x y : Int32} {off : Int} {tgt : Nat} {α : Type} {E1 E2 : Option α} {z : α} (hd : decode cc pc = .ok (.if_icmp .eq off, 3)) (ht : (pc : Int) + off = (tgt : Int)) (hf : (if x = y then E1 else E2) = some z) (kt : x = y → E1 = some z → Go p l e R s m args below meth c K A nL cells slots Q ws tgt lv st) (kf : ¬ x = y → E2 = some z → Go p l e R s m args below meth c K A nL cells slots Q ws (pc + 3) lv st) : Go p l e R s m args below meth c K A nL cells slots Q ws pc lv (.int y :: .int x :: st) := go_icmp_eq C hd ht (fun h => kt h (by rw [if_pos h] at hf; exact hf)) (fun h => kf h (by rw [if_neg h] at hf; exact hf))
theorem go_c1_ne (C : Cx p s m args meth c K A cc nL own Ts ret) {x : Int32} {off : Int} {tgt : Nat} {α : Type} {E1 E2 : Option α} {z : α} (hd : decode cc pc = .ok (.ifCond .ne off, 3)) (ht : (pc : Int) + off = (tgt : Int)) (hf : (if x = 0 then E1 else E2) = some z) (kt : ¬ x = 0 → E2 = some z → Go p l e R s m args below meth c K A nL cells slots Q ws tgt lv st) (kf : x = 0 → E1 = some z → Go p l e R s m args below meth c K A nL cells slots Q ws (pc + 3) lv st) : Go p l e R s m args below meth c K A nL cells slots Q ws pc lv (.int x :: st) := go_if_ne C hd ht (fun h => kt h (by rw [if_neg h] at hf; exact hf)) (fun h => kf h (by rw [if_pos h] at hf; exact hf))
theorem go_c2_ne (C : Cx p s m args meth c K A cc nL own Ts ret) {x y : Int32} {off : Int} {tgt : Nat} {α : Type} {E1 E2 : Option α} {z : α} (hd : decode cc pc = .ok (.if_icmp .ne off, 3)) (ht : (pc : Int) + off = (tgt : Int)) (hf : (if x = y then E1 else E2) = some z) (kt : ¬ x = y → E2 = some z → Go p l e R s m args below meth c K A nL cells slots Q ws tgt lv st) (kf : x = y → E1 = some z → Go p l e R s m args below meth c K A nL cells slots Q ws (pc + 3) lv st) : Go p l e R s m args below meth c K A nL cells slots Q ws pc lv (.int y :: .int x :: st) := go_icmp_ne C hd ht (fun h => kt h (by rw [if_neg h] at hf; exact hf)) (fun h => kf h (by rw [if_pos h] at hf; exact hf))
theorem go_c1_lt (C : Cx p s m args meth c K A cc nL own Ts ret) {x : Int32} {off : Int} {tgt : Nat} {α : Type} {E1 E2 : Option α} {z : α} (hd : decode cc pc = .ok (.ifCond .lt off, 3)) (ht : (pc : Int) + off = (tgt : Int)) (hf : (if x < 0 then E1 else E2) = some z) (kt : x < 0 → E1 = some z → Go p l e R s m args below meth c K A nL cells slots Q ws tgt lv st) (kf : ¬ x < 0 → E2 = some z → Go p l e R s m args below meth c K A nL cells slots Q ws (pc + 3) lv st) : Go p l e R s m args below meth c K A nL cells slots Q ws pc lv (.int x :: st) := go_if_lt C hd ht (fun h => kt h (by rw [if_pos h] at hf; exact hf)) (fun h => kf h (by rw [if_neg h] at hf; exact hf))
theorem go_c2_lt (C : Cx p s m args meth c K A cc nL own Ts ret) {x y : Int32} {off : Int} {tgt : Nat} {α : Type} {E1 E2 : Option α} {z : α} (hd : decode cc pc = .ok (.if_icmp .lt off, 3)) (ht : (pc : Int) + off = (tgt : Int)) (hf : (if x < y then E1 else E2) = some z) (kt : x < y → E1 = some z → Go p l e R s m args below meth c K A nL cells slots Q ws tgt lv st) (kf : ¬ x < y → E2 = some z → Go p l e R s m args below meth c K A nL cells slots Q ws (pc + 3) lv st) : Go p l e R s m args below meth c K A nL cells slots Q ws pc lv (.int y :: .int x :: st) := go_icmp_lt C hd ht (fun h => kt h (by rw [if_pos h] at hf; exact hf)) (fun h => kf h (by rw [if_neg h] at hf; exact hf))
theorem go_c1_ge (C : Cx p s m args meth c K A cc nL own Ts ret) {x : Int32} {off : Int} {tgt : Nat} {α : Type} {E1 E2 : Option α} {z : α} (hd : decode cc pc = .ok (.ifCond .ge off, 3)) (ht : (pc : Int) + off = (tgt : Int)) (hf : (if 0 ≤ x then E1 else E2) = some z) (kt : 0 ≤ x → E1 = some z → Go p l e R s m args below meth c K A nL cells slots Q ws tgt lv st) (kf : ¬ 0 ≤ x → E2 = some z → Go p l e R s m args below meth c K A nL cells slots Q ws (pc + 3) lv st) : Go p l e R s m args below meth c K A nL cells slots Q ws pc lv (.int x :: st) := go_if_ge C hd ht (fun h => kt h (by rw [if_pos h] at hf; exact hf)) (fun h => kf h (by rw [if_neg h] at hf; exact hf))
theorem go_c2_ge (C : Cx p s m args meth c K A cc nL own Ts ret) {x y : Int32} {off : Int} {tgt : Nat} {α : Type} {E1 E2 : Option α} {z : α} (hd : decode cc pc = .ok (.if_icmp .ge off, 3)) (ht : (pc : Int) + off = (tgt : Int)) (hf : (if y ≤ x then E1 else E2) = some z) (kt : y ≤ x → E1 = some z → Go p l e R s m args below meth c K A nL cells slots Q ws tgt lv st) (kf : ¬ y ≤ x → E2 = some z → Go p l e R s m args below meth c K A nL cells slots Q ws (pc + 3) lv st) : Go p l e R s m args below meth c K A nL cells slots Q ws pc lv (.int y :: .int x :: st) := go_icmp_ge C hd ht (fun h => kt h (by rw [if_pos h] at hf; exact hf)) (fun h => kf h (by rw [if_neg h] at hf; exact hf))
theorem go_c1_gt (C : Cx p s m args meth c K A cc nL own Ts ret) {x : Int32} {off : Int} {tgt : Nat} {α : Type} {E1 E2 : Option α} {z : α} (hd : decode cc pc = .ok (.ifCond .gt off, 3)) (ht : (pc : Int) + off = (tgt : Int)) (hf : (if 0 < x then E1 else E2) = some z) (kt : 0 < x → E1 = some z → Go p l e R s m args below meth c K A nL cells slots Q ws tgt lv st) (kf : ¬ 0 < x → E2 = some z → Go p l e R s m args below meth c K A nL cells slots Q ws (pc + 3) lv st) : Go p l e R s m args below meth c K A nL cells slots Q ws pc lv (.int x :: st) := go_if_gt C hd ht (fun h => kt h (by rw [if_pos h] at hf; exact hf)) (fun h => kf h (by rw [if_neg h] at hf; exact hf))
theorem go_c2_gt (C : Cx p s m args meth c K A cc nL own Ts ret) {x y : Int32} {off : Int} {tgt : Nat} {α : Type} {E1 E2 : Option α} {z : α} (hd : decode cc pc = .ok (.if_icmp .gt off, 3)) (ht : (pc : Int) + off = (tgt : Int)) (hf : (if y < x then E1 else E2) = some z) (kt : y < x → E1 = some z → Go p l e R s m args below meth c K A nL cells slots Q ws tgt lv st) (kf : ¬ y < x → E2 = some z → Go p l e R s m args below meth c K A nL cells slots Q ws (pc + 3) lv st) : Go p l e R s m args below meth c K A nL cells slots Q ws pc lv (.int y :: .int x :: st) := go_icmp_gt C hd ht (fun h => kt h (by rw [if_pos h] at hf; exact hf)) (fun h => kf h (by rw [if_neg h] at hf; exact hf))
theorem go_c1_le (C : Cx p s m args meth c K A cc nL own Ts ret) {x : Int32} {off : Int} {tgt : Nat} {α : Type} {E1 E2 : Option α} {z : α} (hd : decode cc pc = .ok (.ifCond .le off, 3)) (ht : (pc : Int) + off = (tgt : Int)) (hf : (if x ≤ 0 then E1 else E2) = some z) (kt : x ≤ 0 → E1 = some z → Go p l e R s m args below meth c K A nL cells slots Q ws tgt lv st) (kf : ¬ x ≤ 0 → E2 = some z → Go p l e R s m args below meth c K A nL cells slots Q ws (pc + 3) lv st) : Go p l e R s m args below meth c K A nL cells slots Q ws pc lv (.int x :: st) := go_if_le C hd ht (fun h => kt h (by rw [if_pos h] at hf; exact hf)) (fun h => kf h (by rw [if_neg h] at hf; exact hf))
theorem go_c2_le (C : Cx p s m args meth c K A cc nL own Ts ret) {x y : Int32} {off : Int} {tgt : Nat} {α : Type} {E1 E2 : Option α} {z : α} (hd : decode cc pc = .ok (.if_icmp .le off, 3)) (ht : (pc : Int) + off = (tgt : Int)) (hf : (if x ≤ y then E1 else E2) = some z) (kt : x ≤ y → E1 = some z → Go p l e R s m args below meth c K A nL cells slots Q ws tgt lv st) (kf : ¬ x ≤ y → E2 = some z → Go p l e R s m args below meth c K A nL cells slots Q ws (pc + 3) lv st) : Go p l e R s m args below meth c K A nL cells slots Q ws pc lv (.int y :: .int x :: st) := go_icmp_le C hd ht (fun h => kt h (by rw [if_pos h] at hf; exact hf)) (fun h => kf h (by rw [if_neg h] at hf; exact hf))
theorem go_goto (C : Cx p s m args meth c K A cc nL own Ts ret) {off : Int} {tgt : Nat} (hd : decode cc pc = .ok (.goto off, 3)) (ht : (pc : Int) + off = (tgt : Int)) (k : Go p l e R s m args below meth c K A nL cells slots Q ws tgt lv st) : Go p l e R s m args below meth c K A nL cells slots Q ws pc lv st := fun H locs ls hP hD hS hl => lv_goto C.1.1 C.1.2.1 hd ht (k H locs ls hP hD hS hl)
theorem go_lv {lv' : List (Nat × Value)} (ks : List Nat) (h : lv_pick lv ks = lv') (k : Go p l e R s m args below meth c K A nL cells slots Q ws pc lv' st) : Go p l e R s m args below meth c K A nL cells slots Q ws pc lv st := fun H locs ls hP hD hS hl => k H locs ls hP hD hS (lv_sub hl ks h)
theorem go_perm {ws' : va_W} (is : List Nat) (hn : va_nd is = true) (h : is.map (fun i => ws[i]?) = ws'.map some) (h2 : is.filterMap (fun i => ws[i]?) = ws') (k : Go p l e R s m args below meth c K A nL cells slots Q ws' pc lv st) : Go p l e R s m args below meth c K A nL cells slots Q ws pc lv st := fun H locs ls hP hD hS hl => k H locs ls (hP.sub is h2) (hD.sub is hn h) hS hl
theorem go_ws {ws' : va_W} (h : ws = ws') (k : Go p l e R s m args below meth c K A nL cells slots Q ws' pc lv st) : Go p l e R s m args below meth c K A nL cells slots Q ws pc lv st := by subst h; exact k
theorem go_iret (C : Cx p s m args meth c K A cc nL own Ts (some .int)) {v : Int32} (hd : decode cc pc = .ok (.ireturn, 1)) : Go p l e R s m args below meth c K A nL cells slots (MQ below (QR K (some (.int v)) ws A) args s cells slots A) ws pc lv [.int v] := fun H locs ls hP hD hS hl => W.iret C.1.1 C.1.2.1 C.2.2.2.1 (fun t ht hW => ⟨rfl, by rw [ht]; exact hP, hD, hS.F ht⟩) hS.2.2 hd C.2.2.2.2.1
theorem go_lret (C : Cx p s m args meth c K A cc nL own Ts (some .long)) {v : Int64} (hd : decode cc pc = .ok (.lreturn, 1)) : Go p l e R s m args below meth c K A nL cells slots (MQ below (QR K (some (.long v)) ws A) args s cells slots A) ws pc lv [.long v] := fun H locs ls hP hD hS hl => W.lret C.1.1 C.1.2.1 C.2.2.2.1 (fun t ht hW => ⟨rfl, by rw [ht]; exact hP, hD, hS.F ht⟩) hS.2.2 hd C.2.2.2.2.1
theorem go_zret (C : Cx p s m args meth c K A cc nL own Ts (some .boolean)) {v : Int32} (hv : v &&& 1 = v) (hd : decode cc pc = .ok (.ireturn, 1)) : Go p l e R s m args below meth c K A nL cells slots (MQ below (QR K (some (.int v)) ws A) args s cells slots A) ws pc lv [.int v] := fun H locs ls hP hD hS hl => W.zret (ty := .boolean) C.1.1 C.1.2.1 C.2.2.2.1 (show Value.int (v &&& 1) = .int v by rw [hv]) (fun t ht hW => ⟨rfl, by rw [ht]; exact hP, hD, hS.F ht⟩) hS.2.2 hd C.2.2.2.2.1
theorem go_vret (C : Cx p s m args meth c K A cc nL own Ts none) (hd : decode cc pc = .ok (.return_, 1)) : Go p l e R s m args below meth c K A nL cells slots (MQ below (QR K none ws A) args s cells slots A) ws pc lv [] := fun H locs ls hP hD hS hl => W.vret C.1.1 C.1.2.1 C.2.2.2.1 (fun t ht hW => ⟨rfl, by rw [ht]; exact hP, hD, hS.F ht⟩) hS.2.2 hd C.2.2.2.2.1
theorem go_mmin (C : Cx p s m args meth c K A cc nL own Ts ret) {ix : Nat} {x y : Int32} (h1 : Cond.methodLink own ix Lib.Math.min.name ∈ Ts) (h2 : Cond.static Lib.Math.min.name ∈ Ts) (h3 : Cond.initialized "java/lang/Math" ∈ Ts) (h4 : Cond.code Lib.Math.min.name Lib.Math.min.code 2 (some .int) ∈ Ts) (hf : 1 ≤ R.frames) (ho : (st.map fun v => v.category).sum + 13 ≤ R.locals) (hc : cells ≤ R.cells) (hs : slots ≤ R.slots) (hd : decode cc pc = .ok (.invokestatic ix, 3)) (k : Go p l e R s m args below meth c K A nL cells slots Q ws (pc + 3) lv (.int (if y < x then y else x) :: st)) : Go p l e R s m args below meth c K A nL cells slots Q ws pc lv (.int y :: .int x :: st) := fun H locs ls hP hD hS hl => va_mmin C.1.1 C.1.2.1 (C.1.2.2.1.trans hl.1.symm) C.1.2.2.2.1 (C.1.2.2.2.2 _ h1) (C.1.2.2.2.2 _ h2) (C.1.2.2.2.2 _ h3) (C.1.2.2.2.2 _ h4) hf ho hc hs hd (k H locs ls hP hD hS hl)
theorem run_after {H : Heap} {locs : List Loc} {ls : Array Slot} {rest st0 : List Value} {a : Array Value} {A0 A1 : Nat → Prop} {H0 : Heap} {free : Addr → Prop} {res : Option Value} {w1 : va_W}
    (hr : va_Run p l e R s m args below meth c H locs cells slots 0 0 (F0 m pc ls st0) rest (QR K res w1 A1 a) free) (hS : va_S A0 H0 H locs) (hA : ∀ q, q < H.size → A1 q → A0 q) (hf : ∀ q, free q → A0 q)
    (kk : ∀ (H1 : Heap) (locs1 : List Loc), va_P K.1 vwCl w1 H1 → va_D A1 w1 → (∀ q : Nat, q < H.size → ¬ A1 q → H1[q]? = H[q]?) → va_S A0 H0 H1 locs1 → W p l e R s m args below meth c H1 locs1 cells slots Q (F0 m (pc + 3) ls (res.toList ++ rest))) : W p l e R s m args below meth c H locs cells slots Q (F0 m pc ls st0) := by
  intro T hT X
  obtain ⟨v, st₀, t, T', L, h0, X', hL, e1, e2, ⟨hv, hp, hb, hz, hk⟩, st⟩ := hr T hT X
  cases hv
  rw [h0] at hz hk
  obtain ⟨t2, a1, b1⟩ := kk T'.heap (locs ++ L) (by rw [e1]; exact hp) hb (fun q h1 h2 => by rw [e1]; exact hk q h1 h2)
    ⟨Nat.le_trans hS.1 (by rw [e1]; exact hz), fun q h1 h2 => by rw [e1, hk q (Nat.lt_of_lt_of_le h1 hS.1) (fun z => h2 (hA q (Nat.lt_of_lt_of_le h1 hS.1) z))]; exact hS.2.1 q h1 h2, fun q hq => by
      rcases List.mem_append.mp hq with h | h
      · exact hS.2.2 q h
      · exact hf _ (hL q h)⟩ T' rfl X'
  exact ⟨t2, st t2 a1, b1⟩
theorem pre_blind {av : List Value} {sz : Nat} : FrameBlind (va_Pc av (fun U => U.heap.size = sz ∧ va_P K.1 vwCl ws U.heap ∧ va_K K.1 vwCl (TY K) U ∧ va_D (fun _ => True) ws ∧ NW U)) := fun a U g mk q => by
  obtain ⟨q0, q1, qP, qK, qD, qN⟩ := q
  exact ⟨q0, q1, qP, va_K.moved (u := U) (U := U.calling g mk a) (Vm.Alike.refl U.vm) qK, qD, qN.same rfl⟩
theorem go_callV_full (C : Cx p s m args meth c K A cc nL own Ts ret) {y : MethodName} {Cn : String} {ix n : Nat} {bytes : ByteArray} {maxL : Nat} {ry : Option FieldType} {wsy wsy' : List Cond} {d : Nat} {As rest st0 : List Value} {b : Nat} {res : Option Value} {w' : va_W} (hcon : Con l y wsy d K (.ref b :: As) ws res w') (hG : GoodIn Ts (wsV own ix Cn y wsy)) (hdd : y.cls = Cn ∧ y.cls ≠ "java/lang/invoke/MethodHandle" ∧ y.cls ≠ "java/lang/invoke/VarHandle" ∧ (parseMethodDescriptor y.desc).map (fun d => d.parameters.length) = some n) (hw : wsy = Cond.code y bytes maxL ry :: wsy') (hR : (RM d).frames + 1 ≤ R.frames ∧ 8 + (maxL + 11) + (RM d).locals ≤ R.locals) (hc : cells ≤ R.cells ∧ slots ≤ R.slots) (hre : ∃ (q0 ci : Nat) (q : vw_C) (fs : List Value), vwCl[ci]? = some q ∧ ws[q0]? = some (b, .inr (ci, fs)) ∧ q.1 = Cn) (hn : As.length = n) (hst : st0 = As.reverse ++ .ref b :: rest) (hro : (rest.map fun v => v.category).sum ≤ 8) (hd : decode cc pc = .ok (.invokevirtual ix, 3)) (k : Go p l e R s m args below meth c K A nL cells slots Q w' (pc + 3) lv (res.toList ++ rest)) : Go p l e R s m args below meth c K A nL cells slots Q ws pc lv st0 := by
  intro H locs ls hP hD hS hl
  have hPc := hP
  have hDc := hD
  have hF := free_of hDc hS C.2.2.2.2.2
  have hrv : ∃ cell : Cell, H[b]? = some cell ∧ cell.vm.isStatics = false ∧ s.vm.findClass Cn = some cell.cls := by
    obtain ⟨q0, ci, q, fs, g1, g2, g3⟩ := hre
    rw [← g3]
    exact va_recv C.2.1 hPc g1 g2
  refine run_after (va_runV (As := As) (rest := rest) C.1 (hcon H.size) (cwV n C.1.2.2.2.2 hG hw rfl rfl hdd hR) ⟨pre_blind, hrv, fun U hU hW => ⟨rfl, by rw [hU], by rw [hU]; exact hPc, va_K.moved hW.alike C.2.1, hDc.weaken (fun _ _ _ _ => trivial), C.2.2.1.warm hW⟩⟩ rfl hn (hl.1) hst (lv_room hro) hd ⟨hc.1, hc.2⟩) hS (fun q _ h => hF q h) hF (fun H1 locs1 hP1 hD1 hk hS1 => ?_)
  exact k H1 locs1 ls hP1 (hD1.weaken (fun _ q _ h => hF q.1 h)) hS1 hl
theorem go_callV_l (C : Cx p s m args meth c K A cc nL own Ts ret) {y : MethodName} {Cn : String} {ix n : Nat} {bytes : ByteArray} {maxL : Nat} {ry : Option FieldType} {wsy wsy' : List Cond} {d : Nat} {As rest st0 : List Value} {b : Nat} {res : Option Value} {w' : va_W} {w2 : va_W} (hcon : Con l y wsy d K (.ref b :: As) ws res w') (hG : GoodIn Ts (wsV own ix Cn y wsy)) (hdd : y.cls = Cn ∧ y.cls ≠ "java/lang/invoke/MethodHandle" ∧ y.cls ≠ "java/lang/invoke/VarHandle" ∧ (parseMethodDescriptor y.desc).map (fun d => d.parameters.length) = some n) (hw : wsy = Cond.code y bytes maxL ry :: wsy') (hR : (RM d).frames + 1 ≤ R.frames ∧ 8 + (maxL + 11) + (RM d).locals ≤ R.locals) (hc : cells ≤ R.cells ∧ slots ≤ R.slots) (hre : ∃ (q0 ci : Nat) (q : vw_C) (fs : List Value), vwCl[ci]? = some q ∧ ws[q0]? = some (b, .inr (ci, fs)) ∧ q.1 = Cn) (hn : As.length = n) (hst : st0 = As.reverse ++ .ref b :: rest) (hro : (rest.map fun v => v.category).sum ≤ 8) (hd : decode cc pc = .ok (.invokevirtual ix, 3)) (k : Go p l e R s m args below meth c K A nL cells slots Q (w' ++ w2) (pc + 3) lv (res.toList ++ rest)) : Go p l e R s m args below meth c K A nL cells slots Q (ws ++ w2) pc lv st0 := by
  intro H locs ls hP hD hS hl
  have hPc := vP_l hP
  have hDc := vD_l hD
  have hF := free_of hDc hS C.2.2.2.2.2
  have hrv : ∃ cell : Cell, H[b]? = some cell ∧ cell.vm.isStatics = false ∧ s.vm.findClass Cn = some cell.cls := by
    obtain ⟨q0, ci, q, fs, g1, g2, g3⟩ := hre
    rw [← g3]
    exact va_recv C.2.1 hPc g1 g2
  refine run_after (va_runV (As := As) (rest := rest) C.1 (hcon H.size) (cwV n C.1.2.2.2.2 hG hw rfl rfl hdd hR) ⟨pre_blind, hrv, fun U hU hW => ⟨rfl, by rw [hU], by rw [hU]; exact hPc, va_K.moved hW.alike C.2.1, hDc.weaken (fun _ _ _ _ => trivial), C.2.2.1.warm hW⟩⟩ rfl hn (hl.1) hst (lv_room hro) hd ⟨hc.1, hc.2⟩) hS (fun q _ h => hF q h) hF (fun H1 locs1 hP1 hD1 hk hS1 => ?_)
  obtain ⟨hP2, hD2⟩ := join_l hP hD hF hP1 hD1 hk
  exact k H1 locs1 ls hP2 hD2 hS1 hl
theorem go_callV_r (C : Cx p s m args meth c K A cc nL own Ts ret) {y : MethodName} {Cn : String} {ix n : Nat} {bytes : ByteArray} {maxL : Nat} {ry : Option FieldType} {wsy wsy' : List Cond} {d : Nat} {As rest st0 : List Value} {b : Nat} {res : Option Value} {w' : va_W} {w2 : va_W} (hcon : Con l y wsy d K (.ref b :: As) ws res w') (hG : GoodIn Ts (wsV own ix Cn y wsy)) (hdd : y.cls = Cn ∧ y.cls ≠ "java/lang/invoke/MethodHandle" ∧ y.cls ≠ "java/lang/invoke/VarHandle" ∧ (parseMethodDescriptor y.desc).map (fun d => d.parameters.length) = some n) (hw : wsy = Cond.code y bytes maxL ry :: wsy') (hR : (RM d).frames + 1 ≤ R.frames ∧ 8 + (maxL + 11) + (RM d).locals ≤ R.locals) (hc : cells ≤ R.cells ∧ slots ≤ R.slots) (hre : ∃ (q0 ci : Nat) (q : vw_C) (fs : List Value), vwCl[ci]? = some q ∧ ws[q0]? = some (b, .inr (ci, fs)) ∧ q.1 = Cn) (hn : As.length = n) (hst : st0 = As.reverse ++ .ref b :: rest) (hro : (rest.map fun v => v.category).sum ≤ 8) (hd : decode cc pc = .ok (.invokevirtual ix, 3)) (k : Go p l e R s m args below meth c K A nL cells slots Q (w2 ++ w') (pc + 3) lv (res.toList ++ rest)) : Go p l e R s m args below meth c K A nL cells slots Q (w2 ++ ws) pc lv st0 := by
  intro H locs ls hP hD hS hl
  have hPc := vP_r hP
  have hDc := vD_r hD
  have hF := free_of hDc hS C.2.2.2.2.2
  have hrv : ∃ cell : Cell, H[b]? = some cell ∧ cell.vm.isStatics = false ∧ s.vm.findClass Cn = some cell.cls := by
    obtain ⟨q0, ci, q, fs, g1, g2, g3⟩ := hre
    rw [← g3]
    exact va_recv C.2.1 hPc g1 g2
  refine run_after (va_runV (As := As) (rest := rest) C.1 (hcon H.size) (cwV n C.1.2.2.2.2 hG hw rfl rfl hdd hR) ⟨pre_blind, hrv, fun U hU hW => ⟨rfl, by rw [hU], by rw [hU]; exact hPc, va_K.moved hW.alike C.2.1, hDc.weaken (fun _ _ _ _ => trivial), C.2.2.1.warm hW⟩⟩ rfl hn (hl.1) hst (lv_room hro) hd ⟨hc.1, hc.2⟩) hS (fun q _ h => hF q h) hF (fun H1 locs1 hP1 hD1 hk hS1 => ?_)
  obtain ⟨hP2, hD2⟩ := join_r hP hD hF hP1 hD1 hk
  exact k H1 locs1 ls hP2 hD2 hS1 hl
theorem go_callN_full (C : Cx p s m args meth c K A cc nL own Ts ret) {y : MethodName} {Cn : String} {ix n : Nat} {bytes : ByteArray} {maxL : Nat} {ry : Option FieldType} {wsy wsy' : List Cond} {d : Nat} {As rest st0 : List Value} {b : Nat} {res : Option Value} {w' : va_W} (hcon : Con l y wsy d K (.ref b :: As) ws res w') (hG : GoodIn Ts wsy) (hnw : va_Nw (.methodLinkNest own ix y RX2) s) (hini : Cond.initialized y.cls ∈ Ts) (hin : Cond.instanceMethod y ∈ Ts) (hse : Cond.selects Cn y y ∈ Ts) (hdd : y.cls ≠ "java/lang/invoke/MethodHandle" ∧ y.cls ≠ "java/lang/invoke/VarHandle" ∧ (parseMethodDescriptor y.desc).map (fun d => d.parameters.length) = some n) (hw : wsy = Cond.code y bytes maxL ry :: wsy') (hR : (RM d).frames + 1 ≤ R.frames ∧ 8 + (maxL + 11) + (RM d).locals ≤ R.locals) (hc : cells ≤ R.cells ∧ slots ≤ R.slots) (hre : ∃ (q0 ci : Nat) (q : vw_C) (fs : List Value), vwCl[ci]? = some q ∧ ws[q0]? = some (b, .inr (ci, fs)) ∧ q.1 = Cn) (hn : As.length = n) (hst : st0 = As.reverse ++ .ref b :: rest) (hro : (rest.map fun v => v.category).sum ≤ 8) (hd : decode cc pc = .ok (.invokevirtual ix, 3)) (k : Go p l e R s m args below meth c K A nL cells slots Q w' (pc + 3) lv (res.toList ++ rest)) : Go p l e R s m args below meth c K A nL cells slots Q ws pc lv st0 := by
  intro H locs ls hP hD hS hl
  have hPc := hP
  have hDc := hD
  have hF := free_of hDc hS C.2.2.2.2.2
  have hrv : ∃ cell : Cell, H[b]? = some cell ∧ cell.vm.isStatics = false ∧ s.vm.findClass Cn = some cell.cls := by
    obtain ⟨q0, ci, q, fs, g1, g2, g3⟩ := hre
    rw [← g3]
    exact va_recv C.2.1 hPc g1 g2
  refine run_after (va_runVN (As := As) (rest := rest) C.1 (hcon H.size) ⟨va_cnB n C.1.2.2.2.2 hG hw rfl rfl hnw (C.1.2.2.2.2 _ hini) hdd hR, C.1.2.2.2.2 _ hin, C.1.2.2.2.2 _ hse⟩ ⟨pre_blind, hrv, fun U hU hW => ⟨rfl, by rw [hU], by rw [hU]; exact hPc, va_K.moved hW.alike C.2.1, hDc.weaken (fun _ _ _ _ => trivial), C.2.2.1.warm hW⟩⟩ rfl hn (hl.1) hst (lv_room hro) hd ⟨hc.1, hc.2⟩) hS (fun q _ h => hF q h) hF (fun H1 locs1 hP1 hD1 hk hS1 => ?_)
  exact k H1 locs1 ls hP1 (hD1.weaken (fun _ q _ h => hF q.1 h)) hS1 hl
theorem go_callN_l (C : Cx p s m args meth c K A cc nL own Ts ret) {y : MethodName} {Cn : String} {ix n : Nat} {bytes : ByteArray} {maxL : Nat} {ry : Option FieldType} {wsy wsy' : List Cond} {d : Nat} {As rest st0 : List Value} {b : Nat} {res : Option Value} {w' : va_W} {w2 : va_W} (hcon : Con l y wsy d K (.ref b :: As) ws res w') (hG : GoodIn Ts wsy) (hnw : va_Nw (.methodLinkNest own ix y RX2) s) (hini : Cond.initialized y.cls ∈ Ts) (hin : Cond.instanceMethod y ∈ Ts) (hse : Cond.selects Cn y y ∈ Ts) (hdd : y.cls ≠ "java/lang/invoke/MethodHandle" ∧ y.cls ≠ "java/lang/invoke/VarHandle" ∧ (parseMethodDescriptor y.desc).map (fun d => d.parameters.length) = some n) (hw : wsy = Cond.code y bytes maxL ry :: wsy') (hR : (RM d).frames + 1 ≤ R.frames ∧ 8 + (maxL + 11) + (RM d).locals ≤ R.locals) (hc : cells ≤ R.cells ∧ slots ≤ R.slots) (hre : ∃ (q0 ci : Nat) (q : vw_C) (fs : List Value), vwCl[ci]? = some q ∧ ws[q0]? = some (b, .inr (ci, fs)) ∧ q.1 = Cn) (hn : As.length = n) (hst : st0 = As.reverse ++ .ref b :: rest) (hro : (rest.map fun v => v.category).sum ≤ 8) (hd : decode cc pc = .ok (.invokevirtual ix, 3)) (k : Go p l e R s m args below meth c K A nL cells slots Q (w' ++ w2) (pc + 3) lv (res.toList ++ rest)) : Go p l e R s m args below meth c K A nL cells slots Q (ws ++ w2) pc lv st0 := by
  intro H locs ls hP hD hS hl
  have hPc := vP_l hP
  have hDc := vD_l hD
  have hF := free_of hDc hS C.2.2.2.2.2
  have hrv : ∃ cell : Cell, H[b]? = some cell ∧ cell.vm.isStatics = false ∧ s.vm.findClass Cn = some cell.cls := by
    obtain ⟨q0, ci, q, fs, g1, g2, g3⟩ := hre
    rw [← g3]
    exact va_recv C.2.1 hPc g1 g2
  refine run_after (va_runVN (As := As) (rest := rest) C.1 (hcon H.size) ⟨va_cnB n C.1.2.2.2.2 hG hw rfl rfl hnw (C.1.2.2.2.2 _ hini) hdd hR, C.1.2.2.2.2 _ hin, C.1.2.2.2.2 _ hse⟩ ⟨pre_blind, hrv, fun U hU hW => ⟨rfl, by rw [hU], by rw [hU]; exact hPc, va_K.moved hW.alike C.2.1, hDc.weaken (fun _ _ _ _ => trivial), C.2.2.1.warm hW⟩⟩ rfl hn (hl.1) hst (lv_room hro) hd ⟨hc.1, hc.2⟩) hS (fun q _ h => hF q h) hF (fun H1 locs1 hP1 hD1 hk hS1 => ?_)
  obtain ⟨hP2, hD2⟩ := join_l hP hD hF hP1 hD1 hk
  exact k H1 locs1 ls hP2 hD2 hS1 hl
theorem go_callN_r (C : Cx p s m args meth c K A cc nL own Ts ret) {y : MethodName} {Cn : String} {ix n : Nat} {bytes : ByteArray} {maxL : Nat} {ry : Option FieldType} {wsy wsy' : List Cond} {d : Nat} {As rest st0 : List Value} {b : Nat} {res : Option Value} {w' : va_W} {w2 : va_W} (hcon : Con l y wsy d K (.ref b :: As) ws res w') (hG : GoodIn Ts wsy) (hnw : va_Nw (.methodLinkNest own ix y RX2) s) (hini : Cond.initialized y.cls ∈ Ts) (hin : Cond.instanceMethod y ∈ Ts) (hse : Cond.selects Cn y y ∈ Ts) (hdd : y.cls ≠ "java/lang/invoke/MethodHandle" ∧ y.cls ≠ "java/lang/invoke/VarHandle" ∧ (parseMethodDescriptor y.desc).map (fun d => d.parameters.length) = some n) (hw : wsy = Cond.code y bytes maxL ry :: wsy') (hR : (RM d).frames + 1 ≤ R.frames ∧ 8 + (maxL + 11) + (RM d).locals ≤ R.locals) (hc : cells ≤ R.cells ∧ slots ≤ R.slots) (hre : ∃ (q0 ci : Nat) (q : vw_C) (fs : List Value), vwCl[ci]? = some q ∧ ws[q0]? = some (b, .inr (ci, fs)) ∧ q.1 = Cn) (hn : As.length = n) (hst : st0 = As.reverse ++ .ref b :: rest) (hro : (rest.map fun v => v.category).sum ≤ 8) (hd : decode cc pc = .ok (.invokevirtual ix, 3)) (k : Go p l e R s m args below meth c K A nL cells slots Q (w2 ++ w') (pc + 3) lv (res.toList ++ rest)) : Go p l e R s m args below meth c K A nL cells slots Q (w2 ++ ws) pc lv st0 := by
  intro H locs ls hP hD hS hl
  have hPc := vP_r hP
  have hDc := vD_r hD
  have hF := free_of hDc hS C.2.2.2.2.2
  have hrv : ∃ cell : Cell, H[b]? = some cell ∧ cell.vm.isStatics = false ∧ s.vm.findClass Cn = some cell.cls := by
    obtain ⟨q0, ci, q, fs, g1, g2, g3⟩ := hre
    rw [← g3]
    exact va_recv C.2.1 hPc g1 g2
  refine run_after (va_runVN (As := As) (rest := rest) C.1 (hcon H.size) ⟨va_cnB n C.1.2.2.2.2 hG hw rfl rfl hnw (C.1.2.2.2.2 _ hini) hdd hR, C.1.2.2.2.2 _ hin, C.1.2.2.2.2 _ hse⟩ ⟨pre_blind, hrv, fun U hU hW => ⟨rfl, by rw [hU], by rw [hU]; exact hPc, va_K.moved hW.alike C.2.1, hDc.weaken (fun _ _ _ _ => trivial), C.2.2.1.warm hW⟩⟩ rfl hn (hl.1) hst (lv_room hro) hd ⟨hc.1, hc.2⟩) hS (fun q _ h => hF q h) hF (fun H1 locs1 hP1 hD1 hk hS1 => ?_)
  obtain ⟨hP2, hD2⟩ := join_r hP hD hF hP1 hD1 hk
  exact k H1 locs1 ls hP2 hD2 hS1 hl
theorem go_callS_l (C : Cx p s m args meth c K A cc nL own Ts ret) {y : MethodName} {Cn : String} {ix n : Nat} {bytes : ByteArray} {maxL : Nat} {ry : Option FieldType} {wsy wsy' : List Cond} {d : Nat} {As rest st0 : List Value} {b : Nat} {res : Option Value} {w' : va_W} {w2 : va_W} (hcon : Con l y wsy d K As ws res w') (hG : GoodIn Ts (va_wsS own ix y wsy)) (hdd : y.cls ≠ "java/lang/invoke/MethodHandle" ∧ y.cls ≠ "java/lang/invoke/VarHandle" ∧ (parseMethodDescriptor y.desc).map (fun d => d.parameters.length) = some n) (hw : wsy = Cond.code y bytes maxL ry :: wsy') (hR : (RM d).frames + 1 ≤ R.frames ∧ 8 + (maxL + 11) + (RM d).locals ≤ R.locals) (hc : cells ≤ R.cells ∧ slots ≤ R.slots) (hn : As.length = n) (hst : st0 = As.reverse ++ rest) (hro : (rest.map fun v => v.category).sum ≤ 8) (hd : decode cc pc = .ok (.invokestatic ix, 3)) (k : Go p l e R s m args below meth c K A nL cells slots Q (w' ++ w2) (pc + 3) lv (res.toList ++ rest)) : Go p l e R s m args below meth c K A nL cells slots Q (ws ++ w2) pc lv st0 := by
  intro H locs ls hP hD hS hl
  have hPc := vP_l hP
  have hDc := vD_l hD
  have hF := free_of hDc hS C.2.2.2.2.2
  refine run_after (va_runS (As := As) (rest := rest) C.1 (hcon H.size) (va_cwS n C.1.2.2.2.2 hG hw rfl rfl hdd hR) ⟨pre_blind, fun U hU hW => ⟨rfl, by rw [hU], by rw [hU]; exact hPc, va_K.moved hW.alike C.2.1, hDc.weaken (fun _ _ _ _ => trivial), C.2.2.1.warm hW⟩⟩ rfl hn (hl.1) hst (lv_room hro) hd ⟨hc.1, hc.2⟩) hS (fun q _ h => hF q h) hF (fun H1 locs1 hP1 hD1 hk hS1 => ?_)
  obtain ⟨hP2, hD2⟩ := join_l hP hD hF hP1 hD1 hk
  exact k H1 locs1 ls hP2 hD2 hS1 hl
end GO
/-! ===== the reference's world ===== -/
def mW (K : KK) (a : Nat → Nat) (now past err lef msg met par : Nat → Int32) (sv : Int32) (hash : Int64) : va_W :=
  [(a 0, .inr (3, [.ref (a 1), .ref (a 2), .int sv, .ref (a 3), .ref (a 4), .ref (a 5), .ref (a 6), .ref (a 7), .long hash])), (a 1, .inl (K.2.1, 14, .inl now)), (a 2, .inl (K.2.1, 56, .inl past)), (a 3, .inl (K.2.1, 5, .inl err)), (a 4, .inl (K.2.1, 6, .inl lef)), (a 5, .inl (K.2.1, 256, .inl msg)), (a 6, .inl (K.2.2.1, 64, .inl met)), (a 7, .inl (K.2.1, 256, .inl par))]
section MW
variable {p : Program} {l : Launch} {e : Env} {R : Room} {s : State} {m : MethodId} {args : Array Value} {below : List Frame} {meth : Method} {c : Code} {K : KK} {A : Nat → Prop} {cells slots : Nat} {Q : State → Prop} {cc : ByteArray} {nL : Nat} {Ts : List Cond} {ret : Option FieldType} {pc : Nat} {lv : List (Nat × Value)} {st : List Value}
variable {a : Nat → Nat} {now past err lef msg met par : Nat → Int32} {sv : Int32} {hash : Int64}
theorem gM_get_now (C : Cx p s m args meth c K A cc nL RX3 Ts ret) {ix : Nat} (hin : ∀ w ∈ wsX30, w ∈ Ts) (hk : Cond.fieldLink RX3 ix "CosetCoderModel" "now" "[I" ∈ Ts) (hd : decode cc pc = .ok (.getfield ix, 3)) (k : Go p l e R s m args below meth c K A nL cells slots Q (mW K a now past err lef msg met par sv hash) (pc + 3) lv (.ref (a 1) :: st)) : Go p l e R s m args below meth c K A nL cells slots Q (mW K a now past err lef msg met par sv hash) pc lv (.ref (a 0) :: st) := fun H locs ls hP hD hS hl => va_get (D := K.1) (ci := 3) (v := .ref (a 1)) (C := RX3) (T := TX3) (N := 9) C.1.1 C.1.2.1 C.1.2.2.2.2 hin C.1.2.2.2.1 C.2.1 hP 0 rfl rfl 0 (by decide) (C.1.2.2.2.2 _ hk) (fun _ h => h) rfl hd (k H locs ls hP hD hS hl)
theorem gM_get_past (C : Cx p s m args meth c K A cc nL RX3 Ts ret) {ix : Nat} (hin : ∀ w ∈ wsX30, w ∈ Ts) (hk : Cond.fieldLink RX3 ix "CosetCoderModel" "past" "[I" ∈ Ts) (hd : decode cc pc = .ok (.getfield ix, 3)) (k : Go p l e R s m args below meth c K A nL cells slots Q (mW K a now past err lef msg met par sv hash) (pc + 3) lv (.ref (a 2) :: st)) : Go p l e R s m args below meth c K A nL cells slots Q (mW K a now past err lef msg met par sv hash) pc lv (.ref (a 0) :: st) := fun H locs ls hP hD hS hl => va_get (D := K.1) (ci := 3) (v := .ref (a 2)) (C := RX3) (T := TX3) (N := 9) C.1.1 C.1.2.1 C.1.2.2.2.2 hin C.1.2.2.2.1 C.2.1 hP 0 rfl rfl 1 (by decide) (C.1.2.2.2.2 _ hk) (fun _ h => h) rfl hd (k H locs ls hP hD hS hl)
theorem gM_get_saved (C : Cx p s m args meth c K A cc nL RX3 Ts ret) {ix : Nat} (hin : ∀ w ∈ wsX30, w ∈ Ts) (hk : Cond.fieldLink RX3 ix "CosetCoderModel" "saved" "I" ∈ Ts) (hd : decode cc pc = .ok (.getfield ix, 3)) (k : Go p l e R s m args below meth c K A nL cells slots Q (mW K a now past err lef msg met par sv hash) (pc + 3) lv (.int sv :: st)) : Go p l e R s m args below meth c K A nL cells slots Q (mW K a now past err lef msg met par sv hash) pc lv (.ref (a 0) :: st) := fun H locs ls hP hD hS hl => va_get (D := K.1) (ci := 3) (v := .int sv) (C := RX3) (T := TX3) (N := 9) C.1.1 C.1.2.1 C.1.2.2.2.2 hin C.1.2.2.2.1 C.2.1 hP 0 rfl rfl 2 (by decide) (C.1.2.2.2.2 _ hk) (fun _ h => h) rfl hd (k H locs ls hP hD hS hl)
theorem gM_get_errors (C : Cx p s m args meth c K A cc nL RX3 Ts ret) {ix : Nat} (hin : ∀ w ∈ wsX30, w ∈ Ts) (hk : Cond.fieldLink RX3 ix "CosetCoderModel" "errors" "[I" ∈ Ts) (hd : decode cc pc = .ok (.getfield ix, 3)) (k : Go p l e R s m args below meth c K A nL cells slots Q (mW K a now past err lef msg met par sv hash) (pc + 3) lv (.ref (a 3) :: st)) : Go p l e R s m args below meth c K A nL cells slots Q (mW K a now past err lef msg met par sv hash) pc lv (.ref (a 0) :: st) := fun H locs ls hP hD hS hl => va_get (D := K.1) (ci := 3) (v := .ref (a 3)) (C := RX3) (T := TX3) (N := 9) C.1.1 C.1.2.1 C.1.2.2.2.2 hin C.1.2.2.2.1 C.2.1 hP 0 rfl rfl 3 (by decide) (C.1.2.2.2.2 _ hk) (fun _ h => h) rfl hd (k H locs ls hP hD hS hl)
theorem gM_get_left (C : Cx p s m args meth c K A cc nL RX3 Ts ret) {ix : Nat} (hin : ∀ w ∈ wsX30, w ∈ Ts) (hk : Cond.fieldLink RX3 ix "CosetCoderModel" "left" "[I" ∈ Ts) (hd : decode cc pc = .ok (.getfield ix, 3)) (k : Go p l e R s m args below meth c K A nL cells slots Q (mW K a now past err lef msg met par sv hash) (pc + 3) lv (.ref (a 4) :: st)) : Go p l e R s m args below meth c K A nL cells slots Q (mW K a now past err lef msg met par sv hash) pc lv (.ref (a 0) :: st) := fun H locs ls hP hD hS hl => va_get (D := K.1) (ci := 3) (v := .ref (a 4)) (C := RX3) (T := TX3) (N := 9) C.1.1 C.1.2.1 C.1.2.2.2.2 hin C.1.2.2.2.1 C.2.1 hP 0 rfl rfl 4 (by decide) (C.1.2.2.2.2 _ hk) (fun _ h => h) rfl hd (k H locs ls hP hD hS hl)
theorem gM_get_messageOf (C : Cx p s m args meth c K A cc nL RX3 Ts ret) {ix : Nat} (hin : ∀ w ∈ wsX30, w ∈ Ts) (hk : Cond.fieldLink RX3 ix "CosetCoderModel" "messageOf" "[I" ∈ Ts) (hd : decode cc pc = .ok (.getfield ix, 3)) (k : Go p l e R s m args below meth c K A nL cells slots Q (mW K a now past err lef msg met par sv hash) (pc + 3) lv (.ref (a 5) :: st)) : Go p l e R s m args below meth c K A nL cells slots Q (mW K a now past err lef msg met par sv hash) pc lv (.ref (a 0) :: st) := fun H locs ls hP hD hS hl => va_get (D := K.1) (ci := 3) (v := .ref (a 5)) (C := RX3) (T := TX3) (N := 9) C.1.1 C.1.2.1 C.1.2.2.2.2 hin C.1.2.2.2.1 C.2.1 hP 0 rfl rfl 5 (by decide) (C.1.2.2.2.2 _ hk) (fun _ h => h) rfl hd (k H locs ls hP hD hS hl)
theorem gM_get_met (C : Cx p s m args meth c K A cc nL RX3 Ts ret) {ix : Nat} (hin : ∀ w ∈ wsX30, w ∈ Ts) (hk : Cond.fieldLink RX3 ix "CosetCoderModel" "met" "[Z" ∈ Ts) (hd : decode cc pc = .ok (.getfield ix, 3)) (k : Go p l e R s m args below meth c K A nL cells slots Q (mW K a now past err lef msg met par sv hash) (pc + 3) lv (.ref (a 6) :: st)) : Go p l e R s m args below meth c K A nL cells slots Q (mW K a now past err lef msg met par sv hash) pc lv (.ref (a 0) :: st) := fun H locs ls hP hD hS hl => va_get (D := K.1) (ci := 3) (v := .ref (a 6)) (C := RX3) (T := TX3) (N := 9) C.1.1 C.1.2.1 C.1.2.2.2.2 hin C.1.2.2.2.1 C.2.1 hP 0 rfl rfl 6 (by decide) (C.1.2.2.2.2 _ hk) (fun _ h => h) rfl hd (k H locs ls hP hD hS hl)
theorem gM_get_parityOf (C : Cx p s m args meth c K A cc nL RX3 Ts ret) {ix : Nat} (hin : ∀ w ∈ wsX30, w ∈ Ts) (hk : Cond.fieldLink RX3 ix "CosetCoderModel" "parityOf" "[I" ∈ Ts) (hd : decode cc pc = .ok (.getfield ix, 3)) (k : Go p l e R s m args below meth c K A nL cells slots Q (mW K a now past err lef msg met par sv hash) (pc + 3) lv (.ref (a 7) :: st)) : Go p l e R s m args below meth c K A nL cells slots Q (mW K a now past err lef msg met par sv hash) pc lv (.ref (a 0) :: st) := fun H locs ls hP hD hS hl => va_get (D := K.1) (ci := 3) (v := .ref (a 7)) (C := RX3) (T := TX3) (N := 9) C.1.1 C.1.2.1 C.1.2.2.2.2 hin C.1.2.2.2.1 C.2.1 hP 0 rfl rfl 7 (by decide) (C.1.2.2.2.2 _ hk) (fun _ h => h) rfl hd (k H locs ls hP hD hS hl)
theorem gM_get_hash (C : Cx p s m args meth c K A cc nL RX3 Ts ret) {ix : Nat} (hin : ∀ w ∈ wsX30, w ∈ Ts) (hk : Cond.fieldLink RX3 ix "CosetCoderModel" "hash" "J" ∈ Ts) (hd : decode cc pc = .ok (.getfield ix, 3)) (k : Go p l e R s m args below meth c K A nL cells slots Q (mW K a now past err lef msg met par sv hash) (pc + 3) lv (.long hash :: st)) : Go p l e R s m args below meth c K A nL cells slots Q (mW K a now past err lef msg met par sv hash) pc lv (.ref (a 0) :: st) := fun H locs ls hP hD hS hl => va_get (D := K.1) (ci := 3) (v := .long hash) (C := RX3) (T := TX3) (N := 9) C.1.1 C.1.2.1 C.1.2.2.2.2 hin C.1.2.2.2.1 C.2.1 hP 0 rfl rfl 8 (by decide) (C.1.2.2.2.2 _ hk) (fun _ h => h) rfl hd (k H locs ls hP hD hS hl)
theorem gM_put_saved (C : Cx p s m args meth c K A cc nL RX3 Ts ret) {ix : Nat} {x : Int32} (hin : ∀ w ∈ wsX30, w ∈ Ts) (hk : Cond.fieldLink RX3 ix "CosetCoderModel" "saved" "I" ∈ Ts) (hd : decode cc pc = .ok (.putfield ix, 3)) (k : Go p l e R s m args below meth c K A nL cells slots Q (mW K a now past err lef msg met par x hash) (pc + 3) lv st) : Go p l e R s m args below meth c K A nL cells slots Q (mW K a now past err lef msg met par sv hash) pc lv (.int x :: .ref (a 0) :: st) := fun H locs ls hP hD hS hl => va_put (D := K.1) (ci := 3) (v := .int x) (ty := .int) (C := RX3) (T := TX3) (N := 9) C.1.1 C.1.2.1 C.1.2.2.2.2 hin tyX3 tyX3_ok nmX3 C.1.2.2.2.1 C.2.1 hP hD hS 0 rfl rfl 2 (by decide) (C.1.2.2.2.2 _ hk) (fun _ h => h) rfl (by decide +kernel) rfl rfl (Nat.le_of_ble_eq_true rfl) hd (fun H1 locs1 hP1 hD1 hS1 => k H1 locs1 ls hP1 hD1 hS1 hl)
theorem gM_put_hash (C : Cx p s m args meth c K A cc nL RX3 Ts ret) {ix : Nat} {x : Int64} (hin : ∀ w ∈ wsX30, w ∈ Ts) (hk : Cond.fieldLink RX3 ix "CosetCoderModel" "hash" "J" ∈ Ts) (hd : decode cc pc = .ok (.putfield ix, 3)) (k : Go p l e R s m args below meth c K A nL cells slots Q (mW K a now past err lef msg met par sv x) (pc + 3) lv st) : Go p l e R s m args below meth c K A nL cells slots Q (mW K a now past err lef msg met par sv hash) pc lv (.long x :: .ref (a 0) :: st) := fun H locs ls hP hD hS hl => va_put (D := K.1) (ci := 3) (v := .long x) (ty := .long) (C := RX3) (T := TX3) (N := 9) C.1.1 C.1.2.1 C.1.2.2.2.2 hin tyX3 tyX3_ok nmX3 C.1.2.2.2.1 C.2.1 hP hD hS 0 rfl rfl 8 (by decide) (C.1.2.2.2.2 _ hk) (fun _ h => h) rfl (by decide +kernel) rfl rfl (Nat.le_of_ble_eq_true rfl) hd (fun H1 locs1 hP1 hD1 hS1 => k H1 locs1 ls hP1 hD1 hS1 hl)
theorem gM_ld_now (C : Cx p s m args meth c K A cc nL RX3 Ts ret) {i : Int32} (hi : vp_in i 14) (hd : decode cc pc = .ok (.iaload, 1)) (k : Go p l e R s m args below meth c K A nL cells slots Q (mW K a now past err lef msg met par sv hash) (pc + 1) lv (.int (now i.toNatClampNeg) :: st)) : Go p l e R s m args below meth c K A nL cells slots Q (mW K a now past err lef msg met par sv hash) pc lv (.int i :: .ref (a 1) :: st) := fun H locs ls hP hD hS hl => va_iald C.1.1 C.1.2.1 C.2.1 hP 1 0 rfl rfl hi hd (k H locs ls hP hD hS hl)
theorem gM_st_now (C : Cx p s m args meth c K A cc nL RX3 Ts ret) {i x : Int32} (hi : vp_in i 14) (hd : decode cc pc = .ok (.iastore, 1)) (k : Go p l e R s m args below meth c K A nL cells slots Q (mW K a (upd now i.toNatClampNeg x) past err lef msg met par sv hash) (pc + 1) lv st) : Go p l e R s m args below meth c K A nL cells slots Q (mW K a now past err lef msg met par sv hash) pc lv (.int x :: .int i :: .ref (a 1) :: st) := fun H locs ls hP hD hS hl => va_iast C.1.1 C.1.2.1 C.2.1 hP hD hS 1 0 rfl rfl hi hd (fun H1 locs1 hP1 hD1 hS1 => k H1 locs1 ls hP1 hD1 hS1 hl)
theorem gM_ld_past (C : Cx p s m args meth c K A cc nL RX3 Ts ret) {i : Int32} (hi : vp_in i 56) (hd : decode cc pc = .ok (.iaload, 1)) (k : Go p l e R s m args below meth c K A nL cells slots Q (mW K a now past err lef msg met par sv hash) (pc + 1) lv (.int (past i.toNatClampNeg) :: st)) : Go p l e R s m args below meth c K A nL cells slots Q (mW K a now past err lef msg met par sv hash) pc lv (.int i :: .ref (a 2) :: st) := fun H locs ls hP hD hS hl => va_iald C.1.1 C.1.2.1 C.2.1 hP 2 0 rfl rfl hi hd (k H locs ls hP hD hS hl)
theorem gM_st_past (C : Cx p s m args meth c K A cc nL RX3 Ts ret) {i x : Int32} (hi : vp_in i 56) (hd : decode cc pc = .ok (.iastore, 1)) (k : Go p l e R s m args below meth c K A nL cells slots Q (mW K a now (upd past i.toNatClampNeg x) err lef msg met par sv hash) (pc + 1) lv st) : Go p l e R s m args below meth c K A nL cells slots Q (mW K a now past err lef msg met par sv hash) pc lv (.int x :: .int i :: .ref (a 2) :: st) := fun H locs ls hP hD hS hl => va_iast C.1.1 C.1.2.1 C.2.1 hP hD hS 2 0 rfl rfl hi hd (fun H1 locs1 hP1 hD1 hS1 => k H1 locs1 ls hP1 hD1 hS1 hl)
theorem gM_ld_err (C : Cx p s m args meth c K A cc nL RX3 Ts ret) {i : Int32} (hi : vp_in i 5) (hd : decode cc pc = .ok (.iaload, 1)) (k : Go p l e R s m args below meth c K A nL cells slots Q (mW K a now past err lef msg met par sv hash) (pc + 1) lv (.int (err i.toNatClampNeg) :: st)) : Go p l e R s m args below meth c K A nL cells slots Q (mW K a now past err lef msg met par sv hash) pc lv (.int i :: .ref (a 3) :: st) := fun H locs ls hP hD hS hl => va_iald C.1.1 C.1.2.1 C.2.1 hP 3 0 rfl rfl hi hd (k H locs ls hP hD hS hl)
theorem gM_st_err (C : Cx p s m args meth c K A cc nL RX3 Ts ret) {i x : Int32} (hi : vp_in i 5) (hd : decode cc pc = .ok (.iastore, 1)) (k : Go p l e R s m args below meth c K A nL cells slots Q (mW K a now past (upd err i.toNatClampNeg x) lef msg met par sv hash) (pc + 1) lv st) : Go p l e R s m args below meth c K A nL cells slots Q (mW K a now past err lef msg met par sv hash) pc lv (.int x :: .int i :: .ref (a 3) :: st) := fun H locs ls hP hD hS hl => va_iast C.1.1 C.1.2.1 C.2.1 hP hD hS 3 0 rfl rfl hi hd (fun H1 locs1 hP1 hD1 hS1 => k H1 locs1 ls hP1 hD1 hS1 hl)
theorem gM_ld_lef (C : Cx p s m args meth c K A cc nL RX3 Ts ret) {i : Int32} (hi : vp_in i 6) (hd : decode cc pc = .ok (.iaload, 1)) (k : Go p l e R s m args below meth c K A nL cells slots Q (mW K a now past err lef msg met par sv hash) (pc + 1) lv (.int (lef i.toNatClampNeg) :: st)) : Go p l e R s m args below meth c K A nL cells slots Q (mW K a now past err lef msg met par sv hash) pc lv (.int i :: .ref (a 4) :: st) := fun H locs ls hP hD hS hl => va_iald C.1.1 C.1.2.1 C.2.1 hP 4 0 rfl rfl hi hd (k H locs ls hP hD hS hl)
theorem gM_st_lef (C : Cx p s m args meth c K A cc nL RX3 Ts ret) {i x : Int32} (hi : vp_in i 6) (hd : decode cc pc = .ok (.iastore, 1)) (k : Go p l e R s m args below meth c K A nL cells slots Q (mW K a now past err (upd lef i.toNatClampNeg x) msg met par sv hash) (pc + 1) lv st) : Go p l e R s m args below meth c K A nL cells slots Q (mW K a now past err lef msg met par sv hash) pc lv (.int x :: .int i :: .ref (a 4) :: st) := fun H locs ls hP hD hS hl => va_iast C.1.1 C.1.2.1 C.2.1 hP hD hS 4 0 rfl rfl hi hd (fun H1 locs1 hP1 hD1 hS1 => k H1 locs1 ls hP1 hD1 hS1 hl)
theorem gM_ld_msg (C : Cx p s m args meth c K A cc nL RX3 Ts ret) {i : Int32} (hi : vp_in i 256) (hd : decode cc pc = .ok (.iaload, 1)) (k : Go p l e R s m args below meth c K A nL cells slots Q (mW K a now past err lef msg met par sv hash) (pc + 1) lv (.int (msg i.toNatClampNeg) :: st)) : Go p l e R s m args below meth c K A nL cells slots Q (mW K a now past err lef msg met par sv hash) pc lv (.int i :: .ref (a 5) :: st) := fun H locs ls hP hD hS hl => va_iald C.1.1 C.1.2.1 C.2.1 hP 5 0 rfl rfl hi hd (k H locs ls hP hD hS hl)
theorem gM_st_msg (C : Cx p s m args meth c K A cc nL RX3 Ts ret) {i x : Int32} (hi : vp_in i 256) (hd : decode cc pc = .ok (.iastore, 1)) (k : Go p l e R s m args below meth c K A nL cells slots Q (mW K a now past err lef (upd msg i.toNatClampNeg x) met par sv hash) (pc + 1) lv st) : Go p l e R s m args below meth c K A nL cells slots Q (mW K a now past err lef msg met par sv hash) pc lv (.int x :: .int i :: .ref (a 5) :: st) := fun H locs ls hP hD hS hl => va_iast C.1.1 C.1.2.1 C.2.1 hP hD hS 5 0 rfl rfl hi hd (fun H1 locs1 hP1 hD1 hS1 => k H1 locs1 ls hP1 hD1 hS1 hl)
theorem gM_ld_met (C : Cx p s m args meth c K A cc nL RX3 Ts ret) {i : Int32} (hi : vp_in i 64) (hd : decode cc pc = .ok (.baload, 1)) (k : Go p l e R s m args below meth c K A nL cells slots Q (mW K a now past err lef msg met par sv hash) (pc + 1) lv (.int (met i.toNatClampNeg) :: st)) : Go p l e R s m args below meth c K A nL cells slots Q (mW K a now past err lef msg met par sv hash) pc lv (.int i :: .ref (a 6) :: st) := fun H locs ls hP hD hS hl => va_zald C.1.1 C.1.2.1 C.2.1 hP 6 1 rfl rfl hi hd (k H locs ls hP hD hS hl)
theorem gM_st_met (C : Cx p s m args meth c K A cc nL RX3 Ts ret) {i x : Int32} (hi : vp_in i 64) (hd : decode cc pc = .ok (.bastore, 1)) (k : Go p l e R s m args below meth c K A nL cells slots Q (mW K a now past err lef msg (upd met i.toNatClampNeg (x &&& 1)) par sv hash) (pc + 1) lv st) : Go p l e R s m args below meth c K A nL cells slots Q (mW K a now past err lef msg met par sv hash) pc lv (.int x :: .int i :: .ref (a 6) :: st) := fun H locs ls hP hD hS hl => va_zast C.1.1 C.1.2.1 C.2.1 hP hD hS 6 1 rfl rfl hi hd (fun H1 locs1 hP1 hD1 hS1 => k H1 locs1 ls hP1 hD1 hS1 hl)
theorem gM_ld_par (C : Cx p s m args meth c K A cc nL RX3 Ts ret) {i : Int32} (hi : vp_in i 256) (hd : decode cc pc = .ok (.iaload, 1)) (k : Go p l e R s m args below meth c K A nL cells slots Q (mW K a now past err lef msg met par sv hash) (pc + 1) lv (.int (par i.toNatClampNeg) :: st)) : Go p l e R s m args below meth c K A nL cells slots Q (mW K a now past err lef msg met par sv hash) pc lv (.int i :: .ref (a 7) :: st) := fun H locs ls hP hD hS hl => va_iald C.1.1 C.1.2.1 C.2.1 hP 7 0 rfl rfl hi hd (k H locs ls hP hD hS hl)
theorem gM_st_par (C : Cx p s m args meth c K A cc nL RX3 Ts ret) {i x : Int32} (hi : vp_in i 256) (hd : decode cc pc = .ok (.iastore, 1)) (k : Go p l e R s m args below meth c K A nL cells slots Q (mW K a now past err lef msg met (upd par i.toNatClampNeg x) sv hash) (pc + 1) lv st) : Go p l e R s m args below meth c K A nL cells slots Q (mW K a now past err lef msg met par sv hash) pc lv (.int x :: .int i :: .ref (a 7) :: st) := fun H locs ls hP hD hS hl => va_iast C.1.1 C.1.2.1 C.2.1 hP hD hS 7 0 rfl rfl hi hd (fun H1 locs1 hP1 hD1 hS1 => k H1 locs1 ls hP1 hD1 hS1 hl)
theorem gM_rd_now (C : Cx p s m args meth c K A cc nL RX3 Ts ret) {i : Int32} {α : Type} {kk : Int32 → Option α} {y : α} (hd : decode cc pc = .ok (.iaload, 1)) (hf : rdA 14 now i kk = some y) (k : ∀ v, kk v = some y → Go p l e R s m args below meth c K A nL cells slots Q (mW K a now past err lef msg met par sv hash) (pc + 1) lv (.int v :: st)) : Go p l e R s m args below meth c K A nL cells slots Q (mW K a now past err lef msg met par sv hash) pc lv (.int i :: .ref (a 1) :: st) := gM_ld_now C (rdA_some hf).1 hd (k _ (rdA_some hf).2)
theorem gM_wr_now (C : Cx p s m args meth c K A cc nL RX3 Ts ret) {i x : Int32} {α : Type} {kk : (Nat → Int32) → Option α} {y : α} (hd : decode cc pc = .ok (.iastore, 1)) (hf : wrA 14 now i x kk = some y) (k : ∀ g, kk g = some y → Go p l e R s m args below meth c K A nL cells slots Q (mW K a g past err lef msg met par sv hash) (pc + 1) lv st) : Go p l e R s m args below meth c K A nL cells slots Q (mW K a now past err lef msg met par sv hash) pc lv (.int x :: .int i :: .ref (a 1) :: st) := gM_st_now C (wrA_some hf).1 hd (k _ (wrA_some hf).2)
theorem gM_rd_past (C : Cx p s m args meth c K A cc nL RX3 Ts ret) {i : Int32} {α : Type} {kk : Int32 → Option α} {y : α} (hd : decode cc pc = .ok (.iaload, 1)) (hf : rdA 56 past i kk = some y) (k : ∀ v, kk v = some y → Go p l e R s m args below meth c K A nL cells slots Q (mW K a now past err lef msg met par sv hash) (pc + 1) lv (.int v :: st)) : Go p l e R s m args below meth c K A nL cells slots Q (mW K a now past err lef msg met par sv hash) pc lv (.int i :: .ref (a 2) :: st) := gM_ld_past C (rdA_some hf).1 hd (k _ (rdA_some hf).2)
theorem gM_wr_past (C : Cx p s m args meth c K A cc nL RX3 Ts ret) {i x : Int32} {α : Type} {kk : (Nat → Int32) → Option α} {y : α} (hd : decode cc pc = .ok (.iastore, 1)) (hf : wrA 56 past i x kk = some y) (k : ∀ g, kk g = some y → Go p l e R s m args below meth c K A nL cells slots Q (mW K a now g err lef msg met par sv hash) (pc + 1) lv st) : Go p l e R s m args below meth c K A nL cells slots Q (mW K a now past err lef msg met par sv hash) pc lv (.int x :: .int i :: .ref (a 2) :: st) := gM_st_past C (wrA_some hf).1 hd (k _ (wrA_some hf).2)
theorem gM_rd_err (C : Cx p s m args meth c K A cc nL RX3 Ts ret) {i : Int32} {α : Type} {kk : Int32 → Option α} {y : α} (hd : decode cc pc = .ok (.iaload, 1)) (hf : rdA 5 err i kk = some y) (k : ∀ v, kk v = some y → Go p l e R s m args below meth c K A nL cells slots Q (mW K a now past err lef msg met par sv hash) (pc + 1) lv (.int v :: st)) : Go p l e R s m args below meth c K A nL cells slots Q (mW K a now past err lef msg met par sv hash) pc lv (.int i :: .ref (a 3) :: st) := gM_ld_err C (rdA_some hf).1 hd (k _ (rdA_some hf).2)
theorem gM_wr_err (C : Cx p s m args meth c K A cc nL RX3 Ts ret) {i x : Int32} {α : Type} {kk : (Nat → Int32) → Option α} {y : α} (hd : decode cc pc = .ok (.iastore, 1)) (hf : wrA 5 err i x kk = some y) (k : ∀ g, kk g = some y → Go p l e R s m args below meth c K A nL cells slots Q (mW K a now past g lef msg met par sv hash) (pc + 1) lv st) : Go p l e R s m args below meth c K A nL cells slots Q (mW K a now past err lef msg met par sv hash) pc lv (.int x :: .int i :: .ref (a 3) :: st) := gM_st_err C (wrA_some hf).1 hd (k _ (wrA_some hf).2)
theorem gM_rd_lef (C : Cx p s m args meth c K A cc nL RX3 Ts ret) {i : Int32} {α : Type} {kk : Int32 → Option α} {y : α} (hd : decode cc pc = .ok (.iaload, 1)) (hf : rdA 6 lef i kk = some y) (k : ∀ v, kk v = some y → Go p l e R s m args below meth c K A nL cells slots Q (mW K a now past err lef msg met par sv hash) (pc + 1) lv (.int v :: st)) : Go p l e R s m args below meth c K A nL cells slots Q (mW K a now past err lef msg met par sv hash) pc lv (.int i :: .ref (a 4) :: st) := gM_ld_lef C (rdA_some hf).1 hd (k _ (rdA_some hf).2)
theorem gM_wr_lef (C : Cx p s m args meth c K A cc nL RX3 Ts ret) {i x : Int32} {α : Type} {kk : (Nat → Int32) → Option α} {y : α} (hd : decode cc pc = .ok (.iastore, 1)) (hf : wrA 6 lef i x kk = some y) (k : ∀ g, kk g = some y → Go p l e R s m args below meth c K A nL cells slots Q (mW K a now past err g msg met par sv hash) (pc + 1) lv st) : Go p l e R s m args below meth c K A nL cells slots Q (mW K a now past err lef msg met par sv hash) pc lv (.int x :: .int i :: .ref (a 4) :: st) := gM_st_lef C (wrA_some hf).1 hd (k _ (wrA_some hf).2)
theorem gM_rd_msg (C : Cx p s m args meth c K A cc nL RX3 Ts ret) {i : Int32} {α : Type} {kk : Int32 → Option α} {y : α} (hd : decode cc pc = .ok (.iaload, 1)) (hf : rdA 256 msg i kk = some y) (k : ∀ v, kk v = some y → Go p l e R s m args below meth c K A nL cells slots Q (mW K a now past err lef msg met par sv hash) (pc + 1) lv (.int v :: st)) : Go p l e R s m args below meth c K A nL cells slots Q (mW K a now past err lef msg met par sv hash) pc lv (.int i :: .ref (a 5) :: st) := gM_ld_msg C (rdA_some hf).1 hd (k _ (rdA_some hf).2)
theorem gM_wr_msg (C : Cx p s m args meth c K A cc nL RX3 Ts ret) {i x : Int32} {α : Type} {kk : (Nat → Int32) → Option α} {y : α} (hd : decode cc pc = .ok (.iastore, 1)) (hf : wrA 256 msg i x kk = some y) (k : ∀ g, kk g = some y → Go p l e R s m args below meth c K A nL cells slots Q (mW K a now past err lef g met par sv hash) (pc + 1) lv st) : Go p l e R s m args below meth c K A nL cells slots Q (mW K a now past err lef msg met par sv hash) pc lv (.int x :: .int i :: .ref (a 5) :: st) := gM_st_msg C (wrA_some hf).1 hd (k _ (wrA_some hf).2)
theorem gM_rd_met (C : Cx p s m args meth c K A cc nL RX3 Ts ret) {i : Int32} {α : Type} {kk : Int32 → Option α} {y : α} (hd : decode cc pc = .ok (.baload, 1)) (hf : rdA 64 met i kk = some y) (k : ∀ v, kk v = some y → Go p l e R s m args below meth c K A nL cells slots Q (mW K a now past err lef msg met par sv hash) (pc + 1) lv (.int v :: st)) : Go p l e R s m args below meth c K A nL cells slots Q (mW K a now past err lef msg met par sv hash) pc lv (.int i :: .ref (a 6) :: st) := gM_ld_met C (rdA_some hf).1 hd (k _ (rdA_some hf).2)
theorem gM_wr_met (C : Cx p s m args meth c K A cc nL RX3 Ts ret) {i x : Int32} {α : Type} {kk : (Nat → Int32) → Option α} {y : α} (hd : decode cc pc = .ok (.bastore, 1)) (hf : wrA 64 met i (x &&& 1) kk = some y) (k : ∀ g, kk g = some y → Go p l e R s m args below meth c K A nL cells slots Q (mW K a now past err lef msg g par sv hash) (pc + 1) lv st) : Go p l e R s m args below meth c K A nL cells slots Q (mW K a now past err lef msg met par sv hash) pc lv (.int x :: .int i :: .ref (a 6) :: st) := gM_st_met C (wrA_some hf).1 hd (k _ (wrA_some hf).2)
theorem gM_rd_par (C : Cx p s m args meth c K A cc nL RX3 Ts ret) {i : Int32} {α : Type} {kk : Int32 → Option α} {y : α} (hd : decode cc pc = .ok (.iaload, 1)) (hf : rdA 256 par i kk = some y) (k : ∀ v, kk v = some y → Go p l e R s m args below meth c K A nL cells slots Q (mW K a now past err lef msg met par sv hash) (pc + 1) lv (.int v :: st)) : Go p l e R s m args below meth c K A nL cells slots Q (mW K a now past err lef msg met par sv hash) pc lv (.int i :: .ref (a 7) :: st) := gM_ld_par C (rdA_some hf).1 hd (k _ (rdA_some hf).2)
theorem gM_wr_par (C : Cx p s m args meth c K A cc nL RX3 Ts ret) {i x : Int32} {α : Type} {kk : (Nat → Int32) → Option α} {y : α} (hd : decode cc pc = .ok (.iastore, 1)) (hf : wrA 256 par i x kk = some y) (k : ∀ g, kk g = some y → Go p l e R s m args below meth c K A nL cells slots Q (mW K a now past err lef msg met g sv hash) (pc + 1) lv st) : Go p l e R s m args below meth c K A nL cells slots Q (mW K a now past err lef msg met par sv hash) pc lv (.int x :: .int i :: .ref (a 7) :: st) := gM_st_par C (wrA_some hf).1 hd (k _ (wrA_some hf).2)
end MW
/-! ===== the class's world ===== -/
def xW (K : KK) (a : Nat → Nat) (len sz : Int32) (words checks : Nat → Int32) (cnt : Int32) (err vec : Nat → Int32) (bc : Int32) (pm : Nat → Nat) (sl ss : Nat → Int32) (sw sc : Nat → Nat → Int32) : va_W :=
  [(a 0, .inr (2, [.ref (a 1), .ref (a 2), .int cnt, .ref (a 3), .ref (a 4)])), (a 1, .inr (1, [.int len, .int sz, .ref (a 5), .ref (a 6)])), (a 2, .inl (K.2.2.2, 4, .inr (.inr (.inr (.inr (fun i => some (a (8 + 3 * pm i)))))))), (a 3, .inl (K.2.1, 5, .inl err)), (a 4, .inr (0, [.ref (a 7), .int bc])), (a 5, .inl (K.2.1, 6, .inl words)), (a 6, .inl (K.2.2.1, 6, .inl checks)), (a 7, .inl (K.2.1, 6, .inl vec)),
   (a 8, .inr (1, [.int (sl 0), .int (ss 0), .ref (a 9), .ref (a 10)])), (a 9, .inl (K.2.1, 6, .inl (sw 0))), (a 10, .inl (K.2.2.1, 6, .inl (sc 0))), (a 11, .inr (1, [.int (sl 1), .int (ss 1), .ref (a 12), .ref (a 13)])), (a 12, .inl (K.2.1, 6, .inl (sw 1))), (a 13, .inl (K.2.2.1, 6, .inl (sc 1))), (a 14, .inr (1, [.int (sl 2), .int (ss 2), .ref (a 15), .ref (a 16)])), (a 15, .inl (K.2.1, 6, .inl (sw 2))), (a 16, .inl (K.2.2.1, 6, .inl (sc 2))), (a 17, .inr (1, [.int (sl 3), .int (ss 3), .ref (a 18), .ref (a 19)])), (a 18, .inl (K.2.1, 6, .inl (sw 3))), (a 19, .inl (K.2.2.1, 6, .inl (sc 3)))]
section XW
variable {p : Program} {l : Launch} {e : Env} {R : Room} {s : State} {m : MethodId} {args : Array Value} {below : List Frame} {meth : Method} {c : Code} {K : KK} {A : Nat → Prop} {cells slots : Nat} {Q : State → Prop} {cc : ByteArray} {nL : Nat} {Ts : List Cond} {ret : Option FieldType} {pc : Nat} {lv : List (Nat × Value)} {st : List Value}
variable {a : Nat → Nat} {len sz : Int32} {words checks : Nat → Int32} {cnt : Int32} {err vec : Nat → Int32} {bc : Int32} {pm : Nat → Nat} {sl ss : Nat → Int32} {sw sc : Nat → Nat → Int32}
theorem gX_get_state (C : Cx p s m args meth c K A cc nL RX2 Ts ret) {ix : Nat} (hin : ∀ w ∈ wsX20, w ∈ Ts) (hk : Cond.fieldLink RX2 ix "CosetCoder" "state" "LCosetCoder$State;" ∈ Ts) (hd : decode cc pc = .ok (.getfield ix, 3)) (k : Go p l e R s m args below meth c K A nL cells slots Q (xW K a len sz words checks cnt err vec bc pm sl ss sw sc) (pc + 3) lv (.ref (a 1) :: st)) : Go p l e R s m args below meth c K A nL cells slots Q (xW K a len sz words checks cnt err vec bc pm sl ss sw sc) pc lv (.ref (a 0) :: st) := fun H locs ls hP hD hS hl => va_get (D := K.1) (ci := 2) (v := .ref (a 1)) (C := RX2) (T := TX2) (N := 5) C.1.1 C.1.2.1 C.1.2.2.2.2 hin C.1.2.2.2.1 C.2.1 hP 0 rfl rfl 0 (by decide) (C.1.2.2.2.2 _ hk) (fun _ h => h) rfl hd (k H locs ls hP hD hS hl)
theorem gX_get_saved (C : Cx p s m args meth c K A cc nL RX2 Ts ret) {ix : Nat} (hin : ∀ w ∈ wsX20, w ∈ Ts) (hk : Cond.fieldLink RX2 ix "CosetCoder" "saved" "[LCosetCoder$State;" ∈ Ts) (hd : decode cc pc = .ok (.getfield ix, 3)) (k : Go p l e R s m args below meth c K A nL cells slots Q (xW K a len sz words checks cnt err vec bc pm sl ss sw sc) (pc + 3) lv (.ref (a 2) :: st)) : Go p l e R s m args below meth c K A nL cells slots Q (xW K a len sz words checks cnt err vec bc pm sl ss sw sc) pc lv (.ref (a 0) :: st) := fun H locs ls hP hD hS hl => va_get (D := K.1) (ci := 2) (v := .ref (a 2)) (C := RX2) (T := TX2) (N := 5) C.1.1 C.1.2.1 C.1.2.2.2.2 hin C.1.2.2.2.1 C.2.1 hP 0 rfl rfl 1 (by decide) (C.1.2.2.2.2 _ hk) (fun _ h => h) rfl hd (k H locs ls hP hD hS hl)
theorem gX_get_savedCount (C : Cx p s m args meth c K A cc nL RX2 Ts ret) {ix : Nat} (hin : ∀ w ∈ wsX20, w ∈ Ts) (hk : Cond.fieldLink RX2 ix "CosetCoder" "savedCount" "I" ∈ Ts) (hd : decode cc pc = .ok (.getfield ix, 3)) (k : Go p l e R s m args below meth c K A nL cells slots Q (xW K a len sz words checks cnt err vec bc pm sl ss sw sc) (pc + 3) lv (.int cnt :: st)) : Go p l e R s m args below meth c K A nL cells slots Q (xW K a len sz words checks cnt err vec bc pm sl ss sw sc) pc lv (.ref (a 0) :: st) := fun H locs ls hP hD hS hl => va_get (D := K.1) (ci := 2) (v := .int cnt) (C := RX2) (T := TX2) (N := 5) C.1.1 C.1.2.1 C.1.2.2.2.2 hin C.1.2.2.2.1 C.2.1 hP 0 rfl rfl 2 (by decide) (C.1.2.2.2.2 _ hk) (fun _ h => h) rfl hd (k H locs ls hP hD hS hl)
theorem gX_get_errors (C : Cx p s m args meth c K A cc nL RX2 Ts ret) {ix : Nat} (hin : ∀ w ∈ wsX20, w ∈ Ts) (hk : Cond.fieldLink RX2 ix "CosetCoder" "errors" "[I" ∈ Ts) (hd : decode cc pc = .ok (.getfield ix, 3)) (k : Go p l e R s m args below meth c K A nL cells slots Q (xW K a len sz words checks cnt err vec bc pm sl ss sw sc) (pc + 3) lv (.ref (a 3) :: st)) : Go p l e R s m args below meth c K A nL cells slots Q (xW K a len sz words checks cnt err vec bc pm sl ss sw sc) pc lv (.ref (a 0) :: st) := fun H locs ls hP hD hS hl => va_get (D := K.1) (ci := 2) (v := .ref (a 3)) (C := RX2) (T := TX2) (N := 5) C.1.1 C.1.2.1 C.1.2.2.2.2 hin C.1.2.2.2.1 C.2.1 hP 0 rfl rfl 3 (by decide) (C.1.2.2.2.2 _ hk) (fun _ h => h) rfl hd (k H locs ls hP hD hS hl)
theorem gX_get_basis (C : Cx p s m args meth c K A cc nL RX2 Ts ret) {ix : Nat} (hin : ∀ w ∈ wsX20, w ∈ Ts) (hk : Cond.fieldLink RX2 ix "CosetCoder" "basis" "LCosetCoder$Basis;" ∈ Ts) (hd : decode cc pc = .ok (.getfield ix, 3)) (k : Go p l e R s m args below meth c K A nL cells slots Q (xW K a len sz words checks cnt err vec bc pm sl ss sw sc) (pc + 3) lv (.ref (a 4) :: st)) : Go p l e R s m args below meth c K A nL cells slots Q (xW K a len sz words checks cnt err vec bc pm sl ss sw sc) pc lv (.ref (a 0) :: st) := fun H locs ls hP hD hS hl => va_get (D := K.1) (ci := 2) (v := .ref (a 4)) (C := RX2) (T := TX2) (N := 5) C.1.1 C.1.2.1 C.1.2.2.2.2 hin C.1.2.2.2.1 C.2.1 hP 0 rfl rfl 4 (by decide) (C.1.2.2.2.2 _ hk) (fun _ h => h) rfl hd (k H locs ls hP hD hS hl)
theorem gX_put_savedCount (C : Cx p s m args meth c K A cc nL RX2 Ts ret) {ix : Nat} {x : Int32} (hin : ∀ w ∈ wsX20, w ∈ Ts) (hk : Cond.fieldLink RX2 ix "CosetCoder" "savedCount" "I" ∈ Ts) (hd : decode cc pc = .ok (.putfield ix, 3)) (k : Go p l e R s m args below meth c K A nL cells slots Q (xW K a len sz words checks x err vec bc pm sl ss sw sc) (pc + 3) lv st) : Go p l e R s m args below meth c K A nL cells slots Q (xW K a len sz words checks cnt err vec bc pm sl ss sw sc) pc lv (.int x :: .ref (a 0) :: st) := fun H locs ls hP hD hS hl => va_put (D := K.1) (ci := 2) (v := .int x) (ty := .int) (C := RX2) (T := TX2) (N := 5) C.1.1 C.1.2.1 C.1.2.2.2.2 hin tyX2 tyX2_ok nmX2 C.1.2.2.2.1 C.2.1 hP hD hS 0 rfl rfl 2 (by decide) (C.1.2.2.2.2 _ hk) (fun _ h => h) rfl (by decide +kernel) rfl rfl (Nat.le_of_ble_eq_true rfl) hd (fun H1 locs1 hP1 hD1 hS1 => k H1 locs1 ls hP1 hD1 hS1 hl)
theorem gX_get_n_length (C : Cx p s m args meth c K A cc nL RX2 Ts ret) (hin : ∀ w ∈ wsX10, w ∈ Ts) (hd : decode cc pc = .ok (.getfield 42, 3)) (k : Go p l e R s m args below meth c K A nL cells slots Q (xW K a len sz words checks cnt err vec bc pm sl ss sw sc) (pc + 3) lv (.int len :: st)) : Go p l e R s m args below meth c K A nL cells slots Q (xW K a len sz words checks cnt err vec bc pm sl ss sw sc) pc lv (.ref (a 1) :: st) := fun H locs ls hP hD hS hl => va_getN (D := K.1) (ci := 1) (v := .int len) (C := RX1) (T := TX1) (N := 4) C.1.1 C.1.2.1 C.1.2.2.2.2 hin C.1.2.2.2.1 C.2.1 hP 1 rfl rfl 0 (by decide) (va_Nw.use rfl C.2.2.1.1) (fun _ h => h) rfl hd (k H locs ls hP hD hS hl)
theorem gX_get_s_length (C : Cx p s m args meth c K A cc nL RX1 Ts ret) {ix : Nat} (hin : ∀ w ∈ wsX10, w ∈ Ts) (hk : Cond.fieldLink RX1 ix "CosetCoder$State" "length" "I" ∈ Ts) (hd : decode cc pc = .ok (.getfield ix, 3)) (k : Go p l e R s m args below meth c K A nL cells slots Q (xW K a len sz words checks cnt err vec bc pm sl ss sw sc) (pc + 3) lv (.int len :: st)) : Go p l e R s m args below meth c K A nL cells slots Q (xW K a len sz words checks cnt err vec bc pm sl ss sw sc) pc lv (.ref (a 1) :: st) := fun H locs ls hP hD hS hl => va_get (D := K.1) (ci := 1) (v := .int len) (C := RX1) (T := TX1) (N := 4) C.1.1 C.1.2.1 C.1.2.2.2.2 hin C.1.2.2.2.1 C.2.1 hP 1 rfl rfl 0 (by decide) (C.1.2.2.2.2 _ hk) (fun _ h => h) rfl hd (k H locs ls hP hD hS hl)
theorem gX_get_n_size (C : Cx p s m args meth c K A cc nL RX2 Ts ret) (hin : ∀ w ∈ wsX10, w ∈ Ts) (hd : decode cc pc = .ok (.getfield 45, 3)) (k : Go p l e R s m args below meth c K A nL cells slots Q (xW K a len sz words checks cnt err vec bc pm sl ss sw sc) (pc + 3) lv (.int sz :: st)) : Go p l e R s m args below meth c K A nL cells slots Q (xW K a len sz words checks cnt err vec bc pm sl ss sw sc) pc lv (.ref (a 1) :: st) := fun H locs ls hP hD hS hl => va_getN (D := K.1) (ci := 1) (v := .int sz) (C := RX1) (T := TX1) (N := 4) C.1.1 C.1.2.1 C.1.2.2.2.2 hin C.1.2.2.2.1 C.2.1 hP 1 rfl rfl 1 (by decide) (va_Nw.use rfl C.2.2.1.2.1) (fun _ h => h) rfl hd (k H locs ls hP hD hS hl)
theorem gX_get_s_size (C : Cx p s m args meth c K A cc nL RX1 Ts ret) {ix : Nat} (hin : ∀ w ∈ wsX10, w ∈ Ts) (hk : Cond.fieldLink RX1 ix "CosetCoder$State" "size" "I" ∈ Ts) (hd : decode cc pc = .ok (.getfield ix, 3)) (k : Go p l e R s m args below meth c K A nL cells slots Q (xW K a len sz words checks cnt err vec bc pm sl ss sw sc) (pc + 3) lv (.int sz :: st)) : Go p l e R s m args below meth c K A nL cells slots Q (xW K a len sz words checks cnt err vec bc pm sl ss sw sc) pc lv (.ref (a 1) :: st) := fun H locs ls hP hD hS hl => va_get (D := K.1) (ci := 1) (v := .int sz) (C := RX1) (T := TX1) (N := 4) C.1.1 C.1.2.1 C.1.2.2.2.2 hin C.1.2.2.2.1 C.2.1 hP 1 rfl rfl 1 (by decide) (C.1.2.2.2.2 _ hk) (fun _ h => h) rfl hd (k H locs ls hP hD hS hl)
theorem gX_get_n_words (C : Cx p s m args meth c K A cc nL RX2 Ts ret) (hin : ∀ w ∈ wsX10, w ∈ Ts) (hd : decode cc pc = .ok (.getfield 59, 3)) (k : Go p l e R s m args below meth c K A nL cells slots Q (xW K a len sz words checks cnt err vec bc pm sl ss sw sc) (pc + 3) lv (.ref (a 5) :: st)) : Go p l e R s m args below meth c K A nL cells slots Q (xW K a len sz words checks cnt err vec bc pm sl ss sw sc) pc lv (.ref (a 1) :: st) := fun H locs ls hP hD hS hl => va_getN (D := K.1) (ci := 1) (v := .ref (a 5)) (C := RX1) (T := TX1) (N := 4) C.1.1 C.1.2.1 C.1.2.2.2.2 hin C.1.2.2.2.1 C.2.1 hP 1 rfl rfl 2 (by decide) (va_Nw.use rfl C.2.2.1.2.2.1) (fun _ h => h) rfl hd (k H locs ls hP hD hS hl)
theorem gX_get_s_words (C : Cx p s m args meth c K A cc nL RX1 Ts ret) {ix : Nat} (hin : ∀ w ∈ wsX10, w ∈ Ts) (hk : Cond.fieldLink RX1 ix "CosetCoder$State" "words" "[I" ∈ Ts) (hd : decode cc pc = .ok (.getfield ix, 3)) (k : Go p l e R s m args below meth c K A nL cells slots Q (xW K a len sz words checks cnt err vec bc pm sl ss sw sc) (pc + 3) lv (.ref (a 5) :: st)) : Go p l e R s m args below meth c K A nL cells slots Q (xW K a len sz words checks cnt err vec bc pm sl ss sw sc) pc lv (.ref (a 1) :: st) := fun H locs ls hP hD hS hl => va_get (D := K.1) (ci := 1) (v := .ref (a 5)) (C := RX1) (T := TX1) (N := 4) C.1.1 C.1.2.1 C.1.2.2.2.2 hin C.1.2.2.2.1 C.2.1 hP 1 rfl rfl 2 (by decide) (C.1.2.2.2.2 _ hk) (fun _ h => h) rfl hd (k H locs ls hP hD hS hl)
theorem gX_get_n_checks (C : Cx p s m args meth c K A cc nL RX2 Ts ret) (hin : ∀ w ∈ wsX10, w ∈ Ts) (hd : decode cc pc = .ok (.getfield 62, 3)) (k : Go p l e R s m args below meth c K A nL cells slots Q (xW K a len sz words checks cnt err vec bc pm sl ss sw sc) (pc + 3) lv (.ref (a 6) :: st)) : Go p l e R s m args below meth c K A nL cells slots Q (xW K a len sz words checks cnt err vec bc pm sl ss sw sc) pc lv (.ref (a 1) :: st) := fun H locs ls hP hD hS hl => va_getN (D := K.1) (ci := 1) (v := .ref (a 6)) (C := RX1) (T := TX1) (N := 4) C.1.1 C.1.2.1 C.1.2.2.2.2 hin C.1.2.2.2.1 C.2.1 hP 1 rfl rfl 3 (by decide) (va_Nw.use rfl C.2.2.1.2.2.2.1) (fun _ h => h) rfl hd (k H locs ls hP hD hS hl)
theorem gX_get_s_checks (C : Cx p s m args meth c K A cc nL RX1 Ts ret) {ix : Nat} (hin : ∀ w ∈ wsX10, w ∈ Ts) (hk : Cond.fieldLink RX1 ix "CosetCoder$State" "checks" "[Z" ∈ Ts) (hd : decode cc pc = .ok (.getfield ix, 3)) (k : Go p l e R s m args below meth c K A nL cells slots Q (xW K a len sz words checks cnt err vec bc pm sl ss sw sc) (pc + 3) lv (.ref (a 6) :: st)) : Go p l e R s m args below meth c K A nL cells slots Q (xW K a len sz words checks cnt err vec bc pm sl ss sw sc) pc lv (.ref (a 1) :: st) := fun H locs ls hP hD hS hl => va_get (D := K.1) (ci := 1) (v := .ref (a 6)) (C := RX1) (T := TX1) (N := 4) C.1.1 C.1.2.1 C.1.2.2.2.2 hin C.1.2.2.2.1 C.2.1 hP 1 rfl rfl 3 (by decide) (C.1.2.2.2.2 _ hk) (fun _ h => h) rfl hd (k H locs ls hP hD hS hl)
theorem gX_put_n_length (C : Cx p s m args meth c K A cc nL RX2 Ts ret) {x : Int32} (hin : ∀ w ∈ wsX10, w ∈ Ts) (hd : decode cc pc = .ok (.putfield 42, 3)) (k : Go p l e R s m args below meth c K A nL cells slots Q (xW K a x sz words checks cnt err vec bc pm sl ss sw sc) (pc + 3) lv st) : Go p l e R s m args below meth c K A nL cells slots Q (xW K a len sz words checks cnt err vec bc pm sl ss sw sc) pc lv (.int x :: .ref (a 1) :: st) := fun H locs ls hP hD hS hl => va_putN (D := K.1) (ci := 1) (v := .int x) (ty := .int) (C := RX1) (T := TX1) (N := 4) C.1.1 C.1.2.1 C.1.2.2.2.2 hin tyX1 tyX1_ok nmX1 C.1.2.2.2.1 C.2.1 hP hD hS 1 rfl rfl 0 (by decide) (va_Nw.use rfl C.2.2.1.1) (fun _ h => h) rfl (by decide +kernel) rfl rfl (Nat.le_of_ble_eq_true rfl) hd (fun H1 locs1 hP1 hD1 hS1 => k H1 locs1 ls hP1 hD1 hS1 hl)
theorem gX_put_n_size (C : Cx p s m args meth c K A cc nL RX2 Ts ret) {x : Int32} (hin : ∀ w ∈ wsX10, w ∈ Ts) (hd : decode cc pc = .ok (.putfield 45, 3)) (k : Go p l e R s m args below meth c K A nL cells slots Q (xW K a len x words checks cnt err vec bc pm sl ss sw sc) (pc + 3) lv st) : Go p l e R s m args below meth c K A nL cells slots Q (xW K a len sz words checks cnt err vec bc pm sl ss sw sc) pc lv (.int x :: .ref (a 1) :: st) := fun H locs ls hP hD hS hl => va_putN (D := K.1) (ci := 1) (v := .int x) (ty := .int) (C := RX1) (T := TX1) (N := 4) C.1.1 C.1.2.1 C.1.2.2.2.2 hin tyX1 tyX1_ok nmX1 C.1.2.2.2.1 C.2.1 hP hD hS 1 rfl rfl 1 (by decide) (va_Nw.use rfl C.2.2.1.2.1) (fun _ h => h) rfl (by decide +kernel) rfl rfl (Nat.le_of_ble_eq_true rfl) hd (fun H1 locs1 hP1 hD1 hS1 => k H1 locs1 ls hP1 hD1 hS1 hl)
theorem gX_get_b_vectors (C : Cx p s m args meth c K A cc nL RX0 Ts ret) {ix : Nat} (hin : ∀ w ∈ wsX00, w ∈ Ts) (hk : Cond.fieldLink RX0 ix "CosetCoder$Basis" "vectors" "[I" ∈ Ts) (hd : decode cc pc = .ok (.getfield ix, 3)) (k : Go p l e R s m args below meth c K A nL cells slots Q (xW K a len sz words checks cnt err vec bc pm sl ss sw sc) (pc + 3) lv (.ref (a 7) :: st)) : Go p l e R s m args below meth c K A nL cells slots Q (xW K a len sz words checks cnt err vec bc pm sl ss sw sc) pc lv (.ref (a 4) :: st) := fun H locs ls hP hD hS hl => va_get (D := K.1) (ci := 0) (v := .ref (a 7)) (C := RX0) (T := TX0) (N := 2) C.1.1 C.1.2.1 C.1.2.2.2.2 hin C.1.2.2.2.1 C.2.1 hP 4 rfl rfl 0 (by decide) (C.1.2.2.2.2 _ hk) (fun _ h => h) rfl hd (k H locs ls hP hD hS hl)
theorem gX_get_b_count (C : Cx p s m args meth c K A cc nL RX0 Ts ret) {ix : Nat} (hin : ∀ w ∈ wsX00, w ∈ Ts) (hk : Cond.fieldLink RX0 ix "CosetCoder$Basis" "count" "I" ∈ Ts) (hd : decode cc pc = .ok (.getfield ix, 3)) (k : Go p l e R s m args below meth c K A nL cells slots Q (xW K a len sz words checks cnt err vec bc pm sl ss sw sc) (pc + 3) lv (.int bc :: st)) : Go p l e R s m args below meth c K A nL cells slots Q (xW K a len sz words checks cnt err vec bc pm sl ss sw sc) pc lv (.ref (a 4) :: st) := fun H locs ls hP hD hS hl => va_get (D := K.1) (ci := 0) (v := .int bc) (C := RX0) (T := TX0) (N := 2) C.1.1 C.1.2.1 C.1.2.2.2.2 hin C.1.2.2.2.1 C.2.1 hP 4 rfl rfl 1 (by decide) (C.1.2.2.2.2 _ hk) (fun _ h => h) rfl hd (k H locs ls hP hD hS hl)
theorem gX_put_b_count (C : Cx p s m args meth c K A cc nL RX0 Ts ret) {ix : Nat} {x : Int32} (hin : ∀ w ∈ wsX00, w ∈ Ts) (hk : Cond.fieldLink RX0 ix "CosetCoder$Basis" "count" "I" ∈ Ts) (hd : decode cc pc = .ok (.putfield ix, 3)) (k : Go p l e R s m args below meth c K A nL cells slots Q (xW K a len sz words checks cnt err vec x pm sl ss sw sc) (pc + 3) lv st) : Go p l e R s m args below meth c K A nL cells slots Q (xW K a len sz words checks cnt err vec bc pm sl ss sw sc) pc lv (.int x :: .ref (a 4) :: st) := fun H locs ls hP hD hS hl => va_put (D := K.1) (ci := 0) (v := .int x) (ty := .int) (C := RX0) (T := TX0) (N := 2) C.1.1 C.1.2.1 C.1.2.2.2.2 hin tyX0 tyX0_ok nmX0 C.1.2.2.2.1 C.2.1 hP hD hS 4 rfl rfl 1 (by decide) (C.1.2.2.2.2 _ hk) (fun _ h => h) rfl (by decide +kernel) rfl rfl (Nat.le_of_ble_eq_true rfl) hd (fun H1 locs1 hP1 hD1 hS1 => k H1 locs1 ls hP1 hD1 hS1 hl)
theorem gX_ld_err {own : String} (C : Cx p s m args meth c K A cc nL own Ts ret) {i : Int32} (hi : vp_in i 5) (hd : decode cc pc = .ok (.iaload, 1)) (k : Go p l e R s m args below meth c K A nL cells slots Q (xW K a len sz words checks cnt err vec bc pm sl ss sw sc) (pc + 1) lv (.int (err i.toNatClampNeg) :: st)) : Go p l e R s m args below meth c K A nL cells slots Q (xW K a len sz words checks cnt err vec bc pm sl ss sw sc) pc lv (.int i :: .ref (a 3) :: st) := fun H locs ls hP hD hS hl => va_iald C.1.1 C.1.2.1 C.2.1 hP 3 0 rfl rfl hi hd (k H locs ls hP hD hS hl)
theorem gX_st_err {own : String} (C : Cx p s m args meth c K A cc nL own Ts ret) {i x : Int32} (hi : vp_in i 5) (hd : decode cc pc = .ok (.iastore, 1)) (k : Go p l e R s m args below meth c K A nL cells slots Q (xW K a len sz words checks cnt (upd err i.toNatClampNeg x) vec bc pm sl ss sw sc) (pc + 1) lv st) : Go p l e R s m args below meth c K A nL cells slots Q (xW K a len sz words checks cnt err vec bc pm sl ss sw sc) pc lv (.int x :: .int i :: .ref (a 3) :: st) := fun H locs ls hP hD hS hl => va_iast C.1.1 C.1.2.1 C.2.1 hP hD hS 3 0 rfl rfl hi hd (fun H1 locs1 hP1 hD1 hS1 => k H1 locs1 ls hP1 hD1 hS1 hl)
theorem gX_ld_words {own : String} (C : Cx p s m args meth c K A cc nL own Ts ret) {i : Int32} (hi : vp_in i 6) (hd : decode cc pc = .ok (.iaload, 1)) (k : Go p l e R s m args below meth c K A nL cells slots Q (xW K a len sz words checks cnt err vec bc pm sl ss sw sc) (pc + 1) lv (.int (words i.toNatClampNeg) :: st)) : Go p l e R s m args below meth c K A nL cells slots Q (xW K a len sz words checks cnt err vec bc pm sl ss sw sc) pc lv (.int i :: .ref (a 5) :: st) := fun H locs ls hP hD hS hl => va_iald C.1.1 C.1.2.1 C.2.1 hP 5 0 rfl rfl hi hd (k H locs ls hP hD hS hl)
theorem gX_st_words {own : String} (C : Cx p s m args meth c K A cc nL own Ts ret) {i x : Int32} (hi : vp_in i 6) (hd : decode cc pc = .ok (.iastore, 1)) (k : Go p l e R s m args below meth c K A nL cells slots Q (xW K a len sz (upd words i.toNatClampNeg x) checks cnt err vec bc pm sl ss sw sc) (pc + 1) lv st) : Go p l e R s m args below meth c K A nL cells slots Q (xW K a len sz words checks cnt err vec bc pm sl ss sw sc) pc lv (.int x :: .int i :: .ref (a 5) :: st) := fun H locs ls hP hD hS hl => va_iast C.1.1 C.1.2.1 C.2.1 hP hD hS 5 0 rfl rfl hi hd (fun H1 locs1 hP1 hD1 hS1 => k H1 locs1 ls hP1 hD1 hS1 hl)
theorem gX_ld_checks {own : String} (C : Cx p s m args meth c K A cc nL own Ts ret) {i : Int32} (hi : vp_in i 6) (hd : decode cc pc = .ok (.baload, 1)) (k : Go p l e R s m args below meth c K A nL cells slots Q (xW K a len sz words checks cnt err vec bc pm sl ss sw sc) (pc + 1) lv (.int (checks i.toNatClampNeg) :: st)) : Go p l e R s m args below meth c K A nL cells slots Q (xW K a len sz words checks cnt err vec bc pm sl ss sw sc) pc lv (.int i :: .ref (a 6) :: st) := fun H locs ls hP hD hS hl => va_zald C.1.1 C.1.2.1 C.2.1 hP 6 1 rfl rfl hi hd (k H locs ls hP hD hS hl)
theorem gX_st_checks {own : String} (C : Cx p s m args meth c K A cc nL own Ts ret) {i x : Int32} (hi : vp_in i 6) (hd : decode cc pc = .ok (.bastore, 1)) (k : Go p l e R s m args below meth c K A nL cells slots Q (xW K a len sz words (upd checks i.toNatClampNeg (x &&& 1)) cnt err vec bc pm sl ss sw sc) (pc + 1) lv st) : Go p l e R s m args below meth c K A nL cells slots Q (xW K a len sz words checks cnt err vec bc pm sl ss sw sc) pc lv (.int x :: .int i :: .ref (a 6) :: st) := fun H locs ls hP hD hS hl => va_zast C.1.1 C.1.2.1 C.2.1 hP hD hS 6 1 rfl rfl hi hd (fun H1 locs1 hP1 hD1 hS1 => k H1 locs1 ls hP1 hD1 hS1 hl)
theorem gX_ld_vec {own : String} (C : Cx p s m args meth c K A cc nL own Ts ret) {i : Int32} (hi : vp_in i 6) (hd : decode cc pc = .ok (.iaload, 1)) (k : Go p l e R s m args below meth c K A nL cells slots Q (xW K a len sz words checks cnt err vec bc pm sl ss sw sc) (pc + 1) lv (.int (vec i.toNatClampNeg) :: st)) : Go p l e R s m args below meth c K A nL cells slots Q (xW K a len sz words checks cnt err vec bc pm sl ss sw sc) pc lv (.int i :: .ref (a 7) :: st) := fun H locs ls hP hD hS hl => va_iald C.1.1 C.1.2.1 C.2.1 hP 7 0 rfl rfl hi hd (k H locs ls hP hD hS hl)
theorem gX_st_vec {own : String} (C : Cx p s m args meth c K A cc nL own Ts ret) {i x : Int32} (hi : vp_in i 6) (hd : decode cc pc = .ok (.iastore, 1)) (k : Go p l e R s m args below meth c K A nL cells slots Q (xW K a len sz words checks cnt err (upd vec i.toNatClampNeg x) bc pm sl ss sw sc) (pc + 1) lv st) : Go p l e R s m args below meth c K A nL cells slots Q (xW K a len sz words checks cnt err vec bc pm sl ss sw sc) pc lv (.int x :: .int i :: .ref (a 7) :: st) := fun H locs ls hP hD hS hl => va_iast C.1.1 C.1.2.1 C.2.1 hP hD hS 7 0 rfl rfl hi hd (fun H1 locs1 hP1 hD1 hS1 => k H1 locs1 ls hP1 hD1 hS1 hl)
theorem gX_rd_err {own : String} (C : Cx p s m args meth c K A cc nL own Ts ret) {i : Int32} {α : Type} {kk : Int32 → Option α} {y : α} (hd : decode cc pc = .ok (.iaload, 1)) (hf : rdA 5 err i kk = some y) (k : ∀ v, kk v = some y → Go p l e R s m args below meth c K A nL cells slots Q (xW K a len sz words checks cnt err vec bc pm sl ss sw sc) (pc + 1) lv (.int v :: st)) : Go p l e R s m args below meth c K A nL cells slots Q (xW K a len sz words checks cnt err vec bc pm sl ss sw sc) pc lv (.int i :: .ref (a 3) :: st) := gX_ld_err C (rdA_some hf).1 hd (k _ (rdA_some hf).2)
theorem gX_wr_err {own : String} (C : Cx p s m args meth c K A cc nL own Ts ret) {i x : Int32} {α : Type} {kk : (Nat → Int32) → Option α} {y : α} (hd : decode cc pc = .ok (.iastore, 1)) (hf : wrA 5 err i x kk = some y) (k : ∀ g, kk g = some y → Go p l e R s m args below meth c K A nL cells slots Q (xW K a len sz words checks cnt g vec bc pm sl ss sw sc) (pc + 1) lv st) : Go p l e R s m args below meth c K A nL cells slots Q (xW K a len sz words checks cnt err vec bc pm sl ss sw sc) pc lv (.int x :: .int i :: .ref (a 3) :: st) := gX_st_err C (wrA_some hf).1 hd (k _ (wrA_some hf).2)
theorem gX_rd_words {own : String} (C : Cx p s m args meth c K A cc nL own Ts ret) {i : Int32} {α : Type} {kk : Int32 → Option α} {y : α} (hd : decode cc pc = .ok (.iaload, 1)) (hf : rdA 6 words i kk = some y) (k : ∀ v, kk v = some y → Go p l e R s m args below meth c K A nL cells slots Q (xW K a len sz words checks cnt err vec bc pm sl ss sw sc) (pc + 1) lv (.int v :: st)) : Go p l e R s m args below meth c K A nL cells slots Q (xW K a len sz words checks cnt err vec bc pm sl ss sw sc) pc lv (.int i :: .ref (a 5) :: st) := gX_ld_words C (rdA_some hf).1 hd (k _ (rdA_some hf).2)
theorem gX_wr_words {own : String} (C : Cx p s m args meth c K A cc nL own Ts ret) {i x : Int32} {α : Type} {kk : (Nat → Int32) → Option α} {y : α} (hd : decode cc pc = .ok (.iastore, 1)) (hf : wrA 6 words i x kk = some y) (k : ∀ g, kk g = some y → Go p l e R s m args below meth c K A nL cells slots Q (xW K a len sz g checks cnt err vec bc pm sl ss sw sc) (pc + 1) lv st) : Go p l e R s m args below meth c K A nL cells slots Q (xW K a len sz words checks cnt err vec bc pm sl ss sw sc) pc lv (.int x :: .int i :: .ref (a 5) :: st) := gX_st_words C (wrA_some hf).1 hd (k _ (wrA_some hf).2)
theorem gX_rd_checks {own : String} (C : Cx p s m args meth c K A cc nL own Ts ret) {i : Int32} {α : Type} {kk : Int32 → Option α} {y : α} (hd : decode cc pc = .ok (.baload, 1)) (hf : rdA 6 checks i kk = some y) (k : ∀ v, kk v = some y → Go p l e R s m args below meth c K A nL cells slots Q (xW K a len sz words checks cnt err vec bc pm sl ss sw sc) (pc + 1) lv (.int v :: st)) : Go p l e R s m args below meth c K A nL cells slots Q (xW K a len sz words checks cnt err vec bc pm sl ss sw sc) pc lv (.int i :: .ref (a 6) :: st) := gX_ld_checks C (rdA_some hf).1 hd (k _ (rdA_some hf).2)
theorem gX_wr_checks {own : String} (C : Cx p s m args meth c K A cc nL own Ts ret) {i x : Int32} {α : Type} {kk : (Nat → Int32) → Option α} {y : α} (hd : decode cc pc = .ok (.bastore, 1)) (hf : wrA 6 checks i (x &&& 1) kk = some y) (k : ∀ g, kk g = some y → Go p l e R s m args below meth c K A nL cells slots Q (xW K a len sz words g cnt err vec bc pm sl ss sw sc) (pc + 1) lv st) : Go p l e R s m args below meth c K A nL cells slots Q (xW K a len sz words checks cnt err vec bc pm sl ss sw sc) pc lv (.int x :: .int i :: .ref (a 6) :: st) := gX_st_checks C (wrA_some hf).1 hd (k _ (wrA_some hf).2)
theorem gX_rd_vec {own : String} (C : Cx p s m args meth c K A cc nL own Ts ret) {i : Int32} {α : Type} {kk : Int32 → Option α} {y : α} (hd : decode cc pc = .ok (.iaload, 1)) (hf : rdA 6 vec i kk = some y) (k : ∀ v, kk v = some y → Go p l e R s m args below meth c K A nL cells slots Q (xW K a len sz words checks cnt err vec bc pm sl ss sw sc) (pc + 1) lv (.int v :: st)) : Go p l e R s m args below meth c K A nL cells slots Q (xW K a len sz words checks cnt err vec bc pm sl ss sw sc) pc lv (.int i :: .ref (a 7) :: st) := gX_ld_vec C (rdA_some hf).1 hd (k _ (rdA_some hf).2)
theorem gX_wr_vec {own : String} (C : Cx p s m args meth c K A cc nL own Ts ret) {i x : Int32} {α : Type} {kk : (Nat → Int32) → Option α} {y : α} (hd : decode cc pc = .ok (.iastore, 1)) (hf : wrA 6 vec i x kk = some y) (k : ∀ g, kk g = some y → Go p l e R s m args below meth c K A nL cells slots Q (xW K a len sz words checks cnt err g bc pm sl ss sw sc) (pc + 1) lv st) : Go p l e R s m args below meth c K A nL cells slots Q (xW K a len sz words checks cnt err vec bc pm sl ss sw sc) pc lv (.int x :: .int i :: .ref (a 7) :: st) := gX_st_vec C (wrA_some hf).1 hd (k _ (wrA_some hf).2)
end XW
end
