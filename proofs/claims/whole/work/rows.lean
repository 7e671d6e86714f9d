section
-- ===== PART A: goes FIRST, ahead of the names: the tables' words, and 'selects' of the private methods out of them =====
/-- a private method of a class that the tables say can be made, by its rows of tables_1 -/
def lw_okq (q : MethodName × Nat) : Prop := (q.1.cls ≠ "java/lang/invoke/MethodHandle" ∧ q.1.cls ≠ "java/lang/invoke/VarHandle") ∧ Cond.instantiable q.1.cls q.2 ∈ tables_1 ∧ Cond.privateMethod q.1 ∈ tables_1 ∧ Cond.instanceMethod q.1 ∈ tables_1
theorem lw_p0 : lw_okq (⟨"FrameDeltas", "save", "()V"⟩, 10) := ⟨⟨by decide +kernel, by decide +kernel⟩, List.mem_of_getElem? (i := 18) (by decide +kernel), List.mem_of_getElem? (i := 258) (by decide +kernel), List.mem_of_getElem? (i := 259) (by decide +kernel)⟩
theorem lw_p1 : lw_okq (⟨"FrameDeltas", "savedSlot", "(I)LFrameDeltas$State;"⟩, 10) := ⟨⟨by decide +kernel, by decide +kernel⟩, List.mem_of_getElem? (i := 18) (by decide +kernel), List.mem_of_getElem? (i := 262) (by decide +kernel), List.mem_of_getElem? (i := 263) (by decide +kernel)⟩
theorem lw_p2 : lw_okq (⟨"FrameDeltas$State", "take", "(LFrameDeltas$State;)V"⟩, 7) := ⟨⟨by decide +kernel, by decide +kernel⟩, List.mem_of_getElem? (i := 26) (by decide +kernel), List.mem_of_getElem? (i := 269) (by decide +kernel), List.mem_of_getElem? (i := 270) (by decide +kernel)⟩
theorem lw_p3 : lw_okq (⟨"FrameDeltas$Image", "take", "(LFrameDeltas$Image;)V"⟩, 3) := ⟨⟨by decide +kernel, by decide +kernel⟩, List.mem_of_getElem? (i := 32) (by decide +kernel), List.mem_of_getElem? (i := 273) (by decide +kernel), List.mem_of_getElem? (i := 274) (by decide +kernel)⟩
theorem lw_p4 : lw_okq (⟨"FrameDeltas$State", "frameAt", "(I)LFrameDeltas$Frame;"⟩, 7) := ⟨⟨by decide +kernel, by decide +kernel⟩, List.mem_of_getElem? (i := 26) (by decide +kernel), List.mem_of_getElem? (i := 280) (by decide +kernel), List.mem_of_getElem? (i := 281) (by decide +kernel)⟩
theorem lw_p5 : lw_okq (⟨"FrameDeltas$Frame", "take", "(LFrameDeltas$Frame;)V"⟩, 5) := ⟨⟨by decide +kernel, by decide +kernel⟩, List.mem_of_getElem? (i := 54) (by decide +kernel), List.mem_of_getElem? (i := 284) (by decide +kernel), List.mem_of_getElem? (i := 285) (by decide +kernel)⟩
theorem lw_p6 : lw_okq (⟨"FrameDeltas$Image", "reset", "(II)V"⟩, 3) := ⟨⟨by decide +kernel, by decide +kernel⟩, List.mem_of_getElem? (i := 32) (by decide +kernel), List.mem_of_getElem? (i := 290) (by decide +kernel), List.mem_of_getElem? (i := 291) (by decide +kernel)⟩
theorem lw_p7 : lw_okq (⟨"FrameDeltas$Image", "blocks", "()I"⟩, 3) := ⟨⟨by decide +kernel, by decide +kernel⟩, List.mem_of_getElem? (i := 32) (by decide +kernel), List.mem_of_getElem? (i := 294) (by decide +kernel), List.mem_of_getElem? (i := 295) (by decide +kernel)⟩
theorem lw_p8 : lw_okq (⟨"FrameDeltas$Image", "hasCell", "(I)Z"⟩, 3) := ⟨⟨by decide +kernel, by decide +kernel⟩, List.mem_of_getElem? (i := 32) (by decide +kernel), List.mem_of_getElem? (i := 302) (by decide +kernel), List.mem_of_getElem? (i := 303) (by decide +kernel)⟩
theorem lw_p9 : lw_okq (⟨"FrameDeltas$Image", "numbered", "(I)I"⟩, 3) := ⟨⟨by decide +kernel, by decide +kernel⟩, List.mem_of_getElem? (i := 32) (by decide +kernel), List.mem_of_getElem? (i := 306) (by decide +kernel), List.mem_of_getElem? (i := 307) (by decide +kernel)⟩
theorem lw_p10 : lw_okq (⟨"FrameDeltas$Image", "putNumbered", "(II)V"⟩, 3) := ⟨⟨by decide +kernel, by decide +kernel⟩, List.mem_of_getElem? (i := 32) (by decide +kernel), List.mem_of_getElem? (i := 310) (by decide +kernel), List.mem_of_getElem? (i := 311) (by decide +kernel)⟩
theorem lw_p11 : lw_okq (⟨"FrameDeltas$Script", "append", "(C)I"⟩, 8) := ⟨⟨by decide +kernel, by decide +kernel⟩, List.mem_of_getElem? (i := 124) (by decide +kernel), List.mem_of_getElem? (i := 322) (by decide +kernel), List.mem_of_getElem? (i := 323) (by decide +kernel)⟩
theorem lw_p12 : lw_okq (⟨"FrameDeltas$Script", "errorPosition", "(LFrameDeltas$State;)I"⟩, 8) := ⟨⟨by decide +kernel, by decide +kernel⟩, List.mem_of_getElem? (i := 124) (by decide +kernel), List.mem_of_getElem? (i := 334) (by decide +kernel), List.mem_of_getElem? (i := 335) (by decide +kernel)⟩
theorem lw_p13 : lw_okq (⟨"FrameDeltas$Script", "nextToken", "()V"⟩, 8) := ⟨⟨by decide +kernel, by decide +kernel⟩, List.mem_of_getElem? (i := 124) (by decide +kernel), List.mem_of_getElem? (i := 338) (by decide +kernel), List.mem_of_getElem? (i := 339) (by decide +kernel)⟩
theorem lw_p14 : lw_okq (⟨"FrameDeltas$Script", "signAt", "(I)C"⟩, 8) := ⟨⟨by decide +kernel, by decide +kernel⟩, List.mem_of_getElem? (i := 124) (by decide +kernel), List.mem_of_getElem? (i := 342) (by decide +kernel), List.mem_of_getElem? (i := 343) (by decide +kernel)⟩
theorem lw_p15 : lw_okq (⟨"FrameDeltas$Script", "readCommand", "(LFrameDeltas$State;)Z"⟩, 8) := ⟨⟨by decide +kernel, by decide +kernel⟩, List.mem_of_getElem? (i := 124) (by decide +kernel), List.mem_of_getElem? (i := 352) (by decide +kernel), List.mem_of_getElem? (i := 353) (by decide +kernel)⟩
def lw_privs_1 : List (MethodName × Nat) := [(⟨"FrameDeltas", "save", "()V"⟩, 10), (⟨"FrameDeltas", "savedSlot", "(I)LFrameDeltas$State;"⟩, 10), (⟨"FrameDeltas$State", "take", "(LFrameDeltas$State;)V"⟩, 7), (⟨"FrameDeltas$Image", "take", "(LFrameDeltas$Image;)V"⟩, 3), (⟨"FrameDeltas$State", "frameAt", "(I)LFrameDeltas$Frame;"⟩, 7), (⟨"FrameDeltas$Frame", "take", "(LFrameDeltas$Frame;)V"⟩, 5), (⟨"FrameDeltas$Image", "reset", "(II)V"⟩, 3), (⟨"FrameDeltas$Image", "blocks", "()I"⟩, 3), (⟨"FrameDeltas$Image", "hasCell", "(I)Z"⟩, 3), (⟨"FrameDeltas$Image", "numbered", "(I)I"⟩, 3), (⟨"FrameDeltas$Image", "putNumbered", "(II)V"⟩, 3), (⟨"FrameDeltas$Script", "append", "(C)I"⟩, 8), (⟨"FrameDeltas$Script", "errorPosition", "(LFrameDeltas$State;)I"⟩, 8), (⟨"FrameDeltas$Script", "nextToken", "()V"⟩, 8), (⟨"FrameDeltas$Script", "signAt", "(I)C"⟩, 8), (⟨"FrameDeltas$Script", "readCommand", "(LFrameDeltas$State;)Z"⟩, 8)]
theorem lw_r1 : ∀ q ∈ lw_privs_1, lw_okq q := List.forall_mem_cons.mpr ⟨lw_p0, List.forall_mem_cons.mpr ⟨lw_p1, List.forall_mem_cons.mpr ⟨lw_p2, List.forall_mem_cons.mpr ⟨lw_p3, List.forall_mem_cons.mpr ⟨lw_p4, List.forall_mem_cons.mpr ⟨lw_p5, List.forall_mem_cons.mpr ⟨lw_p6, List.forall_mem_cons.mpr ⟨lw_p7, List.forall_mem_cons.mpr ⟨lw_p8, List.forall_mem_cons.mpr ⟨lw_p9, List.forall_mem_cons.mpr ⟨lw_p10, List.forall_mem_cons.mpr ⟨lw_p11, List.forall_mem_cons.mpr ⟨lw_p12, List.forall_mem_cons.mpr ⟨lw_p13, List.forall_mem_cons.mpr ⟨lw_p14, List.forall_mem_cons.mpr ⟨lw_p15, fun _ h => absurd h List.not_mem_nil⟩⟩⟩⟩⟩⟩⟩⟩⟩⟩⟩⟩⟩⟩⟩⟩
theorem lw_p16 : lw_okq (⟨"FrameDeltas$Script", "commandOfToken", "()I"⟩, 8) := ⟨⟨by decide +kernel, by decide +kernel⟩, List.mem_of_getElem? (i := 124) (by decide +kernel), List.mem_of_getElem? (i := 356) (by decide +kernel), List.mem_of_getElem? (i := 357) (by decide +kernel)⟩
theorem lw_p17 : lw_okq (⟨"FrameDeltas$Script", "isToken", "(Ljava/lang/String;)Z"⟩, 8) := ⟨⟨by decide +kernel, by decide +kernel⟩, List.mem_of_getElem? (i := 124) (by decide +kernel), List.mem_of_getElem? (i := 368) (by decide +kernel), List.mem_of_getElem? (i := 369) (by decide +kernel)⟩
theorem lw_p18 : lw_okq (⟨"FrameDeltas$Script", "addToProgram", "(I)V"⟩, 8) := ⟨⟨by decide +kernel, by decide +kernel⟩, List.mem_of_getElem? (i := 124) (by decide +kernel), List.mem_of_getElem? (i := 420) (by decide +kernel), List.mem_of_getElem? (i := 421) (by decide +kernel)⟩
theorem lw_p19 : lw_okq (⟨"FrameDeltas$Script", "readNumber", "()Z"⟩, 8) := ⟨⟨by decide +kernel, by decide +kernel⟩, List.mem_of_getElem? (i := 124) (by decide +kernel), List.mem_of_getElem? (i := 432) (by decide +kernel), List.mem_of_getElem? (i := 433) (by decide +kernel)⟩
theorem lw_p20 : lw_okq (⟨"FrameDeltas$Script", "isAllowed", "(CLFrameDeltas$State;)Z"⟩, 8) := ⟨⟨by decide +kernel, by decide +kernel⟩, List.mem_of_getElem? (i := 124) (by decide +kernel), List.mem_of_getElem? (i := 436) (by decide +kernel), List.mem_of_getElem? (i := 437) (by decide +kernel)⟩
theorem lw_p21 : lw_okq (⟨"FrameDeltas$State", "isFrame", "(I)Z"⟩, 7) := ⟨⟨by decide +kernel, by decide +kernel⟩, List.mem_of_getElem? (i := 26) (by decide +kernel), List.mem_of_getElem? (i := 440) (by decide +kernel), List.mem_of_getElem? (i := 441) (by decide +kernel)⟩
theorem lw_p22 : lw_okq (⟨"FrameDeltas$State", "isReadable", "(I)Z"⟩, 7) := ⟨⟨by decide +kernel, by decide +kernel⟩, List.mem_of_getElem? (i := 26) (by decide +kernel), List.mem_of_getElem? (i := 444) (by decide +kernel), List.mem_of_getElem? (i := 445) (by decide +kernel)⟩
theorem lw_p23 : lw_okq (⟨"FrameDeltas$Script", "carryOut", "(LFrameDeltas$State;LFrameDeltas$Image;)I"⟩, 8) := ⟨⟨by decide +kernel, by decide +kernel⟩, List.mem_of_getElem? (i := 124) (by decide +kernel), List.mem_of_getElem? (i := 448) (by decide +kernel), List.mem_of_getElem? (i := 449) (by decide +kernel)⟩
theorem lw_p24 : lw_okq (⟨"FrameDeltas$Script", "programAt", "(I)I"⟩, 8) := ⟨⟨by decide +kernel, by decide +kernel⟩, List.mem_of_getElem? (i := 124) (by decide +kernel), List.mem_of_getElem? (i := 452) (by decide +kernel), List.mem_of_getElem? (i := 453) (by decide +kernel)⟩
theorem lw_p25 : lw_okq (⟨"FrameDeltas$Script", "apply", "(IILFrameDeltas$State;LFrameDeltas$Image;)V"⟩, 8) := ⟨⟨by decide +kernel, by decide +kernel⟩, List.mem_of_getElem? (i := 124) (by decide +kernel), List.mem_of_getElem? (i := 456) (by decide +kernel), List.mem_of_getElem? (i := 457) (by decide +kernel)⟩
theorem lw_p26 : lw_okq (⟨"FrameDeltas$Image", "fillBox", "(IIIII)V"⟩, 3) := ⟨⟨by decide +kernel, by decide +kernel⟩, List.mem_of_getElem? (i := 32) (by decide +kernel), List.mem_of_getElem? (i := 460) (by decide +kernel), List.mem_of_getElem? (i := 461) (by decide +kernel)⟩
theorem lw_p27 : lw_okq (⟨"FrameDeltas$Image", "takeShifted", "(LFrameDeltas$Image;II)V"⟩, 3) := ⟨⟨by decide +kernel, by decide +kernel⟩, List.mem_of_getElem? (i := 32) (by decide +kernel), List.mem_of_getElem? (i := 469) (by decide +kernel), List.mem_of_getElem? (i := 470) (by decide +kernel)⟩
theorem lw_p28 : lw_okq (⟨"FrameDeltas$Image", "at", "(II)I"⟩, 3) := ⟨⟨by decide +kernel, by decide +kernel⟩, List.mem_of_getElem? (i := 32) (by decide +kernel), List.mem_of_getElem? (i := 473) (by decide +kernel), List.mem_of_getElem? (i := 474) (by decide +kernel)⟩
theorem lw_p29 : lw_okq (⟨"FrameDeltas$Image", "swapValues", "(II)V"⟩, 3) := ⟨⟨by decide +kernel, by decide +kernel⟩, List.mem_of_getElem? (i := 32) (by decide +kernel), List.mem_of_getElem? (i := 477) (by decide +kernel), List.mem_of_getElem? (i := 478) (by decide +kernel)⟩
theorem lw_p30 : lw_okq (⟨"FrameDeltas$State", "imageOf", "(I)LFrameDeltas$Image;"⟩, 7) := ⟨⟨by decide +kernel, by decide +kernel⟩, List.mem_of_getElem? (i := 26) (by decide +kernel), List.mem_of_getElem? (i := 481) (by decide +kernel), List.mem_of_getElem? (i := 482) (by decide +kernel)⟩
theorem lw_p31 : lw_okq (⟨"FrameDeltas$State", "isImage", "(I)Z"⟩, 7) := ⟨⟨by decide +kernel, by decide +kernel⟩, List.mem_of_getElem? (i := 26) (by decide +kernel), List.mem_of_getElem? (i := 490) (by decide +kernel), List.mem_of_getElem? (i := 491) (by decide +kernel)⟩
def lw_privs_2 : List (MethodName × Nat) := [(⟨"FrameDeltas$Script", "commandOfToken", "()I"⟩, 8), (⟨"FrameDeltas$Script", "isToken", "(Ljava/lang/String;)Z"⟩, 8), (⟨"FrameDeltas$Script", "addToProgram", "(I)V"⟩, 8), (⟨"FrameDeltas$Script", "readNumber", "()Z"⟩, 8), (⟨"FrameDeltas$Script", "isAllowed", "(CLFrameDeltas$State;)Z"⟩, 8), (⟨"FrameDeltas$State", "isFrame", "(I)Z"⟩, 7), (⟨"FrameDeltas$State", "isReadable", "(I)Z"⟩, 7), (⟨"FrameDeltas$Script", "carryOut", "(LFrameDeltas$State;LFrameDeltas$Image;)I"⟩, 8), (⟨"FrameDeltas$Script", "programAt", "(I)I"⟩, 8), (⟨"FrameDeltas$Script", "apply", "(IILFrameDeltas$State;LFrameDeltas$Image;)V"⟩, 8), (⟨"FrameDeltas$Image", "fillBox", "(IIIII)V"⟩, 3), (⟨"FrameDeltas$Image", "takeShifted", "(LFrameDeltas$Image;II)V"⟩, 3), (⟨"FrameDeltas$Image", "at", "(II)I"⟩, 3), (⟨"FrameDeltas$Image", "swapValues", "(II)V"⟩, 3), (⟨"FrameDeltas$State", "imageOf", "(I)LFrameDeltas$Image;"⟩, 7), (⟨"FrameDeltas$State", "isImage", "(I)Z"⟩, 7)]
theorem lw_r2 : ∀ q ∈ lw_privs_2, lw_okq q := List.forall_mem_cons.mpr ⟨lw_p16, List.forall_mem_cons.mpr ⟨lw_p17, List.forall_mem_cons.mpr ⟨lw_p18, List.forall_mem_cons.mpr ⟨lw_p19, List.forall_mem_cons.mpr ⟨lw_p20, List.forall_mem_cons.mpr ⟨lw_p21, List.forall_mem_cons.mpr ⟨lw_p22, List.forall_mem_cons.mpr ⟨lw_p23, List.forall_mem_cons.mpr ⟨lw_p24, List.forall_mem_cons.mpr ⟨lw_p25, List.forall_mem_cons.mpr ⟨lw_p26, List.forall_mem_cons.mpr ⟨lw_p27, List.forall_mem_cons.mpr ⟨lw_p28, List.forall_mem_cons.mpr ⟨lw_p29, List.forall_mem_cons.mpr ⟨lw_p30, List.forall_mem_cons.mpr ⟨lw_p31, fun _ h => absurd h List.not_mem_nil⟩⟩⟩⟩⟩⟩⟩⟩⟩⟩⟩⟩⟩⟩⟩⟩
theorem lw_p32 : lw_okq (⟨"FrameDeltas$Image", "hasPart", "(II)Z"⟩, 3) := ⟨⟨by decide +kernel, by decide +kernel⟩, List.mem_of_getElem? (i := 32) (by decide +kernel), List.mem_of_getElem? (i := 495) (by decide +kernel), List.mem_of_getElem? (i := 496) (by decide +kernel)⟩
theorem lw_p33 : lw_okq (⟨"FrameDeltas$Image", "partDigest", "(II)I"⟩, 3) := ⟨⟨by decide +kernel, by decide +kernel⟩, List.mem_of_getElem? (i := 32) (by decide +kernel), List.mem_of_getElem? (i := 501) (by decide +kernel), List.mem_of_getElem? (i := 502) (by decide +kernel)⟩
theorem lw_p34 : lw_okq (⟨"FrameDeltas", "add", "(I)I"⟩, 10) := ⟨⟨by decide +kernel, by decide +kernel⟩, List.mem_of_getElem? (i := 18) (by decide +kernel), List.mem_of_getElem? (i := 509) (by decide +kernel), List.mem_of_getElem? (i := 510) (by decide +kernel)⟩
theorem lw_p35 : lw_okq (⟨"FrameDeltas$Coder", "encode", "(LFrameDeltas$Frame;LFrameDeltas$State;I)V"⟩, 4) := ⟨⟨by decide +kernel, by decide +kernel⟩, List.mem_of_getElem? (i := 157) (by decide +kernel), List.mem_of_getElem? (i := 515) (by decide +kernel), List.mem_of_getElem? (i := 516) (by decide +kernel)⟩
theorem lw_p36 : lw_okq (⟨"FrameDeltas$Coder", "encodeRaw", "(LFrameDeltas$Frame;I)I"⟩, 4) := ⟨⟨by decide +kernel, by decide +kernel⟩, List.mem_of_getElem? (i := 157) (by decide +kernel), List.mem_of_getElem? (i := 521) (by decide +kernel), List.mem_of_getElem? (i := 522) (by decide +kernel)⟩
theorem lw_p37 : lw_okq (⟨"FrameDeltas$RunList", "read", "(LFrameDeltas$Image;LFrameDeltas$Image;I)V"⟩, 3) := ⟨⟨by decide +kernel, by decide +kernel⟩, List.mem_of_getElem? (i := 163) (by decide +kernel), List.mem_of_getElem? (i := 525) (by decide +kernel), List.mem_of_getElem? (i := 526) (by decide +kernel)⟩
theorem lw_p38 : lw_okq (⟨"FrameDeltas$Image", "left", "(I)I"⟩, 3) := ⟨⟨by decide +kernel, by decide +kernel⟩, List.mem_of_getElem? (i := 32) (by decide +kernel), List.mem_of_getElem? (i := 529) (by decide +kernel), List.mem_of_getElem? (i := 530) (by decide +kernel)⟩
theorem lw_p39 : lw_okq (⟨"FrameDeltas$Image", "top", "(I)I"⟩, 3) := ⟨⟨by decide +kernel, by decide +kernel⟩, List.mem_of_getElem? (i := 32) (by decide +kernel), List.mem_of_getElem? (i := 536) (by decide +kernel), List.mem_of_getElem? (i := 537) (by decide +kernel)⟩
theorem lw_p40 : lw_okq (⟨"FrameDeltas$RunList", "addCell", "(I)V"⟩, 3) := ⟨⟨by decide +kernel, by decide +kernel⟩, List.mem_of_getElem? (i := 163) (by decide +kernel), List.mem_of_getElem? (i := 541) (by decide +kernel), List.mem_of_getElem? (i := 542) (by decide +kernel)⟩
theorem lw_p41 : lw_okq (⟨"FrameDeltas$Frame", "setCode", "(IIIII)V"⟩, 5) := ⟨⟨by decide +kernel, by decide +kernel⟩, List.mem_of_getElem? (i := 54) (by decide +kernel), List.mem_of_getElem? (i := 545) (by decide +kernel), List.mem_of_getElem? (i := 546) (by decide +kernel)⟩
theorem lw_p42 : lw_okq (⟨"FrameDeltas$Coder", "encodeWith", "(LFrameDeltas$Frame;ILFrameDeltas$Image;I)I"⟩, 4) := ⟨⟨by decide +kernel, by decide +kernel⟩, List.mem_of_getElem? (i := 157) (by decide +kernel), List.mem_of_getElem? (i := 549) (by decide +kernel), List.mem_of_getElem? (i := 550) (by decide +kernel)⟩
theorem lw_p43 : lw_okq (⟨"FrameDeltas$Image", "samePart", "(IILFrameDeltas$Image;II)Z"⟩, 3) := ⟨⟨by decide +kernel, by decide +kernel⟩, List.mem_of_getElem? (i := 32) (by decide +kernel), List.mem_of_getElem? (i := 555) (by decide +kernel), List.mem_of_getElem? (i := 556) (by decide +kernel)⟩
theorem lw_p44 : lw_okq (⟨"FrameDeltas$Coder", "findMove", "(LFrameDeltas$Image;IILFrameDeltas$Image;I)Z"⟩, 4) := ⟨⟨by decide +kernel, by decide +kernel⟩, List.mem_of_getElem? (i := 157) (by decide +kernel), List.mem_of_getElem? (i := 559) (by decide +kernel), List.mem_of_getElem? (i := 560) (by decide +kernel)⟩
theorem lw_p45 : lw_okq (⟨"FrameDeltas$State", "mayBeReference", "(I)Z"⟩, 7) := ⟨⟨by decide +kernel, by decide +kernel⟩, List.mem_of_getElem? (i := 26) (by decide +kernel), List.mem_of_getElem? (i := 573) (by decide +kernel), List.mem_of_getElem? (i := 574) (by decide +kernel)⟩
theorem lw_p46 : lw_okq (⟨"FrameDeltas$State", "depthOf", "(I)I"⟩, 7) := ⟨⟨by decide +kernel, by decide +kernel⟩, List.mem_of_getElem? (i := 26) (by decide +kernel), List.mem_of_getElem? (i := 578) (by decide +kernel), List.mem_of_getElem? (i := 579) (by decide +kernel)⟩
theorem lw_p47 : lw_okq (⟨"FrameDeltas", "chosenReference", "()I"⟩, 10) := ⟨⟨by decide +kernel, by decide +kernel⟩, List.mem_of_getElem? (i := 18) (by decide +kernel), List.mem_of_getElem? (i := 586) (by decide +kernel), List.mem_of_getElem? (i := 587) (by decide +kernel)⟩
def lw_privs_3 : List (MethodName × Nat) := [(⟨"FrameDeltas$Image", "hasPart", "(II)Z"⟩, 3), (⟨"FrameDeltas$Image", "partDigest", "(II)I"⟩, 3), (⟨"FrameDeltas", "add", "(I)I"⟩, 10), (⟨"FrameDeltas$Coder", "encode", "(LFrameDeltas$Frame;LFrameDeltas$State;I)V"⟩, 4), (⟨"FrameDeltas$Coder", "encodeRaw", "(LFrameDeltas$Frame;I)I"⟩, 4), (⟨"FrameDeltas$RunList", "read", "(LFrameDeltas$Image;LFrameDeltas$Image;I)V"⟩, 3), (⟨"FrameDeltas$Image", "left", "(I)I"⟩, 3), (⟨"FrameDeltas$Image", "top", "(I)I"⟩, 3), (⟨"FrameDeltas$RunList", "addCell", "(I)V"⟩, 3), (⟨"FrameDeltas$Frame", "setCode", "(IIIII)V"⟩, 5), (⟨"FrameDeltas$Coder", "encodeWith", "(LFrameDeltas$Frame;ILFrameDeltas$Image;I)I"⟩, 4), (⟨"FrameDeltas$Image", "samePart", "(IILFrameDeltas$Image;II)Z"⟩, 3), (⟨"FrameDeltas$Coder", "findMove", "(LFrameDeltas$Image;IILFrameDeltas$Image;I)Z"⟩, 4), (⟨"FrameDeltas$State", "mayBeReference", "(I)Z"⟩, 7), (⟨"FrameDeltas$State", "depthOf", "(I)I"⟩, 7), (⟨"FrameDeltas", "chosenReference", "()I"⟩, 10)]
theorem lw_r3 : ∀ q ∈ lw_privs_3, lw_okq q := List.forall_mem_cons.mpr ⟨lw_p32, List.forall_mem_cons.mpr ⟨lw_p33, List.forall_mem_cons.mpr ⟨lw_p34, List.forall_mem_cons.mpr ⟨lw_p35, List.forall_mem_cons.mpr ⟨lw_p36, List.forall_mem_cons.mpr ⟨lw_p37, List.forall_mem_cons.mpr ⟨lw_p38, List.forall_mem_cons.mpr ⟨lw_p39, List.forall_mem_cons.mpr ⟨lw_p40, List.forall_mem_cons.mpr ⟨lw_p41, List.forall_mem_cons.mpr ⟨lw_p42, List.forall_mem_cons.mpr ⟨lw_p43, List.forall_mem_cons.mpr ⟨lw_p44, List.forall_mem_cons.mpr ⟨lw_p45, List.forall_mem_cons.mpr ⟨lw_p46, List.forall_mem_cons.mpr ⟨lw_p47, fun _ h => absurd h List.not_mem_nil⟩⟩⟩⟩⟩⟩⟩⟩⟩⟩⟩⟩⟩⟩⟩⟩
theorem lw_p48 : lw_okq (⟨"FrameDeltas", "costOfCanvas", "(I)I"⟩, 10) := ⟨⟨by decide +kernel, by decide +kernel⟩, List.mem_of_getElem? (i := 18) (by decide +kernel), List.mem_of_getElem? (i := 590) (by decide +kernel), List.mem_of_getElem? (i := 591) (by decide +kernel)⟩
theorem lw_p49 : lw_okq (⟨"FrameDeltas$Planner", "plan", "(LFrameDeltas$State;LFrameDeltas$Coder;LFrameDeltas$Frame;)V"⟩, 4) := ⟨⟨by decide +kernel, by decide +kernel⟩, List.mem_of_getElem? (i := 195) (by decide +kernel), List.mem_of_getElem? (i := 603) (by decide +kernel), List.mem_of_getElem? (i := 604) (by decide +kernel)⟩
theorem lw_p50 : lw_okq (⟨"FrameDeltas$Planner", "measure", "(LFrameDeltas$State;LFrameDeltas$Coder;LFrameDeltas$Frame;I)V"⟩, 4) := ⟨⟨by decide +kernel, by decide +kernel⟩, List.mem_of_getElem? (i := 195) (by decide +kernel), List.mem_of_getElem? (i := 608) (by decide +kernel), List.mem_of_getElem? (i := 609) (by decide +kernel)⟩
theorem lw_p51 : lw_okq (⟨"FrameDeltas$Planner", "costOf", "(III)I"⟩, 4) := ⟨⟨by decide +kernel, by decide +kernel⟩, List.mem_of_getElem? (i := 195) (by decide +kernel), List.mem_of_getElem? (i := 615) (by decide +kernel), List.mem_of_getElem? (i := 616) (by decide +kernel)⟩
theorem lw_p52 : lw_okq (⟨"FrameDeltas$Planner", "referenceOf", "(I)I"⟩, 4) := ⟨⟨by decide +kernel, by decide +kernel⟩, List.mem_of_getElem? (i := 195) (by decide +kernel), List.mem_of_getElem? (i := 626) (by decide +kernel), List.mem_of_getElem? (i := 627) (by decide +kernel)⟩
theorem lw_p53 : lw_okq (⟨"FrameDeltas$State", "readableFrames", "()I"⟩, 7) := ⟨⟨by decide +kernel, by decide +kernel⟩, List.mem_of_getElem? (i := 26) (by decide +kernel), List.mem_of_getElem? (i := 638) (by decide +kernel), List.mem_of_getElem? (i := 639) (by decide +kernel)⟩
theorem lw_p54 : lw_okq (⟨"FrameDeltas$State", "seekCost", "(I)I"⟩, 7) := ⟨⟨by decide +kernel, by decide +kernel⟩, List.mem_of_getElem? (i := 26) (by decide +kernel), List.mem_of_getElem? (i := 646) (by decide +kernel), List.mem_of_getElem? (i := 647) (by decide +kernel)⟩
theorem lw_p55 : lw_okq (⟨"FrameDeltas$Frame", "codesOfKind", "(I)I"⟩, 5) := ⟨⟨by decide +kernel, by decide +kernel⟩, List.mem_of_getElem? (i := 54) (by decide +kernel), List.mem_of_getElem? (i := 650) (by decide +kernel), List.mem_of_getElem? (i := 651) (by decide +kernel)⟩
theorem lw_p56 : lw_okq (⟨"FrameDeltas$Frame", "codePart", "(II)I"⟩, 5) := ⟨⟨by decide +kernel, by decide +kernel⟩, List.mem_of_getElem? (i := 54) (by decide +kernel), List.mem_of_getElem? (i := 655) (by decide +kernel), List.mem_of_getElem? (i := 656) (by decide +kernel)⟩
theorem lw_p57 : lw_okq (⟨"FrameDeltas$Image", "hasBlock", "(I)Z"⟩, 3) := ⟨⟨by decide +kernel, by decide +kernel⟩, List.mem_of_getElem? (i := 32) (by decide +kernel), List.mem_of_getElem? (i := 663) (by decide +kernel), List.mem_of_getElem? (i := 664) (by decide +kernel)⟩
theorem lw_p58 : lw_okq (⟨"FrameDeltas$RunList", "lengthOf", "(I)I"⟩, 3) := ⟨⟨by decide +kernel, by decide +kernel⟩, List.mem_of_getElem? (i := 163) (by decide +kernel), List.mem_of_getElem? (i := 674) (by decide +kernel), List.mem_of_getElem? (i := 675) (by decide +kernel)⟩
theorem lw_p59 : lw_okq (⟨"FrameDeltas$RunList", "valueOf", "(I)I"⟩, 3) := ⟨⟨by decide +kernel, by decide +kernel⟩, List.mem_of_getElem? (i := 163) (by decide +kernel), List.mem_of_getElem? (i := 678) (by decide +kernel), List.mem_of_getElem? (i := 679) (by decide +kernel)⟩
theorem lw_p60 : lw_okq (⟨"FrameDeltas$State", "costOfRecords", "()I"⟩, 7) := ⟨⟨by decide +kernel, by decide +kernel⟩, List.mem_of_getElem? (i := 26) (by decide +kernel), List.mem_of_getElem? (i := 690) (by decide +kernel), List.mem_of_getElem? (i := 691) (by decide +kernel)⟩
theorem lw_p61 : lw_okq (⟨"FrameDeltas$Image", "cellsUnlike", "(LFrameDeltas$Image;)I"⟩, 3) := ⟨⟨by decide +kernel, by decide +kernel⟩, List.mem_of_getElem? (i := 32) (by decide +kernel), List.mem_of_getElem? (i := 702) (by decide +kernel), List.mem_of_getElem? (i := 703) (by decide +kernel)⟩
theorem lw_p62 : lw_okq (⟨"FrameDeltas", "falsePairs", "(LFrameDeltas$Image;)I"⟩, 10) := ⟨⟨by decide +kernel, by decide +kernel⟩, List.mem_of_getElem? (i := 18) (by decide +kernel), List.mem_of_getElem? (i := 718) (by decide +kernel), List.mem_of_getElem? (i := 719) (by decide +kernel)⟩
theorem lw_p63 : lw_okq (⟨"FrameDeltas$State", "chainHas", "(II)Z"⟩, 7) := ⟨⟨by decide +kernel, by decide +kernel⟩, List.mem_of_getElem? (i := 26) (by decide +kernel), List.mem_of_getElem? (i := 732) (by decide +kernel), List.mem_of_getElem? (i := 733) (by decide +kernel)⟩
def lw_privs_4 : List (MethodName × Nat) := [(⟨"FrameDeltas", "costOfCanvas", "(I)I"⟩, 10), (⟨"FrameDeltas$Planner", "plan", "(LFrameDeltas$State;LFrameDeltas$Coder;LFrameDeltas$Frame;)V"⟩, 4), (⟨"FrameDeltas$Planner", "measure", "(LFrameDeltas$State;LFrameDeltas$Coder;LFrameDeltas$Frame;I)V"⟩, 4), (⟨"FrameDeltas$Planner", "costOf", "(III)I"⟩, 4), (⟨"FrameDeltas$Planner", "referenceOf", "(I)I"⟩, 4), (⟨"FrameDeltas$State", "readableFrames", "()I"⟩, 7), (⟨"FrameDeltas$State", "seekCost", "(I)I"⟩, 7), (⟨"FrameDeltas$Frame", "codesOfKind", "(I)I"⟩, 5), (⟨"FrameDeltas$Frame", "codePart", "(II)I"⟩, 5), (⟨"FrameDeltas$Image", "hasBlock", "(I)Z"⟩, 3), (⟨"FrameDeltas$RunList", "lengthOf", "(I)I"⟩, 3), (⟨"FrameDeltas$RunList", "valueOf", "(I)I"⟩, 3), (⟨"FrameDeltas$State", "costOfRecords", "()I"⟩, 7), (⟨"FrameDeltas$Image", "cellsUnlike", "(LFrameDeltas$Image;)I"⟩, 3), (⟨"FrameDeltas", "falsePairs", "(LFrameDeltas$Image;)I"⟩, 10), (⟨"FrameDeltas$State", "chainHas", "(II)Z"⟩, 7)]
theorem lw_r4 : ∀ q ∈ lw_privs_4, lw_okq q := List.forall_mem_cons.mpr ⟨lw_p48, List.forall_mem_cons.mpr ⟨lw_p49, List.forall_mem_cons.mpr ⟨lw_p50, List.forall_mem_cons.mpr ⟨lw_p51, List.forall_mem_cons.mpr ⟨lw_p52, List.forall_mem_cons.mpr ⟨lw_p53, List.forall_mem_cons.mpr ⟨lw_p54, List.forall_mem_cons.mpr ⟨lw_p55, List.forall_mem_cons.mpr ⟨lw_p56, List.forall_mem_cons.mpr ⟨lw_p57, List.forall_mem_cons.mpr ⟨lw_p58, List.forall_mem_cons.mpr ⟨lw_p59, List.forall_mem_cons.mpr ⟨lw_p60, List.forall_mem_cons.mpr ⟨lw_p61, List.forall_mem_cons.mpr ⟨lw_p62, List.forall_mem_cons.mpr ⟨lw_p63, fun _ h => absurd h List.not_mem_nil⟩⟩⟩⟩⟩⟩⟩⟩⟩⟩⟩⟩⟩⟩⟩⟩
theorem lw_p64 : lw_okq (⟨"FrameDeltasModel", "note", "()V"⟩, 18) := ⟨⟨by decide +kernel, by decide +kernel⟩, List.mem_of_getElem? (i := 752) (by decide +kernel), List.mem_of_getElem? (i := 824) (by decide +kernel), List.mem_of_getElem? (i := 825) (by decide +kernel)⟩
theorem lw_p65 : lw_okq (⟨"FrameDeltasModel", "blocks", "()I"⟩, 18) := ⟨⟨by decide +kernel, by decide +kernel⟩, List.mem_of_getElem? (i := 752) (by decide +kernel), List.mem_of_getElem? (i := 828) (by decide +kernel), List.mem_of_getElem? (i := 829) (by decide +kernel)⟩
theorem lw_p66 : lw_okq (⟨"FrameDeltasModel", "cells", "()I"⟩, 18) := ⟨⟨by decide +kernel, by decide +kernel⟩, List.mem_of_getElem? (i := 752) (by decide +kernel), List.mem_of_getElem? (i := 832) (by decide +kernel), List.mem_of_getElem? (i := 833) (by decide +kernel)⟩
theorem lw_p67 : lw_okq (⟨"FrameDeltasModel", "isCell", "(I)Z"⟩, 18) := ⟨⟨by decide +kernel, by decide +kernel⟩, List.mem_of_getElem? (i := 752) (by decide +kernel), List.mem_of_getElem? (i := 840) (by decide +kernel), List.mem_of_getElem? (i := 841) (by decide +kernel)⟩
theorem lw_p68 : lw_okq (⟨"FrameDeltasModel", "readsToken", "()V"⟩, 18) := ⟨⟨by decide +kernel, by decide +kernel⟩, List.mem_of_getElem? (i := 752) (by decide +kernel), List.mem_of_getElem? (i := 860) (by decide +kernel), List.mem_of_getElem? (i := 861) (by decide +kernel)⟩
theorem lw_p69 : lw_okq (⟨"FrameDeltasModel", "here", "()I"⟩, 18) := ⟨⟨by decide +kernel, by decide +kernel⟩, List.mem_of_getElem? (i := 752) (by decide +kernel), List.mem_of_getElem? (i := 864) (by decide +kernel), List.mem_of_getElem? (i := 865) (by decide +kernel)⟩
theorem lw_p70 : lw_okq (⟨"FrameDeltasModel", "readsCommand", "()V"⟩, 18) := ⟨⟨by decide +kernel, by decide +kernel⟩, List.mem_of_getElem? (i := 752) (by decide +kernel), List.mem_of_getElem? (i := 874) (by decide +kernel), List.mem_of_getElem? (i := 875) (by decide +kernel)⟩
theorem lw_p71 : lw_okq (⟨"FrameDeltasModel", "takes", "(Z)V"⟩, 18) := ⟨⟨by decide +kernel, by decide +kernel⟩, List.mem_of_getElem? (i := 752) (by decide +kernel), List.mem_of_getElem? (i := 883) (by decide +kernel), List.mem_of_getElem? (i := 884) (by decide +kernel)⟩
theorem lw_p72 : lw_okq (⟨"FrameDeltasModel", "takesNumber", "(II)I"⟩, 18) := ⟨⟨by decide +kernel, by decide +kernel⟩, List.mem_of_getElem? (i := 752) (by decide +kernel), List.mem_of_getElem? (i := 887) (by decide +kernel), List.mem_of_getElem? (i := 888) (by decide +kernel)⟩
theorem lw_p73 : lw_okq (⟨"FrameDeltasModel", "fillsBox", "(IIIII)V"⟩, 18) := ⟨⟨by decide +kernel, by decide +kernel⟩, List.mem_of_getElem? (i := 752) (by decide +kernel), List.mem_of_getElem? (i := 891) (by decide +kernel), List.mem_of_getElem? (i := 892) (by decide +kernel)⟩
theorem lw_p74 : lw_okq (⟨"FrameDeltasModel", "shifts", "(II)V"⟩, 18) := ⟨⟨by decide +kernel, by decide +kernel⟩, List.mem_of_getElem? (i := 752) (by decide +kernel), List.mem_of_getElem? (i := 895) (by decide +kernel), List.mem_of_getElem? (i := 896) (by decide +kernel)⟩
theorem lw_p75 : lw_okq (⟨"FrameDeltasModel", "keeps", "()V"⟩, 18) := ⟨⟨by decide +kernel, by decide +kernel⟩, List.mem_of_getElem? (i := 752) (by decide +kernel), List.mem_of_getElem? (i := 899) (by decide +kernel), List.mem_of_getElem? (i := 900) (by decide +kernel)⟩
theorem lw_p76 : lw_okq (⟨"FrameDeltasModel", "place", "(II)I"⟩, 18) := ⟨⟨by decide +kernel, by decide +kernel⟩, List.mem_of_getElem? (i := 752) (by decide +kernel), List.mem_of_getElem? (i := 903) (by decide +kernel), List.mem_of_getElem? (i := 904) (by decide +kernel)⟩
theorem lw_p77 : lw_okq (⟨"FrameDeltasModel", "isFrame", "(I)Z"⟩, 18) := ⟨⟨by decide +kernel, by decide +kernel⟩, List.mem_of_getElem? (i := 752) (by decide +kernel), List.mem_of_getElem? (i := 907) (by decide +kernel), List.mem_of_getElem? (i := 908) (by decide +kernel)⟩
theorem lw_p78 : lw_okq (⟨"FrameDeltasModel", "isGood", "(I)Z"⟩, 18) := ⟨⟨by decide +kernel, by decide +kernel⟩, List.mem_of_getElem? (i := 752) (by decide +kernel), List.mem_of_getElem? (i := 911) (by decide +kernel), List.mem_of_getElem? (i := 912) (by decide +kernel)⟩
theorem lw_p79 : lw_okq (⟨"FrameDeltasModel", "reference", "(I)I"⟩, 18) := ⟨⟨by decide +kernel, by decide +kernel⟩, List.mem_of_getElem? (i := 752) (by decide +kernel), List.mem_of_getElem? (i := 915) (by decide +kernel), List.mem_of_getElem? (i := 916) (by decide +kernel)⟩
def lw_privs_5 : List (MethodName × Nat) := [(⟨"FrameDeltasModel", "note", "()V"⟩, 18), (⟨"FrameDeltasModel", "blocks", "()I"⟩, 18), (⟨"FrameDeltasModel", "cells", "()I"⟩, 18), (⟨"FrameDeltasModel", "isCell", "(I)Z"⟩, 18), (⟨"FrameDeltasModel", "readsToken", "()V"⟩, 18), (⟨"FrameDeltasModel", "here", "()I"⟩, 18), (⟨"FrameDeltasModel", "readsCommand", "()V"⟩, 18), (⟨"FrameDeltasModel", "takes", "(Z)V"⟩, 18), (⟨"FrameDeltasModel", "takesNumber", "(II)I"⟩, 18), (⟨"FrameDeltasModel", "fillsBox", "(IIIII)V"⟩, 18), (⟨"FrameDeltasModel", "shifts", "(II)V"⟩, 18), (⟨"FrameDeltasModel", "keeps", "()V"⟩, 18), (⟨"FrameDeltasModel", "place", "(II)I"⟩, 18), (⟨"FrameDeltasModel", "isFrame", "(I)Z"⟩, 18), (⟨"FrameDeltasModel", "isGood", "(I)Z"⟩, 18), (⟨"FrameDeltasModel", "reference", "(I)I"⟩, 18)]
theorem lw_r5 : ∀ q ∈ lw_privs_5, lw_okq q := List.forall_mem_cons.mpr ⟨lw_p64, List.forall_mem_cons.mpr ⟨lw_p65, List.forall_mem_cons.mpr ⟨lw_p66, List.forall_mem_cons.mpr ⟨lw_p67, List.forall_mem_cons.mpr ⟨lw_p68, List.forall_mem_cons.mpr ⟨lw_p69, List.forall_mem_cons.mpr ⟨lw_p70, List.forall_mem_cons.mpr ⟨lw_p71, List.forall_mem_cons.mpr ⟨lw_p72, List.forall_mem_cons.mpr ⟨lw_p73, List.forall_mem_cons.mpr ⟨lw_p74, List.forall_mem_cons.mpr ⟨lw_p75, List.forall_mem_cons.mpr ⟨lw_p76, List.forall_mem_cons.mpr ⟨lw_p77, List.forall_mem_cons.mpr ⟨lw_p78, List.forall_mem_cons.mpr ⟨lw_p79, fun _ h => absurd h List.not_mem_nil⟩⟩⟩⟩⟩⟩⟩⟩⟩⟩⟩⟩⟩⟩⟩⟩
theorem lw_p80 : lw_okq (⟨"FrameDeltasModel", "value", "(II)I"⟩, 18) := ⟨⟨by decide +kernel, by decide +kernel⟩, List.mem_of_getElem? (i := 752) (by decide +kernel), List.mem_of_getElem? (i := 919) (by decide +kernel), List.mem_of_getElem? (i := 920) (by decide +kernel)⟩
theorem lw_p81 : lw_okq (⟨"FrameDeltasModel", "exchanges", "()V"⟩, 18) := ⟨⟨by decide +kernel, by decide +kernel⟩, List.mem_of_getElem? (i := 752) (by decide +kernel), List.mem_of_getElem? (i := 923) (by decide +kernel), List.mem_of_getElem? (i := 924) (by decide +kernel)⟩
theorem lw_p82 : lw_okq (⟨"FrameDeltasModel", "isImage", "(I)Z"⟩, 18) := ⟨⟨by decide +kernel, by decide +kernel⟩, List.mem_of_getElem? (i := 752) (by decide +kernel), List.mem_of_getElem? (i := 931) (by decide +kernel), List.mem_of_getElem? (i := 932) (by decide +kernel)⟩
theorem lw_p83 : lw_okq (⟨"FrameDeltasModel", "isKnown", "(I)Z"⟩, 18) := ⟨⟨by decide +kernel, by decide +kernel⟩, List.mem_of_getElem? (i := 752) (by decide +kernel), List.mem_of_getElem? (i := 935) (by decide +kernel), List.mem_of_getElem? (i := 936) (by decide +kernel)⟩
theorem lw_p84 : lw_okq (⟨"FrameDeltasModel", "digestOf", "(III)I"⟩, 18) := ⟨⟨by decide +kernel, by decide +kernel⟩, List.mem_of_getElem? (i := 752) (by decide +kernel), List.mem_of_getElem? (i := 939) (by decide +kernel), List.mem_of_getElem? (i := 940) (by decide +kernel)⟩
theorem lw_p85 : lw_okq (⟨"FrameDeltasModel", "adds", "(I)I"⟩, 18) := ⟨⟨by decide +kernel, by decide +kernel⟩, List.mem_of_getElem? (i := 752) (by decide +kernel), List.mem_of_getElem? (i := 947) (by decide +kernel), List.mem_of_getElem? (i := 948) (by decide +kernel)⟩
theorem lw_p86 : lw_okq (⟨"FrameDeltasModel", "codesAll", "(II)I"⟩, 18) := ⟨⟨by decide +kernel, by decide +kernel⟩, List.mem_of_getElem? (i := 752) (by decide +kernel), List.mem_of_getElem? (i := 951) (by decide +kernel), List.mem_of_getElem? (i := 952) (by decide +kernel)⟩
theorem lw_p87 : lw_okq (⟨"FrameDeltasModel", "codes", "(III)I"⟩, 18) := ⟨⟨by decide +kernel, by decide +kernel⟩, List.mem_of_getElem? (i := 752) (by decide +kernel), List.mem_of_getElem? (i := 955) (by decide +kernel), List.mem_of_getElem? (i := 956) (by decide +kernel)⟩
theorem lw_p88 : lw_okq (⟨"FrameDeltasModel", "runsOf", "(III)I"⟩, 18) := ⟨⟨by decide +kernel, by decide +kernel⟩, List.mem_of_getElem? (i := 752) (by decide +kernel), List.mem_of_getElem? (i := 959) (by decide +kernel), List.mem_of_getElem? (i := 960) (by decide +kernel)⟩
theorem lw_p89 : lw_okq (⟨"FrameDeltasModel", "given", "(IIII)I"⟩, 18) := ⟨⟨by decide +kernel, by decide +kernel⟩, List.mem_of_getElem? (i := 752) (by decide +kernel), List.mem_of_getElem? (i := 963) (by decide +kernel), List.mem_of_getElem? (i := 964) (by decide +kernel)⟩
theorem lw_p90 : lw_okq (⟨"FrameDeltasModel", "left", "(I)I"⟩, 18) := ⟨⟨by decide +kernel, by decide +kernel⟩, List.mem_of_getElem? (i := 752) (by decide +kernel), List.mem_of_getElem? (i := 967) (by decide +kernel), List.mem_of_getElem? (i := 968) (by decide +kernel)⟩
theorem lw_p91 : lw_okq (⟨"FrameDeltasModel", "top", "(I)I"⟩, 18) := ⟨⟨by decide +kernel, by decide +kernel⟩, List.mem_of_getElem? (i := 752) (by decide +kernel), List.mem_of_getElem? (i := 971) (by decide +kernel), List.mem_of_getElem? (i := 972) (by decide +kernel)⟩
theorem lw_p92 : lw_okq (⟨"FrameDeltasModel", "isLike", "(IIIII)Z"⟩, 18) := ⟨⟨by decide +kernel, by decide +kernel⟩, List.mem_of_getElem? (i := 752) (by decide +kernel), List.mem_of_getElem? (i := 975) (by decide +kernel), List.mem_of_getElem? (i := 976) (by decide +kernel)⟩
theorem lw_p93 : lw_okq (⟨"FrameDeltasModel", "finds", "(III)Z"⟩, 18) := ⟨⟨by decide +kernel, by decide +kernel⟩, List.mem_of_getElem? (i := 752) (by decide +kernel), List.mem_of_getElem? (i := 979) (by decide +kernel), List.mem_of_getElem? (i := 980) (by decide +kernel)⟩
theorem lw_p94 : lw_okq (⟨"FrameDeltasModel", "records", "(II)V"⟩, 18) := ⟨⟨by decide +kernel, by decide +kernel⟩, List.mem_of_getElem? (i := 752) (by decide +kernel), List.mem_of_getElem? (i := 986) (by decide +kernel), List.mem_of_getElem? (i := 987) (by decide +kernel)⟩
theorem lw_p95 : lw_okq (⟨"FrameDeltasModel", "depthOf", "(I)I"⟩, 18) := ⟨⟨by decide +kernel, by decide +kernel⟩, List.mem_of_getElem? (i := 752) (by decide +kernel), List.mem_of_getElem? (i := 994) (by decide +kernel), List.mem_of_getElem? (i := 995) (by decide +kernel)⟩
def lw_privs_6 : List (MethodName × Nat) := [(⟨"FrameDeltasModel", "value", "(II)I"⟩, 18), (⟨"FrameDeltasModel", "exchanges", "()V"⟩, 18), (⟨"FrameDeltasModel", "isImage", "(I)Z"⟩, 18), (⟨"FrameDeltasModel", "isKnown", "(I)Z"⟩, 18), (⟨"FrameDeltasModel", "digestOf", "(III)I"⟩, 18), (⟨"FrameDeltasModel", "adds", "(I)I"⟩, 18), (⟨"FrameDeltasModel", "codesAll", "(II)I"⟩, 18), (⟨"FrameDeltasModel", "codes", "(III)I"⟩, 18), (⟨"FrameDeltasModel", "runsOf", "(III)I"⟩, 18), (⟨"FrameDeltasModel", "given", "(IIII)I"⟩, 18), (⟨"FrameDeltasModel", "left", "(I)I"⟩, 18), (⟨"FrameDeltasModel", "top", "(I)I"⟩, 18), (⟨"FrameDeltasModel", "isLike", "(IIIII)Z"⟩, 18), (⟨"FrameDeltasModel", "finds", "(III)Z"⟩, 18), (⟨"FrameDeltasModel", "records", "(II)V"⟩, 18), (⟨"FrameDeltasModel", "depthOf", "(I)I"⟩, 18)]
theorem lw_r6 : ∀ q ∈ lw_privs_6, lw_okq q := List.forall_mem_cons.mpr ⟨lw_p80, List.forall_mem_cons.mpr ⟨lw_p81, List.forall_mem_cons.mpr ⟨lw_p82, List.forall_mem_cons.mpr ⟨lw_p83, List.forall_mem_cons.mpr ⟨lw_p84, List.forall_mem_cons.mpr ⟨lw_p85, List.forall_mem_cons.mpr ⟨lw_p86, List.forall_mem_cons.mpr ⟨lw_p87, List.forall_mem_cons.mpr ⟨lw_p88, List.forall_mem_cons.mpr ⟨lw_p89, List.forall_mem_cons.mpr ⟨lw_p90, List.forall_mem_cons.mpr ⟨lw_p91, List.forall_mem_cons.mpr ⟨lw_p92, List.forall_mem_cons.mpr ⟨lw_p93, List.forall_mem_cons.mpr ⟨lw_p94, List.forall_mem_cons.mpr ⟨lw_p95, fun _ h => absurd h List.not_mem_nil⟩⟩⟩⟩⟩⟩⟩⟩⟩⟩⟩⟩⟩⟩⟩⟩
theorem lw_p96 : lw_okq (⟨"FrameDeltasModel", "plans", "()I"⟩, 18) := ⟨⟨by decide +kernel, by decide +kernel⟩, List.mem_of_getElem? (i := 752) (by decide +kernel), List.mem_of_getElem? (i := 1010) (by decide +kernel), List.mem_of_getElem? (i := 1011) (by decide +kernel)⟩
theorem lw_p97 : lw_okq (⟨"FrameDeltasModel", "planOf", "(I)I"⟩, 18) := ⟨⟨by decide +kernel, by decide +kernel⟩, List.mem_of_getElem? (i := 752) (by decide +kernel), List.mem_of_getElem? (i := 1014) (by decide +kernel), List.mem_of_getElem? (i := 1015) (by decide +kernel)⟩
theorem lw_p98 : lw_okq (⟨"FrameDeltasModel", "goods", "()I"⟩, 18) := ⟨⟨by decide +kernel, by decide +kernel⟩, List.mem_of_getElem? (i := 752) (by decide +kernel), List.mem_of_getElem? (i := 1037) (by decide +kernel), List.mem_of_getElem? (i := 1038) (by decide +kernel)⟩
theorem lw_p99 : lw_okq (⟨"FrameDeltasModel", "costOf", "(I)I"⟩, 18) := ⟨⟨by decide +kernel, by decide +kernel⟩, List.mem_of_getElem? (i := 752) (by decide +kernel), List.mem_of_getElem? (i := 1045) (by decide +kernel), List.mem_of_getElem? (i := 1046) (by decide +kernel)⟩
theorem lw_p100 : lw_okq (⟨"FrameDeltasModel", "codeAt", "(II)I"⟩, 18) := ⟨⟨by decide +kernel, by decide +kernel⟩, List.mem_of_getElem? (i := 752) (by decide +kernel), List.mem_of_getElem? (i := 1049) (by decide +kernel), List.mem_of_getElem? (i := 1050) (by decide +kernel)⟩
theorem lw_p101 : lw_okq (⟨"FrameDeltasModel", "runsIn", "(II)I"⟩, 18) := ⟨⟨by decide +kernel, by decide +kernel⟩, List.mem_of_getElem? (i := 752) (by decide +kernel), List.mem_of_getElem? (i := 1053) (by decide +kernel), List.mem_of_getElem? (i := 1054) (by decide +kernel)⟩
theorem lw_p102 : lw_okq (⟨"FrameDeltasModel", "seekOf", "(I)I"⟩, 18) := ⟨⟨by decide +kernel, by decide +kernel⟩, List.mem_of_getElem? (i := 752) (by decide +kernel), List.mem_of_getElem? (i := 1057) (by decide +kernel), List.mem_of_getElem? (i := 1058) (by decide +kernel)⟩
theorem lw_p103 : lw_okq (⟨"FrameDeltasModel", "codesOf", "(II)I"⟩, 18) := ⟨⟨by decide +kernel, by decide +kernel⟩, List.mem_of_getElem? (i := 752) (by decide +kernel), List.mem_of_getElem? (i := 1061) (by decide +kernel), List.mem_of_getElem? (i := 1062) (by decide +kernel)⟩
theorem lw_p104 : lw_okq (⟨"FrameDeltasModel", "isBlock", "(I)Z"⟩, 18) := ⟨⟨by decide +kernel, by decide +kernel⟩, List.mem_of_getElem? (i := 752) (by decide +kernel), List.mem_of_getElem? (i := 1069) (by decide +kernel), List.mem_of_getElem? (i := 1070) (by decide +kernel)⟩
theorem lw_p105 : lw_okq (⟨"FrameDeltasModel", "differing", "(II)I"⟩, 18) := ⟨⟨by decide +kernel, by decide +kernel⟩, List.mem_of_getElem? (i := 752) (by decide +kernel), List.mem_of_getElem? (i := 1093) (by decide +kernel), List.mem_of_getElem? (i := 1094) (by decide +kernel)⟩
theorem lw_p106 : lw_okq (⟨"FrameDeltasModel", "areAlike", "(IIIIII)Z"⟩, 18) := ⟨⟨by decide +kernel, by decide +kernel⟩, List.mem_of_getElem? (i := 752) (by decide +kernel), List.mem_of_getElem? (i := 1101) (by decide +kernel), List.mem_of_getElem? (i := 1102) (by decide +kernel)⟩
theorem lw_p107 : lw_okq (⟨"FrameDeltasModel", "isInChain", "(II)Z"⟩, 18) := ⟨⟨by decide +kernel, by decide +kernel⟩, List.mem_of_getElem? (i := 752) (by decide +kernel), List.mem_of_getElem? (i := 1117) (by decide +kernel), List.mem_of_getElem? (i := 1118) (by decide +kernel)⟩
def lw_privs_7 : List (MethodName × Nat) := [(⟨"FrameDeltasModel", "plans", "()I"⟩, 18), (⟨"FrameDeltasModel", "planOf", "(I)I"⟩, 18), (⟨"FrameDeltasModel", "goods", "()I"⟩, 18), (⟨"FrameDeltasModel", "costOf", "(I)I"⟩, 18), (⟨"FrameDeltasModel", "codeAt", "(II)I"⟩, 18), (⟨"FrameDeltasModel", "runsIn", "(II)I"⟩, 18), (⟨"FrameDeltasModel", "seekOf", "(I)I"⟩, 18), (⟨"FrameDeltasModel", "codesOf", "(II)I"⟩, 18), (⟨"FrameDeltasModel", "isBlock", "(I)Z"⟩, 18), (⟨"FrameDeltasModel", "differing", "(II)I"⟩, 18), (⟨"FrameDeltasModel", "areAlike", "(IIIIII)Z"⟩, 18), (⟨"FrameDeltasModel", "isInChain", "(II)Z"⟩, 18)]
theorem lw_r7 : ∀ q ∈ lw_privs_7, lw_okq q := List.forall_mem_cons.mpr ⟨lw_p96, List.forall_mem_cons.mpr ⟨lw_p97, List.forall_mem_cons.mpr ⟨lw_p98, List.forall_mem_cons.mpr ⟨lw_p99, List.forall_mem_cons.mpr ⟨lw_p100, List.forall_mem_cons.mpr ⟨lw_p101, List.forall_mem_cons.mpr ⟨lw_p102, List.forall_mem_cons.mpr ⟨lw_p103, List.forall_mem_cons.mpr ⟨lw_p104, List.forall_mem_cons.mpr ⟨lw_p105, List.forall_mem_cons.mpr ⟨lw_p106, List.forall_mem_cons.mpr ⟨lw_p107, fun _ h => absurd h List.not_mem_nil⟩⟩⟩⟩⟩⟩⟩⟩⟩⟩⟩⟩
def lw_privs : List (MethodName × Nat) := lw_privs_1 ++ (lw_privs_2 ++ (lw_privs_3 ++ (lw_privs_4 ++ (lw_privs_5 ++ (lw_privs_6 ++ (lw_privs_7))))))
def lw_tbl : List Cond := k2_sels lw_privs ++ tables_1
theorem lw_privs_ok : ∀ q ∈ lw_privs, lw_okq q := by
  show ∀ q ∈ lw_privs_1 ++ (lw_privs_2 ++ (lw_privs_3 ++ (lw_privs_4 ++ (lw_privs_5 ++ (lw_privs_6 ++ (lw_privs_7)))))), lw_okq q
  exact List.forall_mem_append.mpr ⟨lw_r1, List.forall_mem_append.mpr ⟨lw_r2, List.forall_mem_append.mpr ⟨lw_r3, List.forall_mem_append.mpr ⟨lw_r4, List.forall_mem_append.mpr ⟨lw_r5, List.forall_mem_append.mpr ⟨lw_r6, lw_r7⟩⟩⟩⟩⟩⟩
end
section
/-! THE SMALL MACHINE: instructions as decoded, locals and stack of tagged whole numbers and places, a memory of whole numbers by (kind of cell, number of the cell, place in it); the references between cells are fixed once all is made, so they are computed and not kept. -/
abbrev mzV : Type := Option (Int ⊕ (Int ⊕ (Nat × Int)))
abbrev mzM : Type := Nat → Int → Int → Int
abbrev vI (n : Int) : mzV := some (.inl n)
abbrev vL (n : Int) : mzV := some (.inr (.inl n))
abbrev vR (t : Nat) (i : Int) : mzV := some (.inr (.inr (t, i)))
def mup (μ : mzM) (t : Nat) (i k v : Int) : mzM := fun t' i' k' => if t' = t ∧ i' = i ∧ k' = k then v else μ t' i' k'
/-- a copy of n places of one cell into another -/
def mcp (μ : mzM) (ts : Nat) (is sp : Int) (td : Nat) (id dp n : Int) : mzM := fun t i k => if t = td ∧ i = id ∧ dp ≤ k ∧ k < dp + n then μ ts is (sp + (k - dp)) else μ t i k
abbrev zin (a : Int) : Prop := -2147483648 ≤ a ∧ a ≤ 2147483647
abbrev zin6 (a : Int) : Prop := -9223372036854775808 ≤ a ∧ a ≤ 9223372036854775807
/-- wrap-around, for the few places where it may happen -/
def zw (a : Int) : Int := (a + 2147483648) % 4294967296 - 2147483648
def zb (a : Int) : Int := (a + 128) % 256 - 128
def zand (a b : Int) : Int := (Int32.ofInt a &&& Int32.ofInt b).toInt
def zxor (a b : Int) : Int := (Int32.ofInt a ^^^ Int32.ofInt b).toInt
def zor (a b : Int) : Int := (Int32.ofInt a ||| Int32.ofInt b).toInt
def zshl (a b : Int) : Int := (Int32.ofInt a <<< Int32.ofInt b).toInt
def zshr (a b : Int) : Int := (Int32.ofInt a >>> Int32.ofInt b).toInt
def zushr (a b : Int) : Int := ((Int32.ofInt a).toUInt32 >>> ((Int32.ofInt b).toUInt32 &&& Int32.toUInt32 31)).toInt32.toInt
def zcmp (a b : Int) : Int := if a < b then -1 else if a = b then 0 else 1
/-- an instruction of a method: its byte, itself, an operand that is resolved, further operands, and whether a loop begins there -/
abbrev mzN : Type := Nat × Instr × Nat × List (Int × Nat) × Bool
abbrev mzC : Type := Nat × List mzV × List mzV × mzM
abbrev mzQ : Type := (p : Prop) ×' Decidable p
/-- what a step is: on; a branch; on under a condition; a call (which, its arguments, what its answer is, where it goes on); a switch; an end -/
abbrev mzS : Type := Option (mzC ⊕ ((mzQ × mzC × mzC) ⊕ ((mzQ × mzC) ⊕ ((Nat × List mzV × Nat × mzC) ⊕ ((Int × List (Int × Nat) × mzC) ⊕ (Option mzV × mzM))))))
abbrev sN (c : mzC) : mzS := some (.inl c)
abbrev sB (p : Prop) (h : Decidable p) (c d : mzC) : mzS := some (.inr (.inl (⟨p, h⟩, c, d)))
abbrev sG (p : Prop) (h : Decidable p) (c : mzC) : mzS := some (.inr (.inr (.inl (⟨p, h⟩, c))))
abbrev sC (f : Nat) (as : List mzV) (r : Nat) (c : mzC) : mzS := some (.inr (.inr (.inr (.inl (f, as, r, c)))))
abbrev sW (a : Int) (cs : List (Int × Nat)) (c : mzC) : mzS := some (.inr (.inr (.inr (.inr (.inl (a, cs, c))))))
abbrev sE (r : Option mzV) (μ : mzM) : mzS := some (.inr (.inr (.inr (.inr (.inr (r, μ))))))
def zi1 (st : List mzV) (f : Int → List mzV → mzS) : mzS := match st with | some (.inl a) :: r => f a r | _ => none
def zi2 (st : List mzV) (f : Int → Int → List mzV → mzS) : mzS := match st with | some (.inl b) :: some (.inl a) :: r => f a b r | _ => none
def zl1 (st : List mzV) (f : Int → List mzV → mzS) : mzS := match st with | some (.inr (.inl a)) :: r => f a r | _ => none
def zl2 (st : List mzV) (f : Int → Int → List mzV → mzS) : mzS := match st with | some (.inr (.inl b)) :: some (.inr (.inl a)) :: r => f a b r | _ => none
def zr1 (st : List mzV) (f : Nat → Int → List mzV → mzS) : mzS := match st with | some (.inr (.inr (t, i))) :: r => f t i r | _ => none
/-- an index and a row beneath it -/
def zir (st : List mzV) (f : Int → Nat → Int → List mzV → mzS) : mzS := match st with | some (.inl j) :: some (.inr (.inr (t, i))) :: r => f j t i r | _ => none
/-- a value, an index, a row -/
def zvir (st : List mzV) (f : Int → Int → Nat → Int → List mzV → mzS) : mzS := match st with | some (.inl v) :: some (.inl j) :: some (.inr (.inr (t, i))) :: r => f v j t i r | _ => none
def zld (ls : List mzV) (i : Nat) (f : mzV → mzS) : mzS := match ls[i]? with | some (some v) => f (some v) | _ => none
def zisI (v : mzV) : Bool := match v with | some (.inl _) => true | _ => false
def zisL (v : mzV) : Bool := match v with | some (.inr (.inl _)) => true | _ => false
def zisR (v : mzV) : Bool := match v with | some (.inr (.inr _)) => true | _ => false
def zst (ls : List mzV) (i : Nat) (v : mzV) (f : List mzV → mzS) : mzS := match Nat.blt i ls.length with | true => f (ls.set i v) | false => none
/-- whither a reference leads, by its field's mode -/
def zlead (mode : Nat) (c i : Int) : Int := match mode with | 0 => c | 1 => i | 2 => c + i | _ => 11 * i + 10
/-- the texts: their signs -/
def ztext : Nat → List Int
  | 0 => [102, 105, 108, 108] | 1 => [98, 111, 120] | 2 => [115, 104, 105, 102, 116] | 3 => [115, 119, 97, 112] | 4 => [102, 114, 97, 109, 101]
  | 5 => [118] | 6 => [108, 108, 108, 108, 118] | 7 => [119, 119] | 8 => [118, 118] | _ => [102]
/-- how many places a row has -/
def zchr (i j : Int) : Int := (ztext i.toNat).getD j.toNat 0
def zlen (t : Nat) (i : Int) (μ : mzM) : Int := match t with
  | 4 => 144 | 5 => 36 | 6 => 10 | 7 => 6 | 9 => 160 | 10 => 160 | 13 => 16 | 14 => 16 | 16 => 10 | 17 => 10 | 18 => 81
  | 21 => 1880 | 22 => 11280 | 23 => 160 | 24 => 144 | 25 => 144 | 26 => 27 | 27 => 10 | 28 => 10 | 29 => 81
  | 31 => ((ztext i.toNat).length : Int) | 32 => μ 33 0 1 | _ => 0
/-- what a row holds: 0 nothing, 1 int, 2 char, 3 byte, 4 references, 5 a text's bytes, 6 the script -/
def zrow (t : Nat) : Nat := match t with
  | 4 => 1 | 5 => 1 | 6 => 4 | 7 => 4 | 9 => 2 | 10 => 1 | 13 => 1 | 14 => 1 | 16 => 1 | 17 => 1 | 18 => 1
  | 21 => 1 | 22 => 1 | 23 => 3 | 24 => 1 | 25 => 1 | 26 => 1 | 27 => 1 | 28 => 1 | 29 => 1 | 31 => 5 | 32 => 6 | _ => 0
def zcond (c : Jvm.ClassFile.Cond) (a b : Int) (x1 x2 : mzC) : mzS := match c with
  | .eq => sB (a = b) inferInstance x1 x2
  | .ne => sB (a = b) inferInstance x2 x1
  | .lt => sB (a < b) inferInstance x1 x2
  | .ge => sB (a < b) inferInstance x2 x1
  | .gt => sB (b < a) inferInstance x1 x2
  | .le => sB (b < a) inferInstance x2 x1
def zret (a : Nat) (v : Int) : Int := match a with | 0 => v | 1 => v % 2 | 2 => v % 65536 | _ => zb v
/-- a field: (place, kind), (-, the kind of cell that has it), (-, where it is kept or whither it leads), (-, mode); kinds: 0 number, 1 truth value, 2 long, 3 a reference, 4 a fixed number -/
def zgetf (cs : List (Int × Nat)) (t : Nat) (i : Int) (μ : mzM) (k : Nat) (ls r : List mzV) : mzS := match cs with
  | (x2, kd) :: (_, o) :: (_, x1) :: (_, md) :: _ => (match Nat.beq t o with
    | false => none
    | true => match kd with
      | 0 => sN (k, ls, vI (μ x1 i x2) :: r, μ)
      | 1 => sN (k, ls, vI (μ x1 i x2) :: r, μ)
      | 2 => sN (k, ls, vL (μ x1 i x2) :: r, μ)
      | 3 => sN (k, ls, vR x1 (zlead md x2 i) :: r, μ)
      | 4 => sN (k, ls, vI x2 :: r, μ)
      | _ => none)
  | _ => none
def zputf (cs : List (Int × Nat)) (st : List mzV) (μ : mzM) (k : Nat) (ls : List mzV) : mzS := match st, cs with
  | v :: some (.inr (.inr (t, i))) :: r, (x2, kd) :: (_, o) :: (_, x1) :: _ => (match Nat.beq t o with
      | false => none
      | true => match kd, v with
        | 0, some (.inl n) => sN (k, ls, r, mup μ x1 i x2 n)
        | 1, some (.inl n) => sN (k, ls, r, mup μ x1 i x2 (n % 2))
        | 2, some (.inr (.inl n)) => sN (k, ls, r, mup μ x1 i x2 n)
        | _, _ => none)
  | _, _ => none
def zaload (w : Nat) (st : List mzV) (μ : mzM) (k : Nat) (ls : List mzV) : mzS := zir st fun j t i r => match Nat.beq w (zrow t) with
  | true => match w with
    | 4 => sG (0 ≤ j ∧ j < zlen t i μ) inferInstance (k, ls, (match t with | 6 => vR 2 (11 * i + j) | _ => vR 1 (1 + j)) :: r, μ)
    | 5 => sG (0 ≤ j ∧ j < zlen t i μ) inferInstance (k, ls, vI (zchr i j) :: r, μ)
    | _ => sG (0 ≤ j ∧ j < zlen t i μ) inferInstance (k, ls, vI (μ t i j) :: r, μ)
  | false => none
def zastore (w : Nat) (st : List mzV) (μ : mzM) (k : Nat) (ls : List mzV) : mzS := zvir st fun v j t i r => match Nat.beq w (zrow t) with
  | true => sG (0 ≤ j ∧ j < zlen t i μ) inferInstance (k, ls, r, mup μ t i j (match w with | 2 => v % 65536 | 3 => zb v | _ => v))
  | false => none
def zcall (a : Nat) (cs : List (Int × Nat)) (st : List mzV) (μ : mzM) (k : Nat) (ls : List mzV) : mzS := match cs with
  | (n, r) :: _ => sC a ((st.take n.toNat).reverse) r (k, ls, st.drop n.toNat, μ)
  | _ => none
/-- a native copy between two rows of ints -/
def zcopy (st : List mzV) (μ : mzM) (k : Nat) (ls : List mzV) : mzS := match st with
  | some (.inl n) :: some (.inl dp) :: some (.inr (.inr (td, id))) :: some (.inl sp) :: some (.inr (.inr (ts, is))) :: r =>
    match zrow td, zrow ts with
    | 1, 1 => sG ((0 ≤ n ∧ 0 ≤ dp ∧ 0 ≤ sp) ∧ (sp + n ≤ zlen ts is μ ∧ dp + n ≤ zlen td id μ)) inferInstance (k, ls, r, mcp μ ts is sp td id dp n)
    | _, _ => none
  | _ => none
def zstep (I : Instr) (a : Nat) (cs : List (Int × Nat)) (k : Nat) (ls st : List mzV) (μ : mzM) : mzS := match I with
  | .iconst n => sN (k + 1, ls, vI n :: st, μ)
  | .bipush n => sN (k + 1, ls, vI n :: st, μ)
  | .sipush n => sN (k + 1, ls, vI n :: st, μ)
  | .ldc_w _ => match cs with | (n, _) :: _ => sN (k + 1, ls, vI n :: st, μ) | _ => none
  | .lconst n => sN (k + 1, ls, vL ((n.val : Nat) : Int) :: st, μ)
  | .ldc2_w _ => match cs with | (n, _) :: _ => sN (k + 1, ls, vL n :: st, μ) | _ => none
  | .ldc _ => sN (k + 1, ls, vR 30 a :: st, μ)
  | .aconst_null => sN (k + 1, ls, vR 99 0 :: st, μ)
  | .iload i => zld ls i fun v => match zisI v with | true => sN (k + 1, ls, v :: st, μ) | false => none
  | .iload_n i => zld ls i.val fun v => match zisI v with | true => sN (k + 1, ls, v :: st, μ) | false => none
  | .lload_n i => zld ls i.val fun v => match zisL v with | true => sN (k + 1, ls, v :: st, μ) | false => none
  | .aload i => zld ls i fun v => match zisR v with | true => sN (k + 1, ls, v :: st, μ) | false => none
  | .aload_n i => zld ls i.val fun v => match zisR v with | true => sN (k + 1, ls, v :: st, μ) | false => none
  | .istore i => zi1 st fun v r => zst ls i (vI v) fun l => sN (k + 1, l, r, μ)
  | .istore_n i => zi1 st fun v r => zst ls i.val (vI v) fun l => sN (k + 1, l, r, μ)
  | .astore i => zr1 st fun t j r => zst ls i (vR t j) fun l => sN (k + 1, l, r, μ)
  | .astore_n i => zr1 st fun t j r => zst ls i.val (vR t j) fun l => sN (k + 1, l, r, μ)
  | .lstore_n i => zl1 st fun v r => match Nat.blt (i.val + 1) ls.length with | true => zst ls i.val (vL v) fun l => sN (k + 1, l.set (i.val + 1) none, r, μ) | false => none
  | .iinc i n => zld ls i fun v => match v with | some (.inl v) => zst ls i (vI (v + n)) fun l => sG (zin (v + n)) inferInstance (k + 1, l, st, μ) | _ => none
  | .iadd => zi2 st fun v w r => sG (zin (v + w)) inferInstance (k + 1, ls, vI (v + w) :: r, μ)
  | .isub => zi2 st fun v w r => sG (zin (v - w)) inferInstance (k + 1, ls, vI (v - w) :: r, μ)
  | .imul => zi2 st fun v w r => sG (zin (v * w)) inferInstance (k + 1, ls, vI (v * w) :: r, μ)
  | .idiv => zi2 st fun v w r => sG (w ≠ 0 ∧ zin (v.tdiv w)) inferInstance (k + 1, ls, vI (v.tdiv w) :: r, μ)
  | .irem => zi2 st fun v w r => sG (w ≠ 0) inferInstance (k + 1, ls, vI (v.tmod w) :: r, μ)
  | .ineg => zi1 st fun v r => sN (k + 1, ls, vI (zw (-v)) :: r, μ)
  | .iand => zi2 st fun v w r => sN (k + 1, ls, vI (zand v w) :: r, μ)
  | .ixor => zi2 st fun v w r => sN (k + 1, ls, vI (zxor v w) :: r, μ)
  | .ishl => zi2 st fun v w r => sN (k + 1, ls, vI (zshl v w) :: r, μ)
  | .ishr => zi2 st fun v w r => sN (k + 1, ls, vI (zshr v w) :: r, μ)
  | .iushr => zi2 st fun v w r => sN (k + 1, ls, vI (zushr v w) :: r, μ)
  | .ladd => zl2 st fun v w r => sG (zin6 (v + w)) inferInstance (k + 1, ls, vL (v + w) :: r, μ)
  | .lsub => zl2 st fun v w r => sG (zin6 (v - w)) inferInstance (k + 1, ls, vL (v - w) :: r, μ)
  | .lmul => zl2 st fun v w r => sG (zin6 (v * w)) inferInstance (k + 1, ls, vL (v * w) :: r, μ)
  | .lcmp => zl2 st fun v w r => sN (k + 1, ls, vI (zcmp v w) :: r, μ)
  | .i2l => zi1 st fun v r => sN (k + 1, ls, vL v :: r, μ)
  | .l2i => zl1 st fun v r => sN (k + 1, ls, vI (zw v) :: r, μ)
  | .i2c => zi1 st fun v r => sN (k + 1, ls, vI (v % 65536) :: r, μ)
  | .i2b => zi1 st fun v r => sN (k + 1, ls, vI (zb v) :: r, μ)
  | .dup => match st with | some v :: r => (match zisL (some v) with | false => sN (k + 1, ls, some v :: some v :: r, μ) | true => none) | _ => none
  | .dup2 => match st with | some v :: some w :: r => (match zisL (some v) || zisL (some w) with | false => sN (k + 1, ls, some v :: some w :: some v :: some w :: r, μ) | true => none) | _ => none
  | .pop => match st with | some v :: r => (match zisL (some v) with | false => sN (k + 1, ls, r, μ) | true => none) | _ => none
  | .goto _ => sN (a, ls, st, μ)
  | .if_icmp c _ => zi2 st fun v w r => zcond c v w (a, ls, r, μ) (k + 1, ls, r, μ)
  | .ifCond c _ => zi1 st fun v r => zcond c v 0 (a, ls, r, μ) (k + 1, ls, r, μ)
  | .ifnull _ => zr1 st fun t _ r => match Nat.beq t 99 with | true => sN (a, ls, r, μ) | false => sN (k + 1, ls, r, μ)
  | .ifnonnull _ => zr1 st fun t _ r => match Nat.beq t 99 with | true => sN (k + 1, ls, r, μ) | false => sN (a, ls, r, μ)
  | .tableswitch _ _ _ _ => zi1 st fun v r => sW v cs (a, ls, r, μ)
  | .getfield _ => zr1 st fun t i r => zgetf cs t i μ (k + 1) ls r
  | .putfield _ => zputf cs st μ (k + 1) ls
  | .getstatic _ => match a with | 0 => sN (k + 1, ls, vI 1 :: st, μ) | _ => sN (k + 1, ls, vR 98 0 :: st, μ)
  | .arraylength => zr1 st fun t i r => match zrow t with | 0 => none | _ => sN (k + 1, ls, vI (zlen t i μ) :: r, μ)
  | .iaload => (match st with | _ :: some (.inr (.inr (32, _))) :: _ => zaload 6 st μ (k + 1) ls | _ => zaload 1 st μ (k + 1) ls)
  | .caload => zaload 2 st μ (k + 1) ls
  | .baload => (match st with | _ :: some (.inr (.inr (31, _))) :: _ => zaload 5 st μ (k + 1) ls | _ => zaload 3 st μ (k + 1) ls)
  | .aaload => zaload 4 st μ (k + 1) ls
  | .iastore => zastore 1 st μ (k + 1) ls
  | .castore => zastore 2 st μ (k + 1) ls
  | .bastore => zastore 3 st μ (k + 1) ls
  | .invokevirtual _ => zcall a cs st μ (k + 1) ls
  | .invokestatic _ => match a with | 999 => zcopy st μ (k + 1) ls | _ => zcall a cs st μ (k + 1) ls
  | .ireturn => zi1 st fun v _ => sE (some (vI (zret a v))) μ
  | .areturn => zr1 st fun t i _ => sE (some (vR t i)) μ
  | .return_ => sE none μ
  | _ => none
/-- the entry's locals -/
def zent (n : Nat) (as : List mzV) : List mzV := as ++ List.replicate (n - as.length) none
def zpush (r : Option mzV) (st : List mzV) : List mzV := match r with | some v => v :: st | none => st
def zpick (a : Int) : List (Int × Nat) → Nat → Nat
  | [], d => d
  | (b, k) :: l, d => if a = b then k else zpick a l d
def mvsw (v : Int) (d : Nat) (go : Nat → Prop) : List (Int × Nat) → Prop
  | [] => go d
  | (b, k) :: l => if v = b then go k else mvsw v d go l
section Mini
variable (cd : Nat → List mzN) (ml : Nat → Nat)
/-- runs method m from its instruction k on: its answer and the memory behind it -/
def mrun : Nat → Nat → Nat → List mzV → List mzV → mzM → Option (Option mzV × mzM)
  | 0, _, _, _, _, _ => none
  | n + 1, m, k, ls, st, μ => match (cd m)[k]? with
    | none => none
    | some (_, I, a, cs, _) => match zstep I a cs k ls st μ with
      | none => none
      | some (.inl c) => mrun n m c.1 c.2.1 c.2.2.1 c.2.2.2
      | some (.inr (.inl (q, c, d))) => @ite _ q.1 q.2 (mrun n m c.1 c.2.1 c.2.2.1 c.2.2.2) (mrun n m d.1 d.2.1 d.2.2.1 d.2.2.2)
      | some (.inr (.inr (.inl (q, c)))) => @ite _ q.1 q.2 (mrun n m c.1 c.2.1 c.2.2.1 c.2.2.2) none
      | some (.inr (.inr (.inr (.inl (f, as, _, c))))) => (match mrun n f 0 (zent (ml f) as) [] c.2.2.2 with
        | none => none
        | some (r, ν) => mrun n m c.1 c.2.1 (zpush r c.2.2.1) ν)
      | some (.inr (.inr (.inr (.inr (.inl (v, ts, c)))))) => mrun n m (zpick v ts c.1) c.2.1 c.2.2.1 c.2.2.2
      | some (.inr (.inr (.inr (.inr (.inr (r, ν)))))) => some (r, ν)
/-- method m from its instruction k on comes to an end with Q -/
def mW (m k : Nat) (ls st : List mzV) (μ : mzM) (Q : Option mzV → mzM → Prop) : Prop := ∃ n r ν, mrun cd ml n m k ls st μ = some (r, ν) ∧ Q r ν
def mCI (f : Nat) (as : List mzV) (μ : mzM) (K : Int → mzM → Prop) : Prop := mW cd ml f 0 (zent (ml f) as) [] μ fun r ν => ∃ a, r = some (vI a) ∧ K a ν
def mCV (f : Nat) (as : List mzV) (μ : mzM) (K : mzM → Prop) : Prop := mW cd ml f 0 (zent (ml f) as) [] μ fun r ν => r = none ∧ K ν
def mCR (f t : Nat) (as : List mzV) (μ : mzM) (K : Int → mzM → Prop) : Prop := mW cd ml f 0 (zent (ml f) as) [] μ fun r ν => ∃ a, r = some (vR t a) ∧ K a ν
/-- on to an instruction: a loop's head is where the tree ends -/
def mgo (C : List mzN) (m : Nat) (rec : List mzN → Nat → List mzV → List mzV → mzM → Prop) (Q : Option mzV → mzM → Prop) (k : Nat) (ls st : List mzV) (μ : mzM) : List mzN → Prop
  | [] => False
  | (x0, x1, x2, x3, h) :: rest => match h with
    | true => mW cd ml m k ls st μ Q
    | false => rec ((x0, x1, x2, x3, h) :: rest) k ls st μ
/-- what is to be shown of method m (its code C), from its instruction k on (rest: the code from there) -/
def mvc (C : List mzN) (m : Nat) (Q : Option mzV → mzM → Prop) : Nat → List mzN → Nat → List mzV → List mzV → mzM → Prop
  | 0, _, k, ls, st, μ => mW cd ml m k ls st μ Q
  | _ + 1, [], _, _, _, _ => False
  | n + 1, (_, I, a, cs, _) :: rest, k, ls, st, μ => match zstep I a cs k ls st μ with
      | none => False
      | some (.inl c) => mgo cd ml C m (mvc C m Q n) Q c.1 c.2.1 c.2.2.1 c.2.2.2 (match Nat.beq c.1 (k + 1) with | true => rest | false => C.drop c.1)
      | some (.inr (.inl (q, c, d))) => @ite _ q.1 q.2 (mgo cd ml C m (mvc C m Q n) Q c.1 c.2.1 c.2.2.1 c.2.2.2 (match Nat.beq c.1 (k + 1) with | true => rest | false => C.drop c.1)) (mgo cd ml C m (mvc C m Q n) Q d.1 d.2.1 d.2.2.1 d.2.2.2 (match Nat.beq d.1 (k + 1) with | true => rest | false => C.drop d.1))
      | some (.inr (.inr (.inl (q, c)))) => q.1 ∧ mgo cd ml C m (mvc C m Q n) Q c.1 c.2.1 c.2.2.1 c.2.2.2 (match Nat.beq c.1 (k + 1) with | true => rest | false => C.drop c.1)
      | some (.inr (.inr (.inr (.inl (f, as, r, c))))) => (match r with
        | 0 => mCV cd ml f as c.2.2.2 fun ν => mgo cd ml C m (mvc C m Q n) Q c.1 c.2.1 c.2.2.1 ν (match Nat.beq c.1 (k + 1) with | true => rest | false => C.drop c.1)
        | 1 => mCI cd ml f as c.2.2.2 fun v ν => mgo cd ml C m (mvc C m Q n) Q c.1 c.2.1 (vI v :: c.2.2.1) ν (match Nat.beq c.1 (k + 1) with | true => rest | false => C.drop c.1)
        | t + 2 => mCR cd ml f t as c.2.2.2 fun v ν => mgo cd ml C m (mvc C m Q n) Q c.1 c.2.1 (vR t v :: c.2.2.1) ν (match Nat.beq c.1 (k + 1) with | true => rest | false => C.drop c.1))
      | some (.inr (.inr (.inr (.inr (.inl (v, ts, c)))))) => mvsw v c.1 (fun k' => mgo cd ml C m (mvc C m Q n) Q k' c.2.1 c.2.2.1 c.2.2.2 (C.drop k')) ts
      | some (.inr (.inr (.inr (.inr (.inr (r, ν)))))) => Q r ν
theorem mrun_up : ∀ (n m k : Nat) (ls st : List mzV) (μ : mzM) (q : Option mzV × mzM), mrun cd ml n m k ls st μ = some q → mrun cd ml (n + 1) m k ls st μ = some q := by
  intro n
  induction n with
  | zero => intro m k ls st μ q h; cases h
  | succ n ih =>
    intro m k ls st μ q h
    rw [mrun] at h ⊢
    cases hc : (cd m)[k]? with
    | none => rw [hc] at h; cases h
    | some ins =>
      obtain ⟨x0, I, a, cs, hd⟩ := ins
      rw [hc] at h
      dsimp only at h ⊢
      cases hs : zstep I a cs k ls st μ with
      | none => rw [hs] at h; cases h
      | some z =>
        rw [hs] at h
        rcases z with c | ⟨q1, c, d⟩ | ⟨q1, c⟩ | ⟨f, as, r, c⟩ | ⟨v, ts, c⟩ | ⟨r, ν⟩
        · exact ih _ _ _ _ _ _ h
        · dsimp only at h ⊢
          by_cases hq : q1.1
          · rw [@if_pos _ q1.2 hq] at h ⊢; exact ih _ _ _ _ _ _ h
          · rw [@if_neg _ q1.2 hq] at h ⊢; exact ih _ _ _ _ _ _ h
        · dsimp only at h ⊢
          by_cases hq : q1.1
          · rw [@if_pos _ q1.2 hq] at h ⊢; exact ih _ _ _ _ _ _ h
          · rw [@if_neg _ q1.2 hq] at h; cases h
        · dsimp only at h ⊢
          cases hf : mrun cd ml n f 0 (zent (ml f) as) [] c.2.2.2 with
          | none => rw [hf] at h; cases h
          | some p =>
            obtain ⟨r2, ν⟩ := p
            rw [hf] at h
            rw [ih _ _ _ _ _ _ hf]
            exact ih _ _ _ _ _ _ h
        · exact ih _ _ _ _ _ _ h
        · exact h
theorem mrun_le {n n2 m k : Nat} {ls st : List mzV} {μ : mzM} {q : Option mzV × mzM} (hn : n ≤ n2) (h : mrun cd ml n m k ls st μ = some q) : mrun cd ml n2 m k ls st μ = some q := by
  induction hn with
  | refl => exact h
  | step _ ih => exact mrun_up cd ml _ _ _ _ _ _ _ ih
theorem mW_mono {m k : Nat} {ls st : List mzV} {μ : mzM} {Q Q' : Option mzV → mzM → Prop} (h : mW cd ml m k ls st μ Q) (hq : ∀ r ν, Q r ν → Q' r ν) : mW cd ml m k ls st μ Q' := by
  obtain ⟨n, r, ν, h1, h2⟩ := h
  exact ⟨n, r, ν, h1, hq _ _ h2⟩
theorem mgo_iff {C : List mzN} {m k : Nat} {rec : List mzN → Nat → List mzV → List mzV → mzM → Prop} {Q : Option mzV → mzM → Prop} {ls st : List mzV} {μ : mzM} {rest : List mzN} (hr : rec rest k ls st μ → mW cd ml m k ls st μ Q) (h : mgo cd ml C m rec Q k ls st μ rest) : mW cd ml m k ls st μ Q := by
  cases rest with
  | nil => exact absurd h id
  | cons x rest =>
    obtain ⟨x0, x1, x2, x3, b⟩ := x
    cases b with
    | true => exact h
    | false => exact hr h
theorem mvsw_pick {v : Int} {d : Nat} {go : Nat → Prop} : ∀ (ts : List (Int × Nat)), mvsw v d go ts → go (zpick v ts d)
  | [], h => h
  | (b, k) :: l, h => by
    unfold mvsw at h
    unfold zpick
    by_cases hv : v = b
    · rw [if_pos hv] at h ⊢; exact h
    · rw [if_neg hv] at h ⊢; exact mvsw_pick l h
theorem mvc_sound {C : List mzN} {m : Nat} {Q : Option mzV → mzM → Prop} (hC : cd m = C) : ∀ (n : Nat) (rest : List mzN) (k : Nat) (ls st : List mzV) (μ : mzM), rest = C.drop k → mvc cd ml C m Q n rest k ls st μ → mW cd ml m k ls st μ Q := by
  intro n
  induction n with
  | zero => intro rest k ls st μ _ h; exact h
  | succ n ih =>
    intro rest k ls st μ hrest h
    cases rest with
    | nil => exact absurd h id
    | cons x rest =>
      obtain ⟨x0, I, a, cs, b⟩ := x
      have hk : (cd m)[k]? = some (x0, I, a, cs, b) := by
        rw [hC, ← List.head?_drop, ← hrest]; rfl
      have hnext : rest = C.drop (k + 1) := by
        rw [← List.tail_drop, ← hrest]; rfl
      have hpc : ∀ j, (match Nat.beq j (k + 1) with | true => rest | false => C.drop j) = C.drop j := by
        intro j
        cases hj : Nat.beq j (k + 1) with
        | true => rw [Nat.eq_of_beq_eq_true hj]; exact hnext
        | false => rfl
      unfold mvc at h
      cases hs : zstep I a cs k ls st μ with
      | none => rw [hs] at h; exact absurd h id
      | some z =>
        rw [hs] at h
        rcases z with c | ⟨q1, c, d⟩ | ⟨q1, c⟩ | ⟨f, as, r, c⟩ | ⟨v, ts, c⟩ | ⟨r, ν⟩
        · dsimp only at h
          rw [hpc] at h
          obtain ⟨n1, r, ν, h1, h2⟩ := mgo_iff cd ml (ih _ _ _ _ _ rfl) h
          exact ⟨n1 + 1, r, ν, by rw [mrun, hk]; dsimp only; rw [hs]; exact h1, h2⟩
        · dsimp only at h
          rw [hpc, hpc] at h
          by_cases hq : q1.1
          · rw [@if_pos _ q1.2 hq] at h
            obtain ⟨n1, r, ν, h1, h2⟩ := mgo_iff cd ml (ih _ _ _ _ _ rfl) h
            exact ⟨n1 + 1, r, ν, by rw [mrun, hk]; dsimp only; rw [hs]; dsimp only; rw [@if_pos _ q1.2 hq]; exact h1, h2⟩
          · rw [@if_neg _ q1.2 hq] at h
            obtain ⟨n1, r, ν, h1, h2⟩ := mgo_iff cd ml (ih _ _ _ _ _ rfl) h
            exact ⟨n1 + 1, r, ν, by rw [mrun, hk]; dsimp only; rw [hs]; dsimp only; rw [@if_neg _ q1.2 hq]; exact h1, h2⟩
        · dsimp only at h
          rw [hpc] at h
          obtain ⟨hq, h⟩ := h
          obtain ⟨n1, r, ν, h1, h2⟩ := mgo_iff cd ml (ih _ _ _ _ _ rfl) h
          exact ⟨n1 + 1, r, ν, by rw [mrun, hk]; dsimp only; rw [hs]; dsimp only; rw [@if_pos _ q1.2 hq]; exact h1, h2⟩
        · dsimp only at h
          rw [hpc] at h
          have key : mW cd ml f 0 (zent (ml f) as) [] c.2.2.2 (fun r ν => mW cd ml m c.1 c.2.1 (zpush r c.2.2.1) ν Q) := by
            match r, h with
            | 0, h => exact mW_mono cd ml h (fun r ν hr => by rw [hr.1]; exact mgo_iff cd ml (ih _ _ _ _ _ rfl) hr.2)
            | 1, h => exact mW_mono cd ml h (fun r ν hr => by obtain ⟨a, ha, hr⟩ := hr; rw [ha]; exact mgo_iff cd ml (ih _ _ _ _ _ rfl) hr)
            | t + 2, h => exact mW_mono cd ml h (fun r ν hr => by obtain ⟨a, ha, hr⟩ := hr; rw [ha]; exact mgo_iff cd ml (ih _ _ _ _ _ rfl) hr)
          obtain ⟨n1, r1, ν1, h1, n2, r2, ν2, h2, h3⟩ := key
          refine ⟨n1 + n2 + 1, r2, ν2, ?_, h3⟩
          rw [mrun, hk]; dsimp only; rw [hs]; dsimp only
          rw [mrun_le cd ml (Nat.le_add_right n1 n2) h1]
          exact mrun_le cd ml (Nat.le_add_left n2 n1) h2
        · dsimp only at h
          have h := mvsw_pick ts h
          obtain ⟨n1, r, ν, h1, h2⟩ := mgo_iff cd ml (ih _ _ _ _ _ rfl) h
          exact ⟨n1 + 1, r, ν, by rw [mrun, hk]; dsimp only; rw [hs]; exact h1, h2⟩
        · exact ⟨1, r, ν, by rw [mrun, hk]; dsimp only; rw [hs], h⟩
theorem mvc_at {C : List mzN} {m : Nat} {Q : Option mzV → mzM → Prop} (hC : cd m = C) (n k : Nat) {ls st : List mzV} {μ : mzM} (h : mvc cd ml C m Q n (C.drop k) k ls st μ) : mW cd ml m k ls st μ Q := mvc_sound cd ml hC n _ k ls st μ rfl h
end Mini
end
section
abbrev f_X0_encode : Nat := 0
abbrev f_X0_encodeRaw : Nat := 1
abbrev f_X0_encodeWith : Nat := 2
abbrev f_X0_findMove : Nat := 3
abbrev f_X1_take : Nat := 4
abbrev f_X1_codePart : Nat := 5
abbrev f_X1_setCode : Nat := 6
abbrev f_X1_codesOfKind : Nat := 7
abbrev f_X2_reset : Nat := 8
abbrev f_X2_take : Nat := 9
abbrev f_X2_hasCell : Nat := 10
abbrev f_X2_numbered : Nat := 11
abbrev f_X2_putNumbered : Nat := 12
abbrev f_X2_at : Nat := 13
abbrev f_X2_blocks : Nat := 14
abbrev f_X2_hasBlock : Nat := 15
abbrev f_X2_left : Nat := 16
abbrev f_X2_top : Nat := 17
abbrev f_X2_hasPart : Nat := 18
abbrev f_X2_partDigest : Nat := 19
abbrev f_X2_samePart : Nat := 20
abbrev f_X2_cellsUnlike : Nat := 21
abbrev f_X2_fillBox : Nat := 22
abbrev f_X2_takeShifted : Nat := 23
abbrev f_X2_swapValues : Nat := 24
abbrev f_X3_plan : Nat := 25
abbrev f_X3_measure : Nat := 26
abbrev f_X3_costOf : Nat := 27
abbrev f_X3_referenceOf : Nat := 28
abbrev f_X4_read : Nat := 29
abbrev f_X4_addCell : Nat := 30
abbrev f_X4_lengthOf : Nat := 31
abbrev f_X4_valueOf : Nat := 32
abbrev f_X5_append : Nat := 33
abbrev f_X5_wordOf : Nat := 34
abbrev f_X5_argumentsOf : Nat := 35
abbrev f_X5_errorPosition : Nat := 36
abbrev f_X5_readCommand : Nat := 37
abbrev f_X5_addToProgram : Nat := 38
abbrev f_X5_nextToken : Nat := 39
abbrev f_X5_signAt : Nat := 40
abbrev f_X5_isLetter : Nat := 41
abbrev f_X5_isDigit : Nat := 42
abbrev f_X5_commandOfToken : Nat := 43
abbrev f_X5_isToken : Nat := 44
abbrev f_X5_readNumber : Nat := 45
abbrev f_X5_isAllowed : Nat := 46
abbrev f_X5_carryOut : Nat := 47
abbrev f_X5_programAt : Nat := 48
abbrev f_X5_apply : Nat := 49
abbrev f_X6_take : Nat := 50
abbrev f_X6_frameAt : Nat := 51
abbrev f_X6_isFrame : Nat := 52
abbrev f_X6_isImage : Nat := 53
abbrev f_X6_imageOf : Nat := 54
abbrev f_X6_isReadable : Nat := 55
abbrev f_X6_mayBeReference : Nat := 56
abbrev f_X6_depthOf : Nat := 57
abbrev f_X6_seekCost : Nat := 58
abbrev f_X6_chainHas : Nat := 59
abbrev f_X6_readableFrames : Nat := 60
abbrev f_X6_costOfRecords : Nat := 61
abbrev f_X7_setSize : Nat := 62
abbrev f_X7_setCell : Nat := 63
abbrev f_X7_cell : Nat := 64
abbrev f_X7_appendCharacter : Nat := 65
abbrev f_X7_clearText : Nat := 66
abbrev f_X7_draw : Nat := 67
abbrev f_X7_digest : Nat := 68
abbrev f_X7_addKey : Nat := 69
abbrev f_X7_addDelta : Nat := 70
abbrev f_X7_addChosen : Nat := 71
abbrev f_X7_removeLast : Nat := 72
abbrev f_X7_recode : Nat := 73
abbrev f_X7_setLimits : Nat := 74
abbrev f_X7_setLost : Nat := 75
abbrev f_X7_frame : Nat := 76
abbrev f_X7_code : Nat := 77
abbrev f_X7_run : Nat := 78
abbrev f_X7_pixel : Nat := 79
abbrev f_X7_count : Nat := 80
abbrev f_X7_costWith : Nat := 81
abbrev f_X7_difference : Nat := 82
abbrev f_X7_findBlock : Nat := 83
abbrev f_X7_falseMatches : Nat := 84
abbrev f_X7_greatestSeek : Nat := 85
abbrev f_X7_dependents : Nat := 86
abbrev f_X7_patch : Nat := 87
abbrev f_X7_planCost : Nat := 88
abbrev f_X7_planKeys : Nat := 89
abbrev f_X7_undo : Nat := 90
abbrev f_X7_isSize : Nat := 91
abbrev f_X7_save : Nat := 92
abbrev f_X7_savedSlot : Nat := 93
abbrev f_X7_add : Nat := 94
abbrev f_X7_costOfCanvas : Nat := 95
abbrev f_X7_chosenReference : Nat := 96
abbrev f_X7_falsePairs : Nat := 97
abbrev f_X8_in : Nat := 98
abbrev f_X8_note : Nat := 99
abbrev f_X8_undo : Nat := 100
abbrev f_X8_cells : Nat := 101
abbrev f_X8_blocks : Nat := 102
abbrev f_X8_isFrame : Nat := 103
abbrev f_X8_value : Nat := 104
abbrev f_X8_reference : Nat := 105
abbrev f_X8_depthOf : Nat := 106
abbrev f_X8_isGood : Nat := 107
abbrev f_X8_goods : Nat := 108
abbrev f_X8_setSize : Nat := 109
abbrev f_X8_isCell : Nat := 110
abbrev f_X8_setCell : Nat := 111
abbrev f_X8_cell : Nat := 112
abbrev f_X8_appendCharacter : Nat := 113
abbrev f_X8_clearText : Nat := 114
abbrev f_X8_here : Nat := 115
abbrev f_X8_readsToken : Nat := 116
abbrev f_X8_takes : Nat := 117
abbrev f_X8_takesNumber : Nat := 118
abbrev f_X8_place : Nat := 119
abbrev f_X8_keeps : Nat := 120
abbrev f_X8_fillsBox : Nat := 121
abbrev f_X8_shifts : Nat := 122
abbrev f_X8_readsCommand : Nat := 123
abbrev f_X8_exchanges : Nat := 124
abbrev f_X8_draw : Nat := 125
abbrev f_X8_isImage : Nat := 126
abbrev f_X8_isKnown : Nat := 127
abbrev f_X8_digestOf : Nat := 128
abbrev f_X8_digest : Nat := 129
abbrev f_X8_left : Nat := 130
abbrev f_X8_top : Nat := 131
abbrev f_X8_given : Nat := 132
abbrev f_X8_runsOf : Nat := 133
abbrev f_X8_isLike : Nat := 134
abbrev f_X8_size : Nat := 135
abbrev f_X8_finds : Nat := 136
abbrev f_X8_codes : Nat := 137
abbrev f_X8_codesAll : Nat := 138
abbrev f_X8_codeAt : Nat := 139
abbrev f_X8_runsIn : Nat := 140
abbrev f_X8_costOf : Nat := 141
abbrev f_X8_seekOf : Nat := 142
abbrev f_X8_records : Nat := 143
abbrev f_X8_adds : Nat := 144
abbrev f_X8_addKey : Nat := 145
abbrev f_X8_addDelta : Nat := 146
abbrev f_X8_addChosen : Nat := 147
abbrev f_X8_removeLast : Nat := 148
abbrev f_X8_planOf : Nat := 149
abbrev f_X8_bits : Nat := 150
abbrev f_X8_plans : Nat := 151
abbrev f_X8_recode : Nat := 152
abbrev f_X8_planCost : Nat := 153
abbrev f_X8_planKeys : Nat := 154
abbrev f_X8_setLimits : Nat := 155
abbrev f_X8_setLost : Nat := 156
abbrev f_X8_codesOf : Nat := 157
abbrev f_X8_frame : Nat := 158
abbrev f_X8_isBlock : Nat := 159
abbrev f_X8_code : Nat := 160
abbrev f_X8_run : Nat := 161
abbrev f_X8_pixel : Nat := 162
abbrev f_X8_count : Nat := 163
abbrev f_X8_costWith : Nat := 164
abbrev f_X8_differing : Nat := 165
abbrev f_X8_difference : Nat := 166
abbrev f_X8_areAlike : Nat := 167
abbrev f_X8_findBlock : Nat := 168
abbrev f_X8_falseMatches : Nat := 169
abbrev f_X8_greatestSeek : Nat := 170
abbrev f_X8_isInChain : Nat := 171
abbrev f_X8_dependents : Nat := 172
abbrev f_X8_patch : Nat := 173
abbrev f_J6_bitCount_0f7a4 : Nat := 174
abbrev f_J9_floorMod_7cf53 : Nat := 175
abbrev f_J9_abs_0f7a4 : Nat := 176
abbrev f_J9_max_7cf53 : Nat := 177
abbrev f_J9_min_7cf53 : Nat := 178
abbrev f_J0_length_8abf5 : Nat := 179
abbrev f_J0_charAt_5068e : Nat := 180
abbrev f_J0_coder_7d493 : Nat := 181
abbrev f_J0_isLatin1_aae02 : Nat := 182
abbrev f_J0_checkIndex_df160 : Nat := 183
abbrev f_J1_charAt_3b067 : Nat := 184
abbrev f_J3_checkIndex_8e157 : Nat := 185
abbrev f_L_law : Nat := 186
def zc0 : List mzN := [(0, .iload_n 3, 0, [], false), (1, .iconst (-1), 0, [], false), (2, .if_icmp .ne 7, 5, [], false), (5, .aconst_null, 0, [], false), (6, .goto 8, 8, [], false), (9, .aload_n 2, 0, [], false), (10, .iload_n 3, 0, [], false), (11, .invokevirtual 28, 54, [(2, 5)], false), (14, .astore 4, 0, [], false), (16, .aload_n 1, 0, [], false), (17, .iload_n 3, 0, [], false), (18, .putfield 34, 0, [(2, 0), (0, 2), (0, 2), (0, 0)], false), (21, .aload_n 1, 0, [], false), (22, .iconst 0, 0, [], false), (23, .putfield 39, 0, [(4, 1), (0, 2), (0, 2), (0, 0)], false), (26, .aload_n 1, 0, [], false), (27, .iconst 2, 0, [], false), (28, .putfield 43, 0, [(3, 0), (0, 2), (0, 2), (0, 0)], false), (31, .iconst 0, 0, [], false), (32, .istore 5, 0, [], false), (34, .iload 5, 0, [], true), (36, .aload_n 1, 0, [], false), (37, .getfield 46, 0, [(0, 3), (0, 2), (0, 3), (0, 1)], false), (40, .invokevirtual 50, 14, [(1, 1)], false), (43, .if_icmp .ge 46, 46, [], false), (46, .aload_n 1, 0, [], false), (47, .dup, 0, [], false), (48, .getfield 43, 0, [(3, 0), (0, 2), (0, 2), (0, 0)], false), (51, .aload 4, 0, [], false), (53, .ifnonnull 13, 35, [], false), (56, .aload_n 0, 0, [], false), (57, .aload_n 1, 0, [], false), (58, .iload 5, 0, [], false), (60, .invokevirtual 56, 1, [(3, 1)], false), (63, .goto 16, 42, [], false), (66, .aload_n 0, 0, [], false), (67, .aload_n 1, 0, [], false), (68, .iload 5, 0, [], false), (70, .aload 4, 0, [], false), (72, .aload_n 2, 0, [], false), (73, .getfield 60, 0, [(4, 0), (0, 1), (0, 1), (0, 0)], false), (76, .invokevirtual 63, 2, [(5, 1)], false), (79, .iadd, 0, [], false), (80, .putfield 43, 0, [(3, 0), (0, 2), (0, 2), (0, 0)], false), (83, .iinc 5 1, 0, [], false), (86, .goto (-52), 20, [], false), (89, .return_, 0, [], false)]
def zc1 : List mzN := [(0, .aload_n 0, 0, [], false), (1, .getfield 12, 0, [(0, 3), (0, 11), (0, 12), (0, 0)], false), (4, .aload_n 1, 0, [], false), (5, .getfield 46, 0, [(0, 3), (0, 2), (0, 3), (0, 1)], false), (8, .aconst_null, 0, [], false), (9, .iload_n 2, 0, [], false), (10, .invokevirtual 67, 29, [(4, 0)], false), (13, .aload_n 1, 0, [], false), (14, .iload_n 2, 0, [], false), (15, .iconst 3, 0, [], false), (16, .iconst 0, 0, [], false), (17, .iconst 0, 0, [], false), (18, .aload_n 0, 0, [], false), (19, .getfield 12, 0, [(0, 3), (0, 11), (0, 12), (0, 0)], false), (22, .getfield 71, 0, [(2, 0), (0, 12), (0, 12), (0, 0)], false), (25, .invokevirtual 74, 6, [(6, 0)], false), (28, .iconst 2, 0, [], false), (29, .iconst 2, 0, [], false), (30, .aload_n 0, 0, [], false), (31, .getfield 12, 0, [(0, 3), (0, 11), (0, 12), (0, 0)], false), (34, .getfield 71, 0, [(2, 0), (0, 12), (0, 12), (0, 0)], false), (37, .imul, 0, [], false), (38, .iadd, 0, [], false), (39, .ireturn, 0, [], false)]
def zc2 : List mzN := [(0, .aload_n 1, 0, [], false), (1, .getfield 46, 0, [(0, 3), (0, 2), (0, 3), (0, 1)], false), (4, .iload_n 2, 0, [], false), (5, .invokevirtual 78, 16, [(2, 1)], false), (8, .istore 5, 0, [], false), (10, .aload_n 1, 0, [], false), (11, .getfield 46, 0, [(0, 3), (0, 2), (0, 3), (0, 1)], false), (14, .iload_n 2, 0, [], false), (15, .invokevirtual 82, 17, [(2, 1)], false), (18, .istore 6, 0, [], false), (20, .aload_n 1, 0, [], false), (21, .getfield 46, 0, [(0, 3), (0, 2), (0, 3), (0, 1)], false), (24, .iload 5, 0, [], false), (26, .iload 6, 0, [], false), (28, .aload_n 3, 0, [], false), (29, .iload 5, 0, [], false), (31, .iload 6, 0, [], false), (33, .invokevirtual 85, 20, [(6, 1)], false), (36, .ifCond .eq 14, 28, [], false), (39, .aload_n 1, 0, [], false), (40, .iload_n 2, 0, [], false), (41, .iconst 0, 0, [], false), (42, .iconst 0, 0, [], false), (43, .iconst 0, 0, [], false), (44, .iconst 0, 0, [], false), (45, .invokevirtual 74, 6, [(6, 0)], false), (48, .iconst 1, 0, [], false), (49, .ireturn, 0, [], false), (50, .aload_n 0, 0, [], false), (51, .aload_n 1, 0, [], false), (52, .getfield 46, 0, [(0, 3), (0, 2), (0, 3), (0, 1)], false), (55, .iload 5, 0, [], false), (57, .iload 6, 0, [], false), (59, .aload_n 3, 0, [], false), (60, .iload 4, 0, [], false), (62, .invokevirtual 89, 3, [(6, 1)], false), (65, .ifCond .eq 20, 48, [], false), (68, .aload_n 1, 0, [], false), (69, .iload_n 2, 0, [], false), (70, .iconst 1, 0, [], false), (71, .aload_n 0, 0, [], false), (72, .getfield 21, 0, [(2, 0), (0, 11), (0, 11), (0, 0)], false), (75, .aload_n 0, 0, [], false), (76, .getfield 25, 0, [(3, 0), (0, 11), (0, 11), (0, 0)], false), (79, .iconst 0, 0, [], false), (80, .invokevirtual 74, 6, [(6, 0)], false), (83, .iconst 3, 0, [], false), (84, .ireturn, 0, [], false), (85, .aload_n 0, 0, [], false), (86, .getfield 12, 0, [(0, 3), (0, 11), (0, 12), (0, 0)], false), (89, .aload_n 1, 0, [], false), (90, .getfield 46, 0, [(0, 3), (0, 2), (0, 3), (0, 1)], false), (93, .aconst_null, 0, [], false), (94, .iload_n 2, 0, [], false), (95, .invokevirtual 67, 29, [(4, 0)], false), (98, .aload_n 0, 0, [], false), (99, .getfield 18, 0, [(1, 3), (0, 11), (0, 12), (0, 0)], false), (102, .aload_n 1, 0, [], false), (103, .getfield 46, 0, [(0, 3), (0, 2), (0, 3), (0, 1)], false), (106, .aload_n 3, 0, [], false), (107, .iload_n 2, 0, [], false), (108, .invokevirtual 67, 29, [(4, 0)], false), (111, .aload_n 0, 0, [], false), (112, .getfield 12, 0, [(0, 3), (0, 11), (0, 12), (0, 0)], false), (115, .getfield 71, 0, [(2, 0), (0, 12), (0, 12), (0, 0)], false), (118, .aload_n 0, 0, [], false), (119, .getfield 18, 0, [(1, 3), (0, 11), (0, 12), (0, 0)], false), (122, .getfield 71, 0, [(2, 0), (0, 12), (0, 12), (0, 0)], false), (125, .if_icmp .ge 30, 86, [], false), (128, .aload_n 1, 0, [], false), (129, .iload_n 2, 0, [], false), (130, .iconst 3, 0, [], false), (131, .iconst 0, 0, [], false), (132, .iconst 0, 0, [], false), (133, .aload_n 0, 0, [], false), (134, .getfield 12, 0, [(0, 3), (0, 11), (0, 12), (0, 0)], false), (137, .getfield 71, 0, [(2, 0), (0, 12), (0, 12), (0, 0)], false), (140, .invokevirtual 74, 6, [(6, 0)], false), (143, .iconst 2, 0, [], false), (144, .iconst 2, 0, [], false), (145, .aload_n 0, 0, [], false), (146, .getfield 12, 0, [(0, 3), (0, 11), (0, 12), (0, 0)], false), (149, .getfield 71, 0, [(2, 0), (0, 12), (0, 12), (0, 0)], false), (152, .imul, 0, [], false), (153, .iadd, 0, [], false), (154, .ireturn, 0, [], false), (155, .aload_n 1, 0, [], false), (156, .iload_n 2, 0, [], false), (157, .iconst 2, 0, [], false), (158, .iconst 0, 0, [], false), (159, .iconst 0, 0, [], false), (160, .aload_n 0, 0, [], false), (161, .getfield 18, 0, [(1, 3), (0, 11), (0, 12), (0, 0)], false), (164, .getfield 71, 0, [(2, 0), (0, 12), (0, 12), (0, 0)], false), (167, .invokevirtual 74, 6, [(6, 0)], false), (170, .iconst 2, 0, [], false), (171, .iconst 2, 0, [], false), (172, .aload_n 0, 0, [], false), (173, .getfield 18, 0, [(1, 3), (0, 11), (0, 12), (0, 0)], false), (176, .getfield 71, 0, [(2, 0), (0, 12), (0, 12), (0, 0)], false), (179, .imul, 0, [], false), (180, .iadd, 0, [], false), (181, .ireturn, 0, [], false)]
def zc3 : List mzN := [(0, .iconst 1, 0, [], false), (1, .istore 6, 0, [], false), (3, .iload 6, 0, [], true), (5, .iconst 2, 0, [], false), (6, .iload 5, 0, [], false), (8, .imul, 0, [], false), (9, .if_icmp .gt 129, 72, [], false), (12, .iload 5, 0, [], false), (14, .ineg, 0, [], false), (15, .istore 7, 0, [], false), (17, .iload 7, 0, [], true), (19, .iload 5, 0, [], false), (21, .if_icmp .gt 111, 70, [], false), (24, .iload 6, 0, [], false), (26, .iload 7, 0, [], false), (28, .invokestatic 93, 176, [(1, 1)], false), (31, .isub, 0, [], false), (32, .istore 8, 0, [], false), (34, .iload 8, 0, [], false), (36, .ifCond .lt 90, 68, [], false), (39, .iload 8, 0, [], false), (41, .iload 5, 0, [], false), (43, .if_icmp .le 6, 24, [], false), (46, .goto 80, 68, [], false), (49, .iload 8, 0, [], false), (51, .ineg, 0, [], false), (52, .istore 9, 0, [], false), (54, .iload 9, 0, [], true), (56, .iload 8, 0, [], false), (58, .if_icmp .gt 68, 68, [], false), (61, .aload 4, 0, [], false), (63, .iload_n 2, 0, [], false), (64, .iload 9, 0, [], false), (66, .iadd, 0, [], false), (67, .iload_n 3, 0, [], false), (68, .iload 7, 0, [], false), (70, .iadd, 0, [], false), (71, .invokevirtual 98, 18, [(3, 1)], false), (74, .ifCond .eq 36, 59, [], false), (77, .aload_n 1, 0, [], false), (78, .iload_n 2, 0, [], false), (79, .iload_n 3, 0, [], false), (80, .aload 4, 0, [], false), (82, .iload_n 2, 0, [], false), (83, .iload 9, 0, [], false), (85, .iadd, 0, [], false), (86, .iload_n 3, 0, [], false), (87, .iload 7, 0, [], false), (89, .iadd, 0, [], false), (90, .invokevirtual 85, 20, [(6, 1)], false), (93, .ifCond .eq 17, 59, [], false), (96, .aload_n 0, 0, [], false), (97, .iload 9, 0, [], false), (99, .putfield 21, 0, [(2, 0), (0, 11), (0, 11), (0, 0)], false), (102, .aload_n 0, 0, [], false), (103, .iload 7, 0, [], false), (105, .putfield 25, 0, [(3, 0), (0, 11), (0, 11), (0, 0)], false), (108, .iconst 1, 0, [], false), (109, .ireturn, 1, [], false), (110, .iload 9, 0, [], false), (112, .iconst 1, 0, [], false), (113, .iconst 2, 0, [], false), (114, .iload 8, 0, [], false), (116, .imul, 0, [], false), (117, .invokestatic 102, 177, [(2, 1)], false), (120, .iadd, 0, [], false), (121, .istore 9, 0, [], false), (123, .goto (-69), 27, [], false), (126, .iinc 7 1, 0, [], false), (129, .goto (-112), 10, [], false), (132, .iinc 6 1, 0, [], false), (135, .goto (-132), 2, [], false), (138, .iconst 0, 0, [], false), (139, .ireturn, 1, [], false)]
def zc4 : List mzN := [(0, .aload_n 0, 0, [], false), (1, .getfield 12, 0, [(0, 3), (0, 2), (0, 3), (0, 1)], false), (4, .aload_n 1, 0, [], false), (5, .getfield 12, 0, [(0, 3), (0, 2), (0, 3), (0, 1)], false), (8, .invokevirtual 33, 9, [(2, 0)], false), (11, .aload_n 1, 0, [], false), (12, .getfield 18, 0, [(0, 3), (0, 2), (0, 5), (0, 1)], false), (15, .iconst 0, 0, [], false), (16, .aload_n 0, 0, [], false), (17, .getfield 18, 0, [(0, 3), (0, 2), (0, 5), (0, 1)], false), (20, .iconst 0, 0, [], false), (21, .bipush 36, 0, [], false), (23, .invokestatic 37, 999, [], false), (26, .aload_n 0, 0, [], false), (27, .aload_n 1, 0, [], false), (28, .getfield 22, 0, [(2, 0), (0, 2), (0, 2), (0, 0)], false), (31, .putfield 22, 0, [(2, 0), (0, 2), (0, 2), (0, 0)], false), (34, .aload_n 0, 0, [], false), (35, .aload_n 1, 0, [], false), (36, .getfield 26, 0, [(3, 0), (0, 2), (0, 2), (0, 0)], false), (39, .putfield 26, 0, [(3, 0), (0, 2), (0, 2), (0, 0)], false), (42, .aload_n 0, 0, [], false), (43, .aload_n 1, 0, [], false), (44, .getfield 29, 0, [(4, 1), (0, 2), (0, 2), (0, 0)], false), (47, .putfield 29, 0, [(4, 1), (0, 2), (0, 2), (0, 0)], false), (50, .return_, 0, [], false)]
def zc5 : List mzN := [(0, .iload_n 1, 0, [], false), (1, .iconst 4, 0, [], false), (2, .imul, 0, [], false), (3, .iload_n 2, 0, [], false), (4, .iadd, 0, [], false), (5, .istore_n 3, 0, [], false), (6, .iload_n 3, 0, [], false), (7, .ifCond .lt 21, 18, [], false), (10, .iload_n 3, 0, [], false), (11, .aload_n 0, 0, [], false), (12, .getfield 18, 0, [(0, 3), (0, 2), (0, 5), (0, 1)], false), (15, .arraylength, 0, [], false), (16, .if_icmp .ge 12, 18, [], false), (19, .aload_n 0, 0, [], false), (20, .getfield 18, 0, [(0, 3), (0, 2), (0, 5), (0, 1)], false), (23, .iload_n 3, 0, [], false), (24, .iaload, 0, [], false), (25, .goto 4, 19, [], false), (28, .iconst 0, 0, [], false), (29, .ireturn, 0, [], false)]
def zc6 : List mzN := [(0, .iload_n 1, 0, [], false), (1, .iconst 4, 0, [], false), (2, .imul, 0, [], false), (3, .istore 6, 0, [], false), (5, .iload 6, 0, [], false), (7, .ifCond .lt 57, 41, [], false), (10, .iload 6, 0, [], false), (12, .iconst 3, 0, [], false), (13, .iadd, 0, [], false), (14, .aload_n 0, 0, [], false), (15, .getfield 18, 0, [(0, 3), (0, 2), (0, 5), (0, 1)], false), (18, .arraylength, 0, [], false), (19, .if_icmp .ge 45, 41, [], false), (22, .aload_n 0, 0, [], false), (23, .getfield 18, 0, [(0, 3), (0, 2), (0, 5), (0, 1)], false), (26, .iload 6, 0, [], false), (28, .iconst 0, 0, [], false), (29, .iadd, 0, [], false), (30, .iload_n 2, 0, [], false), (31, .iastore, 0, [], false), (32, .aload_n 0, 0, [], false), (33, .getfield 18, 0, [(0, 3), (0, 2), (0, 5), (0, 1)], false), (36, .iload 6, 0, [], false), (38, .iconst 1, 0, [], false), (39, .iadd, 0, [], false), (40, .iload_n 3, 0, [], false), (41, .iastore, 0, [], false), (42, .aload_n 0, 0, [], false), (43, .getfield 18, 0, [(0, 3), (0, 2), (0, 5), (0, 1)], false), (46, .iload 6, 0, [], false), (48, .iconst 2, 0, [], false), (49, .iadd, 0, [], false), (50, .iload 4, 0, [], false), (52, .iastore, 0, [], false), (53, .aload_n 0, 0, [], false), (54, .getfield 18, 0, [(0, 3), (0, 2), (0, 5), (0, 1)], false), (57, .iload 6, 0, [], false), (59, .iconst 3, 0, [], false), (60, .iadd, 0, [], false), (61, .iload 5, 0, [], false), (63, .iastore, 0, [], false), (64, .return_, 0, [], false)]
def zc7 : List mzN := [(0, .iconst 0, 0, [], false), (1, .istore_n 2, 0, [], false), (2, .iconst 0, 0, [], false), (3, .istore_n 3, 0, [], false), (4, .iload_n 3, 0, [], true), (5, .aload_n 0, 0, [], false), (6, .getfield 12, 0, [(0, 3), (0, 2), (0, 3), (0, 1)], false), (9, .invokevirtual 43, 14, [(1, 1)], false), (12, .if_icmp .ge 22, 18, [], false), (15, .aload_n 0, 0, [], false), (16, .iload_n 3, 0, [], false), (17, .iconst 0, 0, [], false), (18, .invokevirtual 47, 5, [(3, 1)], false), (21, .iload_n 1, 0, [], false), (22, .if_icmp .ne 6, 16, [], false), (25, .iinc 2 1, 0, [], false), (28, .iinc 3 1, 0, [], false), (31, .goto (-27), 4, [], false), (34, .iload_n 2, 0, [], false), (35, .ireturn, 0, [], false)]
def zc8 : List mzN := [(0, .aload_n 0, 0, [], false), (1, .iload_n 1, 0, [], false), (2, .putfield 15, 0, [(1, 0), (0, 3), (0, 3), (0, 0)], false), (5, .aload_n 0, 0, [], false), (6, .iload_n 2, 0, [], false), (7, .putfield 19, 0, [(2, 0), (0, 3), (0, 3), (0, 0)], false), (10, .iconst 0, 0, [], false), (11, .istore_n 3, 0, [], false), (12, .iload_n 3, 0, [], true), (13, .aload_n 0, 0, [], false), (14, .getfield 9, 0, [(0, 3), (0, 3), (0, 4), (0, 1)], false), (17, .arraylength, 0, [], false), (18, .if_icmp .ge 16, 20, [], false), (21, .aload_n 0, 0, [], false), (22, .getfield 9, 0, [(0, 3), (0, 3), (0, 4), (0, 1)], false), (25, .iload_n 3, 0, [], false), (26, .iconst 0, 0, [], false), (27, .iastore, 0, [], false), (28, .iinc 3 1, 0, [], false), (31, .goto (-19), 8, [], false), (34, .return_, 0, [], false)]
def zc9 : List mzN := [(0, .aload_n 0, 0, [], false), (1, .aload_n 1, 0, [], false), (2, .getfield 15, 0, [(1, 0), (0, 3), (0, 3), (0, 0)], false), (5, .putfield 15, 0, [(1, 0), (0, 3), (0, 3), (0, 0)], false), (8, .aload_n 0, 0, [], false), (9, .aload_n 1, 0, [], false), (10, .getfield 19, 0, [(2, 0), (0, 3), (0, 3), (0, 0)], false), (13, .putfield 19, 0, [(2, 0), (0, 3), (0, 3), (0, 0)], false), (16, .aload_n 1, 0, [], false), (17, .getfield 9, 0, [(0, 3), (0, 3), (0, 4), (0, 1)], false), (20, .iconst 0, 0, [], false), (21, .aload_n 0, 0, [], false), (22, .getfield 9, 0, [(0, 3), (0, 3), (0, 4), (0, 1)], false), (25, .iconst 0, 0, [], false), (26, .sipush 144, 0, [], false), (29, .invokestatic 22, 999, [], false), (32, .return_, 0, [], false)]
def zc10 : List mzN := [(0, .iload_n 1, 0, [], false), (1, .ifCond .lt 20, 11, [], false), (4, .iload_n 1, 0, [], false), (5, .aload_n 0, 0, [], false), (6, .getfield 15, 0, [(1, 0), (0, 3), (0, 3), (0, 0)], false), (9, .aload_n 0, 0, [], false), (10, .getfield 19, 0, [(2, 0), (0, 3), (0, 3), (0, 0)], false), (13, .imul, 0, [], false), (14, .if_icmp .ge 7, 11, [], false), (17, .iconst 1, 0, [], false), (18, .goto 4, 12, [], false), (21, .iconst 0, 0, [], false), (22, .ireturn, 1, [], false)]
def zc11 : List mzN := [(0, .iload_n 1, 0, [], false), (1, .ifCond .lt 21, 12, [], false), (4, .iload_n 1, 0, [], false), (5, .aload_n 0, 0, [], false), (6, .getfield 9, 0, [(0, 3), (0, 3), (0, 4), (0, 1)], false), (9, .arraylength, 0, [], false), (10, .if_icmp .ge 12, 12, [], false), (13, .aload_n 0, 0, [], false), (14, .getfield 9, 0, [(0, 3), (0, 3), (0, 4), (0, 1)], false), (17, .iload_n 1, 0, [], false), (18, .iaload, 0, [], false), (19, .goto 4, 13, [], false), (22, .iconst 0, 0, [], false), (23, .ireturn, 0, [], false)]
def zc12 : List mzN := [(0, .iload_n 1, 0, [], false), (1, .ifCond .lt 19, 12, [], false), (4, .iload_n 1, 0, [], false), (5, .aload_n 0, 0, [], false), (6, .getfield 9, 0, [(0, 3), (0, 3), (0, 4), (0, 1)], false), (9, .arraylength, 0, [], false), (10, .if_icmp .ge 10, 12, [], false), (13, .aload_n 0, 0, [], false), (14, .getfield 9, 0, [(0, 3), (0, 3), (0, 4), (0, 1)], false), (17, .iload_n 1, 0, [], false), (18, .iload_n 2, 0, [], false), (19, .iastore, 0, [], false), (20, .return_, 0, [], false)]
def zc13 : List mzN := [(0, .iload_n 1, 0, [], false), (1, .ifCond .lt 23, 12, [], false), (4, .iload_n 1, 0, [], false), (5, .aload_n 0, 0, [], false), (6, .getfield 15, 0, [(1, 0), (0, 3), (0, 3), (0, 0)], false), (9, .if_icmp .ge 15, 12, [], false), (12, .iload_n 2, 0, [], false), (13, .ifCond .lt 11, 12, [], false), (16, .iload_n 2, 0, [], false), (17, .aload_n 0, 0, [], false), (18, .getfield 19, 0, [(2, 0), (0, 3), (0, 3), (0, 0)], false), (21, .if_icmp .lt 5, 14, [], false), (24, .iconst 0, 0, [], false), (25, .ireturn, 0, [], false), (26, .iload_n 2, 0, [], false), (27, .aload_n 0, 0, [], false), (28, .getfield 15, 0, [(1, 0), (0, 3), (0, 3), (0, 0)], false), (31, .imul, 0, [], false), (32, .iload_n 1, 0, [], false), (33, .iadd, 0, [], false), (34, .istore_n 3, 0, [], false), (35, .iload_n 3, 0, [], false), (36, .aload_n 0, 0, [], false), (37, .getfield 9, 0, [(0, 3), (0, 3), (0, 4), (0, 1)], false), (40, .arraylength, 0, [], false), (41, .if_icmp .ge 12, 31, [], false), (44, .aload_n 0, 0, [], false), (45, .getfield 9, 0, [(0, 3), (0, 3), (0, 4), (0, 1)], false), (48, .iload_n 3, 0, [], false), (49, .iaload, 0, [], false), (50, .goto 4, 32, [], false), (53, .iconst 0, 0, [], false), (54, .ireturn, 0, [], false)]
def zc14 : List mzN := [(0, .aload_n 0, 0, [], false), (1, .getfield 15, 0, [(1, 0), (0, 3), (0, 3), (0, 0)], false), (4, .iconst 4, 0, [], false), (5, .idiv, 0, [], false), (6, .aload_n 0, 0, [], false), (7, .getfield 19, 0, [(2, 0), (0, 3), (0, 3), (0, 0)], false), (10, .iconst 4, 0, [], false), (11, .idiv, 0, [], false), (12, .imul, 0, [], false), (13, .ireturn, 0, [], false)]
def zc15 : List mzN := [(0, .iload_n 1, 0, [], false), (1, .ifCond .lt 15, 8, [], false), (4, .iload_n 1, 0, [], false), (5, .aload_n 0, 0, [], false), (6, .invokevirtual 28, 14, [(1, 1)], false), (9, .if_icmp .ge 7, 8, [], false), (12, .iconst 1, 0, [], false), (13, .goto 4, 9, [], false), (16, .iconst 0, 0, [], false), (17, .ireturn, 1, [], false)]
def zc16 : List mzN := [(0, .iconst 4, 0, [], false), (1, .iload_n 1, 0, [], false), (2, .iconst 1, 0, [], false), (3, .aload_n 0, 0, [], false), (4, .getfield 15, 0, [(1, 0), (0, 3), (0, 3), (0, 0)], false), (7, .iconst 4, 0, [], false), (8, .idiv, 0, [], false), (9, .invokestatic 32, 177, [(2, 1)], false), (12, .irem, 0, [], false), (13, .imul, 0, [], false), (14, .ireturn, 0, [], false)]
def zc17 : List mzN := [(0, .iconst 4, 0, [], false), (1, .iload_n 1, 0, [], false), (2, .iconst 1, 0, [], false), (3, .aload_n 0, 0, [], false), (4, .getfield 15, 0, [(1, 0), (0, 3), (0, 3), (0, 0)], false), (7, .iconst 4, 0, [], false), (8, .idiv, 0, [], false), (9, .invokestatic 32, 177, [(2, 1)], false), (12, .idiv, 0, [], false), (13, .imul, 0, [], false), (14, .ireturn, 0, [], false)]
def zc18 : List mzN := [(0, .iload_n 1, 0, [], false), (1, .ifCond .lt 31, 18, [], false), (4, .iload_n 1, 0, [], false), (5, .aload_n 0, 0, [], false), (6, .getfield 15, 0, [(1, 0), (0, 3), (0, 3), (0, 0)], false), (9, .iconst 4, 0, [], false), (10, .isub, 0, [], false), (11, .if_icmp .gt 21, 18, [], false), (14, .iload_n 2, 0, [], false), (15, .ifCond .lt 17, 18, [], false), (18, .iload_n 2, 0, [], false), (19, .aload_n 0, 0, [], false), (20, .getfield 19, 0, [(2, 0), (0, 3), (0, 3), (0, 0)], false), (23, .iconst 4, 0, [], false), (24, .isub, 0, [], false), (25, .if_icmp .gt 7, 18, [], false), (28, .iconst 1, 0, [], false), (29, .goto 4, 19, [], false), (32, .iconst 0, 0, [], false), (33, .ireturn, 1, [], false)]
def zc19 : List mzN := [(0, .bipush 7, 0, [], false), (2, .istore_n 3, 0, [], false), (3, .iconst 0, 0, [], false), (4, .istore 4, 0, [], false), (6, .iload 4, 0, [], true), (8, .bipush 16, 0, [], false), (10, .if_icmp .ge 35, 28, [], false), (13, .iload_n 3, 0, [], false), (14, .bipush 31, 0, [], false), (16, .imul, 0, [], false), (17, .aload_n 0, 0, [], false), (18, .iload_n 1, 0, [], false), (19, .iload 4, 0, [], false), (21, .iconst 4, 0, [], false), (22, .irem, 0, [], false), (23, .iadd, 0, [], false), (24, .iload_n 2, 0, [], false), (25, .iload 4, 0, [], false), (27, .iconst 4, 0, [], false), (28, .idiv, 0, [], false), (29, .iadd, 0, [], false), (30, .invokevirtual 38, 13, [(3, 1)], false), (33, .iadd, 0, [], false), (34, .sipush 9973, 0, [], false), (37, .irem, 0, [], false), (38, .istore_n 3, 0, [], false), (39, .iinc 4 1, 0, [], false), (42, .goto (-36), 4, [], false), (45, .iload_n 3, 0, [], false), (46, .ireturn, 0, [], false)]
def zc20 : List mzN := [(0, .iconst 0, 0, [], false), (1, .istore 6, 0, [], false), (3, .iload 6, 0, [], true), (5, .bipush 16, 0, [], false), (7, .if_icmp .ge 102, 64, [], false), (10, .iload_n 2, 0, [], false), (11, .iload 6, 0, [], false), (13, .iconst 4, 0, [], false), (14, .idiv, 0, [], false), (15, .iadd, 0, [], false), (16, .aload_n 0, 0, [], false), (17, .getfield 15, 0, [(1, 0), (0, 3), (0, 3), (0, 0)], false), (20, .imul, 0, [], false), (21, .iload_n 1, 0, [], false), (22, .iadd, 0, [], false), (23, .iload 6, 0, [], false), (25, .iconst 4, 0, [], false), (26, .irem, 0, [], false), (27, .iadd, 0, [], false), (28, .istore 7, 0, [], false), (30, .iload 5, 0, [], false), (32, .iload 6, 0, [], false), (34, .iconst 4, 0, [], false), (35, .idiv, 0, [], false), (36, .iadd, 0, [], false), (37, .aload_n 3, 0, [], false), (38, .getfield 15, 0, [(1, 0), (0, 3), (0, 3), (0, 0)], false), (41, .imul, 0, [], false), (42, .iload 4, 0, [], false), (44, .iadd, 0, [], false), (45, .iload 6, 0, [], false), (47, .iconst 4, 0, [], false), (48, .irem, 0, [], false), (49, .iadd, 0, [], false), (50, .istore 8, 0, [], false), (52, .iload 7, 0, [], false), (54, .ifCond .lt 28, 49, [], false), (57, .iload 7, 0, [], false), (59, .aload_n 0, 0, [], false), (60, .getfield 9, 0, [(0, 3), (0, 3), (0, 4), (0, 1)], false), (63, .arraylength, 0, [], false), (64, .if_icmp .ge 18, 49, [], false), (67, .iload 8, 0, [], false), (69, .ifCond .lt 13, 49, [], false), (72, .iload 8, 0, [], false), (74, .aload_n 3, 0, [], false), (75, .getfield 9, 0, [(0, 3), (0, 3), (0, 4), (0, 1)], false), (78, .arraylength, 0, [], false), (79, .if_icmp .lt 5, 51, [], false), (82, .iconst 0, 0, [], false), (83, .ireturn, 1, [], false), (84, .aload_n 0, 0, [], false), (85, .getfield 9, 0, [(0, 3), (0, 3), (0, 4), (0, 1)], false), (88, .iload 7, 0, [], false), (90, .iaload, 0, [], false), (91, .aload_n 3, 0, [], false), (92, .getfield 9, 0, [(0, 3), (0, 3), (0, 4), (0, 1)], false), (95, .iload 8, 0, [], false), (97, .iaload, 0, [], false), (98, .if_icmp .eq 5, 62, [], false), (101, .iconst 0, 0, [], false), (102, .ireturn, 1, [], false), (103, .iinc 6 1, 0, [], false), (106, .goto (-103), 2, [], false), (109, .iconst 1, 0, [], false), (110, .ireturn, 1, [], false)]
def zc21 : List mzN := [(0, .iconst 0, 0, [], false), (1, .istore_n 2, 0, [], false), (2, .iconst 0, 0, [], false), (3, .istore_n 3, 0, [], false), (4, .iload_n 3, 0, [], true), (5, .aload_n 0, 0, [], false), (6, .getfield 15, 0, [(1, 0), (0, 3), (0, 3), (0, 0)], false), (9, .aload_n 0, 0, [], false), (10, .getfield 19, 0, [(2, 0), (0, 3), (0, 3), (0, 0)], false), (13, .imul, 0, [], false), (14, .if_icmp .ge 25, 21, [], false), (17, .aload_n 0, 0, [], false), (18, .iload_n 3, 0, [], false), (19, .invokevirtual 41, 11, [(2, 1)], false), (22, .aload_n 1, 0, [], false), (23, .iload_n 3, 0, [], false), (24, .invokevirtual 41, 11, [(2, 1)], false), (27, .if_icmp .eq 6, 19, [], false), (30, .iinc 2 1, 0, [], false), (33, .iinc 3 1, 0, [], false), (36, .goto (-32), 4, [], false), (39, .iload_n 2, 0, [], false), (40, .ireturn, 0, [], false)]
def zc22 : List mzN := [(0, .iload_n 2, 0, [], false), (1, .istore 6, 0, [], false), (3, .iload 6, 0, [], true), (5, .aload_n 0, 0, [], false), (6, .getfield 19, 0, [(2, 0), (0, 3), (0, 3), (0, 0)], false), (9, .iload_n 2, 0, [], false), (10, .iload 4, 0, [], false), (12, .iadd, 0, [], false), (13, .invokestatic 45, 178, [(2, 1)], false), (16, .if_icmp .ge 49, 33, [], false), (19, .iload_n 1, 0, [], false), (20, .istore 7, 0, [], false), (22, .iload 7, 0, [], true), (24, .aload_n 0, 0, [], false), (25, .getfield 15, 0, [(1, 0), (0, 3), (0, 3), (0, 0)], false), (28, .iload_n 1, 0, [], false), (29, .iload_n 3, 0, [], false), (30, .iadd, 0, [], false), (31, .invokestatic 45, 178, [(2, 1)], false), (34, .if_icmp .ge 25, 31, [], false), (37, .aload_n 0, 0, [], false), (38, .iload 6, 0, [], false), (40, .aload_n 0, 0, [], false), (41, .getfield 15, 0, [(1, 0), (0, 3), (0, 3), (0, 0)], false), (44, .imul, 0, [], false), (45, .iload 7, 0, [], false), (47, .iadd, 0, [], false), (48, .iload 5, 0, [], false), (50, .invokevirtual 48, 12, [(3, 0)], false), (53, .iinc 7 1, 0, [], false), (56, .goto (-34), 12, [], false), (59, .iinc 6 1, 0, [], false), (62, .goto (-59), 2, [], false), (65, .return_, 0, [], false)]
def zc23 : List mzN := [(0, .iconst 0, 0, [], false), (1, .istore 4, 0, [], false), (3, .iload 4, 0, [], true), (5, .aload_n 0, 0, [], false), (6, .getfield 19, 0, [(2, 0), (0, 3), (0, 3), (0, 0)], false), (9, .if_icmp .ge 53, 32, [], false), (12, .iconst 0, 0, [], false), (13, .istore 5, 0, [], false), (15, .iload 5, 0, [], true), (17, .aload_n 0, 0, [], false), (18, .getfield 15, 0, [(1, 0), (0, 3), (0, 3), (0, 0)], false), (21, .if_icmp .ge 35, 30, [], false), (24, .aload_n 0, 0, [], false), (25, .iload 4, 0, [], false), (27, .aload_n 0, 0, [], false), (28, .getfield 15, 0, [(1, 0), (0, 3), (0, 3), (0, 0)], false), (31, .imul, 0, [], false), (32, .iload 5, 0, [], false), (34, .iadd, 0, [], false), (35, .aload_n 1, 0, [], false), (36, .iload 5, 0, [], false), (38, .iload_n 2, 0, [], false), (39, .isub, 0, [], false), (40, .iload 4, 0, [], false), (42, .iload_n 3, 0, [], false), (43, .isub, 0, [], false), (44, .invokevirtual 38, 13, [(3, 1)], false), (47, .invokevirtual 48, 12, [(3, 0)], false), (50, .iinc 5 1, 0, [], false), (53, .goto (-38), 8, [], false), (56, .iinc 4 1, 0, [], false), (59, .goto (-56), 2, [], false), (62, .return_, 0, [], false)]
def zc24 : List mzN := [(0, .iconst 0, 0, [], false), (1, .istore_n 3, 0, [], false), (2, .iload_n 3, 0, [], true), (3, .aload_n 0, 0, [], false), (4, .getfield 9, 0, [(0, 3), (0, 3), (0, 4), (0, 1)], false), (7, .arraylength, 0, [], false), (8, .if_icmp .ge 46, 32, [], false), (11, .aload_n 0, 0, [], false), (12, .getfield 9, 0, [(0, 3), (0, 3), (0, 4), (0, 1)], false), (15, .iload_n 3, 0, [], false), (16, .iaload, 0, [], false), (17, .iload_n 1, 0, [], false), (18, .if_icmp .ne 13, 19, [], false), (21, .aload_n 0, 0, [], false), (22, .getfield 9, 0, [(0, 3), (0, 3), (0, 4), (0, 1)], false), (25, .iload_n 3, 0, [], false), (26, .iload_n 2, 0, [], false), (27, .iastore, 0, [], false), (28, .goto 20, 30, [], false), (31, .aload_n 0, 0, [], false), (32, .getfield 9, 0, [(0, 3), (0, 3), (0, 4), (0, 1)], false), (35, .iload_n 3, 0, [], false), (36, .iaload, 0, [], false), (37, .iload_n 2, 0, [], false), (38, .if_icmp .ne 10, 30, [], false), (41, .aload_n 0, 0, [], false), (42, .getfield 9, 0, [(0, 3), (0, 3), (0, 4), (0, 1)], false), (45, .iload_n 3, 0, [], false), (46, .iload_n 1, 0, [], false), (47, .iastore, 0, [], false), (48, .iinc 3 1, 0, [], false), (51, .goto (-49), 2, [], false), (54, .return_, 0, [], false)]
def zc25 : List mzN := [(0, .aload_n 1, 0, [], false), (1, .getfield 25, 0, [(3, 0), (0, 1), (0, 1), (0, 0)], false), (4, .bipush 10, 0, [], false), (6, .invokestatic 30, 178, [(2, 1)], false), (9, .istore 4, 0, [], false), (11, .aload_n 0, 0, [], false), (12, .aload_n 1, 0, [], false), (13, .aload_n 2, 0, [], false), (14, .aload_n 3, 0, [], false), (15, .iload 4, 0, [], false), (17, .invokevirtual 36, 26, [(5, 0)], false), (20, .aload_n 0, 0, [], false), (21, .aload_n 0, 0, [], false), (22, .iconst 1, 0, [], false), (23, .iload 4, 0, [], false), (25, .aload_n 1, 0, [], false), (26, .getfield 40, 0, [(6, 0), (0, 1), (0, 1), (0, 0)], false), (29, .invokevirtual 43, 27, [(4, 1)], false), (32, .putfield 18, 0, [(2, 0), (0, 15), (0, 15), (0, 0)], false), (35, .aload_n 0, 0, [], false), (36, .iconst 1, 0, [], false), (37, .putfield 22, 0, [(3, 0), (0, 15), (0, 15), (0, 0)], false), (40, .iconst 3, 0, [], false), (41, .istore 5, 0, [], false), (43, .iload 5, 0, [], true), (45, .iconst 1, 0, [], false), (46, .iload 4, 0, [], false), (48, .ishl, 0, [], false), (49, .if_icmp .ge 80, 64, [], false), (52, .aload_n 0, 0, [], false), (53, .iload 5, 0, [], false), (55, .iload 4, 0, [], false), (57, .aload_n 1, 0, [], false), (58, .getfield 40, 0, [(6, 0), (0, 1), (0, 1), (0, 0)], false), (61, .invokevirtual 43, 27, [(4, 1)], false), (64, .istore 6, 0, [], false), (66, .iload 5, 0, [], false), (68, .invokestatic 47, 174, [(1, 1)], false), (71, .aload_n 0, 0, [], false), (72, .getfield 22, 0, [(3, 0), (0, 15), (0, 15), (0, 0)], false), (75, .invokestatic 47, 174, [(1, 1)], false), (78, .if_icmp .ge 7, 44, [], false), (81, .iconst 1, 0, [], false), (82, .goto 4, 45, [], false), (85, .iconst 0, 0, [], false), (86, .istore 7, 0, [], false), (88, .iload 6, 0, [], false), (90, .aload_n 0, 0, [], false), (91, .getfield 18, 0, [(2, 0), (0, 15), (0, 15), (0, 0)], false), (94, .if_icmp .lt 17, 56, [], false), (97, .iload 6, 0, [], false), (99, .aload_n 0, 0, [], false), (100, .getfield 18, 0, [(2, 0), (0, 15), (0, 15), (0, 0)], false), (103, .if_icmp .ne 20, 62, [], false), (106, .iload 7, 0, [], false), (108, .ifCond .eq 15, 62, [], false), (111, .aload_n 0, 0, [], false), (112, .iload 6, 0, [], false), (114, .putfield 18, 0, [(2, 0), (0, 15), (0, 15), (0, 0)], false), (117, .aload_n 0, 0, [], false), (118, .iload 5, 0, [], false), (120, .putfield 22, 0, [(3, 0), (0, 15), (0, 15), (0, 0)], false), (123, .iinc 5 2, 0, [], false), (126, .goto (-83), 24, [], false), (129, .return_, 0, [], false)]
def zc26 : List mzN := [(0, .iconst 0, 0, [], false), (1, .istore 5, 0, [], false), (3, .iload 5, 0, [], true), (5, .iload 4, 0, [], false), (7, .if_icmp .ge 86, 49, [], false), (10, .iload 5, 0, [], false), (12, .aload_n 0, 0, [], false), (13, .getfield 9, 0, [(0, 3), (0, 15), (0, 16), (0, 0)], false), (16, .arraylength, 0, [], false), (17, .if_icmp .ge 76, 49, [], false), (20, .iload 5, 0, [], false), (22, .aload_n 0, 0, [], false), (23, .getfield 15, 0, [(0, 3), (0, 15), (0, 17), (0, 0)], false), (26, .arraylength, 0, [], false), (27, .if_icmp .ge 66, 49, [], false), (30, .aload_n 3, 0, [], false), (31, .getfield 53, 0, [(0, 3), (0, 2), (0, 3), (0, 1)], false), (34, .aload_n 1, 0, [], false), (35, .iload 5, 0, [], false), (37, .invokevirtual 59, 54, [(2, 5)], false), (40, .invokevirtual 63, 9, [(2, 0)], false), (43, .aload_n 2, 0, [], false), (44, .aload_n 3, 0, [], false), (45, .aload_n 1, 0, [], false), (46, .iconst (-1), 0, [], false), (47, .invokevirtual 69, 0, [(4, 0)], false), (50, .aload_n 0, 0, [], false), (51, .getfield 9, 0, [(0, 3), (0, 15), (0, 16), (0, 0)], false), (54, .iload 5, 0, [], false), (56, .aload_n 3, 0, [], false), (57, .getfield 75, 0, [(3, 0), (0, 2), (0, 2), (0, 0)], false), (60, .iastore, 0, [], false), (61, .iload 5, 0, [], false), (63, .ifCond .le 24, 47, [], false), (66, .aload_n 2, 0, [], false), (67, .aload_n 3, 0, [], false), (68, .aload_n 1, 0, [], false), (69, .iload 5, 0, [], false), (71, .iconst 1, 0, [], false), (72, .isub, 0, [], false), (73, .invokevirtual 69, 0, [(4, 0)], false), (76, .aload_n 0, 0, [], false), (77, .getfield 15, 0, [(0, 3), (0, 15), (0, 17), (0, 0)], false), (80, .iload 5, 0, [], false), (82, .aload_n 3, 0, [], false), (83, .getfield 75, 0, [(3, 0), (0, 2), (0, 2), (0, 0)], false), (86, .iastore, 0, [], false), (87, .iinc 5 1, 0, [], false), (90, .goto (-87), 2, [], false), (93, .return_, 0, [], false)]
def zc27 : List mzN := [(0, .iconst 0, 0, [], false), (1, .istore 4, 0, [], false), (3, .iconst 0, 0, [], false), (4, .istore 5, 0, [], false), (6, .iconst 0, 0, [], false), (7, .istore 6, 0, [], false), (9, .iconst 0, 0, [], false), (10, .istore 7, 0, [], false), (12, .iload 7, 0, [], true), (14, .iload_n 2, 0, [], false), (15, .if_icmp .ge 103, 62, [], false), (18, .iload 7, 0, [], false), (20, .aload_n 0, 0, [], false), (21, .getfield 9, 0, [(0, 3), (0, 15), (0, 16), (0, 0)], false), (24, .arraylength, 0, [], false), (25, .if_icmp .ge 93, 62, [], false), (28, .iload 7, 0, [], false), (30, .aload_n 0, 0, [], false), (31, .getfield 15, 0, [(0, 3), (0, 15), (0, 17), (0, 0)], false), (34, .arraylength, 0, [], false), (35, .if_icmp .ge 83, 62, [], false), (38, .iload_n 1, 0, [], false), (39, .iload 7, 0, [], false), (41, .ishr, 0, [], false), (42, .iconst 1, 0, [], false), (43, .iand, 0, [], false), (44, .iconst 1, 0, [], false), (45, .if_icmp .ne 7, 30, [], false), (48, .iconst 1, 0, [], false), (49, .goto 4, 31, [], false), (52, .iconst 0, 0, [], false), (53, .istore 8, 0, [], false), (55, .iload 8, 0, [], false), (57, .ifCond .eq 13, 39, [], false), (60, .aload_n 0, 0, [], false), (61, .getfield 9, 0, [(0, 3), (0, 15), (0, 16), (0, 0)], false), (64, .iload 7, 0, [], false), (66, .iaload, 0, [], false), (67, .goto 10, 43, [], false), (70, .aload_n 0, 0, [], false), (71, .getfield 15, 0, [(0, 3), (0, 15), (0, 17), (0, 0)], false), (74, .iload 7, 0, [], false), (76, .iaload, 0, [], false), (77, .istore 9, 0, [], false), (79, .iload 4, 0, [], false), (81, .iload 9, 0, [], false), (83, .iadd, 0, [], false), (84, .istore 4, 0, [], false), (86, .iload 8, 0, [], false), (88, .ifCond .eq 8, 52, [], false), (91, .iload 9, 0, [], false), (93, .goto 8, 55, [], false), (96, .iload 5, 0, [], false), (98, .iload 9, 0, [], false), (100, .iadd, 0, [], false), (101, .istore 5, 0, [], false), (103, .iload 6, 0, [], false), (105, .iload 5, 0, [], false), (107, .invokestatic 76, 177, [(2, 1)], false), (110, .istore 6, 0, [], false), (112, .iinc 7 1, 0, [], false), (115, .goto (-103), 8, [], false), (118, .iload 4, 0, [], false), (120, .iload_n 3, 0, [], false), (121, .iload 6, 0, [], false), (123, .imul, 0, [], false), (124, .iadd, 0, [], false), (125, .ireturn, 0, [], false)]
def zc28 : List mzN := [(0, .aload_n 0, 0, [], false), (1, .getfield 22, 0, [(3, 0), (0, 15), (0, 15), (0, 0)], false), (4, .iload_n 1, 0, [], false), (5, .ishr, 0, [], false), (6, .iconst 1, 0, [], false), (7, .iand, 0, [], false), (8, .iconst 1, 0, [], false), (9, .if_icmp .ne 7, 10, [], false), (12, .iconst (-1), 0, [], false), (13, .goto 6, 13, [], false), (16, .iload_n 1, 0, [], false), (17, .iconst 1, 0, [], false), (18, .isub, 0, [], false), (19, .ireturn, 0, [], false)]
def zc29 : List mzN := [(0, .aload_n 1, 0, [], false), (1, .iload_n 3, 0, [], false), (2, .invokevirtual 22, 16, [(2, 1)], false), (5, .istore 4, 0, [], false), (7, .aload_n 1, 0, [], false), (8, .iload_n 3, 0, [], false), (9, .invokevirtual 28, 17, [(2, 1)], false), (12, .istore 5, 0, [], false), (14, .aload_n 0, 0, [], false), (15, .iconst 0, 0, [], false), (16, .putfield 18, 0, [(2, 0), (0, 12), (0, 12), (0, 0)], false), (19, .iconst 0, 0, [], false), (20, .istore 6, 0, [], false), (22, .iload 6, 0, [], true), (24, .bipush 16, 0, [], false), (26, .if_icmp .ge 63, 49, [], false), (29, .iload 4, 0, [], false), (31, .iload 6, 0, [], false), (33, .iconst 4, 0, [], false), (34, .irem, 0, [], false), (35, .iadd, 0, [], false), (36, .istore 7, 0, [], false), (38, .iload 5, 0, [], false), (40, .iload 6, 0, [], false), (42, .iconst 4, 0, [], false), (43, .idiv, 0, [], false), (44, .iadd, 0, [], false), (45, .istore 8, 0, [], false), (47, .aload_n 1, 0, [], false), (48, .iload 7, 0, [], false), (50, .iload 8, 0, [], false), (52, .invokevirtual 31, 13, [(3, 1)], false), (55, .istore 9, 0, [], false), (57, .aload_n 2, 0, [], false), (58, .ifnull 19, 44, [], false), (61, .iload 9, 0, [], false), (63, .aload_n 2, 0, [], false), (64, .iload 7, 0, [], false), (66, .iload 8, 0, [], false), (68, .invokevirtual 31, 13, [(3, 1)], false), (71, .isub, 0, [], false), (72, .bipush 15, 0, [], false), (74, .iand, 0, [], false), (75, .istore 9, 0, [], false), (77, .aload_n 0, 0, [], false), (78, .iload 9, 0, [], false), (80, .invokevirtual 35, 30, [(2, 0)], false), (83, .iinc 6 1, 0, [], false), (86, .goto (-64), 13, [], false), (89, .return_, 0, [], false)]
def zc30 : List mzN := [(0, .aload_n 0, 0, [], false), (1, .getfield 18, 0, [(2, 0), (0, 12), (0, 12), (0, 0)], false), (4, .iconst 1, 0, [], false), (5, .isub, 0, [], false), (6, .istore_n 2, 0, [], false), (7, .iload_n 2, 0, [], false), (8, .ifCond .lt 26, 20, [], false), (11, .iload_n 2, 0, [], false), (12, .aload_n 0, 0, [], false), (13, .getfield 15, 0, [(0, 3), (0, 12), (0, 14), (0, 1)], false), (16, .arraylength, 0, [], false), (17, .if_icmp .ge 17, 20, [], false), (20, .aload_n 0, 0, [], false), (21, .getfield 15, 0, [(0, 3), (0, 12), (0, 14), (0, 1)], false), (24, .iload_n 2, 0, [], false), (25, .iaload, 0, [], false), (26, .iload_n 1, 0, [], false), (27, .if_icmp .ne 7, 20, [], false), (30, .iconst 1, 0, [], false), (31, .goto 4, 21, [], false), (34, .iconst 0, 0, [], false), (35, .istore_n 3, 0, [], false), (36, .iload_n 3, 0, [], false), (37, .ifCond .eq 25, 38, [], false), (40, .iload_n 2, 0, [], false), (41, .aload_n 0, 0, [], false), (42, .getfield 9, 0, [(0, 3), (0, 12), (0, 13), (0, 1)], false), (45, .arraylength, 0, [], false), (46, .if_icmp .ge 16, 38, [], false), (49, .aload_n 0, 0, [], false), (50, .getfield 9, 0, [(0, 3), (0, 12), (0, 13), (0, 1)], false), (53, .iload_n 2, 0, [], false), (54, .dup2, 0, [], false), (55, .iaload, 0, [], false), (56, .iconst 1, 0, [], false), (57, .iadd, 0, [], false), (58, .iastore, 0, [], false), (59, .goto 64, 71, [], false), (62, .aload_n 0, 0, [], false), (63, .getfield 18, 0, [(2, 0), (0, 12), (0, 12), (0, 0)], false), (66, .ifCond .lt 57, 71, [], false), (69, .aload_n 0, 0, [], false), (70, .getfield 18, 0, [(2, 0), (0, 12), (0, 12), (0, 0)], false), (73, .aload_n 0, 0, [], false), (74, .getfield 9, 0, [(0, 3), (0, 12), (0, 13), (0, 1)], false), (77, .arraylength, 0, [], false), (78, .if_icmp .ge 45, 71, [], false), (81, .aload_n 0, 0, [], false), (82, .getfield 18, 0, [(2, 0), (0, 12), (0, 12), (0, 0)], false), (85, .aload_n 0, 0, [], false), (86, .getfield 15, 0, [(0, 3), (0, 12), (0, 14), (0, 1)], false), (89, .arraylength, 0, [], false), (90, .if_icmp .ge 33, 71, [], false), (93, .aload_n 0, 0, [], false), (94, .getfield 9, 0, [(0, 3), (0, 12), (0, 13), (0, 1)], false), (97, .aload_n 0, 0, [], false), (98, .getfield 18, 0, [(2, 0), (0, 12), (0, 12), (0, 0)], false), (101, .iconst 1, 0, [], false), (102, .iastore, 0, [], false), (103, .aload_n 0, 0, [], false), (104, .getfield 15, 0, [(0, 3), (0, 12), (0, 14), (0, 1)], false), (107, .aload_n 0, 0, [], false), (108, .getfield 18, 0, [(2, 0), (0, 12), (0, 12), (0, 0)], false), (111, .iload_n 1, 0, [], false), (112, .iastore, 0, [], false), (113, .aload_n 0, 0, [], false), (114, .dup, 0, [], false), (115, .getfield 18, 0, [(2, 0), (0, 12), (0, 12), (0, 0)], false), (118, .iconst 1, 0, [], false), (119, .iadd, 0, [], false), (120, .putfield 18, 0, [(2, 0), (0, 12), (0, 12), (0, 0)], false), (123, .return_, 0, [], false)]
def zc31 : List mzN := [(0, .iload_n 1, 0, [], false), (1, .ifCond .lt 21, 12, [], false), (4, .iload_n 1, 0, [], false), (5, .aload_n 0, 0, [], false), (6, .getfield 9, 0, [(0, 3), (0, 12), (0, 13), (0, 1)], false), (9, .arraylength, 0, [], false), (10, .if_icmp .ge 12, 12, [], false), (13, .aload_n 0, 0, [], false), (14, .getfield 9, 0, [(0, 3), (0, 12), (0, 13), (0, 1)], false), (17, .iload_n 1, 0, [], false), (18, .iaload, 0, [], false), (19, .goto 4, 13, [], false), (22, .iconst 0, 0, [], false), (23, .ireturn, 0, [], false)]
def zc32 : List mzN := [(0, .iload_n 1, 0, [], false), (1, .ifCond .lt 21, 12, [], false), (4, .iload_n 1, 0, [], false), (5, .aload_n 0, 0, [], false), (6, .getfield 15, 0, [(0, 3), (0, 12), (0, 14), (0, 1)], false), (9, .arraylength, 0, [], false), (10, .if_icmp .ge 12, 12, [], false), (13, .aload_n 0, 0, [], false), (14, .getfield 15, 0, [(0, 3), (0, 12), (0, 14), (0, 1)], false), (17, .iload_n 1, 0, [], false), (18, .iaload, 0, [], false), (19, .goto 4, 13, [], false), (22, .iconst 0, 0, [], false), (23, .ireturn, 0, [], false)]
def zc33 : List mzN := [(0, .aload_n 0, 0, [], false), (1, .getfield 15, 0, [(1, 0), (0, 8), (0, 8), (0, 0)], false), (4, .ifCond .lt 35, 21, [], false), (7, .aload_n 0, 0, [], false), (8, .getfield 15, 0, [(1, 0), (0, 8), (0, 8), (0, 0)], false), (11, .aload_n 0, 0, [], false), (12, .getfield 9, 0, [(0, 3), (0, 8), (0, 9), (0, 0)], false), (15, .arraylength, 0, [], false), (16, .if_icmp .ge 23, 21, [], false), (19, .aload_n 0, 0, [], false), (20, .getfield 9, 0, [(0, 3), (0, 8), (0, 9), (0, 0)], false), (23, .aload_n 0, 0, [], false), (24, .getfield 15, 0, [(1, 0), (0, 8), (0, 8), (0, 0)], false), (27, .iload_n 1, 0, [], false), (28, .castore, 0, [], false), (29, .aload_n 0, 0, [], false), (30, .dup, 0, [], false), (31, .getfield 15, 0, [(1, 0), (0, 8), (0, 8), (0, 0)], false), (34, .iconst 1, 0, [], false), (35, .iadd, 0, [], false), (36, .putfield 15, 0, [(1, 0), (0, 8), (0, 8), (0, 0)], false), (39, .aload_n 0, 0, [], false), (40, .getfield 15, 0, [(1, 0), (0, 8), (0, 8), (0, 0)], false), (43, .ireturn, 0, [], false)]
def zc34 : List mzN := [(0, .iload_n 0, 0, [], false), (1, .tableswitch 43 0 3 #[31, 34, 37, 40], 10, [(0, 2), (1, 4), (2, 6), (3, 8)], false), (32, .ldc 38, 0, [], false), (34, .areturn, 0, [], false), (35, .ldc 40, 1, [], false), (37, .areturn, 0, [], false), (38, .ldc 42, 2, [], false), (40, .areturn, 0, [], false), (41, .ldc 44, 3, [], false), (43, .areturn, 0, [], false), (44, .ldc 46, 4, [], false), (46, .areturn, 0, [], false)]
def zc35 : List mzN := [(0, .iload_n 0, 0, [], false), (1, .tableswitch 43 0 3 #[31, 34, 37, 40], 10, [(0, 2), (1, 4), (2, 6), (3, 8)], false), (32, .ldc 48, 5, [], false), (34, .areturn, 0, [], false), (35, .ldc 50, 6, [], false), (37, .areturn, 0, [], false), (38, .ldc 52, 7, [], false), (40, .areturn, 0, [], false), (41, .ldc 54, 8, [], false), (43, .areturn, 0, [], false), (44, .ldc 56, 9, [], false), (46, .areturn, 0, [], false)]
def zc36 : List mzN := [(0, .aload_n 0, 0, [], false), (1, .iconst 0, 0, [], false), (2, .putfield 25, 0, [(4, 0), (0, 8), (0, 8), (0, 0)], false), (5, .aload_n 0, 0, [], false), (6, .iconst 0, 0, [], false), (7, .putfield 35, 0, [(7, 0), (0, 8), (0, 8), (0, 0)], false), (10, .iconst 0, 0, [], false), (11, .istore_n 2, 0, [], false), (12, .iload_n 2, 0, [], true), (13, .sipush 160, 0, [], false), (16, .if_icmp .gt 35, 27, [], false), (19, .aload_n 0, 0, [], false), (20, .invokevirtual 58, 39, [(1, 0)], false), (23, .aload_n 0, 0, [], false), (24, .getfield 19, 0, [(2, 0), (0, 8), (0, 8), (0, 0)], false), (27, .ifCond .ne 5, 18, [], false), (30, .iconst (-1), 0, [], false), (31, .ireturn, 0, [], false), (32, .aload_n 0, 0, [], false), (33, .aload_n 1, 0, [], false), (34, .invokevirtual 61, 37, [(2, 1)], false), (37, .ifCond .ne 8, 25, [], false), (40, .aload_n 0, 0, [], false), (41, .getfield 22, 0, [(3, 0), (0, 8), (0, 8), (0, 0)], false), (44, .ireturn, 0, [], false), (45, .iinc 2 1, 0, [], false), (48, .goto (-36), 8, [], false), (51, .aload_n 0, 0, [], false), (52, .getfield 22, 0, [(3, 0), (0, 8), (0, 8), (0, 0)], false), (55, .ireturn, 0, [], false)]
def zc37 : List mzN := [(0, .aload_n 0, 0, [], false), (1, .invokevirtual 65, 43, [(1, 1)], false), (4, .istore_n 2, 0, [], false), (5, .iload_n 2, 0, [], false), (6, .ifCond .ge 5, 7, [], false), (9, .iconst 0, 0, [], false), (10, .ireturn, 1, [], false), (11, .aload_n 0, 0, [], false), (12, .iload_n 2, 0, [], false), (13, .invokevirtual 69, 38, [(2, 0)], false), (16, .iload_n 2, 0, [], false), (17, .invokestatic 73, 35, [(1, 32)], false), (20, .astore_n 3, 0, [], false), (21, .iconst 0, 0, [], false), (22, .istore 4, 0, [], false), (24, .iload 4, 0, [], true), (26, .aload_n 3, 0, [], false), (27, .invokevirtual 77, 179, [(1, 1)], false), (30, .if_icmp .ge 44, 39, [], false), (33, .aload_n 0, 0, [], false), (34, .invokevirtual 58, 39, [(1, 0)], false), (37, .aload_n 0, 0, [], false), (38, .invokevirtual 81, 45, [(1, 1)], false), (41, .ifCond .eq 17, 31, [], false), (44, .aload_n 0, 0, [], false), (45, .aload_n 3, 0, [], false), (46, .iload 4, 0, [], false), (48, .invokevirtual 85, 180, [(2, 1)], false), (51, .aload_n 1, 0, [], false), (52, .invokevirtual 89, 46, [(3, 1)], false), (55, .ifCond .ne 5, 33, [], false), (58, .iconst 0, 0, [], false), (59, .ireturn, 1, [], false), (60, .aload_n 0, 0, [], false), (61, .aload_n 0, 0, [], false), (62, .getfield 28, 0, [(5, 0), (0, 8), (0, 8), (0, 0)], false), (65, .invokevirtual 69, 38, [(2, 0)], false), (68, .iinc 4 1, 0, [], false), (71, .goto (-47), 15, [], false), (74, .aload_n 0, 0, [], false), (75, .invokevirtual 58, 39, [(1, 0)], false), (78, .aload_n 0, 0, [], false), (79, .getfield 19, 0, [(2, 0), (0, 8), (0, 8), (0, 0)], false), (82, .iconst 3, 0, [], false), (83, .if_icmp .ne 20, 53, [], false), (86, .aload_n 0, 0, [], false), (87, .aload_n 0, 0, [], false), (88, .getfield 22, 0, [(3, 0), (0, 8), (0, 8), (0, 0)], false), (91, .invokevirtual 93, 40, [(2, 1)], false), (94, .bipush 59, 0, [], false), (96, .if_icmp .ne 7, 53, [], false), (99, .iconst 1, 0, [], false), (100, .goto 4, 54, [], false), (103, .iconst 0, 0, [], false), (104, .ireturn, 1, [], false)]
def zc38 : List mzN := [(0, .aload_n 0, 0, [], false), (1, .getfield 35, 0, [(7, 0), (0, 8), (0, 8), (0, 0)], false), (4, .ifCond .lt 35, 21, [], false), (7, .aload_n 0, 0, [], false), (8, .getfield 35, 0, [(7, 0), (0, 8), (0, 8), (0, 0)], false), (11, .aload_n 0, 0, [], false), (12, .getfield 31, 0, [(0, 3), (0, 8), (0, 10), (0, 0)], false), (15, .arraylength, 0, [], false), (16, .if_icmp .ge 23, 21, [], false), (19, .aload_n 0, 0, [], false), (20, .getfield 31, 0, [(0, 3), (0, 8), (0, 10), (0, 0)], false), (23, .aload_n 0, 0, [], false), (24, .getfield 35, 0, [(7, 0), (0, 8), (0, 8), (0, 0)], false), (27, .iload_n 1, 0, [], false), (28, .iastore, 0, [], false), (29, .aload_n 0, 0, [], false), (30, .dup, 0, [], false), (31, .getfield 35, 0, [(7, 0), (0, 8), (0, 8), (0, 0)], false), (34, .iconst 1, 0, [], false), (35, .iadd, 0, [], false), (36, .putfield 35, 0, [(7, 0), (0, 8), (0, 8), (0, 0)], false), (39, .return_, 0, [], false)]
def zc39 : List mzN := [(0, .aload_n 0, 0, [], false), (1, .aload_n 0, 0, [], false), (2, .getfield 25, 0, [(4, 0), (0, 8), (0, 8), (0, 0)], false), (5, .putfield 22, 0, [(3, 0), (0, 8), (0, 8), (0, 0)], false), (8, .aload_n 0, 0, [], true), (9, .getfield 22, 0, [(3, 0), (0, 8), (0, 8), (0, 0)], false), (12, .aload_n 0, 0, [], false), (13, .getfield 15, 0, [(1, 0), (0, 8), (0, 8), (0, 0)], false), (16, .if_icmp .ge 29, 22, [], false), (19, .aload_n 0, 0, [], false), (20, .aload_n 0, 0, [], false), (21, .getfield 22, 0, [(3, 0), (0, 8), (0, 8), (0, 0)], false), (24, .invokevirtual 93, 40, [(2, 1)], false), (27, .bipush 32, 0, [], false), (29, .if_icmp .ne 16, 22, [], false), (32, .aload_n 0, 0, [], false), (33, .dup, 0, [], false), (34, .getfield 22, 0, [(3, 0), (0, 8), (0, 8), (0, 0)], false), (37, .iconst 1, 0, [], false), (38, .iadd, 0, [], false), (39, .putfield 22, 0, [(3, 0), (0, 8), (0, 8), (0, 0)], false), (42, .goto (-34), 4, [], false), (45, .aload_n 0, 0, [], false), (46, .aload_n 0, 0, [], false), (47, .getfield 22, 0, [(3, 0), (0, 8), (0, 8), (0, 0)], false), (50, .putfield 25, 0, [(4, 0), (0, 8), (0, 8), (0, 0)], false), (53, .aload_n 0, 0, [], false), (54, .getfield 22, 0, [(3, 0), (0, 8), (0, 8), (0, 0)], false), (57, .aload_n 0, 0, [], false), (58, .getfield 15, 0, [(1, 0), (0, 8), (0, 8), (0, 0)], false), (61, .if_icmp .lt 9, 35, [], false), (64, .aload_n 0, 0, [], false), (65, .iconst 0, 0, [], false), (66, .putfield 19, 0, [(2, 0), (0, 8), (0, 8), (0, 0)], false), (69, .return_, 0, [], false), (70, .aload_n 0, 0, [], false), (71, .dup, 0, [], false), (72, .getfield 25, 0, [(4, 0), (0, 8), (0, 8), (0, 0)], false), (75, .iconst 1, 0, [], false), (76, .iadd, 0, [], false), (77, .putfield 25, 0, [(4, 0), (0, 8), (0, 8), (0, 0)], false), (80, .aload_n 0, 0, [], false), (81, .aload_n 0, 0, [], false), (82, .getfield 22, 0, [(3, 0), (0, 8), (0, 8), (0, 0)], false), (85, .invokevirtual 93, 40, [(2, 1)], false), (88, .istore_n 1, 0, [], false), (89, .iload_n 1, 0, [], false), (90, .invokestatic 96, 41, [(1, 1)], false), (93, .ifCond .eq 46, 70, [], false), (96, .aload_n 0, 0, [], false), (97, .iconst 1, 0, [], false), (98, .putfield 19, 0, [(2, 0), (0, 8), (0, 8), (0, 0)], false), (101, .aload_n 0, 0, [], true), (102, .getfield 25, 0, [(4, 0), (0, 8), (0, 8), (0, 0)], false), (105, .aload_n 0, 0, [], false), (106, .getfield 15, 0, [(1, 0), (0, 8), (0, 8), (0, 0)], false), (109, .if_icmp .ge 91, 100, [], false), (112, .aload_n 0, 0, [], false), (113, .aload_n 0, 0, [], false), (114, .getfield 25, 0, [(4, 0), (0, 8), (0, 8), (0, 0)], false), (117, .invokevirtual 93, 40, [(2, 1)], false), (120, .invokestatic 96, 41, [(1, 1)], false), (123, .ifCond .eq 77, 100, [], false), (126, .aload_n 0, 0, [], false), (127, .dup, 0, [], false), (128, .getfield 25, 0, [(4, 0), (0, 8), (0, 8), (0, 0)], false), (131, .iconst 1, 0, [], false), (132, .iadd, 0, [], false), (133, .putfield 25, 0, [(4, 0), (0, 8), (0, 8), (0, 0)], false), (136, .goto (-35), 52, [], false), (139, .iload_n 1, 0, [], false), (140, .bipush 45, 0, [], false), (142, .if_icmp .eq 10, 76, [], false), (145, .iload_n 1, 0, [], false), (146, .invokestatic 100, 42, [(1, 1)], false), (149, .ifCond .eq 46, 97, [], false), (152, .aload_n 0, 0, [], false), (153, .iconst 2, 0, [], false), (154, .putfield 19, 0, [(2, 0), (0, 8), (0, 8), (0, 0)], false), (157, .aload_n 0, 0, [], true), (158, .getfield 25, 0, [(4, 0), (0, 8), (0, 8), (0, 0)], false), (161, .aload_n 0, 0, [], false), (162, .getfield 15, 0, [(1, 0), (0, 8), (0, 8), (0, 0)], false), (165, .if_icmp .ge 35, 100, [], false), (168, .aload_n 0, 0, [], false), (169, .aload_n 0, 0, [], false), (170, .getfield 25, 0, [(4, 0), (0, 8), (0, 8), (0, 0)], false), (173, .invokevirtual 93, 40, [(2, 1)], false), (176, .invokestatic 100, 42, [(1, 1)], false), (179, .ifCond .eq 21, 100, [], false), (182, .aload_n 0, 0, [], false), (183, .dup, 0, [], false), (184, .getfield 25, 0, [(4, 0), (0, 8), (0, 8), (0, 0)], false), (187, .iconst 1, 0, [], false), (188, .iadd, 0, [], false), (189, .putfield 25, 0, [(4, 0), (0, 8), (0, 8), (0, 0)], false), (192, .goto (-35), 79, [], false), (195, .aload_n 0, 0, [], false), (196, .iconst 3, 0, [], false), (197, .putfield 19, 0, [(2, 0), (0, 8), (0, 8), (0, 0)], false), (200, .return_, 0, [], false)]
def zc40 : List mzN := [(0, .iload_n 1, 0, [], false), (1, .ifCond .lt 29, 16, [], false), (4, .iload_n 1, 0, [], false), (5, .aload_n 0, 0, [], false), (6, .getfield 15, 0, [(1, 0), (0, 8), (0, 8), (0, 0)], false), (9, .if_icmp .ge 21, 16, [], false), (12, .iload_n 1, 0, [], false), (13, .aload_n 0, 0, [], false), (14, .getfield 9, 0, [(0, 3), (0, 8), (0, 9), (0, 0)], false), (17, .arraylength, 0, [], false), (18, .if_icmp .ge 12, 16, [], false), (21, .aload_n 0, 0, [], false), (22, .getfield 9, 0, [(0, 3), (0, 8), (0, 9), (0, 0)], false), (25, .iload_n 1, 0, [], false), (26, .caload, 0, [], false), (27, .goto 5, 17, [], false), (30, .bipush 32, 0, [], false), (32, .ireturn, 2, [], false)]
def zc41 : List mzN := [(0, .iload_n 0, 0, [], false), (1, .bipush 97, 0, [], false), (3, .if_icmp .lt 13, 8, [], false), (6, .iload_n 0, 0, [], false), (7, .bipush 122, 0, [], false), (9, .if_icmp .gt 7, 8, [], false), (12, .iconst 1, 0, [], false), (13, .goto 4, 9, [], false), (16, .iconst 0, 0, [], false), (17, .ireturn, 1, [], false)]
def zc42 : List mzN := [(0, .iload_n 0, 0, [], false), (1, .bipush 48, 0, [], false), (3, .if_icmp .lt 13, 8, [], false), (6, .iload_n 0, 0, [], false), (7, .bipush 57, 0, [], false), (9, .if_icmp .gt 7, 8, [], false), (12, .iconst 1, 0, [], false), (13, .goto 4, 9, [], false), (16, .iconst 0, 0, [], false), (17, .ireturn, 1, [], false)]
def zc43 : List mzN := [(0, .iconst 0, 0, [], false), (1, .istore_n 1, 0, [], false), (2, .iload_n 1, 0, [], true), (3, .iconst 5, 0, [], false), (4, .if_icmp .ge 30, 18, [], false), (7, .aload_n 0, 0, [], false), (8, .getfield 19, 0, [(2, 0), (0, 8), (0, 8), (0, 0)], false), (11, .iconst 1, 0, [], false), (12, .if_icmp .ne 22, 18, [], false), (15, .aload_n 0, 0, [], false), (16, .iload_n 1, 0, [], false), (17, .invokestatic 103, 34, [(1, 32)], false), (20, .invokevirtual 106, 44, [(2, 1)], false), (23, .ifCond .eq 5, 16, [], false), (26, .iload_n 1, 0, [], false), (27, .ireturn, 0, [], false), (28, .iinc 1 1, 0, [], false), (31, .goto (-29), 2, [], false), (34, .iconst (-1), 0, [], false), (35, .ireturn, 0, [], false)]
def zc44 : List mzN := [(0, .aload_n 0, 0, [], false), (1, .getfield 25, 0, [(4, 0), (0, 8), (0, 8), (0, 0)], false), (4, .aload_n 0, 0, [], false), (5, .getfield 22, 0, [(3, 0), (0, 8), (0, 8), (0, 0)], false), (8, .isub, 0, [], false), (9, .aload_n 1, 0, [], false), (10, .invokevirtual 77, 179, [(1, 1)], false), (13, .if_icmp .eq 5, 10, [], false), (16, .iconst 0, 0, [], false), (17, .ireturn, 1, [], false), (18, .iconst 0, 0, [], false), (19, .istore_n 2, 0, [], false), (20, .iload_n 2, 0, [], true), (21, .aload_n 1, 0, [], false), (22, .invokevirtual 77, 179, [(1, 1)], false), (25, .if_icmp .ge 29, 30, [], false), (28, .aload_n 0, 0, [], false), (29, .aload_n 0, 0, [], false), (30, .getfield 22, 0, [(3, 0), (0, 8), (0, 8), (0, 0)], false), (33, .iload_n 2, 0, [], false), (34, .iadd, 0, [], false), (35, .invokevirtual 93, 40, [(2, 1)], false), (38, .aload_n 1, 0, [], false), (39, .iload_n 2, 0, [], false), (40, .invokevirtual 85, 180, [(2, 1)], false), (43, .if_icmp .eq 5, 28, [], false), (46, .iconst 0, 0, [], false), (47, .ireturn, 1, [], false), (48, .iinc 2 1, 0, [], false), (51, .goto (-31), 12, [], false), (54, .iconst 1, 0, [], false), (55, .ireturn, 1, [], false)]
def zc45 : List mzN := [(0, .aload_n 0, 0, [], false), (1, .getfield 19, 0, [(2, 0), (0, 8), (0, 8), (0, 0)], false), (4, .iconst 2, 0, [], false), (5, .if_icmp .eq 5, 6, [], false), (8, .iconst 0, 0, [], false), (9, .ireturn, 1, [], false), (10, .aload_n 0, 0, [], false), (11, .aload_n 0, 0, [], false), (12, .getfield 22, 0, [(3, 0), (0, 8), (0, 8), (0, 0)], false), (15, .invokevirtual 93, 40, [(2, 1)], false), (18, .bipush 45, 0, [], false), (20, .if_icmp .ne 12, 17, [], false), (23, .aload_n 0, 0, [], false), (24, .getfield 22, 0, [(3, 0), (0, 8), (0, 8), (0, 0)], false), (27, .iconst 1, 0, [], false), (28, .iadd, 0, [], false), (29, .goto 7, 19, [], false), (32, .aload_n 0, 0, [], false), (33, .getfield 22, 0, [(3, 0), (0, 8), (0, 8), (0, 0)], false), (36, .istore_n 1, 0, [], false), (37, .aload_n 0, 0, [], false), (38, .getfield 25, 0, [(4, 0), (0, 8), (0, 8), (0, 0)], false), (41, .iload_n 1, 0, [], false), (42, .isub, 0, [], false), (43, .istore_n 2, 0, [], false), (44, .iload_n 2, 0, [], false), (45, .iconst 1, 0, [], false), (46, .if_icmp .lt 23, 39, [], false), (49, .iload_n 2, 0, [], false), (50, .iconst 2, 0, [], false), (51, .if_icmp .gt 18, 39, [], false), (54, .iload_n 2, 0, [], false), (55, .iconst 2, 0, [], false), (56, .if_icmp .ne 15, 41, [], false), (59, .aload_n 0, 0, [], false), (60, .iload_n 1, 0, [], false), (61, .invokevirtual 93, 40, [(2, 1)], false), (64, .bipush 48, 0, [], false), (66, .if_icmp .ne 5, 41, [], false), (69, .iconst 0, 0, [], false), (70, .ireturn, 1, [], false), (71, .aload_n 0, 0, [], false), (72, .aload_n 0, 0, [], false), (73, .iload_n 1, 0, [], false), (74, .invokevirtual 93, 40, [(2, 1)], true), (77, .bipush 48, 0, [], false), (79, .isub, 0, [], false), (80, .putfield 28, 0, [(5, 0), (0, 8), (0, 8), (0, 0)], false), (83, .iload_n 2, 0, [], false), (84, .iconst 2, 0, [], false), (85, .if_icmp .ne 25, 65, [], false), (88, .aload_n 0, 0, [], false), (89, .bipush 10, 0, [], false), (91, .aload_n 0, 0, [], false), (92, .getfield 28, 0, [(5, 0), (0, 8), (0, 8), (0, 0)], false), (95, .imul, 0, [], false), (96, .aload_n 0, 0, [], false), (97, .iload_n 1, 0, [], false), (98, .iconst 1, 0, [], false), (99, .iadd, 0, [], false), (100, .invokevirtual 93, 40, [(2, 1)], false), (103, .bipush 48, 0, [], false), (105, .isub, 0, [], false), (106, .iadd, 0, [], false), (107, .putfield 28, 0, [(5, 0), (0, 8), (0, 8), (0, 0)], false), (110, .iload_n 1, 0, [], false), (111, .aload_n 0, 0, [], false), (112, .getfield 22, 0, [(3, 0), (0, 8), (0, 8), (0, 0)], false), (115, .if_icmp .le 12, 74, [], false), (118, .aload_n 0, 0, [], false), (119, .aload_n 0, 0, [], false), (120, .getfield 28, 0, [(5, 0), (0, 8), (0, 8), (0, 0)], false), (123, .ineg, 0, [], false), (124, .putfield 28, 0, [(5, 0), (0, 8), (0, 8), (0, 0)], false), (127, .iconst 1, 0, [], false), (128, .ireturn, 1, [], false)]
def zc46 : List mzN := [(0, .iload_n 1, 0, [], false), (1, .bipush 119, 0, [], false), (3, .if_icmp .ne 27, 15, [], false), (6, .aload_n 0, 0, [], false), (7, .getfield 28, 0, [(5, 0), (0, 8), (0, 8), (0, 0)], false), (10, .bipush (-12), 0, [], false), (12, .if_icmp .lt 16, 13, [], false), (15, .aload_n 0, 0, [], false), (16, .getfield 28, 0, [(5, 0), (0, 8), (0, 8), (0, 0)], false), (19, .bipush 12, 0, [], false), (21, .if_icmp .gt 7, 13, [], false), (24, .iconst 1, 0, [], false), (25, .goto 4, 14, [], false), (28, .iconst 0, 0, [], false), (29, .ireturn, 1, [], false), (30, .aload_n 0, 0, [], false), (31, .aload_n 0, 0, [], false), (32, .getfield 22, 0, [(3, 0), (0, 8), (0, 8), (0, 0)], false), (35, .invokevirtual 93, 40, [(2, 1)], false), (38, .bipush 45, 0, [], false), (40, .if_icmp .ne 5, 23, [], false), (43, .iconst 0, 0, [], false), (44, .ireturn, 1, [], false), (45, .iload_n 1, 0, [], false), (46, .bipush 102, 0, [], false), (48, .if_icmp .ne 31, 40, [], false), (51, .aload_n 2, 0, [], false), (52, .aload_n 0, 0, [], false), (53, .getfield 28, 0, [(5, 0), (0, 8), (0, 8), (0, 0)], false), (56, .invokevirtual 110, 52, [(2, 1)], false), (59, .ifCond .eq 18, 38, [], false), (62, .aload_n 2, 0, [], false), (63, .aload_n 0, 0, [], false), (64, .getfield 28, 0, [(5, 0), (0, 8), (0, 8), (0, 0)], false), (67, .invokevirtual 116, 55, [(2, 1)], false), (70, .ifCond .eq 7, 38, [], false), (73, .iconst 1, 0, [], false), (74, .goto 4, 39, [], false), (77, .iconst 0, 0, [], false), (78, .ireturn, 1, [], false), (79, .aload_n 0, 0, [], false), (80, .getfield 28, 0, [(5, 0), (0, 8), (0, 8), (0, 0)], false), (83, .iload_n 1, 0, [], false), (84, .bipush 118, 0, [], false), (86, .if_icmp .ne 8, 47, [], false), (89, .bipush 15, 0, [], false), (91, .goto 5, 48, [], false), (94, .bipush 12, 0, [], false), (96, .if_icmp .gt 7, 51, [], false), (99, .iconst 1, 0, [], false), (100, .goto 4, 52, [], false), (103, .iconst 0, 0, [], false), (104, .ireturn, 1, [], false)]
def zc47 : List mzN := [(0, .iconst 0, 0, [], false), (1, .istore_n 3, 0, [], false), (2, .iconst 0, 0, [], false), (3, .istore 4, 0, [], false), (5, .iload 4, 0, [], true), (7, .aload_n 0, 0, [], false), (8, .getfield 35, 0, [(7, 0), (0, 8), (0, 8), (0, 0)], false), (11, .if_icmp .ge 44, 30, [], false), (14, .aload_n 0, 0, [], false), (15, .iload 4, 0, [], false), (17, .invokevirtual 119, 48, [(2, 1)], false), (20, .istore 5, 0, [], false), (22, .aload_n 0, 0, [], false), (23, .iload 5, 0, [], false), (25, .iload 4, 0, [], false), (27, .iconst 1, 0, [], false), (28, .iadd, 0, [], false), (29, .aload_n 1, 0, [], false), (30, .aload_n 2, 0, [], false), (31, .invokevirtual 123, 49, [(5, 0)], false), (34, .iload 4, 0, [], false), (36, .iconst 1, 0, [], false), (37, .iload 5, 0, [], false), (39, .invokestatic 73, 35, [(1, 32)], false), (42, .invokevirtual 77, 179, [(1, 1)], false), (45, .iadd, 0, [], false), (46, .iadd, 0, [], false), (47, .istore 4, 0, [], false), (49, .iinc 3 1, 0, [], false), (52, .goto (-47), 4, [], false), (55, .iload_n 3, 0, [], false), (56, .ireturn, 0, [], false)]
def zc48 : List mzN := [(0, .iload_n 1, 0, [], false), (1, .ifCond .lt 21, 12, [], false), (4, .iload_n 1, 0, [], false), (5, .aload_n 0, 0, [], false), (6, .getfield 31, 0, [(0, 3), (0, 8), (0, 10), (0, 0)], false), (9, .arraylength, 0, [], false), (10, .if_icmp .ge 12, 12, [], false), (13, .aload_n 0, 0, [], false), (14, .getfield 31, 0, [(0, 3), (0, 8), (0, 10), (0, 0)], false), (17, .iload_n 1, 0, [], false), (18, .iaload, 0, [], false), (19, .goto 4, 13, [], false), (22, .iconst 0, 0, [], false), (23, .ireturn, 0, [], false)]
def zc49 : List mzN := [(0, .aload_n 3, 0, [], false), (1, .getfield 127, 0, [(78, 3), (0, 1), (0, 3), (0, 2)], false), (4, .astore 5, 0, [], false), (6, .aload_n 0, 0, [], false), (7, .iload_n 2, 0, [], false), (8, .invokevirtual 119, 48, [(2, 1)], false), (11, .istore 6, 0, [], false), (13, .aload_n 0, 0, [], false), (14, .iload_n 2, 0, [], false), (15, .iconst 1, 0, [], false), (16, .iadd, 0, [], false), (17, .invokevirtual 119, 48, [(2, 1)], false), (20, .istore 7, 0, [], false), (22, .iload_n 1, 0, [], false), (23, .tableswitch 117 0 3 #[29, 51, 84, 105], 59, [(0, 15), (1, 25), (2, 45), (3, 54)], false), (52, .aload 5, 0, [], false), (54, .iconst 0, 0, [], false), (55, .iconst 0, 0, [], false), (56, .aload 5, 0, [], false), (58, .getfield 131, 0, [(1, 0), (0, 3), (0, 3), (0, 0)], false), (61, .aload 5, 0, [], false), (63, .getfield 136, 0, [(2, 0), (0, 3), (0, 3), (0, 0)], false), (66, .iload 6, 0, [], false), (68, .invokevirtual 139, 22, [(6, 0)], false), (71, .goto 80, 64, [], false), (74, .aload 5, 0, [], false), (76, .iload 6, 0, [], false), (78, .iload 7, 0, [], false), (80, .aload_n 0, 0, [], false), (81, .iload_n 2, 0, [], false), (82, .iconst 2, 0, [], false), (83, .iadd, 0, [], false), (84, .invokevirtual 119, 48, [(2, 1)], false), (87, .aload_n 0, 0, [], false), (88, .iload_n 2, 0, [], false), (89, .iconst 3, 0, [], false), (90, .iadd, 0, [], false), (91, .invokevirtual 119, 48, [(2, 1)], false), (94, .aload_n 0, 0, [], false), (95, .iload_n 2, 0, [], false), (96, .iconst 4, 0, [], false), (97, .iadd, 0, [], false), (98, .invokevirtual 119, 48, [(2, 1)], false), (101, .invokevirtual 139, 22, [(6, 0)], false), (104, .goto 47, 64, [], false), (107, .aload 4, 0, [], false), (109, .aload 5, 0, [], false), (111, .invokevirtual 143, 9, [(2, 0)], false), (114, .aload 5, 0, [], false), (116, .aload 4, 0, [], false), (118, .iload 6, 0, [], false), (120, .iload 7, 0, [], false), (122, .invokevirtual 147, 23, [(4, 0)], false), (125, .goto 26, 64, [], false), (128, .aload 5, 0, [], false), (130, .iload 6, 0, [], false), (132, .iload 7, 0, [], false), (134, .invokevirtual 151, 24, [(3, 0)], false), (137, .goto 14, 64, [], false), (140, .aload 5, 0, [], false), (142, .aload_n 3, 0, [], false), (143, .iload 6, 0, [], false), (145, .invokevirtual 155, 54, [(2, 5)], false), (148, .invokevirtual 143, 9, [(2, 0)], false), (151, .return_, 0, [], false)]
def zc50 : List mzN := [(0, .aload_n 0, 0, [], false), (1, .getfield 12, 0, [(78, 3), (0, 1), (0, 3), (0, 2)], false), (4, .aload_n 1, 0, [], false), (5, .getfield 12, 0, [(78, 3), (0, 1), (0, 3), (0, 2)], false), (8, .invokevirtual 42, 9, [(2, 0)], false), (11, .aload_n 0, 0, [], false), (12, .aload_n 1, 0, [], false), (13, .getfield 29, 0, [(3, 0), (0, 1), (0, 1), (0, 0)], false), (16, .putfield 29, 0, [(3, 0), (0, 1), (0, 1), (0, 0)], false), (19, .aload_n 0, 0, [], false), (20, .aload_n 1, 0, [], false), (21, .getfield 33, 0, [(4, 0), (0, 1), (0, 1), (0, 0)], false), (24, .putfield 33, 0, [(4, 0), (0, 1), (0, 1), (0, 0)], false), (27, .aload_n 0, 0, [], false), (28, .aload_n 1, 0, [], false), (29, .getfield 36, 0, [(5, 0), (0, 1), (0, 1), (0, 0)], false), (32, .putfield 36, 0, [(5, 0), (0, 1), (0, 1), (0, 0)], false), (35, .aload_n 0, 0, [], false), (36, .aload_n 1, 0, [], false), (37, .getfield 39, 0, [(6, 0), (0, 1), (0, 1), (0, 0)], false), (40, .putfield 39, 0, [(6, 0), (0, 1), (0, 1), (0, 0)], false), (43, .iconst 0, 0, [], false), (44, .istore_n 2, 0, [], false), (45, .iload_n 2, 0, [], true), (46, .aload_n 0, 0, [], false), (47, .getfield 29, 0, [(3, 0), (0, 1), (0, 1), (0, 0)], false), (50, .if_icmp .ge 22, 36, [], false), (53, .aload_n 0, 0, [], false), (54, .iload_n 2, 0, [], false), (55, .invokevirtual 46, 51, [(2, 4)], false), (58, .aload_n 1, 0, [], false), (59, .iload_n 2, 0, [], false), (60, .invokevirtual 46, 51, [(2, 4)], false), (63, .invokevirtual 50, 4, [(2, 0)], false), (66, .iinc 2 1, 0, [], false), (69, .goto (-24), 23, [], false), (72, .return_, 0, [], false)]
def zc51 : List mzN := [(0, .iload_n 1, 0, [], false), (1, .ifCond .lt 21, 12, [], false), (4, .iload_n 1, 0, [], false), (5, .aload_n 0, 0, [], false), (6, .getfield 20, 0, [(0, 3), (0, 1), (0, 6), (0, 1)], false), (9, .arraylength, 0, [], false), (10, .if_icmp .ge 12, 12, [], false), (13, .aload_n 0, 0, [], false), (14, .getfield 20, 0, [(0, 3), (0, 1), (0, 6), (0, 1)], false), (17, .iload_n 1, 0, [], false), (18, .aaload, 0, [], false), (19, .goto 7, 14, [], false), (22, .aload_n 0, 0, [], false), (23, .getfield 25, 0, [(0, 3), (0, 1), (0, 2), (0, 3)], false), (26, .areturn, 0, [], false)]
def zc52 : List mzN := [(0, .iload_n 1, 0, [], false), (1, .ifCond .lt 15, 8, [], false), (4, .iload_n 1, 0, [], false), (5, .aload_n 0, 0, [], false), (6, .getfield 29, 0, [(3, 0), (0, 1), (0, 1), (0, 0)], false), (9, .if_icmp .ge 7, 8, [], false), (12, .iconst 1, 0, [], false), (13, .goto 4, 9, [], false), (16, .iconst 0, 0, [], false), (17, .ireturn, 1, [], false)]
def zc53 : List mzN := [(0, .iload_n 1, 0, [], false), (1, .iconst (-1), 0, [], false), (2, .if_icmp .eq 11, 7, [], false), (5, .aload_n 0, 0, [], false), (6, .iload_n 1, 0, [], false), (7, .invokevirtual 53, 52, [(2, 1)], false), (10, .ifCond .eq 7, 9, [], false), (13, .iconst 1, 0, [], false), (14, .goto 4, 10, [], false), (17, .iconst 0, 0, [], false), (18, .ireturn, 1, [], false)]
def zc54 : List mzN := [(0, .iload_n 1, 0, [], false), (1, .iconst (-1), 0, [], false), (2, .if_icmp .ne 10, 6, [], false), (5, .aload_n 0, 0, [], false), (6, .getfield 12, 0, [(78, 3), (0, 1), (0, 3), (0, 2)], false), (9, .goto 11, 10, [], false), (12, .aload_n 0, 0, [], false), (13, .iload_n 1, 0, [], false), (14, .invokevirtual 46, 51, [(2, 4)], false), (17, .getfield 57, 0, [(0, 3), (0, 2), (0, 3), (0, 1)], false), (20, .areturn, 0, [], false)]
def zc55 : List mzN := [(0, .iload_n 1, 0, [], false), (1, .istore_n 2, 0, [], false), (2, .iconst 0, 0, [], false), (3, .istore_n 3, 0, [], false), (4, .iload_n 3, 0, [], true), (5, .bipush 10, 0, [], false), (7, .if_icmp .ge 35, 23, [], false), (10, .iload_n 2, 0, [], false), (11, .ifCond .lt 31, 23, [], false), (14, .aload_n 0, 0, [], false), (15, .iload_n 2, 0, [], false), (16, .invokevirtual 46, 51, [(2, 4)], false), (19, .getfield 60, 0, [(4, 1), (0, 2), (0, 2), (0, 0)], false), (22, .ifCond .eq 5, 16, [], false), (25, .iconst 0, 0, [], false), (26, .ireturn, 1, [], false), (27, .aload_n 0, 0, [], false), (28, .iload_n 2, 0, [], false), (29, .invokevirtual 46, 51, [(2, 4)], false), (32, .getfield 64, 0, [(2, 0), (0, 2), (0, 2), (0, 0)], false), (35, .istore_n 2, 0, [], false), (36, .iinc 3 1, 0, [], false), (39, .goto (-35), 4, [], false), (42, .iconst 1, 0, [], false), (43, .ireturn, 1, [], false)]
def zc56 : List mzN := [(0, .aload_n 0, 0, [], false), (1, .iload_n 1, 0, [], false), (2, .invokevirtual 67, 55, [(2, 1)], false), (5, .ifCond .eq 19, 12, [], false), (8, .aload_n 0, 0, [], false), (9, .iload_n 1, 0, [], false), (10, .invokevirtual 70, 57, [(2, 1)], false), (13, .aload_n 0, 0, [], false), (14, .getfield 36, 0, [(5, 0), (0, 1), (0, 1), (0, 0)], false), (17, .if_icmp .ge 7, 12, [], false), (20, .iconst 1, 0, [], false), (21, .goto 4, 13, [], false), (24, .iconst 0, 0, [], false), (25, .ireturn, 1, [], false)]
def zc57 : List mzN := [(0, .iconst 0, 0, [], false), (1, .istore_n 2, 0, [], false), (2, .aload_n 0, 0, [], false), (3, .iload_n 1, 0, [], false), (4, .invokevirtual 46, 51, [(2, 4)], false), (7, .getfield 64, 0, [(2, 0), (0, 2), (0, 2), (0, 0)], false), (10, .istore_n 3, 0, [], false), (11, .iconst 0, 0, [], false), (12, .istore 4, 0, [], false), (14, .iload 4, 0, [], true), (16, .bipush 10, 0, [], false), (18, .if_icmp .ge 25, 22, [], false), (21, .iload_n 3, 0, [], false), (22, .ifCond .lt 21, 22, [], false), (25, .iinc 2 1, 0, [], false), (28, .aload_n 0, 0, [], false), (29, .iload_n 3, 0, [], false), (30, .invokevirtual 46, 51, [(2, 4)], false), (33, .getfield 64, 0, [(2, 0), (0, 2), (0, 2), (0, 0)], false), (36, .istore_n 3, 0, [], false), (37, .iinc 4 1, 0, [], false), (40, .goto (-26), 9, [], false), (43, .iload_n 2, 0, [], false), (44, .ireturn, 0, [], false)]
def zc58 : List mzN := [(0, .iconst 0, 0, [], false), (1, .istore_n 2, 0, [], false), (2, .iload_n 1, 0, [], false), (3, .istore_n 3, 0, [], false), (4, .iconst 0, 0, [], false), (5, .istore 4, 0, [], false), (7, .iload 4, 0, [], true), (9, .bipush 10, 0, [], false), (11, .if_icmp .ge 33, 25, [], false), (14, .iload_n 3, 0, [], false), (15, .ifCond .lt 29, 25, [], false), (18, .iload_n 2, 0, [], false), (19, .aload_n 0, 0, [], false), (20, .iload_n 3, 0, [], false), (21, .invokevirtual 46, 51, [(2, 4)], false), (24, .getfield 74, 0, [(3, 0), (0, 2), (0, 2), (0, 0)], false), (27, .iadd, 0, [], false), (28, .istore_n 2, 0, [], false), (29, .aload_n 0, 0, [], false), (30, .iload_n 3, 0, [], false), (31, .invokevirtual 46, 51, [(2, 4)], false), (34, .getfield 64, 0, [(2, 0), (0, 2), (0, 2), (0, 0)], false), (37, .istore_n 3, 0, [], false), (38, .iinc 4 1, 0, [], false), (41, .goto (-34), 6, [], false), (44, .iload_n 2, 0, [], false), (45, .ireturn, 0, [], false)]
def zc59 : List mzN := [(0, .iload_n 1, 0, [], false), (1, .istore_n 3, 0, [], false), (2, .iconst 0, 0, [], false), (3, .istore 4, 0, [], false), (5, .iload 4, 0, [], true), (7, .bipush 10, 0, [], false), (9, .if_icmp .ge 29, 21, [], false), (12, .iload_n 3, 0, [], false), (13, .ifCond .lt 25, 21, [], false), (16, .iload_n 3, 0, [], false), (17, .iload_n 2, 0, [], false), (18, .if_icmp .ne 5, 14, [], false), (21, .iconst 1, 0, [], false), (22, .ireturn, 1, [], false), (23, .aload_n 0, 0, [], false), (24, .iload_n 3, 0, [], false), (25, .invokevirtual 46, 51, [(2, 4)], false), (28, .getfield 64, 0, [(2, 0), (0, 2), (0, 2), (0, 0)], false), (31, .istore_n 3, 0, [], false), (32, .iinc 4 1, 0, [], false), (35, .goto (-30), 4, [], false), (38, .iconst 0, 0, [], false), (39, .ireturn, 1, [], false)]
def zc60 : List mzN := [(0, .iconst 0, 0, [], false), (1, .istore_n 1, 0, [], false), (2, .iconst 0, 0, [], false), (3, .istore_n 2, 0, [], false), (4, .iload_n 2, 0, [], true), (5, .aload_n 0, 0, [], false), (6, .getfield 29, 0, [(3, 0), (0, 1), (0, 1), (0, 0)], false), (9, .if_icmp .ge 20, 15, [], false), (12, .aload_n 0, 0, [], false), (13, .iload_n 2, 0, [], false), (14, .invokevirtual 67, 55, [(2, 1)], false), (17, .ifCond .eq 6, 13, [], false), (20, .iinc 1 1, 0, [], false), (23, .iinc 2 1, 0, [], false), (26, .goto (-22), 4, [], false), (29, .iload_n 1, 0, [], false), (30, .ireturn, 0, [], false)]
def zc61 : List mzN := [(0, .iconst 0, 0, [], false), (1, .istore_n 1, 0, [], false), (2, .iconst 0, 0, [], false), (3, .istore_n 2, 0, [], false), (4, .iload_n 2, 0, [], true), (5, .aload_n 0, 0, [], false), (6, .getfield 29, 0, [(3, 0), (0, 1), (0, 1), (0, 0)], false), (9, .if_icmp .ge 20, 17, [], false), (12, .iload_n 1, 0, [], false), (13, .aload_n 0, 0, [], false), (14, .iload_n 2, 0, [], false), (15, .invokevirtual 46, 51, [(2, 4)], false), (18, .getfield 74, 0, [(3, 0), (0, 2), (0, 2), (0, 0)], false), (21, .iadd, 0, [], false), (22, .istore_n 1, 0, [], false), (23, .iinc 2 1, 0, [], false), (26, .goto (-22), 4, [], false), (29, .iload_n 1, 0, [], false), (30, .ireturn, 0, [], false)]
def zc62 : List mzN := [(0, .iload_n 1, 0, [], false), (1, .invokestatic 66, 91, [(1, 1)], false), (4, .ifCond .eq 10, 6, [], false), (7, .iload_n 2, 0, [], false), (8, .invokestatic 66, 91, [(1, 1)], false), (11, .ifCond .ne 5, 8, [], false), (14, .iconst (-1), 0, [], false), (15, .ireturn, 0, [], false), (16, .aload_n 0, 0, [], false), (17, .invokevirtual 70, 92, [(1, 0)], false), (20, .aload_n 0, 0, [], false), (21, .getfield 10, 0, [(0, 3), (0, 0), (0, 1), (0, 0)], false), (24, .iconst 0, 0, [], false), (25, .putfield 73, 0, [(3, 0), (0, 1), (0, 1), (0, 0)], false), (28, .aload_n 0, 0, [], false), (29, .getfield 10, 0, [(0, 3), (0, 0), (0, 1), (0, 0)], false), (32, .getfield 76, 0, [(78, 3), (0, 1), (0, 3), (0, 2)], false), (35, .iload_n 1, 0, [], false), (36, .iload_n 2, 0, [], false), (37, .invokevirtual 79, 8, [(3, 0)], false), (40, .aload_n 0, 0, [], false), (41, .getfield 10, 0, [(0, 3), (0, 0), (0, 1), (0, 0)], false), (44, .getfield 76, 0, [(78, 3), (0, 1), (0, 3), (0, 2)], false), (47, .invokevirtual 83, 14, [(1, 1)], false), (50, .ireturn, 0, [], false)]
def zc63 : List mzN := [(0, .aload_n 0, 0, [], false), (1, .getfield 10, 0, [(0, 3), (0, 0), (0, 1), (0, 0)], false), (4, .getfield 76, 0, [(78, 3), (0, 1), (0, 3), (0, 2)], false), (7, .iload_n 1, 0, [], false), (8, .invokevirtual 87, 10, [(2, 1)], false), (11, .ifCond .eq 13, 11, [], false), (14, .iload_n 2, 0, [], false), (15, .ifCond .lt 9, 11, [], false), (18, .iload_n 2, 0, [], false), (19, .bipush 15, 0, [], false), (21, .if_icmp .le 5, 13, [], false), (24, .iconst (-1), 0, [], false), (25, .ireturn, 0, [], false), (26, .aload_n 0, 0, [], false), (27, .invokevirtual 70, 92, [(1, 0)], false), (30, .aload_n 0, 0, [], false), (31, .getfield 10, 0, [(0, 3), (0, 0), (0, 1), (0, 0)], false), (34, .getfield 76, 0, [(78, 3), (0, 1), (0, 3), (0, 2)], false), (37, .iload_n 1, 0, [], false), (38, .invokevirtual 90, 11, [(2, 1)], false), (41, .istore_n 3, 0, [], false), (42, .aload_n 0, 0, [], false), (43, .getfield 10, 0, [(0, 3), (0, 0), (0, 1), (0, 0)], false), (46, .getfield 76, 0, [(78, 3), (0, 1), (0, 3), (0, 2)], false), (49, .iload_n 1, 0, [], false), (50, .iload_n 2, 0, [], false), (51, .invokevirtual 94, 12, [(3, 0)], false), (54, .iload_n 3, 0, [], false), (55, .ireturn, 0, [], false)]
def zc64 : List mzN := [(0, .aload_n 0, 0, [], false), (1, .getfield 10, 0, [(0, 3), (0, 0), (0, 1), (0, 0)], false), (4, .getfield 76, 0, [(78, 3), (0, 1), (0, 3), (0, 2)], false), (7, .iload_n 1, 0, [], false), (8, .invokevirtual 87, 10, [(2, 1)], false), (11, .ifCond .ne 5, 8, [], false), (14, .iconst (-1), 0, [], false), (15, .ireturn, 0, [], false), (16, .aload_n 0, 0, [], false), (17, .getfield 10, 0, [(0, 3), (0, 0), (0, 1), (0, 0)], false), (20, .getfield 76, 0, [(78, 3), (0, 1), (0, 3), (0, 2)], false), (23, .iload_n 1, 0, [], false), (24, .invokevirtual 90, 11, [(2, 1)], false), (27, .ireturn, 0, [], false)]
def zc65 : List mzN := [(0, .iload_n 1, 0, [], false), (1, .ifCond .lt 10, 5, [], false), (4, .iload_n 1, 0, [], false), (5, .sipush 255, 0, [], false), (8, .if_icmp .le 5, 7, [], false), (11, .iconst (-1), 0, [], false), (12, .ireturn, 0, [], false), (13, .aload_n 0, 0, [], false), (14, .getfield 30, 0, [(0, 3), (0, 0), (0, 8), (0, 0)], false), (17, .getfield 97, 0, [(1, 0), (0, 8), (0, 8), (0, 0)], false), (20, .sipush 160, 0, [], false), (23, .if_icmp .lt 6, 14, [], false), (26, .bipush (-3), 0, [], false), (28, .ireturn, 0, [], false), (29, .aload_n 0, 0, [], false), (30, .getfield 30, 0, [(0, 3), (0, 0), (0, 8), (0, 0)], false), (33, .iload_n 1, 0, [], false), (34, .i2c, 0, [], false), (35, .invokevirtual 100, 33, [(2, 1)], false), (38, .ireturn, 0, [], false)]
def zc66 : List mzN := [(0, .aload_n 0, 0, [], false), (1, .getfield 30, 0, [(0, 3), (0, 0), (0, 8), (0, 0)], false), (4, .getfield 97, 0, [(1, 0), (0, 8), (0, 8), (0, 0)], false), (7, .istore_n 1, 0, [], false), (8, .aload_n 0, 0, [], false), (9, .getfield 30, 0, [(0, 3), (0, 0), (0, 8), (0, 0)], false), (12, .iconst 0, 0, [], false), (13, .putfield 97, 0, [(1, 0), (0, 8), (0, 8), (0, 0)], false), (16, .iload_n 1, 0, [], false), (17, .ireturn, 0, [], false)]
def zc67 : List mzN := [(0, .aload_n 0, 0, [], false), (1, .getfield 30, 0, [(0, 3), (0, 0), (0, 8), (0, 0)], false), (4, .aload_n 0, 0, [], false), (5, .getfield 10, 0, [(0, 3), (0, 0), (0, 1), (0, 0)], false), (8, .invokevirtual 104, 36, [(2, 1)], false), (11, .istore_n 1, 0, [], false), (12, .iload_n 1, 0, [], false), (13, .ifCond .lt 8, 12, [], false), (16, .bipush (-10), 0, [], false), (18, .iload_n 1, 0, [], false), (19, .isub, 0, [], false), (20, .ireturn, 0, [], false), (21, .aload_n 0, 0, [], false), (22, .invokevirtual 70, 92, [(1, 0)], false), (25, .aload_n 0, 0, [], false), (26, .getfield 30, 0, [(0, 3), (0, 0), (0, 8), (0, 0)], false), (29, .aload_n 0, 0, [], false), (30, .getfield 10, 0, [(0, 3), (0, 0), (0, 1), (0, 0)], false), (33, .aload_n 0, 0, [], false), (34, .getfield 58, 0, [(85, 3), (0, 0), (0, 3), (0, 0)], false), (37, .invokevirtual 108, 47, [(3, 1)], false), (40, .istore_n 2, 0, [], false), (41, .aload_n 0, 0, [], false), (42, .getfield 30, 0, [(0, 3), (0, 0), (0, 8), (0, 0)], false), (45, .iconst 0, 0, [], false), (46, .putfield 97, 0, [(1, 0), (0, 8), (0, 8), (0, 0)], false), (49, .iload_n 2, 0, [], false), (50, .ireturn, 0, [], false)]
def zc68 : List mzN := [(0, .aload_n 0, 0, [], false), (1, .getfield 10, 0, [(0, 3), (0, 0), (0, 1), (0, 0)], false), (4, .iload_n 1, 0, [], false), (5, .invokevirtual 112, 53, [(2, 1)], false), (8, .ifCond .eq 18, 12, [], false), (11, .aload_n 0, 0, [], false), (12, .getfield 10, 0, [(0, 3), (0, 0), (0, 1), (0, 0)], false), (15, .getfield 76, 0, [(78, 3), (0, 1), (0, 3), (0, 2)], false), (18, .iload_n 2, 0, [], false), (19, .iload_n 3, 0, [], false), (20, .invokevirtual 115, 18, [(3, 1)], false), (23, .ifCond .ne 5, 14, [], false), (26, .iconst (-1), 0, [], false), (27, .ireturn, 0, [], false), (28, .aload_n 0, 0, [], false), (29, .getfield 10, 0, [(0, 3), (0, 0), (0, 1), (0, 0)], false), (32, .iload_n 1, 0, [], false), (33, .invokevirtual 119, 55, [(2, 1)], false), (36, .ifCond .ne 6, 21, [], false), (39, .bipush (-2), 0, [], false), (41, .ireturn, 0, [], false), (42, .aload_n 0, 0, [], false), (43, .getfield 10, 0, [(0, 3), (0, 0), (0, 1), (0, 0)], false), (46, .iload_n 1, 0, [], false), (47, .invokevirtual 122, 54, [(2, 5)], false), (50, .iload_n 2, 0, [], false), (51, .iload_n 3, 0, [], false), (52, .invokevirtual 126, 19, [(3, 1)], false), (55, .ireturn, 0, [], false)]
def zc69 : List mzN := [(0, .aload_n 0, 0, [], false), (1, .getfield 10, 0, [(0, 3), (0, 0), (0, 1), (0, 0)], false), (4, .getfield 73, 0, [(3, 0), (0, 1), (0, 1), (0, 0)], false), (7, .bipush 10, 0, [], false), (9, .if_icmp .lt 6, 7, [], false), (12, .bipush (-3), 0, [], false), (14, .ireturn, 0, [], false), (15, .aload_n 0, 0, [], false), (16, .iconst (-1), 0, [], false), (17, .invokevirtual 130, 94, [(2, 1)], false), (20, .ireturn, 0, [], false)]
def zc70 : List mzN := [(0, .aload_n 0, 0, [], false), (1, .getfield 10, 0, [(0, 3), (0, 0), (0, 1), (0, 0)], false), (4, .iload_n 1, 0, [], false), (5, .invokevirtual 133, 52, [(2, 1)], false), (8, .ifCond .ne 5, 7, [], false), (11, .iconst (-1), 0, [], false), (12, .ireturn, 0, [], false), (13, .aload_n 0, 0, [], false), (14, .getfield 10, 0, [(0, 3), (0, 0), (0, 1), (0, 0)], false), (17, .iload_n 1, 0, [], false), (18, .invokevirtual 136, 56, [(2, 1)], false), (21, .ifCond .ne 6, 14, [], false), (24, .bipush (-2), 0, [], false), (26, .ireturn, 0, [], false), (27, .aload_n 0, 0, [], false), (28, .getfield 10, 0, [(0, 3), (0, 0), (0, 1), (0, 0)], false), (31, .getfield 73, 0, [(3, 0), (0, 1), (0, 1), (0, 0)], false), (34, .bipush 10, 0, [], false), (36, .if_icmp .lt 6, 21, [], false), (39, .bipush (-3), 0, [], false), (41, .ireturn, 0, [], false), (42, .aload_n 0, 0, [], false), (43, .iload_n 1, 0, [], false), (44, .invokevirtual 130, 94, [(2, 1)], false), (47, .ireturn, 0, [], false)]
def zc71 : List mzN := [(0, .aload_n 0, 0, [], false), (1, .getfield 10, 0, [(0, 3), (0, 0), (0, 1), (0, 0)], false), (4, .getfield 73, 0, [(3, 0), (0, 1), (0, 1), (0, 0)], false), (7, .bipush 10, 0, [], false), (9, .if_icmp .lt 6, 7, [], false), (12, .bipush (-3), 0, [], false), (14, .ireturn, 0, [], false), (15, .aload_n 0, 0, [], false), (16, .aload_n 0, 0, [], false), (17, .invokevirtual 139, 96, [(1, 1)], false), (20, .invokevirtual 130, 94, [(2, 1)], false), (23, .ireturn, 0, [], false)]
def zc72 : List mzN := [(0, .aload_n 0, 0, [], false), (1, .getfield 10, 0, [(0, 3), (0, 0), (0, 1), (0, 0)], false), (4, .getfield 73, 0, [(3, 0), (0, 1), (0, 1), (0, 0)], false), (7, .iconst 1, 0, [], false), (8, .if_icmp .ge 6, 7, [], false), (11, .bipush (-2), 0, [], false), (13, .ireturn, 0, [], false), (14, .aload_n 0, 0, [], false), (15, .invokevirtual 70, 92, [(1, 0)], false), (18, .aload_n 0, 0, [], false), (19, .getfield 10, 0, [(0, 3), (0, 0), (0, 1), (0, 0)], false), (22, .dup, 0, [], false), (23, .getfield 73, 0, [(3, 0), (0, 1), (0, 1), (0, 0)], false), (26, .iconst 1, 0, [], false), (27, .isub, 0, [], false), (28, .putfield 73, 0, [(3, 0), (0, 1), (0, 1), (0, 0)], false), (31, .aload_n 0, 0, [], false), (32, .getfield 10, 0, [(0, 3), (0, 0), (0, 1), (0, 0)], false), (35, .getfield 73, 0, [(3, 0), (0, 1), (0, 1), (0, 0)], false), (38, .ireturn, 0, [], false)]
def zc73 : List mzN := [(0, .aload_n 0, 0, [], false), (1, .getfield 10, 0, [(0, 3), (0, 0), (0, 1), (0, 0)], false), (4, .getfield 73, 0, [(3, 0), (0, 1), (0, 1), (0, 0)], false), (7, .iconst 1, 0, [], false), (8, .if_icmp .ge 6, 7, [], false), (11, .bipush (-2), 0, [], false), (13, .ireturn, 0, [], false), (14, .aload_n 0, 0, [], false), (15, .invokevirtual 70, 92, [(1, 0)], false), (18, .aload_n 0, 0, [], false), (19, .getfield 44, 0, [(0, 3), (0, 0), (0, 15), (0, 0)], false), (22, .aload_n 0, 0, [], false), (23, .getfield 10, 0, [(0, 3), (0, 0), (0, 1), (0, 0)], false), (26, .aload_n 0, 0, [], false), (27, .getfield 37, 0, [(0, 3), (0, 0), (0, 11), (0, 0)], false), (30, .aload_n 0, 0, [], false), (31, .getfield 51, 0, [(77, 3), (0, 0), (0, 2), (0, 0)], false), (34, .invokevirtual 142, 25, [(4, 0)], false), (37, .iconst 0, 0, [], false), (38, .istore_n 1, 0, [], false), (39, .iload_n 1, 0, [], true), (40, .aload_n 0, 0, [], false), (41, .getfield 10, 0, [(0, 3), (0, 0), (0, 1), (0, 0)], false), (44, .getfield 73, 0, [(3, 0), (0, 1), (0, 1), (0, 0)], false), (47, .if_icmp .ge 36, 40, [], false), (50, .aload_n 0, 0, [], false), (51, .getfield 37, 0, [(0, 3), (0, 0), (0, 11), (0, 0)], false), (54, .aload_n 0, 0, [], false), (55, .getfield 10, 0, [(0, 3), (0, 0), (0, 1), (0, 0)], false), (58, .iload_n 1, 0, [], false), (59, .invokevirtual 146, 51, [(2, 4)], false), (62, .aload_n 0, 0, [], false), (63, .getfield 10, 0, [(0, 3), (0, 0), (0, 1), (0, 0)], false), (66, .aload_n 0, 0, [], false), (67, .getfield 44, 0, [(0, 3), (0, 0), (0, 15), (0, 0)], false), (70, .iload_n 1, 0, [], false), (71, .invokevirtual 150, 28, [(2, 1)], false), (74, .invokevirtual 153, 0, [(4, 0)], false), (77, .iinc 1 1, 0, [], false), (80, .goto (-41), 20, [], false), (83, .aload_n 0, 0, [], false), (84, .getfield 44, 0, [(0, 3), (0, 0), (0, 15), (0, 0)], false), (87, .getfield 157, 0, [(2, 0), (0, 15), (0, 15), (0, 0)], false), (90, .ireturn, 0, [], false)]
def zc74 : List mzN := [(0, .iload_n 1, 0, [], false), (1, .ifCond .lt 18, 10, [], false), (4, .iload_n 1, 0, [], false), (5, .iconst 4, 0, [], false), (6, .if_icmp .gt 13, 10, [], false), (9, .iload_n 2, 0, [], false), (10, .ifCond .lt 9, 10, [], false), (13, .iload_n 2, 0, [], false), (14, .bipush 9, 0, [], false), (16, .if_icmp .le 5, 12, [], false), (19, .iconst (-1), 0, [], false), (20, .ireturn, 0, [], false), (21, .iload_n 3, 0, [], false), (22, .ifCond .lt 9, 17, [], false), (25, .iload_n 3, 0, [], false), (26, .bipush 9, 0, [], false), (28, .if_icmp .le 5, 19, [], false), (31, .iconst (-1), 0, [], false), (32, .ireturn, 0, [], false), (33, .aload_n 0, 0, [], false), (34, .invokevirtual 70, 92, [(1, 0)], false), (37, .aload_n 0, 0, [], false), (38, .getfield 10, 0, [(0, 3), (0, 0), (0, 1), (0, 0)], false), (41, .getfield 160, 0, [(4, 0), (0, 1), (0, 1), (0, 0)], false), (44, .iload_n 1, 0, [], false), (45, .if_icmp .ne 29, 38, [], false), (48, .aload_n 0, 0, [], false), (49, .getfield 10, 0, [(0, 3), (0, 0), (0, 1), (0, 0)], false), (52, .getfield 163, 0, [(5, 0), (0, 1), (0, 1), (0, 0)], false), (55, .iload_n 2, 0, [], false), (56, .if_icmp .ne 18, 38, [], false), (59, .aload_n 0, 0, [], false), (60, .getfield 10, 0, [(0, 3), (0, 0), (0, 1), (0, 0)], false), (63, .getfield 166, 0, [(6, 0), (0, 1), (0, 1), (0, 0)], false), (66, .iload_n 3, 0, [], false), (67, .if_icmp .ne 7, 38, [], false), (70, .iconst 1, 0, [], false), (71, .goto 4, 39, [], false), (74, .iconst 0, 0, [], false), (75, .istore 4, 0, [], false), (77, .aload_n 0, 0, [], false), (78, .getfield 10, 0, [(0, 3), (0, 0), (0, 1), (0, 0)], false), (81, .iload_n 1, 0, [], false), (82, .putfield 160, 0, [(4, 0), (0, 1), (0, 1), (0, 0)], false), (85, .aload_n 0, 0, [], false), (86, .getfield 10, 0, [(0, 3), (0, 0), (0, 1), (0, 0)], false), (89, .iload_n 2, 0, [], false), (90, .putfield 163, 0, [(5, 0), (0, 1), (0, 1), (0, 0)], false), (93, .aload_n 0, 0, [], false), (94, .getfield 10, 0, [(0, 3), (0, 0), (0, 1), (0, 0)], false), (97, .iload_n 3, 0, [], false), (98, .putfield 166, 0, [(6, 0), (0, 1), (0, 1), (0, 0)], false), (101, .iload 4, 0, [], false), (103, .ifCond .eq 7, 56, [], false), (106, .iconst 0, 0, [], false), (107, .goto 4, 57, [], false), (110, .iconst 1, 0, [], false), (111, .ireturn, 0, [], false)]
def zc75 : List mzN := [(0, .aload_n 0, 0, [], false), (1, .getfield 10, 0, [(0, 3), (0, 0), (0, 1), (0, 0)], false), (4, .iload_n 1, 0, [], false), (5, .invokevirtual 133, 52, [(2, 1)], false), (8, .ifCond .eq 12, 10, [], false), (11, .iload_n 2, 0, [], false), (12, .ifCond .lt 8, 10, [], false), (15, .iload_n 2, 0, [], false), (16, .iconst 1, 0, [], false), (17, .if_icmp .le 5, 12, [], false), (20, .iconst (-1), 0, [], false), (21, .ireturn, 0, [], false), (22, .iload_n 2, 0, [], false), (23, .iconst 1, 0, [], false), (24, .if_icmp .ne 7, 17, [], false), (27, .iconst 1, 0, [], false), (28, .goto 4, 18, [], false), (31, .iconst 0, 0, [], false), (32, .istore_n 3, 0, [], false), (33, .aload_n 0, 0, [], false), (34, .getfield 10, 0, [(0, 3), (0, 0), (0, 1), (0, 0)], false), (37, .iload_n 1, 0, [], false), (38, .invokevirtual 146, 51, [(2, 4)], false), (41, .getfield 169, 0, [(4, 1), (0, 2), (0, 2), (0, 0)], false), (44, .iload_n 3, 0, [], false), (45, .if_icmp .ne 6, 28, [], false), (48, .bipush (-2), 0, [], false), (50, .ireturn, 0, [], false), (51, .aload_n 0, 0, [], false), (52, .invokevirtual 70, 92, [(1, 0)], false), (55, .aload_n 0, 0, [], false), (56, .getfield 10, 0, [(0, 3), (0, 0), (0, 1), (0, 0)], false), (59, .iload_n 1, 0, [], false), (60, .invokevirtual 146, 51, [(2, 4)], false), (63, .iload_n 3, 0, [], false), (64, .putfield 169, 0, [(4, 1), (0, 2), (0, 2), (0, 0)], false), (67, .aload_n 0, 0, [], false), (68, .getfield 10, 0, [(0, 3), (0, 0), (0, 1), (0, 0)], false), (71, .invokevirtual 173, 60, [(1, 1)], false), (74, .ireturn, 0, [], false)]
def zc76 : List mzN := [(0, .aload_n 0, 0, [], false), (1, .getfield 10, 0, [(0, 3), (0, 0), (0, 1), (0, 0)], false), (4, .iload_n 1, 0, [], false), (5, .invokevirtual 133, 52, [(2, 1)], false), (8, .ifCond .ne 5, 7, [], false), (11, .iconst (-1), 0, [], false), (12, .ireturn, 0, [], false), (13, .aload_n 0, 0, [], false), (14, .getfield 10, 0, [(0, 3), (0, 0), (0, 1), (0, 0)], false), (17, .iload_n 1, 0, [], false), (18, .invokevirtual 146, 51, [(2, 4)], false), (21, .astore_n 3, 0, [], false), (22, .iload_n 2, 0, [], false), (23, .tableswitch 131 0 8 #[49, 67, 72, 81, 90, 107, 113, 119, 125], 61, [(0, 14), (1, 23), (2, 26), (3, 31), (4, 36), (5, 45), (6, 49), (7, 53), (8, 57)], false), (72, .aload_n 3, 0, [], false), (73, .getfield 176, 0, [(2, 0), (0, 2), (0, 2), (0, 0)], false), (76, .iconst (-1), 0, [], false), (77, .if_icmp .ne 8, 20, [], false), (80, .bipush (-9), 0, [], false), (82, .goto 7, 22, [], false), (85, .aload_n 3, 0, [], false), (86, .getfield 176, 0, [(2, 0), (0, 2), (0, 2), (0, 0)], false), (89, .ireturn, 0, [], false), (90, .aload_n 3, 0, [], false), (91, .getfield 179, 0, [(3, 0), (0, 2), (0, 2), (0, 0)], false), (94, .ireturn, 0, [], false), (95, .aload_n 0, 0, [], false), (96, .getfield 10, 0, [(0, 3), (0, 0), (0, 1), (0, 0)], false), (99, .iload_n 1, 0, [], false), (100, .invokevirtual 180, 58, [(2, 1)], false), (103, .ireturn, 0, [], false), (104, .aload_n 0, 0, [], false), (105, .getfield 10, 0, [(0, 3), (0, 0), (0, 1), (0, 0)], false), (108, .iload_n 1, 0, [], false), (109, .invokevirtual 183, 57, [(2, 1)], false), (112, .ireturn, 0, [], false), (113, .aload_n 0, 0, [], false), (114, .getfield 10, 0, [(0, 3), (0, 0), (0, 1), (0, 0)], false), (117, .iload_n 1, 0, [], false), (118, .invokevirtual 119, 55, [(2, 1)], false), (121, .ifCond .eq 7, 43, [], false), (124, .iconst 1, 0, [], false), (125, .goto 4, 44, [], false), (128, .iconst 0, 0, [], false), (129, .ireturn, 0, [], false), (130, .aload_n 3, 0, [], false), (131, .iconst 0, 0, [], false), (132, .invokevirtual 186, 7, [(2, 1)], false), (135, .ireturn, 0, [], false), (136, .aload_n 3, 0, [], false), (137, .iconst 1, 0, [], false), (138, .invokevirtual 186, 7, [(2, 1)], false), (141, .ireturn, 0, [], false), (142, .aload_n 3, 0, [], false), (143, .iconst 2, 0, [], false), (144, .invokevirtual 186, 7, [(2, 1)], false), (147, .ireturn, 0, [], false), (148, .aload_n 3, 0, [], false), (149, .iconst 3, 0, [], false), (150, .invokevirtual 186, 7, [(2, 1)], false), (153, .ireturn, 0, [], false), (154, .iconst (-1), 0, [], false), (155, .ireturn, 0, [], false)]
def zc77 : List mzN := [(0, .aload_n 0, 0, [], false), (1, .getfield 10, 0, [(0, 3), (0, 0), (0, 1), (0, 0)], false), (4, .iload_n 1, 0, [], false), (5, .invokevirtual 133, 52, [(2, 1)], false), (8, .ifCond .eq 17, 11, [], false), (11, .aload_n 0, 0, [], false), (12, .getfield 10, 0, [(0, 3), (0, 0), (0, 1), (0, 0)], false), (15, .getfield 76, 0, [(78, 3), (0, 1), (0, 3), (0, 2)], false), (18, .iload_n 2, 0, [], false), (19, .invokevirtual 189, 15, [(2, 1)], false), (22, .ifCond .ne 5, 13, [], false), (25, .iconst (-1), 0, [], false), (26, .ireturn, 0, [], false), (27, .iload_n 3, 0, [], false), (28, .ifCond .lt 8, 18, [], false), (31, .iload_n 3, 0, [], false), (32, .iconst 4, 0, [], false), (33, .if_icmp .lt 5, 20, [], false), (36, .iconst (-1), 0, [], false), (37, .ireturn, 0, [], false), (38, .aload_n 0, 0, [], false), (39, .getfield 10, 0, [(0, 3), (0, 0), (0, 1), (0, 0)], false), (42, .iload_n 1, 0, [], false), (43, .invokevirtual 146, 51, [(2, 4)], false), (46, .astore 4, 0, [], false), (48, .aload 4, 0, [], false), (50, .iload_n 2, 0, [], false), (51, .iconst 0, 0, [], false), (52, .invokevirtual 192, 5, [(3, 1)], false), (55, .istore 5, 0, [], false), (57, .iload_n 3, 0, [], false), (58, .iconst 1, 0, [], false), (59, .if_icmp .eq 8, 36, [], false), (62, .iload_n 3, 0, [], false), (63, .iconst 2, 0, [], false), (64, .if_icmp .ne 12, 41, [], false), (67, .iload 5, 0, [], false), (69, .iconst 1, 0, [], false), (70, .if_icmp .eq 6, 41, [], false), (73, .bipush (-9), 0, [], false), (75, .ireturn, 0, [], false), (76, .iload_n 3, 0, [], false), (77, .iconst 3, 0, [], false), (78, .if_icmp .ne 18, 52, [], false), (81, .iload 5, 0, [], false), (83, .iconst 2, 0, [], false), (84, .if_icmp .eq 12, 52, [], false), (87, .iload 5, 0, [], false), (89, .iconst 3, 0, [], false), (90, .if_icmp .eq 6, 52, [], false), (93, .bipush (-9), 0, [], false), (95, .ireturn, 0, [], false), (96, .aload 4, 0, [], false), (98, .iload_n 2, 0, [], false), (99, .iload_n 3, 0, [], false), (100, .invokevirtual 192, 5, [(3, 1)], false), (103, .ireturn, 0, [], false)]
def zc78 : List mzN := [(0, .aload_n 0, 0, [], false), (1, .getfield 10, 0, [(0, 3), (0, 0), (0, 1), (0, 0)], false), (4, .iload_n 1, 0, [], false), (5, .invokevirtual 133, 52, [(2, 1)], false), (8, .ifCond .eq 17, 11, [], false), (11, .aload_n 0, 0, [], false), (12, .getfield 10, 0, [(0, 3), (0, 0), (0, 1), (0, 0)], false), (15, .getfield 76, 0, [(78, 3), (0, 1), (0, 3), (0, 2)], false), (18, .iload_n 2, 0, [], false), (19, .invokevirtual 189, 15, [(2, 1)], false), (22, .ifCond .ne 5, 13, [], false), (25, .iconst (-1), 0, [], false), (26, .ireturn, 0, [], false), (27, .iload_n 3, 0, [], false), (28, .ifCond .lt 14, 20, [], false), (31, .iload 4, 0, [], false), (33, .ifCond .lt 9, 20, [], false), (36, .iload 4, 0, [], false), (38, .iconst 1, 0, [], false), (39, .if_icmp .le 5, 22, [], false), (42, .iconst (-1), 0, [], false), (43, .ireturn, 0, [], false), (44, .aload_n 0, 0, [], false), (45, .getfield 10, 0, [(0, 3), (0, 0), (0, 1), (0, 0)], false), (48, .iload_n 1, 0, [], false), (49, .invokevirtual 146, 51, [(2, 4)], false), (52, .astore 5, 0, [], false), (54, .aload 5, 0, [], false), (56, .iload_n 2, 0, [], false), (57, .iconst 0, 0, [], false), (58, .invokevirtual 192, 5, [(3, 1)], false), (61, .istore 6, 0, [], false), (63, .iload 6, 0, [], false), (65, .iconst 2, 0, [], false), (66, .if_icmp .eq 12, 40, [], false), (69, .iload 6, 0, [], false), (71, .iconst 3, 0, [], false), (72, .if_icmp .eq 6, 40, [], false), (75, .bipush (-9), 0, [], false), (77, .ireturn, 0, [], false), (78, .iload 6, 0, [], false), (80, .iconst 2, 0, [], false), (81, .if_icmp .ne 21, 50, [], false), (84, .aload_n 0, 0, [], false), (85, .getfield 10, 0, [(0, 3), (0, 0), (0, 1), (0, 0)], false), (88, .aload 5, 0, [], false), (90, .getfield 176, 0, [(2, 0), (0, 2), (0, 2), (0, 0)], false), (93, .invokevirtual 146, 51, [(2, 4)], false), (96, .getfield 195, 0, [(0, 3), (0, 2), (0, 3), (0, 1)], false), (99, .goto 4, 51, [], false), (102, .aconst_null, 0, [], false), (103, .astore 7, 0, [], false), (105, .aload_n 0, 0, [], false), (106, .getfield 37, 0, [(0, 3), (0, 0), (0, 11), (0, 0)], false), (109, .getfield 198, 0, [(0, 3), (0, 11), (0, 12), (0, 0)], false), (112, .astore 8, 0, [], false), (114, .aload 8, 0, [], false), (116, .aload 5, 0, [], false), (118, .getfield 195, 0, [(0, 3), (0, 2), (0, 3), (0, 1)], false), (121, .aload 7, 0, [], false), (123, .iload_n 2, 0, [], false), (124, .invokevirtual 202, 29, [(4, 0)], false), (127, .iload_n 3, 0, [], false), (128, .aload 8, 0, [], false), (130, .getfield 208, 0, [(2, 0), (0, 12), (0, 12), (0, 0)], false), (133, .if_icmp .lt 6, 68, [], false), (136, .bipush (-9), 0, [], false), (138, .ireturn, 0, [], false), (139, .iload 4, 0, [], false), (141, .ifCond .ne 12, 74, [], false), (144, .aload 8, 0, [], false), (146, .iload_n 3, 0, [], false), (147, .invokevirtual 211, 31, [(2, 1)], false), (150, .goto 9, 77, [], false), (153, .aload 8, 0, [], false), (155, .iload_n 3, 0, [], false), (156, .invokevirtual 214, 32, [(2, 1)], false), (159, .ireturn, 0, [], false)]
def zc79 : List mzN := [(0, .aload_n 0, 0, [], false), (1, .getfield 10, 0, [(0, 3), (0, 0), (0, 1), (0, 0)], false), (4, .iload_n 1, 0, [], false), (5, .invokevirtual 133, 52, [(2, 1)], false), (8, .ifCond .eq 17, 11, [], false), (11, .aload_n 0, 0, [], false), (12, .getfield 10, 0, [(0, 3), (0, 0), (0, 1), (0, 0)], false), (15, .getfield 76, 0, [(78, 3), (0, 1), (0, 3), (0, 2)], false), (18, .iload_n 2, 0, [], false), (19, .invokevirtual 87, 10, [(2, 1)], false), (22, .ifCond .ne 5, 13, [], false), (25, .iconst (-1), 0, [], false), (26, .ireturn, 0, [], false), (27, .aload_n 0, 0, [], false), (28, .getfield 10, 0, [(0, 3), (0, 0), (0, 1), (0, 0)], false), (31, .iload_n 1, 0, [], false), (32, .invokevirtual 119, 55, [(2, 1)], false), (35, .ifCond .ne 6, 20, [], false), (38, .bipush (-2), 0, [], false), (40, .ireturn, 0, [], false), (41, .aload_n 0, 0, [], false), (42, .getfield 10, 0, [(0, 3), (0, 0), (0, 1), (0, 0)], false), (45, .iload_n 1, 0, [], false), (46, .invokevirtual 122, 54, [(2, 5)], false), (49, .iload_n 2, 0, [], false), (50, .invokevirtual 90, 11, [(2, 1)], false), (53, .ireturn, 0, [], false)]
def zc80 : List mzN := [(0, .iload_n 1, 0, [], false), (1, .tableswitch 138 0 9 #[55, 66, 77, 85, 93, 101, 109, 117, 125, 133], 43, [(0, 2), (1, 7), (2, 12), (3, 16), (4, 20), (5, 24), (6, 28), (7, 32), (8, 36), (9, 40)], false), (56, .aload_n 0, 0, [], false), (57, .getfield 10, 0, [(0, 3), (0, 0), (0, 1), (0, 0)], false), (60, .getfield 76, 0, [(78, 3), (0, 1), (0, 3), (0, 2)], false), (63, .getfield 217, 0, [(1, 0), (0, 3), (0, 3), (0, 0)], false), (66, .ireturn, 0, [], false), (67, .aload_n 0, 0, [], false), (68, .getfield 10, 0, [(0, 3), (0, 0), (0, 1), (0, 0)], false), (71, .getfield 76, 0, [(78, 3), (0, 1), (0, 3), (0, 2)], false), (74, .getfield 220, 0, [(2, 0), (0, 3), (0, 3), (0, 0)], false), (77, .ireturn, 0, [], false), (78, .aload_n 0, 0, [], false), (79, .getfield 10, 0, [(0, 3), (0, 0), (0, 1), (0, 0)], false), (82, .getfield 73, 0, [(3, 0), (0, 1), (0, 1), (0, 0)], false), (85, .ireturn, 0, [], false), (86, .aload_n 0, 0, [], false), (87, .getfield 10, 0, [(0, 3), (0, 0), (0, 1), (0, 0)], false), (90, .getfield 160, 0, [(4, 0), (0, 1), (0, 1), (0, 0)], false), (93, .ireturn, 0, [], false), (94, .aload_n 0, 0, [], false), (95, .getfield 10, 0, [(0, 3), (0, 0), (0, 1), (0, 0)], false), (98, .getfield 163, 0, [(5, 0), (0, 1), (0, 1), (0, 0)], false), (101, .ireturn, 0, [], false), (102, .aload_n 0, 0, [], false), (103, .getfield 10, 0, [(0, 3), (0, 0), (0, 1), (0, 0)], false), (106, .getfield 166, 0, [(6, 0), (0, 1), (0, 1), (0, 0)], false), (109, .ireturn, 0, [], false), (110, .aload_n 0, 0, [], false), (111, .getfield 10, 0, [(0, 3), (0, 0), (0, 1), (0, 0)], false), (114, .invokevirtual 223, 61, [(1, 1)], false), (117, .ireturn, 0, [], false), (118, .aload_n 0, 0, [], false), (119, .getfield 10, 0, [(0, 3), (0, 0), (0, 1), (0, 0)], false), (122, .invokevirtual 173, 60, [(1, 1)], false), (125, .ireturn, 0, [], false), (126, .aload_n 0, 0, [], false), (127, .getfield 30, 0, [(0, 3), (0, 0), (0, 8), (0, 0)], false), (130, .getfield 97, 0, [(1, 0), (0, 8), (0, 8), (0, 0)], false), (133, .ireturn, 0, [], false), (134, .aload_n 0, 0, [], false), (135, .getfield 24, 0, [(3, 0), (0, 0), (0, 0), (0, 0)], false), (138, .ireturn, 0, [], false), (139, .iconst (-1), 0, [], false), (140, .ireturn, 0, [], false)]
def zc81 : List mzN := [(0, .aload_n 0, 0, [], false), (1, .getfield 10, 0, [(0, 3), (0, 0), (0, 1), (0, 0)], false), (4, .iload_n 1, 0, [], false), (5, .invokevirtual 112, 53, [(2, 1)], false), (8, .ifCond .ne 5, 7, [], false), (11, .iconst (-1), 0, [], false), (12, .ireturn, 0, [], false), (13, .aload_n 0, 0, [], false), (14, .getfield 10, 0, [(0, 3), (0, 0), (0, 1), (0, 0)], false), (17, .iload_n 1, 0, [], false), (18, .invokevirtual 119, 55, [(2, 1)], false), (21, .ifCond .ne 6, 14, [], false), (24, .bipush (-2), 0, [], false), (26, .ireturn, 0, [], false), (27, .aload_n 0, 0, [], false), (28, .iload_n 1, 0, [], false), (29, .invokevirtual 226, 95, [(2, 1)], false), (32, .ireturn, 0, [], false)]
def zc82 : List mzN := [(0, .aload_n 0, 0, [], false), (1, .getfield 10, 0, [(0, 3), (0, 0), (0, 1), (0, 0)], false), (4, .iload_n 1, 0, [], false), (5, .invokevirtual 112, 53, [(2, 1)], false), (8, .ifCond .eq 14, 10, [], false), (11, .aload_n 0, 0, [], false), (12, .getfield 10, 0, [(0, 3), (0, 0), (0, 1), (0, 0)], false), (15, .iload_n 2, 0, [], false), (16, .invokevirtual 112, 53, [(2, 1)], false), (19, .ifCond .ne 5, 12, [], false), (22, .iconst (-1), 0, [], false), (23, .ireturn, 0, [], false), (24, .aload_n 0, 0, [], false), (25, .getfield 10, 0, [(0, 3), (0, 0), (0, 1), (0, 0)], false), (28, .iload_n 1, 0, [], false), (29, .invokevirtual 119, 55, [(2, 1)], false), (32, .ifCond .eq 14, 22, [], false), (35, .aload_n 0, 0, [], false), (36, .getfield 10, 0, [(0, 3), (0, 0), (0, 1), (0, 0)], false), (39, .iload_n 2, 0, [], false), (40, .invokevirtual 119, 55, [(2, 1)], false), (43, .ifCond .ne 6, 24, [], false), (46, .bipush (-2), 0, [], false), (48, .ireturn, 0, [], false), (49, .aload_n 0, 0, [], false), (50, .getfield 10, 0, [(0, 3), (0, 0), (0, 1), (0, 0)], false), (53, .iload_n 1, 0, [], false), (54, .invokevirtual 122, 54, [(2, 5)], false), (57, .aload_n 0, 0, [], false), (58, .getfield 10, 0, [(0, 3), (0, 0), (0, 1), (0, 0)], false), (61, .iload_n 2, 0, [], false), (62, .invokevirtual 122, 54, [(2, 5)], false), (65, .invokevirtual 229, 21, [(2, 1)], false), (68, .ireturn, 0, [], false)]
def zc83 : List mzN := [(0, .aload_n 0, 0, [], false), (1, .getfield 10, 0, [(0, 3), (0, 0), (0, 1), (0, 0)], false), (4, .iload_n 1, 0, [], false), (5, .invokevirtual 133, 52, [(2, 1)], false), (8, .ifCond .eq 17, 11, [], false), (11, .aload_n 0, 0, [], false), (12, .getfield 10, 0, [(0, 3), (0, 0), (0, 1), (0, 0)], false), (15, .getfield 76, 0, [(78, 3), (0, 1), (0, 3), (0, 2)], false), (18, .iload_n 2, 0, [], false), (19, .invokevirtual 189, 15, [(2, 1)], false), (22, .ifCond .ne 5, 13, [], false), (25, .iconst (-1), 0, [], false), (26, .ireturn, 0, [], false), (27, .aload_n 0, 0, [], false), (28, .getfield 10, 0, [(0, 3), (0, 0), (0, 1), (0, 0)], false), (31, .iload_n 1, 0, [], false), (32, .invokevirtual 119, 55, [(2, 1)], false), (35, .ifCond .ne 6, 20, [], false), (38, .bipush (-2), 0, [], false), (40, .ireturn, 0, [], false), (41, .aload_n 0, 0, [], false), (42, .getfield 10, 0, [(0, 3), (0, 0), (0, 1), (0, 0)], false), (45, .iload_n 1, 0, [], false), (46, .invokevirtual 122, 54, [(2, 5)], false), (49, .astore_n 3, 0, [], false), (50, .aload_n 0, 0, [], false), (51, .getfield 10, 0, [(0, 3), (0, 0), (0, 1), (0, 0)], false), (54, .getfield 76, 0, [(78, 3), (0, 1), (0, 3), (0, 2)], false), (57, .iload_n 2, 0, [], false), (58, .invokevirtual 233, 16, [(2, 1)], false), (61, .istore 4, 0, [], false), (63, .aload_n 0, 0, [], false), (64, .getfield 10, 0, [(0, 3), (0, 0), (0, 1), (0, 0)], false), (67, .getfield 76, 0, [(78, 3), (0, 1), (0, 3), (0, 2)], false), (70, .iload_n 2, 0, [], false), (71, .invokevirtual 236, 17, [(2, 1)], false), (74, .istore 5, 0, [], false), (76, .iconst 0, 0, [], false), (77, .istore 6, 0, [], false), (79, .iload 6, 0, [], true), (81, .aload_n 3, 0, [], false), (82, .getfield 220, 0, [(2, 0), (0, 3), (0, 3), (0, 0)], false), (85, .iconst 4, 0, [], false), (86, .isub, 0, [], false), (87, .if_icmp .gt 60, 73, [], false), (90, .iconst 0, 0, [], false), (91, .istore 7, 0, [], false), (93, .iload 7, 0, [], true), (95, .aload_n 3, 0, [], false), (96, .getfield 217, 0, [(1, 0), (0, 3), (0, 3), (0, 0)], false), (99, .iconst 4, 0, [], false), (100, .isub, 0, [], false), (101, .if_icmp .gt 40, 71, [], false), (104, .aload_n 0, 0, [], false), (105, .getfield 10, 0, [(0, 3), (0, 0), (0, 1), (0, 0)], false), (108, .getfield 76, 0, [(78, 3), (0, 1), (0, 3), (0, 2)], false), (111, .iload 4, 0, [], false), (113, .iload 5, 0, [], false), (115, .aload_n 3, 0, [], false), (116, .iload 7, 0, [], false), (118, .iload 6, 0, [], false), (120, .invokevirtual 239, 20, [(6, 1)], false), (123, .ifCond .eq 12, 69, [], false), (126, .bipush 100, 0, [], false), (128, .iload 7, 0, [], false), (130, .imul, 0, [], false), (131, .iload 6, 0, [], false), (133, .iadd, 0, [], false), (134, .ireturn, 0, [], false), (135, .iinc 7 1, 0, [], false), (138, .goto (-45), 47, [], false), (141, .iinc 6 1, 0, [], false), (144, .goto (-65), 39, [], false), (147, .bipush (-9), 0, [], false), (149, .ireturn, 0, [], false)]
def zc84 : List mzN := [(0, .aload_n 0, 0, [], false), (1, .getfield 10, 0, [(0, 3), (0, 0), (0, 1), (0, 0)], false), (4, .iload_n 1, 0, [], false), (5, .invokevirtual 112, 53, [(2, 1)], false), (8, .ifCond .ne 5, 7, [], false), (11, .iconst (-1), 0, [], false), (12, .ireturn, 0, [], false), (13, .aload_n 0, 0, [], false), (14, .getfield 10, 0, [(0, 3), (0, 0), (0, 1), (0, 0)], false), (17, .iload_n 1, 0, [], false), (18, .invokevirtual 119, 55, [(2, 1)], false), (21, .ifCond .ne 6, 14, [], false), (24, .bipush (-2), 0, [], false), (26, .ireturn, 0, [], false), (27, .aload_n 0, 0, [], false), (28, .aload_n 0, 0, [], false), (29, .getfield 10, 0, [(0, 3), (0, 0), (0, 1), (0, 0)], false), (32, .iload_n 1, 0, [], false), (33, .invokevirtual 122, 54, [(2, 5)], false), (36, .invokevirtual 243, 97, [(2, 1)], false), (39, .ireturn, 0, [], false)]
def zc85 : List mzN := [(0, .aload_n 0, 0, [], false), (1, .getfield 10, 0, [(0, 3), (0, 0), (0, 1), (0, 0)], false), (4, .getfield 73, 0, [(3, 0), (0, 1), (0, 1), (0, 0)], false), (7, .iconst 1, 0, [], false), (8, .if_icmp .ge 6, 7, [], false), (11, .bipush (-9), 0, [], false), (13, .ireturn, 0, [], false), (14, .iconst 0, 0, [], false), (15, .istore_n 1, 0, [], false), (16, .iconst 0, 0, [], false), (17, .istore_n 2, 0, [], false), (18, .iload_n 2, 0, [], true), (19, .aload_n 0, 0, [], false), (20, .getfield 10, 0, [(0, 3), (0, 0), (0, 1), (0, 0)], false), (23, .getfield 73, 0, [(3, 0), (0, 1), (0, 1), (0, 0)], false), (26, .if_icmp .ge 22, 25, [], false), (29, .iload_n 1, 0, [], false), (30, .aload_n 0, 0, [], false), (31, .getfield 10, 0, [(0, 3), (0, 0), (0, 1), (0, 0)], false), (34, .iload_n 2, 0, [], false), (35, .invokevirtual 180, 58, [(2, 1)], false), (38, .invokestatic 246, 177, [(2, 1)], false), (41, .istore_n 1, 0, [], false), (42, .iinc 2 1, 0, [], false), (45, .goto (-27), 11, [], false), (48, .iload_n 1, 0, [], false), (49, .ireturn, 0, [], false)]
def zc86 : List mzN := [(0, .aload_n 0, 0, [], false), (1, .getfield 10, 0, [(0, 3), (0, 0), (0, 1), (0, 0)], false), (4, .iload_n 1, 0, [], false), (5, .invokevirtual 133, 52, [(2, 1)], false), (8, .ifCond .ne 5, 7, [], false), (11, .iconst (-1), 0, [], false), (12, .ireturn, 0, [], false), (13, .iconst 0, 0, [], false), (14, .istore_n 2, 0, [], false), (15, .iconst 0, 0, [], false), (16, .istore_n 3, 0, [], false), (17, .iload_n 3, 0, [], true), (18, .aload_n 0, 0, [], false), (19, .getfield 10, 0, [(0, 3), (0, 0), (0, 1), (0, 0)], false), (22, .getfield 73, 0, [(3, 0), (0, 1), (0, 1), (0, 0)], false), (25, .if_icmp .ge 24, 25, [], false), (28, .aload_n 0, 0, [], false), (29, .getfield 10, 0, [(0, 3), (0, 0), (0, 1), (0, 0)], false), (32, .iload_n 3, 0, [], false), (33, .iload_n 1, 0, [], false), (34, .invokevirtual 251, 59, [(3, 1)], false), (37, .ifCond .eq 6, 23, [], false), (40, .iinc 2 1, 0, [], false), (43, .iinc 3 1, 0, [], false), (46, .goto (-29), 11, [], false), (49, .iload_n 2, 0, [], false), (50, .ireturn, 0, [], false)]
def zc87 : List mzN := [(0, .aload_n 0, 0, [], false), (1, .getfield 10, 0, [(0, 3), (0, 0), (0, 1), (0, 0)], false), (4, .iload_n 1, 0, [], false), (5, .invokevirtual 133, 52, [(2, 1)], false), (8, .ifCond .ne 5, 7, [], false), (11, .iconst (-1), 0, [], false), (12, .ireturn, 0, [], false), (13, .aload_n 0, 0, [], false), (14, .getfield 10, 0, [(0, 3), (0, 0), (0, 1), (0, 0)], false), (17, .iload_n 1, 0, [], false), (18, .invokevirtual 146, 51, [(2, 4)], false), (21, .getfield 169, 0, [(4, 1), (0, 2), (0, 2), (0, 0)], false), (24, .ifCond .ne 6, 15, [], false), (27, .bipush (-2), 0, [], false), (29, .ireturn, 0, [], false), (30, .aload_n 0, 0, [], false), (31, .getfield 10, 0, [(0, 3), (0, 0), (0, 1), (0, 0)], false), (34, .iload_n 1, 0, [], false), (35, .invokevirtual 122, 54, [(2, 5)], false), (38, .astore_n 2, 0, [], false), (39, .bipush (-9), 0, [], false), (41, .istore_n 3, 0, [], false), (42, .sipush 145, 0, [], false), (45, .istore 4, 0, [], false), (47, .iconst 0, 0, [], false), (48, .istore 5, 0, [], false), (50, .iload 5, 0, [], true), (52, .aload_n 0, 0, [], false), (53, .getfield 10, 0, [(0, 3), (0, 0), (0, 1), (0, 0)], false), (56, .getfield 73, 0, [(3, 0), (0, 1), (0, 1), (0, 0)], false), (59, .if_icmp .ge 50, 52, [], false), (62, .aload_n 0, 0, [], false), (63, .getfield 10, 0, [(0, 3), (0, 0), (0, 1), (0, 0)], false), (66, .iload 5, 0, [], false), (68, .invokevirtual 119, 55, [(2, 1)], false), (71, .ifCond .eq 32, 50, [], false), (74, .aload_n 2, 0, [], false), (75, .aload_n 0, 0, [], false), (76, .getfield 10, 0, [(0, 3), (0, 0), (0, 1), (0, 0)], false), (79, .iload 5, 0, [], false), (81, .invokevirtual 122, 54, [(2, 5)], false), (84, .invokevirtual 229, 21, [(2, 1)], false), (87, .istore 6, 0, [], false), (89, .iload 6, 0, [], false), (91, .iload 4, 0, [], false), (93, .if_icmp .ge 10, 50, [], false), (96, .iload 6, 0, [], false), (98, .istore 4, 0, [], false), (100, .iload 5, 0, [], false), (102, .istore_n 3, 0, [], false), (103, .iinc 5 1, 0, [], false), (106, .goto (-56), 26, [], false), (109, .iload_n 3, 0, [], false), (110, .ireturn, 0, [], false)]
def zc88 : List mzN := [(0, .aload_n 0, 0, [], false), (1, .getfield 10, 0, [(0, 3), (0, 0), (0, 1), (0, 0)], false), (4, .getfield 73, 0, [(3, 0), (0, 1), (0, 1), (0, 0)], false), (7, .iconst 1, 0, [], false), (8, .if_icmp .ge 6, 7, [], false), (11, .bipush (-9), 0, [], false), (13, .ireturn, 0, [], false), (14, .aload_n 0, 0, [], false), (15, .getfield 44, 0, [(0, 3), (0, 0), (0, 15), (0, 0)], false), (18, .aload_n 0, 0, [], false), (19, .getfield 10, 0, [(0, 3), (0, 0), (0, 1), (0, 0)], false), (22, .aload_n 0, 0, [], false), (23, .getfield 37, 0, [(0, 3), (0, 0), (0, 11), (0, 0)], false), (26, .aload_n 0, 0, [], false), (27, .getfield 51, 0, [(77, 3), (0, 0), (0, 2), (0, 0)], false), (30, .invokevirtual 142, 25, [(4, 0)], false), (33, .aload_n 0, 0, [], false), (34, .getfield 44, 0, [(0, 3), (0, 0), (0, 15), (0, 0)], false), (37, .getfield 157, 0, [(2, 0), (0, 15), (0, 15), (0, 0)], false), (40, .ireturn, 0, [], false)]
def zc89 : List mzN := [(0, .aload_n 0, 0, [], false), (1, .getfield 10, 0, [(0, 3), (0, 0), (0, 1), (0, 0)], false), (4, .getfield 73, 0, [(3, 0), (0, 1), (0, 1), (0, 0)], false), (7, .iconst 1, 0, [], false), (8, .if_icmp .ge 6, 7, [], false), (11, .bipush (-9), 0, [], false), (13, .ireturn, 0, [], false), (14, .aload_n 0, 0, [], false), (15, .getfield 44, 0, [(0, 3), (0, 0), (0, 15), (0, 0)], false), (18, .aload_n 0, 0, [], false), (19, .getfield 10, 0, [(0, 3), (0, 0), (0, 1), (0, 0)], false), (22, .aload_n 0, 0, [], false), (23, .getfield 37, 0, [(0, 3), (0, 0), (0, 11), (0, 0)], false), (26, .aload_n 0, 0, [], false), (27, .getfield 51, 0, [(77, 3), (0, 0), (0, 2), (0, 0)], false), (30, .invokevirtual 142, 25, [(4, 0)], false), (33, .aload_n 0, 0, [], false), (34, .getfield 44, 0, [(0, 3), (0, 0), (0, 15), (0, 0)], false), (37, .getfield 254, 0, [(3, 0), (0, 15), (0, 15), (0, 0)], false), (40, .ireturn, 0, [], false)]
def zc90 : List mzN := [(0, .aload_n 0, 0, [], false), (1, .getfield 24, 0, [(3, 0), (0, 0), (0, 0), (0, 0)], false), (4, .iconst 1, 0, [], false), (5, .if_icmp .ge 6, 6, [], false), (8, .bipush (-2), 0, [], false), (10, .ireturn, 0, [], false), (11, .aload_n 0, 0, [], false), (12, .dup, 0, [], false), (13, .getfield 24, 0, [(3, 0), (0, 0), (0, 0), (0, 0)], false), (16, .iconst 1, 0, [], false), (17, .isub, 0, [], false), (18, .putfield 24, 0, [(3, 0), (0, 0), (0, 0), (0, 0)], false), (21, .aload_n 0, 0, [], false), (22, .getfield 10, 0, [(0, 3), (0, 0), (0, 1), (0, 0)], false), (25, .aload_n 0, 0, [], false), (26, .aload_n 0, 0, [], false), (27, .getfield 24, 0, [(3, 0), (0, 0), (0, 0), (0, 0)], false), (30, .invokevirtual 257, 93, [(2, 3)], false), (33, .invokevirtual 261, 50, [(2, 0)], false), (36, .aload_n 0, 0, [], false), (37, .getfield 24, 0, [(3, 0), (0, 0), (0, 0), (0, 0)], false), (40, .ireturn, 0, [], false)]
def zc91 : List mzN := [(0, .iload_n 0, 0, [], false), (1, .iconst 4, 0, [], false), (2, .if_icmp .eq 15, 9, [], false), (5, .iload_n 0, 0, [], false), (6, .bipush 8, 0, [], false), (8, .if_icmp .eq 9, 9, [], false), (11, .iload_n 0, 0, [], false), (12, .bipush 12, 0, [], false), (14, .if_icmp .ne 7, 11, [], false), (17, .iconst 1, 0, [], false), (18, .goto 4, 12, [], false), (21, .iconst 0, 0, [], false), (22, .ireturn, 1, [], false)]
def zc92 : List mzN := [(0, .aload_n 0, 0, [], false), (1, .aload_n 0, 0, [], false), (2, .getfield 24, 0, [(3, 0), (0, 0), (0, 0), (0, 0)], false), (5, .invokevirtual 257, 93, [(2, 3)], false), (8, .aload_n 0, 0, [], false), (9, .getfield 10, 0, [(0, 3), (0, 0), (0, 1), (0, 0)], false), (12, .invokevirtual 261, 50, [(2, 0)], false), (15, .aload_n 0, 0, [], false), (16, .getfield 24, 0, [(3, 0), (0, 0), (0, 0), (0, 0)], false), (19, .bipush 6, 0, [], false), (21, .if_icmp .ge 16, 18, [], false), (24, .aload_n 0, 0, [], false), (25, .dup, 0, [], false), (26, .getfield 24, 0, [(3, 0), (0, 0), (0, 0), (0, 0)], false), (29, .iconst 1, 0, [], false), (30, .iadd, 0, [], false), (31, .putfield 24, 0, [(3, 0), (0, 0), (0, 0), (0, 0)], false), (34, .goto 16, 26, [], false), (37, .aload_n 0, 0, [], false), (38, .aload_n 0, 0, [], false), (39, .getfield 20, 0, [(2, 0), (0, 0), (0, 0), (0, 0)], false), (42, .iconst 1, 0, [], false), (43, .iadd, 0, [], false), (44, .bipush 6, 0, [], false), (46, .irem, 0, [], false), (47, .putfield 20, 0, [(2, 0), (0, 0), (0, 0), (0, 0)], false), (50, .return_, 0, [], false)]
def zc93 : List mzN := [(0, .aload_n 0, 0, [], false), (1, .getfield 16, 0, [(0, 3), (0, 0), (0, 7), (0, 0)], false), (4, .aload_n 0, 0, [], false), (5, .getfield 20, 0, [(2, 0), (0, 0), (0, 0), (0, 0)], false), (8, .iload_n 1, 0, [], false), (9, .iadd, 0, [], false), (10, .bipush 6, 0, [], false), (12, .invokestatic 265, 175, [(2, 1)], false), (15, .aaload, 0, [], false), (16, .areturn, 0, [], false)]
def zc94 : List mzN := [(0, .aload_n 0, 0, [], false), (1, .invokevirtual 70, 92, [(1, 0)], false), (4, .aload_n 0, 0, [], false), (5, .getfield 10, 0, [(0, 3), (0, 0), (0, 1), (0, 0)], false), (8, .aload_n 0, 0, [], false), (9, .getfield 10, 0, [(0, 3), (0, 0), (0, 1), (0, 0)], false), (12, .getfield 73, 0, [(3, 0), (0, 1), (0, 1), (0, 0)], false), (15, .invokevirtual 146, 51, [(2, 4)], false), (18, .astore_n 2, 0, [], false), (19, .aload_n 2, 0, [], false), (20, .getfield 195, 0, [(0, 3), (0, 2), (0, 3), (0, 1)], false), (23, .aload_n 0, 0, [], false), (24, .getfield 10, 0, [(0, 3), (0, 0), (0, 1), (0, 0)], false), (27, .getfield 76, 0, [(78, 3), (0, 1), (0, 3), (0, 2)], false), (30, .invokevirtual 268, 9, [(2, 0)], false), (33, .aload_n 0, 0, [], false), (34, .getfield 37, 0, [(0, 3), (0, 0), (0, 11), (0, 0)], false), (37, .aload_n 2, 0, [], false), (38, .aload_n 0, 0, [], false), (39, .getfield 10, 0, [(0, 3), (0, 0), (0, 1), (0, 0)], false), (42, .iload_n 1, 0, [], false), (43, .invokevirtual 153, 0, [(4, 0)], false), (46, .aload_n 0, 0, [], false), (47, .getfield 10, 0, [(0, 3), (0, 0), (0, 1), (0, 0)], false), (50, .dup, 0, [], false), (51, .getfield 73, 0, [(3, 0), (0, 1), (0, 1), (0, 0)], false), (54, .iconst 1, 0, [], false), (55, .iadd, 0, [], false), (56, .putfield 73, 0, [(3, 0), (0, 1), (0, 1), (0, 0)], false), (59, .aload_n 2, 0, [], false), (60, .getfield 179, 0, [(3, 0), (0, 2), (0, 2), (0, 0)], false), (63, .ireturn, 0, [], false)]
def zc95 : List mzN := [(0, .aload_n 0, 0, [], false), (1, .getfield 51, 0, [(77, 3), (0, 0), (0, 2), (0, 0)], false), (4, .getfield 195, 0, [(0, 3), (0, 2), (0, 3), (0, 1)], false), (7, .aload_n 0, 0, [], false), (8, .getfield 10, 0, [(0, 3), (0, 0), (0, 1), (0, 0)], false), (11, .getfield 76, 0, [(78, 3), (0, 1), (0, 3), (0, 2)], false), (14, .invokevirtual 268, 9, [(2, 0)], false), (17, .aload_n 0, 0, [], false), (18, .getfield 37, 0, [(0, 3), (0, 0), (0, 11), (0, 0)], false), (21, .aload_n 0, 0, [], false), (22, .getfield 51, 0, [(77, 3), (0, 0), (0, 2), (0, 0)], false), (25, .aload_n 0, 0, [], false), (26, .getfield 10, 0, [(0, 3), (0, 0), (0, 1), (0, 0)], false), (29, .iload_n 1, 0, [], false), (30, .invokevirtual 153, 0, [(4, 0)], false), (33, .aload_n 0, 0, [], false), (34, .getfield 51, 0, [(77, 3), (0, 0), (0, 2), (0, 0)], false), (37, .getfield 179, 0, [(3, 0), (0, 2), (0, 2), (0, 0)], false), (40, .ireturn, 0, [], false)]
def zc96 : List mzN := [(0, .iconst (-1), 0, [], false), (1, .istore_n 1, 0, [], false), (2, .aload_n 0, 0, [], false), (3, .iconst (-1), 0, [], false), (4, .invokevirtual 226, 95, [(2, 1)], false), (7, .istore_n 2, 0, [], false), (8, .iconst 0, 0, [], false), (9, .istore_n 3, 0, [], false), (10, .iconst 0, 0, [], false), (11, .istore 4, 0, [], false), (13, .iload 4, 0, [], true), (15, .aload_n 0, 0, [], false), (16, .getfield 10, 0, [(0, 3), (0, 0), (0, 1), (0, 0)], false), (19, .getfield 73, 0, [(3, 0), (0, 1), (0, 1), (0, 0)], false), (22, .if_icmp .ge 72, 49, [], false), (25, .aload_n 0, 0, [], false), (26, .getfield 10, 0, [(0, 3), (0, 0), (0, 1), (0, 0)], false), (29, .iload 4, 0, [], false), (31, .invokevirtual 136, 56, [(2, 1)], false), (34, .ifCond .ne 6, 21, [], false), (37, .goto 51, 47, [], false), (40, .aload_n 0, 0, [], false), (41, .iload 4, 0, [], false), (43, .invokevirtual 226, 95, [(2, 1)], false), (46, .istore 5, 0, [], false), (48, .aload_n 0, 0, [], false), (49, .getfield 10, 0, [(0, 3), (0, 0), (0, 1), (0, 0)], false), (52, .iload 4, 0, [], false), (54, .invokevirtual 183, 57, [(2, 1)], false), (57, .iconst 1, 0, [], false), (58, .iadd, 0, [], false), (59, .istore 6, 0, [], false), (61, .iload 5, 0, [], false), (63, .iload_n 2, 0, [], false), (64, .if_icmp .lt 15, 41, [], false), (67, .iload 5, 0, [], false), (69, .iload_n 2, 0, [], false), (70, .if_icmp .ne 18, 47, [], false), (73, .iload 6, 0, [], false), (75, .iload_n 3, 0, [], false), (76, .if_icmp .gt 12, 47, [], false), (79, .iload 4, 0, [], false), (81, .istore_n 1, 0, [], false), (82, .iload 5, 0, [], false), (84, .istore_n 2, 0, [], false), (85, .iload 6, 0, [], false), (87, .istore_n 3, 0, [], false), (88, .iinc 4 1, 0, [], false), (91, .goto (-78), 10, [], false), (94, .iload_n 1, 0, [], false), (95, .ireturn, 0, [], false)]
def zc97 : List mzN := [(0, .aload_n 1, 0, [], false), (1, .getfield 217, 0, [(1, 0), (0, 3), (0, 3), (0, 0)], false), (4, .iconst 4, 0, [], false), (5, .isub, 0, [], false), (6, .iconst 1, 0, [], false), (7, .iadd, 0, [], false), (8, .istore_n 2, 0, [], false), (9, .aload_n 0, 0, [], false), (10, .getfield 62, 0, [(0, 3), (0, 0), (0, 18), (0, 0)], false), (13, .arraylength, 0, [], false), (14, .iload_n 2, 0, [], false), (15, .aload_n 1, 0, [], false), (16, .getfield 220, 0, [(2, 0), (0, 3), (0, 3), (0, 0)], false), (19, .iconst 4, 0, [], false), (20, .isub, 0, [], false), (21, .iconst 1, 0, [], false), (22, .iadd, 0, [], false), (23, .imul, 0, [], false), (24, .invokestatic 271, 178, [(2, 1)], false), (27, .istore_n 3, 0, [], false), (28, .iload_n 2, 0, [], false), (29, .iconst 1, 0, [], false), (30, .if_icmp .ge 5, 25, [], false), (33, .iconst 0, 0, [], false), (34, .ireturn, 0, [], false), (35, .iconst 0, 0, [], false), (36, .istore 4, 0, [], false), (38, .iload 4, 0, [], true), (40, .iload_n 3, 0, [], false), (41, .if_icmp .ge 28, 44, [], false), (44, .aload_n 0, 0, [], false), (45, .getfield 62, 0, [(0, 3), (0, 0), (0, 18), (0, 0)], false), (48, .iload 4, 0, [], false), (50, .aload_n 1, 0, [], false), (51, .iload 4, 0, [], false), (53, .iload_n 2, 0, [], false), (54, .irem, 0, [], false), (55, .iload 4, 0, [], false), (57, .iload_n 2, 0, [], false), (58, .idiv, 0, [], false), (59, .invokevirtual 126, 19, [(3, 1)], false), (62, .iastore, 0, [], false), (63, .iinc 4 1, 0, [], false), (66, .goto (-28), 27, [], false), (69, .iconst 0, 0, [], false), (70, .istore 4, 0, [], false), (72, .iconst 0, 0, [], false), (73, .istore 5, 0, [], false), (75, .iload 5, 0, [], true), (77, .iload_n 3, 0, [], false), (78, .if_icmp .ge 71, 88, [], false), (81, .iload 5, 0, [], false), (83, .iconst 1, 0, [], false), (84, .iadd, 0, [], false), (85, .istore 6, 0, [], false), (87, .iload 6, 0, [], true), (89, .iload_n 3, 0, [], false), (90, .if_icmp .ge 53, 86, [], false), (93, .aload_n 0, 0, [], false), (94, .getfield 62, 0, [(0, 3), (0, 0), (0, 18), (0, 0)], false), (97, .iload 5, 0, [], false), (99, .iaload, 0, [], false), (100, .aload_n 0, 0, [], false), (101, .getfield 62, 0, [(0, 3), (0, 0), (0, 18), (0, 0)], false), (104, .iload 6, 0, [], false), (106, .iaload, 0, [], false), (107, .if_icmp .ne 30, 84, [], false), (110, .aload_n 1, 0, [], false), (111, .iload 5, 0, [], false), (113, .iload_n 2, 0, [], false), (114, .irem, 0, [], false), (115, .iload 5, 0, [], false), (117, .iload_n 2, 0, [], false), (118, .idiv, 0, [], false), (119, .aload_n 1, 0, [], false), (120, .iload 6, 0, [], false), (122, .iload_n 2, 0, [], false), (123, .irem, 0, [], false), (124, .iload 6, 0, [], false), (126, .iload_n 2, 0, [], false), (127, .idiv, 0, [], false), (128, .invokevirtual 239, 20, [(6, 1)], false), (131, .ifCond .ne 6, 84, [], false), (134, .iinc 4 1, 0, [], false), (137, .iinc 6 1, 0, [], false), (140, .goto (-53), 55, [], false), (143, .iinc 5 1, 0, [], false), (146, .goto (-71), 48, [], false), (149, .iload 4, 0, [], false), (151, .ireturn, 0, [], false)]
def zc98 : List mzN := [(0, .iload_n 0, 0, [], false), (1, .iload_n 1, 0, [], false), (2, .if_icmp .lt 12, 8, [], false), (5, .iload_n 0, 0, [], false), (6, .iload_n 2, 0, [], false), (7, .if_icmp .gt 7, 8, [], false), (10, .iconst 1, 0, [], false), (11, .goto 4, 9, [], false), (14, .iconst 0, 0, [], false), (15, .ireturn, 1, [], false)]
def zc99 : List mzN := [(0, .aload_n 0, 0, [], false), (1, .getfield 38, 0, [(2, 0), (0, 20), (0, 20), (0, 0)], false), (4, .bipush 6, 0, [], false), (6, .if_icmp .ne 44, 27, [], false), (9, .iconst 0, 0, [], false), (10, .istore_n 1, 0, [], false), (11, .iload_n 1, 0, [], true), (12, .sipush 9400, 0, [], false), (15, .if_icmp .ge 25, 21, [], false), (18, .aload_n 0, 0, [], false), (19, .getfield 13, 0, [(0, 3), (0, 20), (0, 22), (0, 0)], false), (22, .iload_n 1, 0, [], false), (23, .aload_n 0, 0, [], false), (24, .getfield 13, 0, [(0, 3), (0, 20), (0, 22), (0, 0)], false), (27, .iload_n 1, 0, [], false), (28, .sipush 1880, 0, [], false), (31, .iadd, 0, [], false), (32, .iaload, 0, [], false), (33, .iastore, 0, [], false), (34, .iinc 1 1, 0, [], false), (37, .goto (-26), 6, [], false), (40, .aload_n 0, 0, [], false), (41, .dup, 0, [], false), (42, .getfield 38, 0, [(2, 0), (0, 20), (0, 20), (0, 0)], false), (45, .iconst 1, 0, [], false), (46, .isub, 0, [], false), (47, .putfield 38, 0, [(2, 0), (0, 20), (0, 20), (0, 0)], false), (50, .iconst 0, 0, [], false), (51, .istore_n 1, 0, [], false), (52, .iload_n 1, 0, [], true), (53, .sipush 1880, 0, [], false), (56, .if_icmp .ge 30, 47, [], false), (59, .aload_n 0, 0, [], false), (60, .getfield 13, 0, [(0, 3), (0, 20), (0, 22), (0, 0)], false), (63, .sipush 1880, 0, [], false), (66, .aload_n 0, 0, [], false), (67, .getfield 38, 0, [(2, 0), (0, 20), (0, 20), (0, 0)], false), (70, .imul, 0, [], false), (71, .iload_n 1, 0, [], false), (72, .iadd, 0, [], false), (73, .aload_n 0, 0, [], false), (74, .getfield 7, 0, [(0, 3), (0, 20), (0, 21), (0, 0)], false), (77, .iload_n 1, 0, [], false), (78, .iaload, 0, [], false), (79, .iastore, 0, [], false), (80, .iinc 1 1, 0, [], false), (83, .goto (-31), 29, [], false), (86, .aload_n 0, 0, [], false), (87, .dup, 0, [], false), (88, .getfield 38, 0, [(2, 0), (0, 20), (0, 20), (0, 0)], false), (91, .iconst 1, 0, [], false), (92, .iadd, 0, [], false), (93, .putfield 38, 0, [(2, 0), (0, 20), (0, 20), (0, 0)], false), (96, .return_, 0, [], false)]
def zc100 : List mzN := [(0, .aload_n 0, 0, [], false), (1, .getfield 38, 0, [(2, 0), (0, 20), (0, 20), (0, 0)], false), (4, .ifCond .ne 6, 5, [], false), (7, .bipush (-2), 0, [], false), (9, .ireturn, 0, [], false), (10, .aload_n 0, 0, [], false), (11, .dup, 0, [], false), (12, .getfield 38, 0, [(2, 0), (0, 20), (0, 20), (0, 0)], false), (15, .iconst 1, 0, [], false), (16, .isub, 0, [], false), (17, .putfield 38, 0, [(2, 0), (0, 20), (0, 20), (0, 0)], false), (20, .iconst 0, 0, [], false), (21, .istore_n 1, 0, [], false), (22, .iload_n 1, 0, [], true), (23, .sipush 1880, 0, [], false), (26, .if_icmp .ge 30, 31, [], false), (29, .aload_n 0, 0, [], false), (30, .getfield 7, 0, [(0, 3), (0, 20), (0, 21), (0, 0)], false), (33, .iload_n 1, 0, [], false), (34, .aload_n 0, 0, [], false), (35, .getfield 13, 0, [(0, 3), (0, 20), (0, 22), (0, 0)], false), (38, .sipush 1880, 0, [], false), (41, .aload_n 0, 0, [], false), (42, .getfield 38, 0, [(2, 0), (0, 20), (0, 20), (0, 0)], false), (45, .imul, 0, [], false), (46, .iload_n 1, 0, [], false), (47, .iadd, 0, [], false), (48, .iaload, 0, [], false), (49, .iastore, 0, [], false), (50, .iinc 1 1, 0, [], false), (53, .goto (-31), 13, [], false), (56, .aload_n 0, 0, [], false), (57, .getfield 38, 0, [(2, 0), (0, 20), (0, 20), (0, 0)], false), (60, .ireturn, 0, [], false)]
def zc101 : List mzN := [(0, .aload_n 0, 0, [], false), (1, .getfield 7, 0, [(0, 3), (0, 20), (0, 21), (0, 0)], false), (4, .iconst 0, 0, [], false), (5, .iaload, 0, [], false), (6, .aload_n 0, 0, [], false), (7, .getfield 7, 0, [(0, 3), (0, 20), (0, 21), (0, 0)], false), (10, .iconst 1, 0, [], false), (11, .iaload, 0, [], false), (12, .imul, 0, [], false), (13, .ireturn, 0, [], false)]
def zc102 : List mzN := [(0, .aload_n 0, 0, [], false), (1, .invokevirtual 42, 101, [(1, 1)], false), (4, .bipush 16, 0, [], false), (6, .idiv, 0, [], false), (7, .ireturn, 0, [], false)]
def zc103 : List mzN := [(0, .iload_n 1, 0, [], false), (1, .iconst 0, 0, [], false), (2, .aload_n 0, 0, [], false), (3, .getfield 7, 0, [(0, 3), (0, 20), (0, 21), (0, 0)], false), (6, .iconst 2, 0, [], false), (7, .iaload, 0, [], false), (8, .iconst 1, 0, [], false), (9, .isub, 0, [], false), (10, .invokestatic 46, 98, [(3, 1)], false), (13, .ireturn, 1, [], false)]
def zc104 : List mzN := [(0, .iload_n 1, 0, [], false), (1, .ifCond .ge 15, 9, [], false), (4, .aload_n 0, 0, [], false), (5, .getfield 7, 0, [(0, 3), (0, 20), (0, 21), (0, 0)], false), (8, .bipush 6, 0, [], false), (10, .iload_n 2, 0, [], false), (11, .iadd, 0, [], false), (12, .iaload, 0, [], false), (13, .goto 19, 19, [], false), (16, .aload_n 0, 0, [], false), (17, .getfield 7, 0, [(0, 3), (0, 20), (0, 21), (0, 0)], false), (20, .sipush 150, 0, [], false), (23, .sipush 144, 0, [], false), (26, .iload_n 1, 0, [], false), (27, .imul, 0, [], false), (28, .iadd, 0, [], false), (29, .iload_n 2, 0, [], false), (30, .iadd, 0, [], false), (31, .iaload, 0, [], false), (32, .ireturn, 0, [], false)]
def zc105 : List mzN := [(0, .aload_n 0, 0, [], false), (1, .getfield 7, 0, [(0, 3), (0, 20), (0, 21), (0, 0)], false), (4, .sipush 1590, 0, [], false), (7, .iload_n 1, 0, [], false), (8, .iadd, 0, [], false), (9, .iaload, 0, [], false), (10, .ireturn, 0, [], false)]
def zc106 : List mzN := [(0, .iconst 0, 0, [], false), (1, .istore_n 2, 0, [], false), (2, .iload_n 1, 0, [], false), (3, .istore_n 3, 0, [], false), (4, .aload_n 0, 0, [], true), (5, .iload_n 3, 0, [], false), (6, .invokevirtual 50, 105, [(2, 1)], false), (9, .iconst (-1), 0, [], false), (10, .if_icmp .eq 15, 15, [], false), (13, .iinc 2 1, 0, [], false), (16, .aload_n 0, 0, [], false), (17, .iload_n 3, 0, [], false), (18, .invokevirtual 50, 105, [(2, 1)], false), (21, .istore_n 3, 0, [], false), (22, .goto (-18), 4, [], false), (25, .iload_n 2, 0, [], false), (26, .ireturn, 0, [], false)]
def zc107 : List mzN := [(0, .aload_n 0, 0, [], false), (1, .getfield 7, 0, [(0, 3), (0, 20), (0, 21), (0, 0)], false), (4, .sipush 1600, 0, [], false), (7, .iload_n 1, 0, [], false), (8, .iadd, 0, [], false), (9, .iaload, 0, [], false), (10, .ifCond .ne 7, 9, [], false), (13, .iconst 1, 0, [], false), (14, .goto 4, 10, [], false), (17, .iconst 0, 0, [], false), (18, .istore_n 2, 0, [], false), (19, .iload_n 1, 0, [], false), (20, .istore_n 3, 0, [], false), (21, .aload_n 0, 0, [], true), (22, .iload_n 3, 0, [], false), (23, .invokevirtual 50, 105, [(2, 1)], false), (26, .iconst (-1), 0, [], false), (27, .if_icmp .eq 39, 38, [], false), (30, .iload_n 2, 0, [], false), (31, .ifCond .eq 35, 38, [], false), (34, .aload_n 0, 0, [], false), (35, .getfield 7, 0, [(0, 3), (0, 20), (0, 21), (0, 0)], false), (38, .sipush 1600, 0, [], false), (41, .aload_n 0, 0, [], false), (42, .iload_n 3, 0, [], false), (43, .invokevirtual 50, 105, [(2, 1)], false), (46, .iadd, 0, [], false), (47, .iaload, 0, [], false), (48, .ifCond .ne 7, 31, [], false), (51, .iconst 1, 0, [], false), (52, .goto 4, 32, [], false), (55, .iconst 0, 0, [], false), (56, .istore_n 2, 0, [], false), (57, .aload_n 0, 0, [], false), (58, .iload_n 3, 0, [], false), (59, .invokevirtual 50, 105, [(2, 1)], false), (62, .istore_n 3, 0, [], false), (63, .goto (-42), 13, [], false), (66, .iload_n 2, 0, [], false), (67, .ireturn, 1, [], false)]
def zc108 : List mzN := [(0, .iconst 0, 0, [], false), (1, .istore_n 1, 0, [], false), (2, .iconst 0, 0, [], false), (3, .istore_n 2, 0, [], false), (4, .iload_n 2, 0, [], true), (5, .aload_n 0, 0, [], false), (6, .getfield 7, 0, [(0, 3), (0, 20), (0, 21), (0, 0)], false), (9, .iconst 2, 0, [], false), (10, .iaload, 0, [], false), (11, .if_icmp .ge 25, 22, [], false), (14, .iload_n 1, 0, [], false), (15, .aload_n 0, 0, [], false), (16, .iload_n 2, 0, [], false), (17, .invokevirtual 54, 107, [(2, 1)], false), (20, .ifCond .eq 7, 17, [], false), (23, .iconst 1, 0, [], false), (24, .goto 4, 18, [], false), (27, .iconst 0, 0, [], false), (28, .iadd, 0, [], false), (29, .istore_n 1, 0, [], false), (30, .iinc 2 1, 0, [], false), (33, .goto (-29), 4, [], false), (36, .iload_n 1, 0, [], false), (37, .ireturn, 0, [], false)]
def zc109 : List mzN := [(0, .iload_n 1, 0, [], false), (1, .iconst 4, 0, [], false), (2, .irem, 0, [], false), (3, .ifCond .ne 29, 18, [], false), (6, .iload_n 2, 0, [], false), (7, .iconst 4, 0, [], false), (8, .irem, 0, [], false), (9, .ifCond .ne 23, 18, [], false), (12, .iload_n 1, 0, [], false), (13, .iconst 4, 0, [], false), (14, .bipush 12, 0, [], false), (16, .invokestatic 46, 98, [(3, 1)], false), (19, .ifCond .eq 13, 18, [], false), (22, .iload_n 2, 0, [], false), (23, .iconst 4, 0, [], false), (24, .bipush 12, 0, [], false), (26, .invokestatic 46, 98, [(3, 1)], false), (29, .ifCond .ne 5, 20, [], false), (32, .iconst (-1), 0, [], false), (33, .ireturn, 0, [], false), (34, .aload_n 0, 0, [], false), (35, .invokevirtual 58, 99, [(1, 0)], false), (38, .aload_n 0, 0, [], false), (39, .getfield 7, 0, [(0, 3), (0, 20), (0, 21), (0, 0)], false), (42, .iconst 0, 0, [], false), (43, .iload_n 1, 0, [], false), (44, .iastore, 0, [], false), (45, .aload_n 0, 0, [], false), (46, .getfield 7, 0, [(0, 3), (0, 20), (0, 21), (0, 0)], false), (49, .iconst 1, 0, [], false), (50, .iload_n 2, 0, [], false), (51, .iastore, 0, [], false), (52, .aload_n 0, 0, [], false), (53, .getfield 7, 0, [(0, 3), (0, 20), (0, 21), (0, 0)], false), (56, .iconst 2, 0, [], false), (57, .iconst 0, 0, [], false), (58, .iastore, 0, [], false), (59, .bipush 6, 0, [], false), (61, .istore_n 3, 0, [], false), (62, .iload_n 3, 0, [], true), (63, .sipush 1880, 0, [], false), (66, .if_icmp .ge 16, 49, [], false), (69, .aload_n 0, 0, [], false), (70, .getfield 7, 0, [(0, 3), (0, 20), (0, 21), (0, 0)], false), (73, .iload_n 3, 0, [], false), (74, .iconst 0, 0, [], false), (75, .iastore, 0, [], false), (76, .iinc 3 1, 0, [], false), (79, .goto (-17), 39, [], false), (82, .aload_n 0, 0, [], false), (83, .invokevirtual 61, 102, [(1, 1)], false), (86, .ireturn, 0, [], false)]
def zc110 : List mzN := [(0, .iload_n 1, 0, [], false), (1, .iconst 0, 0, [], false), (2, .aload_n 0, 0, [], false), (3, .invokevirtual 42, 101, [(1, 1)], false), (6, .iconst 1, 0, [], false), (7, .isub, 0, [], false), (8, .invokestatic 46, 98, [(3, 1)], false), (11, .ireturn, 1, [], false)]
def zc111 : List mzN := [(0, .aload_n 0, 0, [], false), (1, .iload_n 1, 0, [], false), (2, .invokevirtual 64, 110, [(2, 1)], false), (5, .ifCond .eq 13, 9, [], false), (8, .iload_n 2, 0, [], false), (9, .iconst 0, 0, [], false), (10, .bipush 15, 0, [], false), (12, .invokestatic 46, 98, [(3, 1)], false), (15, .ifCond .ne 5, 11, [], false), (18, .iconst (-1), 0, [], false), (19, .ireturn, 0, [], false), (20, .aload_n 0, 0, [], false), (21, .invokevirtual 58, 99, [(1, 0)], false), (24, .aload_n 0, 0, [], false), (25, .getfield 7, 0, [(0, 3), (0, 20), (0, 21), (0, 0)], false), (28, .bipush 6, 0, [], false), (30, .iload_n 1, 0, [], false), (31, .iadd, 0, [], false), (32, .iaload, 0, [], false), (33, .istore_n 3, 0, [], false), (34, .aload_n 0, 0, [], false), (35, .getfield 7, 0, [(0, 3), (0, 20), (0, 21), (0, 0)], false), (38, .bipush 6, 0, [], false), (40, .iload_n 1, 0, [], false), (41, .iadd, 0, [], false), (42, .iload_n 2, 0, [], false), (43, .iastore, 0, [], false), (44, .iload_n 3, 0, [], false), (45, .ireturn, 0, [], false)]
def zc112 : List mzN := [(0, .aload_n 0, 0, [], false), (1, .iload_n 1, 0, [], false), (2, .invokevirtual 64, 110, [(2, 1)], false), (5, .ifCond .eq 15, 11, [], false), (8, .aload_n 0, 0, [], false), (9, .getfield 7, 0, [(0, 3), (0, 20), (0, 21), (0, 0)], false), (12, .bipush 6, 0, [], false), (14, .iload_n 1, 0, [], false), (15, .iadd, 0, [], false), (16, .iaload, 0, [], false), (17, .goto 4, 12, [], false), (20, .iconst (-1), 0, [], false), (21, .ireturn, 0, [], false)]
def zc113 : List mzN := [(0, .iload_n 1, 0, [], false), (1, .iconst 0, 0, [], false), (2, .sipush 255, 0, [], false), (5, .invokestatic 46, 98, [(3, 1)], false), (8, .ifCond .ne 5, 7, [], false), (11, .iconst (-1), 0, [], false), (12, .ireturn, 0, [], false), (13, .aload_n 0, 0, [], false), (14, .getfield 67, 0, [(4, 0), (0, 20), (0, 20), (0, 0)], false), (17, .sipush 160, 0, [], false), (20, .if_icmp .ne 6, 13, [], false), (23, .bipush (-3), 0, [], false), (25, .ireturn, 0, [], false), (26, .aload_n 0, 0, [], false), (27, .getfield 16, 0, [(0, 3), (0, 20), (0, 23), (0, 0)], false), (30, .aload_n 0, 0, [], false), (31, .getfield 67, 0, [(4, 0), (0, 20), (0, 20), (0, 0)], false), (34, .iload_n 1, 0, [], false), (35, .i2b, 0, [], false), (36, .bastore, 0, [], false), (37, .aload_n 0, 0, [], false), (38, .dup, 0, [], false), (39, .getfield 67, 0, [(4, 0), (0, 20), (0, 20), (0, 0)], false), (42, .iconst 1, 0, [], false), (43, .iadd, 0, [], false), (44, .putfield 67, 0, [(4, 0), (0, 20), (0, 20), (0, 0)], false), (47, .aload_n 0, 0, [], false), (48, .getfield 67, 0, [(4, 0), (0, 20), (0, 20), (0, 0)], false), (51, .ireturn, 0, [], false)]
def zc114 : List mzN := [(0, .aload_n 0, 0, [], false), (1, .getfield 67, 0, [(4, 0), (0, 20), (0, 20), (0, 0)], false), (4, .istore_n 1, 0, [], false), (5, .aload_n 0, 0, [], false), (6, .iconst 0, 0, [], false), (7, .putfield 67, 0, [(4, 0), (0, 20), (0, 20), (0, 0)], false), (10, .iload_n 1, 0, [], false), (11, .ireturn, 0, [], false)]
def zc115 : List mzN := [(0, .aload_n 0, 0, [], false), (1, .getfield 70, 0, [(5, 0), (0, 20), (0, 20), (0, 0)], false), (4, .aload_n 0, 0, [], false), (5, .getfield 67, 0, [(4, 0), (0, 20), (0, 20), (0, 0)], false), (8, .if_icmp .ge 19, 13, [], false), (11, .aload_n 0, 0, [], false), (12, .getfield 16, 0, [(0, 3), (0, 20), (0, 23), (0, 0)], false), (15, .aload_n 0, 0, [], false), (16, .getfield 70, 0, [(5, 0), (0, 20), (0, 20), (0, 0)], false), (19, .baload, 0, [], false), (20, .sipush 255, 0, [], false), (23, .iand, 0, [], false), (24, .goto 4, 14, [], false), (27, .iconst (-1), 0, [], false), (28, .ireturn, 0, [], false)]
def zc116 : List mzN := [(0, .aload_n 0, 0, [], true), (1, .invokevirtual 73, 115, [(1, 1)], false), (4, .bipush 32, 0, [], false), (6, .if_icmp .ne 16, 11, [], false), (9, .aload_n 0, 0, [], false), (10, .dup, 0, [], false), (11, .getfield 70, 0, [(5, 0), (0, 20), (0, 20), (0, 0)], false), (14, .iconst 1, 0, [], false), (15, .iadd, 0, [], false), (16, .putfield 70, 0, [(5, 0), (0, 20), (0, 20), (0, 0)], false), (19, .goto (-19), 0, [], false), (22, .aload_n 0, 0, [], false), (23, .aload_n 0, 0, [], false), (24, .getfield 70, 0, [(5, 0), (0, 20), (0, 20), (0, 0)], false), (27, .putfield 76, 0, [(6, 0), (0, 20), (0, 20), (0, 0)], false), (30, .aload_n 0, 0, [], false), (31, .lconst 0, 0, [], false), (32, .putfield 79, 0, [(0, 2), (0, 20), (0, 33), (0, 0)], false), (35, .aload_n 0, 0, [], false), (36, .aload_n 0, 0, [], false), (37, .invokevirtual 73, 115, [(1, 1)], false), (40, .bipush 45, 0, [], false), (42, .if_icmp .ne 7, 25, [], false), (45, .iconst 1, 0, [], false), (46, .goto 4, 26, [], false), (49, .iconst 0, 0, [], false), (50, .putfield 83, 0, [(9, 1), (0, 20), (0, 20), (0, 0)], false), (53, .aload_n 0, 0, [], false), (54, .dup, 0, [], false), (55, .getfield 70, 0, [(5, 0), (0, 20), (0, 20), (0, 0)], false), (58, .aload_n 0, 0, [], false), (59, .getfield 83, 0, [(9, 1), (0, 20), (0, 20), (0, 0)], false), (62, .ifCond .eq 7, 35, [], false), (65, .iconst 1, 0, [], false), (66, .goto 4, 36, [], false), (69, .iconst 0, 0, [], false), (70, .iadd, 0, [], false), (71, .putfield 70, 0, [(5, 0), (0, 20), (0, 20), (0, 0)], false), (74, .aload_n 0, 0, [], false), (75, .getfield 83, 0, [(9, 1), (0, 20), (0, 20), (0, 0)], false), (78, .ifCond .ne 93, 86, [], false), (81, .aload_n 0, 0, [], false), (82, .invokevirtual 73, 115, [(1, 1)], false), (85, .bipush 97, 0, [], false), (87, .bipush 122, 0, [], false), (89, .invokestatic 46, 98, [(3, 1)], false), (92, .ifCond .eq 79, 86, [], false), (95, .aload_n 0, 0, [], false), (96, .iconst 1, 0, [], false), (97, .putfield 87, 0, [(7, 0), (0, 20), (0, 20), (0, 0)], false), (100, .aload_n 0, 0, [], true), (101, .invokevirtual 73, 115, [(1, 1)], false), (104, .bipush 97, 0, [], false), (106, .bipush 122, 0, [], false), (108, .invokestatic 46, 98, [(3, 1)], false), (111, .ifCond .eq 257, 185, [], false), (114, .aload_n 0, 0, [], false), (115, .aload_n 0, 0, [], false), (116, .getfield 70, 0, [(5, 0), (0, 20), (0, 20), (0, 0)], false), (119, .aload_n 0, 0, [], false), (120, .getfield 76, 0, [(6, 0), (0, 20), (0, 20), (0, 0)], false), (123, .isub, 0, [], false), (124, .bipush 8, 0, [], false), (126, .if_icmp .ge 26, 77, [], false), (129, .ldc2_w 90, 0, [(27, 0)], false), (132, .aload_n 0, 0, [], false), (133, .getfield 79, 0, [(0, 2), (0, 20), (0, 33), (0, 0)], false), (136, .lmul, 0, [], false), (137, .aload_n 0, 0, [], false), (138, .invokevirtual 73, 115, [(1, 1)], false), (141, .i2l, 0, [], false), (142, .ladd, 0, [], false), (143, .ldc2_w 92, 0, [(97, 0)], false), (146, .lsub, 0, [], false), (147, .lconst 1, 0, [], false), (148, .ladd, 0, [], false), (149, .goto 6, 78, [], false), (152, .ldc2_w 94, 0, [((-1), 0)], false), (155, .putfield 79, 0, [(0, 2), (0, 20), (0, 33), (0, 0)], false), (158, .aload_n 0, 0, [], false), (159, .dup, 0, [], false), (160, .getfield 70, 0, [(5, 0), (0, 20), (0, 20), (0, 0)], false), (163, .iconst 1, 0, [], false), (164, .iadd, 0, [], false), (165, .putfield 70, 0, [(5, 0), (0, 20), (0, 20), (0, 0)], false), (168, .goto (-68), 50, [], false), (171, .aload_n 0, 0, [], false), (172, .invokevirtual 73, 115, [(1, 1)], true), (175, .bipush 48, 0, [], false), (177, .bipush 57, 0, [], false), (179, .invokestatic 46, 98, [(3, 1)], false), (182, .ifCond .eq 118, 152, [], false), (185, .aload_n 0, 0, [], false), (186, .getfield 70, 0, [(5, 0), (0, 20), (0, 20), (0, 0)], false), (189, .istore_n 1, 0, [], false), (190, .aload_n 0, 0, [], true), (191, .invokevirtual 73, 115, [(1, 1)], false), (194, .bipush 48, 0, [], false), (196, .bipush 57, 0, [], false), (198, .invokestatic 46, 98, [(3, 1)], false), (201, .ifCond .eq 56, 128, [], false), (204, .aload_n 0, 0, [], false), (205, .aload_n 0, 0, [], false), (206, .getfield 79, 0, [(0, 2), (0, 20), (0, 33), (0, 0)], false), (209, .ldc2_w 96, 0, [(1000, 0)], false), (212, .lcmp, 0, [], false), (213, .ifCond .ge 24, 118, [], false), (216, .ldc2_w 98, 0, [(10, 0)], false), (219, .aload_n 0, 0, [], false), (220, .getfield 79, 0, [(0, 2), (0, 20), (0, 33), (0, 0)], false), (223, .lmul, 0, [], false), (224, .aload_n 0, 0, [], false), (225, .invokevirtual 73, 115, [(1, 1)], false), (228, .i2l, 0, [], false), (229, .ladd, 0, [], false), (230, .ldc2_w 100, 0, [(48, 0)], false), (233, .lsub, 0, [], false), (234, .goto 7, 120, [], false), (237, .aload_n 0, 0, [], false), (238, .getfield 79, 0, [(0, 2), (0, 20), (0, 33), (0, 0)], false), (241, .putfield 79, 0, [(0, 2), (0, 20), (0, 33), (0, 0)], false), (244, .aload_n 0, 0, [], false), (245, .dup, 0, [], false), (246, .getfield 70, 0, [(5, 0), (0, 20), (0, 20), (0, 0)], false), (249, .iconst 1, 0, [], false), (250, .iadd, 0, [], false), (251, .putfield 70, 0, [(5, 0), (0, 20), (0, 20), (0, 0)], false), (254, .goto (-64), 95, [], false), (257, .aload_n 0, 0, [], false), (258, .aload_n 0, 0, [], false), (259, .getfield 70, 0, [(5, 0), (0, 20), (0, 20), (0, 0)], false), (262, .iload_n 1, 0, [], false), (263, .isub, 0, [], false), (264, .iconst 2, 0, [], false), (265, .if_icmp .gt 24, 147, [], false), (268, .aload_n 0, 0, [], false), (269, .getfield 16, 0, [(0, 3), (0, 20), (0, 23), (0, 0)], false), (272, .iload_n 1, 0, [], false), (273, .baload, 0, [], false), (274, .bipush 48, 0, [], false), (276, .if_icmp .ne 17, 149, [], false), (279, .aload_n 0, 0, [], false), (280, .getfield 70, 0, [(5, 0), (0, 20), (0, 20), (0, 0)], false), (283, .iload_n 1, 0, [], false), (284, .isub, 0, [], false), (285, .iconst 1, 0, [], false), (286, .if_icmp .le 7, 149, [], false), (289, .iconst 4, 0, [], false), (290, .goto 4, 150, [], false), (293, .iconst 2, 0, [], false), (294, .putfield 87, 0, [(7, 0), (0, 20), (0, 20), (0, 0)], false), (297, .goto 71, 185, [], false), (300, .aload_n 0, 0, [], false), (301, .aload_n 0, 0, [], false), (302, .getfield 83, 0, [(9, 1), (0, 20), (0, 20), (0, 0)], false), (305, .ifCond .eq 7, 158, [], false), (308, .iconst 4, 0, [], false), (309, .goto 28, 170, [], false), (312, .aload_n 0, 0, [], false), (313, .invokevirtual 73, 115, [(1, 1)], false), (316, .ifCond .ge 7, 163, [], false), (319, .iconst 0, 0, [], false), (320, .goto 17, 170, [], false), (323, .aload_n 0, 0, [], false), (324, .invokevirtual 73, 115, [(1, 1)], false), (327, .bipush 59, 0, [], false), (329, .if_icmp .ne 7, 169, [], false), (332, .iconst 3, 0, [], false), (333, .goto 4, 170, [], false), (336, .iconst 4, 0, [], false), (337, .putfield 87, 0, [(7, 0), (0, 20), (0, 20), (0, 0)], false), (340, .aload_n 0, 0, [], false), (341, .dup, 0, [], false), (342, .getfield 70, 0, [(5, 0), (0, 20), (0, 20), (0, 0)], false), (345, .aload_n 0, 0, [], false), (346, .getfield 83, 0, [(9, 1), (0, 20), (0, 20), (0, 0)], false), (349, .ifCond .ne 10, 180, [], false), (352, .aload_n 0, 0, [], false), (353, .invokevirtual 73, 115, [(1, 1)], false), (356, .ifCond .ge 7, 182, [], false), (359, .iconst 0, 0, [], false), (360, .goto 4, 183, [], false), (363, .iconst 1, 0, [], false), (364, .iadd, 0, [], false), (365, .putfield 70, 0, [(5, 0), (0, 20), (0, 20), (0, 0)], false), (368, .return_, 0, [], false)]
def zc117 : List mzN := [(0, .aload_n 0, 0, [], false), (1, .aload_n 0, 0, [], false), (2, .getfield 102, 0, [(10, 1), (0, 20), (0, 20), (0, 0)], false), (5, .ifCond .ne 7, 6, [], false), (8, .iload_n 1, 0, [], false), (9, .ifCond .ne 7, 8, [], false), (12, .iconst 1, 0, [], false), (13, .goto 4, 9, [], false), (16, .iconst 0, 0, [], false), (17, .putfield 102, 0, [(10, 1), (0, 20), (0, 20), (0, 0)], false), (20, .aload_n 0, 0, [], false), (21, .getfield 102, 0, [(10, 1), (0, 20), (0, 20), (0, 0)], false), (24, .ifCond .ne 7, 15, [], false), (27, .aload_n 0, 0, [], false), (28, .invokevirtual 105, 116, [(1, 0)], false), (31, .return_, 0, [], false)]
def zc118 : List mzN := [(0, .aload_n 0, 0, [], false), (1, .getfield 83, 0, [(9, 1), (0, 20), (0, 20), (0, 0)], false), (4, .ifCond .eq 12, 8, [], false), (7, .aload_n 0, 0, [], false), (8, .getfield 79, 0, [(0, 2), (0, 20), (0, 33), (0, 0)], false), (11, .l2i, 0, [], false), (12, .ineg, 0, [], false), (13, .goto 8, 11, [], false), (16, .aload_n 0, 0, [], false), (17, .getfield 79, 0, [(0, 2), (0, 20), (0, 33), (0, 0)], false), (20, .l2i, 0, [], false), (21, .istore_n 3, 0, [], false), (22, .aload_n 0, 0, [], false), (23, .getfield 87, 0, [(7, 0), (0, 20), (0, 20), (0, 0)], false), (26, .iconst 2, 0, [], false), (27, .if_icmp .ne 27, 28, [], false), (30, .iload_n 3, 0, [], false), (31, .iload_n 1, 0, [], false), (32, .iload_n 2, 0, [], false), (33, .invokestatic 46, 98, [(3, 1)], false), (36, .ifCond .eq 18, 28, [], false), (39, .aload_n 0, 0, [], false), (40, .getfield 83, 0, [(9, 1), (0, 20), (0, 20), (0, 0)], false), (43, .ifCond .eq 7, 26, [], false), (46, .iload_n 1, 0, [], false), (47, .ifCond .ge 7, 28, [], false), (50, .iconst 1, 0, [], false), (51, .goto 4, 29, [], false), (54, .iconst 0, 0, [], false), (55, .istore 4, 0, [], false), (57, .aload_n 0, 0, [], false), (58, .iload 4, 0, [], false), (60, .invokevirtual 108, 117, [(2, 0)], false), (63, .iload 4, 0, [], false), (65, .ifCond .eq 7, 37, [], false), (68, .iload_n 3, 0, [], false), (69, .goto 4, 38, [], false), (72, .iconst 0, 0, [], false), (73, .ireturn, 0, [], false)]
def zc119 : List mzN := [(0, .iload_n 2, 0, [], false), (1, .aload_n 0, 0, [], false), (2, .getfield 7, 0, [(0, 3), (0, 20), (0, 21), (0, 0)], false), (5, .iconst 0, 0, [], false), (6, .iaload, 0, [], false), (7, .imul, 0, [], false), (8, .iload_n 1, 0, [], false), (9, .iadd, 0, [], false), (10, .ireturn, 0, [], false)]
def zc120 : List mzN := [(0, .iconst 0, 0, [], false), (1, .istore_n 1, 0, [], false), (2, .iload_n 1, 0, [], true), (3, .sipush 144, 0, [], false), (6, .if_icmp .ge 24, 17, [], false), (9, .aload_n 0, 0, [], false), (10, .getfield 20, 0, [(0, 3), (0, 20), (0, 24), (0, 0)], false), (13, .iload_n 1, 0, [], false), (14, .aload_n 0, 0, [], false), (15, .getfield 7, 0, [(0, 3), (0, 20), (0, 21), (0, 0)], false), (18, .bipush 6, 0, [], false), (20, .iload_n 1, 0, [], false), (21, .iadd, 0, [], false), (22, .iaload, 0, [], false), (23, .iastore, 0, [], false), (24, .iinc 1 1, 0, [], false), (27, .goto (-25), 2, [], false), (30, .return_, 0, [], false)]
def zc121 : List mzN := [(0, .iconst 0, 0, [], false), (1, .istore 6, 0, [], false), (3, .iload 6, 0, [], true), (5, .aload_n 0, 0, [], false), (6, .invokevirtual 42, 101, [(1, 1)], false), (9, .if_icmp .ge 92, 57, [], false), (12, .aload_n 0, 0, [], false), (13, .getfield 102, 0, [(10, 1), (0, 20), (0, 20), (0, 0)], false), (16, .ifCond .ne 85, 57, [], false), (19, .iload 6, 0, [], false), (21, .aload_n 0, 0, [], false), (22, .getfield 7, 0, [(0, 3), (0, 20), (0, 21), (0, 0)], false), (25, .iconst 0, 0, [], false), (26, .iaload, 0, [], false), (27, .irem, 0, [], false), (28, .istore 7, 0, [], false), (30, .iload 6, 0, [], false), (32, .aload_n 0, 0, [], false), (33, .getfield 7, 0, [(0, 3), (0, 20), (0, 21), (0, 0)], false), (36, .iconst 0, 0, [], false), (37, .iaload, 0, [], false), (38, .idiv, 0, [], false), (39, .istore 8, 0, [], false), (41, .aload_n 0, 0, [], false), (42, .getfield 7, 0, [(0, 3), (0, 20), (0, 21), (0, 0)], false), (45, .bipush 6, 0, [], false), (47, .iload 6, 0, [], false), (49, .iadd, 0, [], false), (50, .iload 7, 0, [], false), (52, .iload_n 1, 0, [], false), (53, .iload_n 1, 0, [], false), (54, .iload_n 3, 0, [], false), (55, .iadd, 0, [], false), (56, .iconst 1, 0, [], false), (57, .isub, 0, [], false), (58, .invokestatic 46, 98, [(3, 1)], false), (61, .ifCond .eq 23, 48, [], false), (64, .iload 8, 0, [], false), (66, .iload_n 2, 0, [], false), (67, .iload_n 2, 0, [], false), (68, .iload 4, 0, [], false), (70, .iadd, 0, [], false), (71, .iconst 1, 0, [], false), (72, .isub, 0, [], false), (73, .invokestatic 46, 98, [(3, 1)], false), (76, .ifCond .eq 8, 48, [], false), (79, .iload 5, 0, [], false), (81, .goto 13, 54, [], false), (84, .aload_n 0, 0, [], false), (85, .getfield 7, 0, [(0, 3), (0, 20), (0, 21), (0, 0)], false), (88, .bipush 6, 0, [], false), (90, .iload 6, 0, [], false), (92, .iadd, 0, [], false), (93, .iaload, 0, [], false), (94, .iastore, 0, [], false), (95, .iinc 6 1, 0, [], false), (98, .goto (-95), 2, [], false), (101, .return_, 0, [], false)]
def zc122 : List mzN := [(0, .aload_n 0, 0, [], false), (1, .invokevirtual 112, 120, [(1, 0)], false), (4, .iconst 0, 0, [], false), (5, .istore_n 3, 0, [], false), (6, .iload_n 3, 0, [], true), (7, .aload_n 0, 0, [], false), (8, .invokevirtual 42, 101, [(1, 1)], false), (11, .if_icmp .ge 100, 66, [], false), (14, .aload_n 0, 0, [], false), (15, .getfield 102, 0, [(10, 1), (0, 20), (0, 20), (0, 0)], false), (18, .ifCond .ne 93, 66, [], false), (21, .iload_n 3, 0, [], false), (22, .aload_n 0, 0, [], false), (23, .getfield 7, 0, [(0, 3), (0, 20), (0, 21), (0, 0)], false), (26, .iconst 0, 0, [], false), (27, .iaload, 0, [], false), (28, .irem, 0, [], false), (29, .iload_n 1, 0, [], false), (30, .isub, 0, [], false), (31, .istore 4, 0, [], false), (33, .iload_n 3, 0, [], false), (34, .aload_n 0, 0, [], false), (35, .getfield 7, 0, [(0, 3), (0, 20), (0, 21), (0, 0)], false), (38, .iconst 0, 0, [], false), (39, .iaload, 0, [], false), (40, .idiv, 0, [], false), (41, .iload_n 2, 0, [], false), (42, .isub, 0, [], false), (43, .istore 5, 0, [], false), (45, .aload_n 0, 0, [], false), (46, .getfield 7, 0, [(0, 3), (0, 20), (0, 21), (0, 0)], false), (49, .bipush 6, 0, [], false), (51, .iload_n 3, 0, [], false), (52, .iadd, 0, [], false), (53, .iload 4, 0, [], false), (55, .iconst 0, 0, [], false), (56, .aload_n 0, 0, [], false), (57, .getfield 7, 0, [(0, 3), (0, 20), (0, 21), (0, 0)], false), (60, .iconst 0, 0, [], false), (61, .iaload, 0, [], false), (62, .iconst 1, 0, [], false), (63, .isub, 0, [], false), (64, .invokestatic 46, 98, [(3, 1)], false), (67, .ifCond .eq 36, 62, [], false), (70, .iload 5, 0, [], false), (72, .iconst 0, 0, [], false), (73, .aload_n 0, 0, [], false), (74, .getfield 7, 0, [(0, 3), (0, 20), (0, 21), (0, 0)], false), (77, .iconst 1, 0, [], false), (78, .iaload, 0, [], false), (79, .iconst 1, 0, [], false), (80, .isub, 0, [], false), (81, .invokestatic 46, 98, [(3, 1)], false), (84, .ifCond .eq 19, 62, [], false), (87, .aload_n 0, 0, [], false), (88, .getfield 20, 0, [(0, 3), (0, 20), (0, 24), (0, 0)], false), (91, .aload_n 0, 0, [], false), (92, .iload 4, 0, [], false), (94, .iload 5, 0, [], false), (96, .invokevirtual 115, 119, [(3, 1)], false), (99, .iaload, 0, [], false), (100, .goto 4, 63, [], false), (103, .iconst 0, 0, [], false), (104, .iastore, 0, [], false), (105, .iinc 3 1, 0, [], false), (108, .goto (-102), 4, [], false), (111, .return_, 0, [], false)]
def zc123 : List mzN := [(0, .aload_n 0, 0, [], false), (1, .getfield 87, 0, [(7, 0), (0, 20), (0, 20), (0, 0)], false), (4, .iconst 1, 0, [], false), (5, .if_icmp .ne 10, 7, [], false), (8, .aload_n 0, 0, [], false), (9, .getfield 79, 0, [(0, 2), (0, 20), (0, 33), (0, 0)], false), (12, .goto 6, 8, [], false), (15, .ldc2_w 94, 0, [((-1), 0)], false), (18, .lstore_n 1, 0, [], false), (19, .lload_n 1, 0, [], false), (20, .ldc2_w 119, 0, [(124995, 0)], false), (23, .lcmp, 0, [], false), (24, .ifCond .ne 7, 15, [], false), (27, .iconst 1, 0, [], false), (28, .goto 4, 16, [], false), (31, .iconst 0, 0, [], false), (32, .istore_n 3, 0, [], false), (33, .lload_n 1, 0, [], false), (34, .ldc2_w 121, 0, [(1887, 0)], false), (37, .lcmp, 0, [], false), (38, .ifCond .ne 7, 23, [], false), (41, .iconst 1, 0, [], false), (42, .goto 4, 24, [], false), (45, .iconst 0, 0, [], false), (46, .istore 4, 0, [], false), (48, .lload_n 1, 0, [], false), (49, .ldc2_w 123, 0, [(10261586, 0)], false), (52, .lcmp, 0, [], false), (53, .ifCond .ne 7, 31, [], true), (56, .iconst 1, 0, [], false), (57, .goto 4, 32, [], false), (60, .iconst 0, 0, [], false), (61, .istore 5, 0, [], false), (63, .lload_n 1, 0, [], false), (64, .ldc2_w 125, 0, [(390787, 0)], false), (67, .lcmp, 0, [], false), (68, .ifCond .ne 7, 39, [], false), (71, .iconst 1, 0, [], false), (72, .goto 4, 40, [], false), (75, .iconst 0, 0, [], false), (76, .istore 6, 0, [], false), (78, .aload_n 0, 0, [], false), (79, .iload_n 3, 0, [], false), (80, .ifCond .ne 26, 54, [], true), (83, .iload 4, 0, [], false), (85, .ifCond .ne 21, 54, [], false), (88, .iload 5, 0, [], false), (90, .ifCond .ne 16, 54, [], false), (93, .iload 6, 0, [], false), (95, .ifCond .ne 11, 54, [], false), (98, .lload_n 1, 0, [], false), (99, .ldc2_w 127, 0, [(3544025, 0)], false), (102, .lcmp, 0, [], false), (103, .ifCond .ne 7, 56, [], false), (106, .iconst 1, 0, [], false), (107, .goto 4, 57, [], false), (110, .iconst 0, 0, [], false), (111, .invokevirtual 108, 117, [(2, 0)], true), (114, .aload_n 0, 0, [], false), (115, .getfield 102, 0, [(10, 1), (0, 20), (0, 20), (0, 0)], false), (118, .ifCond .eq 4, 62, [], false), (121, .return_, 0, [], false), (122, .iload_n 3, 0, [], false), (123, .ifCond .eq 23, 75, [], false), (126, .aload_n 0, 0, [], false), (127, .iconst 0, 0, [], false), (128, .iconst 0, 0, [], false), (129, .bipush 12, 0, [], false), (131, .bipush 12, 0, [], false), (133, .aload_n 0, 0, [], false), (134, .iconst 0, 0, [], false), (135, .bipush 15, 0, [], false), (137, .invokevirtual 129, 118, [(3, 1)], false), (140, .invokevirtual 132, 121, [(6, 0)], false), (143, .goto 293, 218, [], false), (146, .iload 4, 0, [], false), (148, .ifCond .eq 61, 108, [], false), (151, .aload_n 0, 0, [], false), (152, .iconst 0, 0, [], false), (153, .bipush 12, 0, [], false), (155, .invokevirtual 129, 118, [(3, 1)], false), (158, .istore 7, 0, [], false), (160, .aload_n 0, 0, [], false), (161, .iconst 0, 0, [], false), (162, .bipush 12, 0, [], false), (164, .invokevirtual 129, 118, [(3, 1)], false), (167, .istore 8, 0, [], false), (169, .aload_n 0, 0, [], false), (170, .iconst 0, 0, [], false), (171, .bipush 12, 0, [], false), (173, .invokevirtual 129, 118, [(3, 1)], false), (176, .istore 9, 0, [], false), (178, .aload_n 0, 0, [], false), (179, .iconst 0, 0, [], false), (180, .bipush 12, 0, [], false), (182, .invokevirtual 129, 118, [(3, 1)], false), (185, .istore 10, 0, [], false), (187, .aload_n 0, 0, [], false), (188, .iload 7, 0, [], false), (190, .iload 8, 0, [], false), (192, .iload 9, 0, [], false), (194, .iload 10, 0, [], false), (196, .aload_n 0, 0, [], false), (197, .iconst 0, 0, [], false), (198, .bipush 15, 0, [], false), (200, .invokevirtual 129, 118, [(3, 1)], false), (203, .invokevirtual 132, 121, [(6, 0)], false), (206, .goto 230, 218, [], false), (209, .iload 5, 0, [], false), (211, .ifCond .eq 30, 123, [], false), (214, .aload_n 0, 0, [], false), (215, .bipush (-12), 0, [], false), (217, .bipush 12, 0, [], false), (219, .invokevirtual 129, 118, [(3, 1)], false), (222, .istore 7, 0, [], false), (224, .aload_n 0, 0, [], false), (225, .iload 7, 0, [], false), (227, .aload_n 0, 0, [], false), (228, .bipush (-12), 0, [], false), (230, .bipush 12, 0, [], false), (232, .invokevirtual 129, 118, [(3, 1)], false), (235, .invokevirtual 136, 122, [(3, 0)], false), (238, .goto 198, 218, [], false), (241, .iload 6, 0, [], false), (243, .ifCond .eq 97, 171, [], false), (246, .aload_n 0, 0, [], false), (247, .iconst 0, 0, [], false), (248, .bipush 15, 0, [], false), (250, .invokevirtual 129, 118, [(3, 1)], false), (253, .istore 7, 0, [], false), (255, .aload_n 0, 0, [], false), (256, .iconst 0, 0, [], false), (257, .bipush 15, 0, [], false), (259, .invokevirtual 129, 118, [(3, 1)], false), (262, .istore 8, 0, [], false), (264, .iconst 0, 0, [], false), (265, .istore 9, 0, [], false), (267, .iload 9, 0, [], true), (269, .aload_n 0, 0, [], false), (270, .invokevirtual 42, 101, [(1, 1)], false), (273, .if_icmp .ge 64, 170, [], false), (276, .aload_n 0, 0, [], false), (277, .getfield 102, 0, [(10, 1), (0, 20), (0, 20), (0, 0)], false), (280, .ifCond .ne 57, 170, [], false), (283, .aload_n 0, 0, [], false), (284, .getfield 7, 0, [(0, 3), (0, 20), (0, 21), (0, 0)], false), (287, .bipush 6, 0, [], false), (289, .iload 9, 0, [], false), (291, .iadd, 0, [], false), (292, .iaload, 0, [], false), (293, .istore 10, 0, [], false), (295, .aload_n 0, 0, [], false), (296, .getfield 7, 0, [(0, 3), (0, 20), (0, 21), (0, 0)], false), (299, .bipush 6, 0, [], false), (301, .iload 9, 0, [], false), (303, .iadd, 0, [], false), (304, .iload 10, 0, [], false), (306, .iload 7, 0, [], false), (308, .if_icmp .ne 8, 161, [], false), (311, .iload 8, 0, [], false), (313, .goto 17, 167, [], false), (316, .iload 10, 0, [], false), (318, .iload 8, 0, [], false), (320, .if_icmp .ne 8, 166, [], false), (323, .iload 7, 0, [], false), (325, .goto 5, 167, [], false), (328, .iload 10, 0, [], false), (330, .iastore, 0, [], false), (331, .iinc 9 1, 0, [], false), (334, .goto (-67), 137, [], false), (337, .goto 99, 218, [], false), (340, .aload_n 0, 0, [], false), (341, .getfield 87, 0, [(7, 0), (0, 20), (0, 20), (0, 0)], false), (344, .iconst 2, 0, [], false), (345, .if_icmp .ne 18, 182, [], false), (348, .aload_n 0, 0, [], false), (349, .getfield 83, 0, [(9, 1), (0, 20), (0, 20), (0, 0)], false), (352, .ifCond .ne 11, 182, [], false), (355, .aload_n 0, 0, [], false), (356, .getfield 79, 0, [(0, 2), (0, 20), (0, 33), (0, 0)], false), (359, .l2i, 0, [], false), (360, .goto 4, 183, [], false), (363, .iconst (-1), 0, [], false), (364, .istore 7, 0, [], false), (366, .aload_n 0, 0, [], false), (367, .aload_n 0, 0, [], false), (368, .iload 7, 0, [], false), (370, .invokevirtual 140, 103, [(2, 1)], true), (373, .ifCond .eq 16, 195, [], false), (376, .aload_n 0, 0, [], false), (377, .iload 7, 0, [], false), (379, .invokevirtual 54, 107, [(2, 1)], false), (382, .ifCond .eq 7, 195, [], false), (385, .iconst 1, 0, [], false), (386, .goto 4, 196, [], false), (389, .iconst 0, 0, [], false), (390, .invokevirtual 108, 117, [(2, 0)], false), (393, .iconst 0, 0, [], false), (394, .istore 8, 0, [], false), (396, .iload 8, 0, [], true), (398, .aload_n 0, 0, [], false), (399, .invokevirtual 42, 101, [(1, 1)], false), (402, .if_icmp .ge 34, 218, [], false), (405, .aload_n 0, 0, [], false), (406, .getfield 102, 0, [(10, 1), (0, 20), (0, 20), (0, 0)], false), (409, .ifCond .ne 27, 218, [], false), (412, .aload_n 0, 0, [], false), (413, .getfield 7, 0, [(0, 3), (0, 20), (0, 21), (0, 0)], false), (416, .bipush 6, 0, [], false), (418, .iload 8, 0, [], false), (420, .iadd, 0, [], false), (421, .aload_n 0, 0, [], false), (422, .iload 7, 0, [], false), (424, .iload 8, 0, [], false), (426, .invokevirtual 143, 104, [(3, 1)], false), (429, .iastore, 0, [], false), (430, .iinc 8 1, 0, [], false), (433, .goto (-37), 199, [], false), (436, .aload_n 0, 0, [], false), (437, .aload_n 0, 0, [], false), (438, .getfield 87, 0, [(7, 0), (0, 20), (0, 20), (0, 0)], false), (441, .iconst 3, 0, [], false), (442, .if_icmp .ne 7, 225, [], false), (445, .iconst 1, 0, [], false), (446, .goto 4, 226, [], false), (449, .iconst 0, 0, [], false), (450, .invokevirtual 108, 117, [(2, 0)], false), (453, .return_, 0, [], false)]
def zc124 : List mzN := [(0, .iconst 0, 0, [], false), (1, .istore_n 1, 0, [], false), (2, .iload_n 1, 0, [], true), (3, .sipush 144, 0, [], false), (6, .if_icmp .ge 41, 29, [], false), (9, .aload_n 0, 0, [], false), (10, .getfield 7, 0, [(0, 3), (0, 20), (0, 21), (0, 0)], false), (13, .bipush 6, 0, [], false), (15, .iload_n 1, 0, [], false), (16, .iadd, 0, [], false), (17, .iaload, 0, [], false), (18, .istore_n 2, 0, [], false), (19, .aload_n 0, 0, [], false), (20, .getfield 7, 0, [(0, 3), (0, 20), (0, 21), (0, 0)], false), (23, .bipush 6, 0, [], false), (25, .iload_n 1, 0, [], false), (26, .iadd, 0, [], false), (27, .aload_n 0, 0, [], false), (28, .getfield 23, 0, [(0, 3), (0, 20), (0, 25), (0, 0)], false), (31, .iload_n 1, 0, [], false), (32, .iaload, 0, [], false), (33, .iastore, 0, [], false), (34, .aload_n 0, 0, [], false), (35, .getfield 23, 0, [(0, 3), (0, 20), (0, 25), (0, 0)], false), (38, .iload_n 1, 0, [], false), (39, .iload_n 2, 0, [], false), (40, .iastore, 0, [], false), (41, .iinc 1 1, 0, [], false), (44, .goto (-42), 2, [], false), (47, .return_, 0, [], false)]
def zc125 : List mzN := [(0, .iconst 0, 0, [], false), (1, .istore_n 1, 0, [], false), (2, .iload_n 1, 0, [], true), (3, .sipush 144, 0, [], false), (6, .if_icmp .ge 24, 17, [], false), (9, .aload_n 0, 0, [], false), (10, .getfield 23, 0, [(0, 3), (0, 20), (0, 25), (0, 0)], false), (13, .iload_n 1, 0, [], false), (14, .aload_n 0, 0, [], false), (15, .getfield 7, 0, [(0, 3), (0, 20), (0, 21), (0, 0)], false), (18, .bipush 6, 0, [], false), (20, .iload_n 1, 0, [], false), (21, .iadd, 0, [], false), (22, .iaload, 0, [], false), (23, .iastore, 0, [], false), (24, .iinc 1 1, 0, [], false), (27, .goto (-25), 2, [], false), (30, .aload_n 0, 0, [], false), (31, .iconst 0, 0, [], false), (32, .putfield 70, 0, [(5, 0), (0, 20), (0, 20), (0, 0)], false), (35, .aload_n 0, 0, [], false), (36, .iconst 0, 0, [], false), (37, .putfield 102, 0, [(10, 1), (0, 20), (0, 20), (0, 0)], false), (40, .iconst 0, 0, [], false), (41, .istore_n 1, 0, [], false), (42, .aload_n 0, 0, [], false), (43, .invokevirtual 105, 116, [(1, 0)], false), (46, .aload_n 0, 0, [], true), (47, .getfield 102, 0, [(10, 1), (0, 20), (0, 20), (0, 0)], false), (50, .ifCond .ne 20, 37, [], false), (53, .aload_n 0, 0, [], false), (54, .getfield 87, 0, [(7, 0), (0, 20), (0, 20), (0, 0)], false), (57, .ifCond .eq 13, 37, [], false), (60, .aload_n 0, 0, [], false), (61, .invokevirtual 146, 123, [(1, 0)], false), (64, .iinc 1 1, 0, [], false), (67, .goto (-21), 27, [], false), (70, .aload_n 0, 0, [], false), (71, .invokevirtual 149, 124, [(1, 0)], false), (74, .aload_n 0, 0, [], false), (75, .getfield 102, 0, [(10, 1), (0, 20), (0, 20), (0, 0)], false), (78, .ifCond .eq 11, 47, [], false), (81, .bipush (-10), 0, [], false), (83, .aload_n 0, 0, [], false), (84, .getfield 76, 0, [(6, 0), (0, 20), (0, 20), (0, 0)], false), (87, .isub, 0, [], false), (88, .ireturn, 0, [], false), (89, .aload_n 0, 0, [], false), (90, .invokevirtual 58, 99, [(1, 0)], false), (93, .aload_n 0, 0, [], false), (94, .invokevirtual 149, 124, [(1, 0)], false), (97, .aload_n 0, 0, [], false), (98, .iconst 0, 0, [], false), (99, .putfield 67, 0, [(4, 0), (0, 20), (0, 20), (0, 0)], false), (102, .iload_n 1, 0, [], false), (103, .ireturn, 0, [], false)]
def zc126 : List mzN := [(0, .iload_n 1, 0, [], false), (1, .iconst (-1), 0, [], false), (2, .if_icmp .eq 11, 7, [], false), (5, .aload_n 0, 0, [], false), (6, .iload_n 1, 0, [], false), (7, .invokevirtual 140, 103, [(2, 1)], false), (10, .ifCond .eq 7, 9, [], false), (13, .iconst 1, 0, [], false), (14, .goto 4, 10, [], false), (17, .iconst 0, 0, [], false), (18, .ireturn, 1, [], false)]
def zc127 : List mzN := [(0, .iload_n 1, 0, [], false), (1, .ifCond .lt 11, 6, [], false), (4, .aload_n 0, 0, [], false), (5, .iload_n 1, 0, [], false), (6, .invokevirtual 54, 107, [(2, 1)], false), (9, .ifCond .eq 7, 8, [], false), (12, .iconst 1, 0, [], false), (13, .goto 4, 9, [], false), (16, .iconst 0, 0, [], false), (17, .ireturn, 1, [], false)]
def zc128 : List mzN := [(0, .bipush 7, 0, [], false), (2, .istore 4, 0, [], false), (4, .iconst 0, 0, [], false), (5, .istore 5, 0, [], false), (7, .iload 5, 0, [], true), (9, .bipush 16, 0, [], false), (11, .if_icmp .ge 42, 31, [], false), (14, .iload 4, 0, [], false), (16, .bipush 31, 0, [], false), (18, .imul, 0, [], false), (19, .aload_n 0, 0, [], false), (20, .iload_n 1, 0, [], false), (21, .aload_n 0, 0, [], false), (22, .iload_n 2, 0, [], false), (23, .iload 5, 0, [], false), (25, .iconst 4, 0, [], false), (26, .irem, 0, [], false), (27, .iadd, 0, [], false), (28, .iload_n 3, 0, [], false), (29, .iload 5, 0, [], false), (31, .iconst 4, 0, [], false), (32, .idiv, 0, [], false), (33, .iadd, 0, [], false), (34, .invokevirtual 115, 119, [(3, 1)], false), (37, .invokevirtual 143, 104, [(3, 1)], false), (40, .iadd, 0, [], false), (41, .sipush 9973, 0, [], false), (44, .irem, 0, [], false), (45, .istore 4, 0, [], false), (47, .iinc 5 1, 0, [], false), (50, .goto (-43), 4, [], false), (53, .iload 4, 0, [], false), (55, .ireturn, 0, [], false)]
def zc129 : List mzN := [(0, .aload_n 0, 0, [], false), (1, .iload_n 1, 0, [], false), (2, .invokevirtual 152, 126, [(2, 1)], false), (5, .ifCond .eq 35, 24, [], false), (8, .iload_n 2, 0, [], false), (9, .iconst 0, 0, [], false), (10, .aload_n 0, 0, [], false), (11, .getfield 7, 0, [(0, 3), (0, 20), (0, 21), (0, 0)], false), (14, .iconst 0, 0, [], false), (15, .iaload, 0, [], false), (16, .iconst 4, 0, [], false), (17, .isub, 0, [], false), (18, .invokestatic 46, 98, [(3, 1)], false), (21, .ifCond .eq 19, 24, [], false), (24, .iload_n 3, 0, [], false), (25, .iconst 0, 0, [], false), (26, .aload_n 0, 0, [], false), (27, .getfield 7, 0, [(0, 3), (0, 20), (0, 21), (0, 0)], false), (30, .iconst 1, 0, [], false), (31, .iaload, 0, [], false), (32, .iconst 4, 0, [], false), (33, .isub, 0, [], false), (34, .invokestatic 46, 98, [(3, 1)], false), (37, .ifCond .ne 5, 26, [], false), (40, .iconst (-1), 0, [], false), (41, .ireturn, 0, [], false), (42, .aload_n 0, 0, [], false), (43, .iload_n 1, 0, [], false), (44, .invokevirtual 155, 127, [(2, 1)], false), (47, .ifCond .eq 13, 36, [], false), (50, .aload_n 0, 0, [], false), (51, .iload_n 1, 0, [], false), (52, .iload_n 2, 0, [], false), (53, .iload_n 3, 0, [], false), (54, .invokevirtual 158, 128, [(4, 1)], false), (57, .goto 5, 37, [], false), (60, .bipush (-2), 0, [], false), (62, .ireturn, 0, [], false)]
def zc130 : List mzN := [(0, .iconst 4, 0, [], false), (1, .iload_n 1, 0, [], false), (2, .aload_n 0, 0, [], false), (3, .getfield 7, 0, [(0, 3), (0, 20), (0, 21), (0, 0)], false), (6, .iconst 0, 0, [], false), (7, .iaload, 0, [], false), (8, .iconst 4, 0, [], false), (9, .idiv, 0, [], false), (10, .irem, 0, [], false), (11, .imul, 0, [], false), (12, .ireturn, 0, [], false)]
def zc131 : List mzN := [(0, .iconst 4, 0, [], false), (1, .iload_n 1, 0, [], false), (2, .aload_n 0, 0, [], false), (3, .getfield 7, 0, [(0, 3), (0, 20), (0, 21), (0, 0)], false), (6, .iconst 0, 0, [], false), (7, .iaload, 0, [], false), (8, .iconst 4, 0, [], false), (9, .idiv, 0, [], false), (10, .idiv, 0, [], false), (11, .imul, 0, [], false), (12, .ireturn, 0, [], false)]
def zc132 : List mzN := [(0, .aload_n 0, 0, [], false), (1, .aload_n 0, 0, [], false), (2, .iload_n 3, 0, [], false), (3, .invokevirtual 162, 130, [(2, 1)], false), (6, .iload 4, 0, [], false), (8, .iconst 4, 0, [], false), (9, .irem, 0, [], false), (10, .iadd, 0, [], false), (11, .aload_n 0, 0, [], false), (12, .iload_n 3, 0, [], false), (13, .invokevirtual 165, 131, [(2, 1)], false), (16, .iload 4, 0, [], false), (18, .iconst 4, 0, [], false), (19, .idiv, 0, [], false), (20, .iadd, 0, [], false), (21, .invokevirtual 115, 119, [(3, 1)], false), (24, .istore 5, 0, [], false), (26, .iload_n 2, 0, [], false), (27, .iconst (-1), 0, [], false), (28, .if_icmp .ne 13, 25, [], false), (31, .aload_n 0, 0, [], false), (32, .iload_n 1, 0, [], false), (33, .iload 5, 0, [], false), (35, .invokevirtual 143, 104, [(3, 1)], false), (38, .goto 24, 38, [], false), (41, .aload_n 0, 0, [], false), (42, .iload_n 1, 0, [], false), (43, .iload 5, 0, [], false), (45, .invokevirtual 143, 104, [(3, 1)], false), (48, .aload_n 0, 0, [], false), (49, .iload_n 2, 0, [], false), (50, .iload 5, 0, [], false), (52, .invokevirtual 143, 104, [(3, 1)], false), (55, .isub, 0, [], false), (56, .bipush 16, 0, [], false), (58, .iadd, 0, [], false), (59, .bipush 16, 0, [], false), (61, .irem, 0, [], false), (62, .ireturn, 0, [], false)]
def zc133 : List mzN := [(0, .iconst 1, 0, [], false), (1, .istore 4, 0, [], false), (3, .iconst 1, 0, [], false), (4, .istore 5, 0, [], false), (6, .iload 5, 0, [], true), (8, .bipush 16, 0, [], false), (10, .if_icmp .ge 42, 30, [], false), (13, .iload 4, 0, [], false), (15, .aload_n 0, 0, [], false), (16, .iload_n 1, 0, [], false), (17, .iload_n 2, 0, [], false), (18, .iload_n 3, 0, [], false), (19, .iload 5, 0, [], false), (21, .invokevirtual 168, 132, [(5, 1)], false), (24, .aload_n 0, 0, [], false), (25, .iload_n 1, 0, [], false), (26, .iload_n 2, 0, [], false), (27, .iload_n 3, 0, [], false), (28, .iload 5, 0, [], false), (30, .iconst 1, 0, [], false), (31, .isub, 0, [], false), (32, .invokevirtual 168, 132, [(5, 1)], false), (35, .if_icmp .eq 7, 25, [], false), (38, .iconst 1, 0, [], false), (39, .goto 4, 26, [], false), (42, .iconst 0, 0, [], false), (43, .iadd, 0, [], false), (44, .istore 4, 0, [], false), (46, .iinc 5 1, 0, [], false), (49, .goto (-43), 4, [], false), (52, .iload 4, 0, [], false), (54, .ireturn, 0, [], false)]
def zc134 : List mzN := [(0, .aload_n 0, 0, [], false), (1, .iload_n 3, 0, [], false), (2, .invokevirtual 162, 130, [(2, 1)], false), (5, .iload 4, 0, [], false), (7, .iadd, 0, [], false), (8, .istore 6, 0, [], false), (10, .aload_n 0, 0, [], false), (11, .iload_n 3, 0, [], false), (12, .invokevirtual 165, 131, [(2, 1)], false), (15, .iload 5, 0, [], false), (17, .iadd, 0, [], false), (18, .istore 7, 0, [], false), (20, .iload 6, 0, [], false), (22, .iconst 0, 0, [], false), (23, .aload_n 0, 0, [], false), (24, .getfield 7, 0, [(0, 3), (0, 20), (0, 21), (0, 0)], false), (27, .iconst 0, 0, [], false), (28, .iaload, 0, [], false), (29, .iconst 4, 0, [], false), (30, .isub, 0, [], false), (31, .invokestatic 46, 98, [(3, 1)], false), (34, .ifCond .eq 24, 34, [], false), (37, .iload 7, 0, [], false), (39, .iconst 0, 0, [], false), (40, .aload_n 0, 0, [], false), (41, .getfield 7, 0, [(0, 3), (0, 20), (0, 21), (0, 0)], false), (44, .iconst 1, 0, [], false), (45, .iaload, 0, [], false), (46, .iconst 4, 0, [], false), (47, .isub, 0, [], false), (48, .invokestatic 46, 98, [(3, 1)], false), (51, .ifCond .eq 7, 34, [], false), (54, .iconst 1, 0, [], false), (55, .goto 4, 35, [], false), (58, .iconst 0, 0, [], false), (59, .istore 8, 0, [], false), (61, .iconst 0, 0, [], false), (62, .istore 9, 0, [], false), (64, .iload 9, 0, [], true), (66, .bipush 16, 0, [], false), (68, .if_icmp .ge 76, 84, [], false), (71, .iload 8, 0, [], false), (73, .ifCond .eq 71, 84, [], false), (76, .aload_n 0, 0, [], false), (77, .iload_n 1, 0, [], false), (78, .aload_n 0, 0, [], false), (79, .aload_n 0, 0, [], false), (80, .iload_n 3, 0, [], false), (81, .invokevirtual 162, 130, [(2, 1)], false), (84, .iload 9, 0, [], false), (86, .iconst 4, 0, [], false), (87, .irem, 0, [], false), (88, .iadd, 0, [], false), (89, .aload_n 0, 0, [], false), (90, .iload_n 3, 0, [], false), (91, .invokevirtual 165, 131, [(2, 1)], false), (94, .iload 9, 0, [], false), (96, .iconst 4, 0, [], false), (97, .idiv, 0, [], false), (98, .iadd, 0, [], false), (99, .invokevirtual 115, 119, [(3, 1)], false), (102, .invokevirtual 143, 104, [(3, 1)], false), (105, .aload_n 0, 0, [], false), (106, .iload_n 2, 0, [], false), (107, .aload_n 0, 0, [], false), (108, .iload 6, 0, [], false), (110, .iload 9, 0, [], false), (112, .iconst 4, 0, [], false), (113, .irem, 0, [], false), (114, .iadd, 0, [], false), (115, .iload 7, 0, [], false), (117, .iload 9, 0, [], false), (119, .iconst 4, 0, [], false), (120, .idiv, 0, [], false), (121, .iadd, 0, [], false), (122, .invokevirtual 115, 119, [(3, 1)], false), (125, .invokevirtual 143, 104, [(3, 1)], false), (128, .if_icmp .ne 7, 80, [], false), (131, .iconst 1, 0, [], false), (132, .goto 4, 81, [], false), (135, .iconst 0, 0, [], false), (136, .istore 8, 0, [], false), (138, .iinc 9 1, 0, [], false), (141, .goto (-77), 38, [], false), (144, .iload 8, 0, [], false), (146, .ireturn, 1, [], false)]
def zc135 : List mzN := [(0, .iload_n 0, 0, [], false), (1, .ifCond .ge 8, 5, [], false), (4, .iload_n 0, 0, [], false), (5, .ineg, 0, [], false), (6, .goto 4, 6, [], false), (9, .iload_n 0, 0, [], false), (10, .ireturn, 0, [], false)]
def zc136 : List mzN := [(0, .iconst 0, 0, [], false), (1, .istore 4, 0, [], false), (3, .aload_n 0, 0, [], false), (4, .getfield 7, 0, [(0, 3), (0, 20), (0, 21), (0, 0)], false), (7, .iconst 3, 0, [], false), (8, .iaload, 0, [], false), (9, .istore 5, 0, [], false), (11, .iload 5, 0, [], false), (13, .ineg, 0, [], false), (14, .istore 6, 0, [], false), (16, .iload 6, 0, [], true), (18, .iload 5, 0, [], false), (20, .if_icmp .gt 135, 88, [], false), (23, .iload 5, 0, [], false), (25, .ineg, 0, [], false), (26, .istore 7, 0, [], false), (28, .iload 7, 0, [], true), (30, .iload 5, 0, [], false), (32, .if_icmp .gt 117, 86, [], false), (35, .iload 7, 0, [], false), (37, .invokestatic 172, 135, [(1, 1)], false), (40, .iload 6, 0, [], false), (42, .invokestatic 172, 135, [(1, 1)], false), (45, .iadd, 0, [], false), (46, .istore 8, 0, [], false), (48, .iload 4, 0, [], false), (50, .ifCond .eq 35, 48, [], false), (53, .iload 8, 0, [], false), (55, .aload_n 0, 0, [], false), (56, .getfield 26, 0, [(0, 3), (0, 20), (0, 26), (0, 0)], false), (59, .iconst 3, 0, [], false), (60, .iload_n 3, 0, [], false), (61, .imul, 0, [], false), (62, .iconst 1, 0, [], false), (63, .iadd, 0, [], false), (64, .iaload, 0, [], false), (65, .invokestatic 172, 135, [(1, 1)], false), (68, .aload_n 0, 0, [], false), (69, .getfield 26, 0, [(0, 3), (0, 20), (0, 26), (0, 0)], false), (72, .iconst 3, 0, [], false), (73, .iload_n 3, 0, [], false), (74, .imul, 0, [], false), (75, .iconst 2, 0, [], false), (76, .iadd, 0, [], false), (77, .iaload, 0, [], false), (78, .invokestatic 172, 135, [(1, 1)], false), (81, .iadd, 0, [], false), (82, .if_icmp .ge 7, 50, [], false), (85, .iconst 1, 0, [], false), (86, .goto 4, 51, [], false), (89, .iconst 0, 0, [], false), (90, .istore 9, 0, [], false), (92, .iload 8, 0, [], false), (94, .ifCond .le 49, 84, [], false), (97, .iload 9, 0, [], false), (99, .ifCond .eq 44, 84, [], false), (102, .aload_n 0, 0, [], false), (103, .iload_n 1, 0, [], false), (104, .iload_n 2, 0, [], false), (105, .iload_n 3, 0, [], false), (106, .iload 7, 0, [], false), (108, .iload 6, 0, [], false), (110, .invokevirtual 175, 134, [(6, 1)], false), (113, .ifCond .eq 30, 84, [], false), (116, .iconst 1, 0, [], false), (117, .istore 4, 0, [], false), (119, .aload_n 0, 0, [], false), (120, .getfield 26, 0, [(0, 3), (0, 20), (0, 26), (0, 0)], false), (123, .iconst 3, 0, [], false), (124, .iload_n 3, 0, [], false), (125, .imul, 0, [], false), (126, .iconst 1, 0, [], false), (127, .iadd, 0, [], false), (128, .iload 7, 0, [], false), (130, .iastore, 0, [], false), (131, .aload_n 0, 0, [], false), (132, .getfield 26, 0, [(0, 3), (0, 20), (0, 26), (0, 0)], false), (135, .iconst 3, 0, [], false), (136, .iload_n 3, 0, [], false), (137, .imul, 0, [], false), (138, .iconst 2, 0, [], false), (139, .iadd, 0, [], false), (140, .iload 6, 0, [], false), (142, .iastore, 0, [], false), (143, .iinc 7 1, 0, [], false), (146, .goto (-118), 16, [], false), (149, .iinc 6 1, 0, [], false), (152, .goto (-136), 10, [], false), (155, .iload 4, 0, [], false), (157, .ireturn, 1, [], false)]
def zc137 : List mzN := [(0, .aload_n 0, 0, [], false), (1, .getfield 26, 0, [(0, 3), (0, 20), (0, 26), (0, 0)], false), (4, .iconst 3, 0, [], false), (5, .iload_n 3, 0, [], false), (6, .imul, 0, [], false), (7, .iconst 1, 0, [], false), (8, .iadd, 0, [], false), (9, .iconst 0, 0, [], false), (10, .iastore, 0, [], false), (11, .aload_n 0, 0, [], false), (12, .getfield 26, 0, [(0, 3), (0, 20), (0, 26), (0, 0)], false), (15, .iconst 3, 0, [], false), (16, .iload_n 3, 0, [], false), (17, .imul, 0, [], false), (18, .iconst 2, 0, [], false), (19, .iadd, 0, [], false), (20, .iconst 0, 0, [], false), (21, .iastore, 0, [], false), (22, .iconst 2, 0, [], false), (23, .iconst 2, 0, [], false), (24, .aload_n 0, 0, [], false), (25, .iload_n 1, 0, [], false), (26, .iconst (-1), 0, [], false), (27, .iload_n 3, 0, [], false), (28, .invokevirtual 179, 133, [(4, 1)], false), (31, .imul, 0, [], false), (32, .iadd, 0, [], false), (33, .istore 4, 0, [], false), (35, .iload_n 2, 0, [], false), (36, .iconst (-1), 0, [], false), (37, .if_icmp .ne 15, 40, [], false), (40, .aload_n 0, 0, [], false), (41, .getfield 26, 0, [(0, 3), (0, 20), (0, 26), (0, 0)], false), (44, .iconst 3, 0, [], false), (45, .iload_n 3, 0, [], false), (46, .imul, 0, [], false), (47, .iconst 3, 0, [], false), (48, .iastore, 0, [], false), (49, .iload 4, 0, [], false), (51, .ireturn, 0, [], false), (52, .aload_n 0, 0, [], false), (53, .iload_n 1, 0, [], false), (54, .iload_n 2, 0, [], false), (55, .iload_n 3, 0, [], false), (56, .iconst 0, 0, [], false), (57, .iconst 0, 0, [], false), (58, .invokevirtual 175, 134, [(6, 1)], false), (61, .ifCond .eq 14, 57, [], false), (64, .aload_n 0, 0, [], false), (65, .getfield 26, 0, [(0, 3), (0, 20), (0, 26), (0, 0)], false), (68, .iconst 3, 0, [], false), (69, .iload_n 3, 0, [], false), (70, .imul, 0, [], false), (71, .iconst 0, 0, [], false), (72, .iastore, 0, [], false), (73, .iconst 1, 0, [], false), (74, .ireturn, 0, [], false), (75, .aload_n 0, 0, [], false), (76, .iload_n 1, 0, [], false), (77, .iload_n 2, 0, [], false), (78, .iload_n 3, 0, [], false), (79, .invokevirtual 182, 136, [(4, 1)], false), (82, .ifCond .eq 14, 72, [], false), (85, .aload_n 0, 0, [], false), (86, .getfield 26, 0, [(0, 3), (0, 20), (0, 26), (0, 0)], false), (89, .iconst 3, 0, [], false), (90, .iload_n 3, 0, [], false), (91, .imul, 0, [], false), (92, .iconst 1, 0, [], false), (93, .iastore, 0, [], false), (94, .iconst 3, 0, [], false), (95, .ireturn, 0, [], false), (96, .iconst 2, 0, [], false), (97, .iconst 2, 0, [], false), (98, .aload_n 0, 0, [], false), (99, .iload_n 1, 0, [], false), (100, .iload_n 2, 0, [], false), (101, .iload_n 3, 0, [], false), (102, .invokevirtual 179, 133, [(4, 1)], false), (105, .imul, 0, [], false), (106, .iadd, 0, [], false), (107, .istore 5, 0, [], false), (109, .aload_n 0, 0, [], false), (110, .getfield 26, 0, [(0, 3), (0, 20), (0, 26), (0, 0)], false), (113, .iconst 3, 0, [], false), (114, .iload_n 3, 0, [], false), (115, .imul, 0, [], false), (116, .iload 5, 0, [], false), (118, .iload 4, 0, [], false), (120, .if_icmp .gt 7, 92, [], false), (123, .iconst 2, 0, [], false), (124, .goto 4, 93, [], false), (127, .iconst 3, 0, [], false), (128, .iastore, 0, [], false), (129, .iload 5, 0, [], false), (131, .iload 4, 0, [], false), (133, .if_icmp .gt 8, 99, [], false), (136, .iload 5, 0, [], false), (138, .goto 5, 100, [], false), (141, .iload 4, 0, [], false), (143, .ireturn, 0, [], false)]
def zc138 : List mzN := [(0, .iconst 2, 0, [], false), (1, .istore_n 3, 0, [], false), (2, .iconst 0, 0, [], false), (3, .istore 4, 0, [], false), (5, .iload 4, 0, [], true), (7, .aload_n 0, 0, [], false), (8, .invokevirtual 61, 102, [(1, 1)], false), (11, .if_icmp .ge 20, 18, [], false), (14, .iload_n 3, 0, [], false), (15, .aload_n 0, 0, [], false), (16, .iload_n 1, 0, [], false), (17, .iload_n 2, 0, [], false), (18, .iload 4, 0, [], false), (20, .invokevirtual 185, 137, [(4, 1)], false), (23, .iadd, 0, [], false), (24, .istore_n 3, 0, [], false), (25, .iinc 4 1, 0, [], false), (28, .goto (-23), 4, [], false), (31, .iload_n 3, 0, [], false), (32, .ireturn, 0, [], false)]
def zc139 : List mzN := [(0, .sipush 1610, 0, [], false), (3, .bipush 27, 0, [], false), (5, .iload_n 1, 0, [], false), (6, .imul, 0, [], false), (7, .iadd, 0, [], false), (8, .iconst 3, 0, [], false), (9, .iload_n 2, 0, [], false), (10, .imul, 0, [], false), (11, .iadd, 0, [], false), (12, .ireturn, 0, [], false)]
def zc140 : List mzN := [(0, .aload_n 0, 0, [], false), (1, .getfield 7, 0, [(0, 3), (0, 20), (0, 21), (0, 0)], false), (4, .aload_n 0, 0, [], false), (5, .iload_n 1, 0, [], false), (6, .iload_n 2, 0, [], false), (7, .invokevirtual 188, 139, [(3, 1)], false), (10, .iaload, 0, [], false), (11, .istore_n 3, 0, [], false), (12, .iload_n 3, 0, [], false), (13, .iconst 2, 0, [], false), (14, .if_icmp .ne 17, 19, [], false), (17, .aload_n 0, 0, [], false), (18, .iload_n 1, 0, [], false), (19, .aload_n 0, 0, [], false), (20, .iload_n 1, 0, [], false), (21, .invokevirtual 50, 105, [(2, 1)], false), (24, .iload_n 2, 0, [], false), (25, .invokevirtual 179, 133, [(4, 1)], false), (28, .goto 19, 29, [], false), (31, .iload_n 3, 0, [], false), (32, .iconst 3, 0, [], false), (33, .if_icmp .ne 13, 28, [], false), (36, .aload_n 0, 0, [], false), (37, .iload_n 1, 0, [], false), (38, .iconst (-1), 0, [], false), (39, .iload_n 2, 0, [], false), (40, .invokevirtual 179, 133, [(4, 1)], false), (43, .goto 4, 29, [], false), (46, .iconst 0, 0, [], false), (47, .ireturn, 0, [], false)]
def zc141 : List mzN := [(0, .iconst 2, 0, [], false), (1, .istore_n 2, 0, [], false), (2, .iconst 0, 0, [], false), (3, .istore_n 3, 0, [], false), (4, .iload_n 3, 0, [], true), (5, .aload_n 0, 0, [], false), (6, .invokevirtual 61, 102, [(1, 1)], false), (9, .if_icmp .ge 54, 38, [], false), (12, .aload_n 0, 0, [], false), (13, .getfield 7, 0, [(0, 3), (0, 20), (0, 21), (0, 0)], false), (16, .aload_n 0, 0, [], false), (17, .iload_n 1, 0, [], false), (18, .iload_n 3, 0, [], false), (19, .invokevirtual 188, 139, [(3, 1)], false), (22, .iaload, 0, [], false), (23, .istore 4, 0, [], false), (25, .iload_n 2, 0, [], false), (26, .iload 4, 0, [], false), (28, .ifCond .ne 7, 21, [], false), (31, .iconst 1, 0, [], false), (32, .goto 23, 34, [], false), (35, .iload 4, 0, [], false), (37, .iconst 1, 0, [], false), (38, .if_icmp .ne 7, 26, [], false), (41, .iconst 3, 0, [], false), (42, .goto 13, 34, [], false), (45, .iconst 2, 0, [], false), (46, .iconst 2, 0, [], false), (47, .aload_n 0, 0, [], false), (48, .iload_n 1, 0, [], false), (49, .iload_n 3, 0, [], false), (50, .invokevirtual 191, 140, [(3, 1)], false), (53, .imul, 0, [], false), (54, .iadd, 0, [], false), (55, .iadd, 0, [], false), (56, .istore_n 2, 0, [], false), (57, .iinc 3 1, 0, [], false), (60, .goto (-56), 4, [], false), (63, .iload_n 2, 0, [], false), (64, .ireturn, 0, [], false)]
def zc142 : List mzN := [(0, .aload_n 0, 0, [], false), (1, .iload_n 1, 0, [], false), (2, .invokevirtual 194, 141, [(2, 1)], false), (5, .istore_n 2, 0, [], false), (6, .iload_n 1, 0, [], false), (7, .istore_n 3, 0, [], false), (8, .aload_n 0, 0, [], true), (9, .iload_n 3, 0, [], false), (10, .invokevirtual 50, 105, [(2, 1)], false), (13, .iconst (-1), 0, [], false), (14, .if_icmp .eq 24, 24, [], false), (17, .iload_n 2, 0, [], false), (18, .aload_n 0, 0, [], false), (19, .aload_n 0, 0, [], false), (20, .iload_n 3, 0, [], false), (21, .invokevirtual 50, 105, [(2, 1)], false), (24, .invokevirtual 194, 141, [(2, 1)], false), (27, .iadd, 0, [], false), (28, .istore_n 2, 0, [], false), (29, .aload_n 0, 0, [], false), (30, .iload_n 3, 0, [], false), (31, .invokevirtual 50, 105, [(2, 1)], false), (34, .istore_n 3, 0, [], false), (35, .goto (-27), 6, [], false), (38, .iload_n 2, 0, [], false), (39, .ireturn, 0, [], false)]
def zc143 : List mzN := [(0, .aload_n 0, 0, [], false), (1, .getfield 7, 0, [(0, 3), (0, 20), (0, 21), (0, 0)], false), (4, .sipush 1590, 0, [], false), (7, .iload_n 1, 0, [], false), (8, .iadd, 0, [], false), (9, .iload_n 2, 0, [], false), (10, .iastore, 0, [], false), (11, .aload_n 0, 0, [], false), (12, .getfield 7, 0, [(0, 3), (0, 20), (0, 21), (0, 0)], false), (15, .sipush 1600, 0, [], false), (18, .iload_n 1, 0, [], false), (19, .iadd, 0, [], false), (20, .iconst 0, 0, [], false), (21, .iastore, 0, [], false), (22, .iconst 0, 0, [], false), (23, .istore_n 3, 0, [], false), (24, .iload_n 3, 0, [], true), (25, .bipush 27, 0, [], false), (27, .if_icmp .ge 30, 35, [], false), (30, .aload_n 0, 0, [], false), (31, .getfield 7, 0, [(0, 3), (0, 20), (0, 21), (0, 0)], false), (34, .sipush 1610, 0, [], false), (37, .bipush 27, 0, [], false), (39, .iload_n 1, 0, [], false), (40, .imul, 0, [], false), (41, .iadd, 0, [], false), (42, .iload_n 3, 0, [], false), (43, .iadd, 0, [], false), (44, .aload_n 0, 0, [], false), (45, .getfield 26, 0, [(0, 3), (0, 20), (0, 26), (0, 0)], false), (48, .iload_n 3, 0, [], false), (49, .iaload, 0, [], false), (50, .iastore, 0, [], false), (51, .iinc 3 1, 0, [], false), (54, .goto (-30), 16, [], false), (57, .return_, 0, [], false)]
def zc144 : List mzN := [(0, .aload_n 0, 0, [], false), (1, .invokevirtual 58, 99, [(1, 0)], false), (4, .aload_n 0, 0, [], false), (5, .getfield 7, 0, [(0, 3), (0, 20), (0, 21), (0, 0)], false), (8, .iconst 2, 0, [], false), (9, .iaload, 0, [], false), (10, .istore_n 2, 0, [], false), (11, .aload_n 0, 0, [], false), (12, .iconst (-1), 0, [], false), (13, .iload_n 1, 0, [], false), (14, .invokevirtual 197, 138, [(3, 1)], false), (17, .istore_n 3, 0, [], false), (18, .iconst 0, 0, [], false), (19, .istore 4, 0, [], false), (21, .iload 4, 0, [], true), (23, .sipush 144, 0, [], false), (26, .if_icmp .ge 36, 35, [], false), (29, .aload_n 0, 0, [], false), (30, .getfield 7, 0, [(0, 3), (0, 20), (0, 21), (0, 0)], false), (33, .sipush 150, 0, [], false), (36, .sipush 144, 0, [], false), (39, .iload_n 2, 0, [], false), (40, .imul, 0, [], false), (41, .iadd, 0, [], false), (42, .iload 4, 0, [], false), (44, .iadd, 0, [], false), (45, .aload_n 0, 0, [], false), (46, .getfield 7, 0, [(0, 3), (0, 20), (0, 21), (0, 0)], false), (49, .bipush 6, 0, [], false), (51, .iload 4, 0, [], false), (53, .iadd, 0, [], false), (54, .iaload, 0, [], false), (55, .iastore, 0, [], false), (56, .iinc 4 1, 0, [], false), (59, .goto (-38), 14, [], false), (62, .aload_n 0, 0, [], false), (63, .iload_n 2, 0, [], false), (64, .iload_n 1, 0, [], false), (65, .invokevirtual 200, 143, [(3, 0)], false), (68, .aload_n 0, 0, [], false), (69, .getfield 7, 0, [(0, 3), (0, 20), (0, 21), (0, 0)], false), (72, .iconst 2, 0, [], false), (73, .dup2, 0, [], false), (74, .iaload, 0, [], false), (75, .iconst 1, 0, [], false), (76, .iadd, 0, [], false), (77, .iastore, 0, [], false), (78, .iload_n 3, 0, [], false), (79, .ireturn, 0, [], false)]
def zc145 : List mzN := [(0, .aload_n 0, 0, [], false), (1, .getfield 7, 0, [(0, 3), (0, 20), (0, 21), (0, 0)], false), (4, .iconst 2, 0, [], false), (5, .iaload, 0, [], false), (6, .bipush 10, 0, [], false), (8, .if_icmp .ne 8, 8, [], false), (11, .bipush (-3), 0, [], false), (13, .goto 8, 11, [], false), (16, .aload_n 0, 0, [], false), (17, .iconst (-1), 0, [], false), (18, .invokevirtual 203, 144, [(2, 1)], false), (21, .ireturn, 0, [], false)]
def zc146 : List mzN := [(0, .aload_n 0, 0, [], false), (1, .iload_n 1, 0, [], false), (2, .invokevirtual 140, 103, [(2, 1)], false), (5, .ifCond .ne 5, 6, [], false), (8, .iconst (-1), 0, [], false), (9, .ireturn, 0, [], false), (10, .aload_n 0, 0, [], false), (11, .iload_n 1, 0, [], false), (12, .invokevirtual 54, 107, [(2, 1)], false), (15, .ifCond .eq 17, 18, [], false), (18, .aload_n 0, 0, [], false), (19, .iload_n 1, 0, [], false), (20, .invokevirtual 206, 106, [(2, 1)], false), (23, .aload_n 0, 0, [], false), (24, .getfield 7, 0, [(0, 3), (0, 20), (0, 21), (0, 0)], false), (27, .iconst 4, 0, [], false), (28, .iaload, 0, [], false), (29, .if_icmp .lt 6, 20, [], false), (32, .bipush (-2), 0, [], false), (34, .ireturn, 0, [], false), (35, .aload_n 0, 0, [], false), (36, .getfield 7, 0, [(0, 3), (0, 20), (0, 21), (0, 0)], false), (39, .iconst 2, 0, [], false), (40, .iaload, 0, [], false), (41, .bipush 10, 0, [], false), (43, .if_icmp .ne 8, 28, [], false), (46, .bipush (-3), 0, [], false), (48, .goto 8, 31, [], false), (51, .aload_n 0, 0, [], false), (52, .iload_n 1, 0, [], false), (53, .invokevirtual 203, 144, [(2, 1)], false), (56, .ireturn, 0, [], false)]
def zc147 : List mzN := [(0, .aload_n 0, 0, [], false), (1, .getfield 7, 0, [(0, 3), (0, 20), (0, 21), (0, 0)], false), (4, .iconst 2, 0, [], false), (5, .iaload, 0, [], false), (6, .bipush 10, 0, [], false), (8, .if_icmp .ne 6, 8, [], false), (11, .bipush (-3), 0, [], false), (13, .ireturn, 0, [], false), (14, .iconst (-1), 0, [], false), (15, .istore_n 1, 0, [], false), (16, .aload_n 0, 0, [], false), (17, .iconst (-1), 0, [], false), (18, .iconst (-1), 0, [], false), (19, .invokevirtual 197, 138, [(3, 1)], false), (22, .istore_n 2, 0, [], false), (23, .iconst 0, 0, [], false), (24, .istore_n 3, 0, [], false), (25, .iconst 0, 0, [], false), (26, .istore 4, 0, [], false), (28, .iload 4, 0, [], true), (30, .aload_n 0, 0, [], false), (31, .getfield 7, 0, [(0, 3), (0, 20), (0, 21), (0, 0)], false), (34, .iconst 2, 0, [], false), (35, .iaload, 0, [], false), (36, .if_icmp .ge 113, 81, [], false), (39, .aload_n 0, 0, [], false), (40, .iload 4, 0, [], false), (42, .invokevirtual 54, 107, [(2, 1)], false), (45, .ifCond .eq 98, 79, [], false), (48, .aload_n 0, 0, [], false), (49, .iload 4, 0, [], false), (51, .invokevirtual 206, 106, [(2, 1)], false), (54, .aload_n 0, 0, [], false), (55, .getfield 7, 0, [(0, 3), (0, 20), (0, 21), (0, 0)], false), (58, .iconst 4, 0, [], false), (59, .iaload, 0, [], false), (60, .if_icmp .ge 83, 79, [], false), (63, .aload_n 0, 0, [], false), (64, .iconst (-1), 0, [], false), (65, .iload 4, 0, [], false), (67, .invokevirtual 197, 138, [(3, 1)], false), (70, .istore 5, 0, [], false), (72, .aload_n 0, 0, [], false), (73, .iload 4, 0, [], false), (75, .invokevirtual 206, 106, [(2, 1)], false), (78, .iconst 1, 0, [], false), (79, .iadd, 0, [], false), (80, .istore 6, 0, [], false), (82, .iload 5, 0, [], false), (84, .iload_n 2, 0, [], false), (85, .if_icmp .lt 15, 57, [], false), (88, .iload 5, 0, [], false), (90, .iload_n 2, 0, [], false), (91, .if_icmp .ne 13, 59, [], false), (94, .iload 6, 0, [], false), (96, .iload_n 3, 0, [], false), (97, .if_icmp .gt 7, 59, [], false), (100, .iconst 1, 0, [], false), (101, .goto 4, 60, [], false), (104, .iconst 0, 0, [], false), (105, .istore 7, 0, [], false), (107, .iload 7, 0, [], false), (109, .ifCond .eq 8, 65, [], false), (112, .iload 4, 0, [], false), (114, .goto 4, 66, [], false), (117, .iload_n 1, 0, [], false), (118, .istore_n 1, 0, [], false), (119, .iload 7, 0, [], false), (121, .ifCond .eq 8, 71, [], false), (124, .iload 6, 0, [], false), (126, .goto 4, 72, [], false), (129, .iload_n 3, 0, [], false), (130, .istore_n 3, 0, [], false), (131, .iload 7, 0, [], false), (133, .ifCond .eq 8, 77, [], false), (136, .iload 5, 0, [], false), (138, .goto 4, 78, [], false), (141, .iload_n 2, 0, [], false), (142, .istore_n 2, 0, [], false), (143, .iinc 4 1, 0, [], false), (146, .goto (-118), 19, [], false), (149, .aload_n 0, 0, [], false), (150, .iload_n 1, 0, [], false), (151, .invokevirtual 203, 144, [(2, 1)], false), (154, .ireturn, 0, [], false)]
def zc148 : List mzN := [(0, .aload_n 0, 0, [], false), (1, .getfield 7, 0, [(0, 3), (0, 20), (0, 21), (0, 0)], false), (4, .iconst 2, 0, [], false), (5, .iaload, 0, [], false), (6, .ifCond .ne 6, 7, [], false), (9, .bipush (-2), 0, [], false), (11, .ireturn, 0, [], false), (12, .aload_n 0, 0, [], false), (13, .invokevirtual 58, 99, [(1, 0)], false), (16, .aload_n 0, 0, [], false), (17, .getfield 7, 0, [(0, 3), (0, 20), (0, 21), (0, 0)], false), (20, .iconst 2, 0, [], false), (21, .dup2, 0, [], false), (22, .iaload, 0, [], false), (23, .iconst 1, 0, [], false), (24, .isub, 0, [], false), (25, .iastore, 0, [], false), (26, .aload_n 0, 0, [], false), (27, .getfield 7, 0, [(0, 3), (0, 20), (0, 21), (0, 0)], false), (30, .iconst 2, 0, [], false), (31, .iaload, 0, [], false), (32, .ireturn, 0, [], false)]
def zc149 : List mzN := [(0, .iconst 0, 0, [], false), (1, .istore_n 2, 0, [], false), (2, .iconst 0, 0, [], false), (3, .istore_n 3, 0, [], false), (4, .iconst 0, 0, [], false), (5, .istore 4, 0, [], false), (7, .iconst 0, 0, [], false), (8, .istore 5, 0, [], false), (10, .iload 5, 0, [], true), (12, .aload_n 0, 0, [], false), (13, .getfield 7, 0, [(0, 3), (0, 20), (0, 21), (0, 0)], false), (16, .iconst 2, 0, [], false), (17, .iaload, 0, [], false), (18, .if_icmp .ge 84, 58, [], false), (21, .iload_n 1, 0, [], false), (22, .iload 5, 0, [], false), (24, .ishr, 0, [], false), (25, .iconst 1, 0, [], false), (26, .iand, 0, [], false), (27, .iconst 1, 0, [], false), (28, .if_icmp .ne 7, 23, [], false), (31, .iconst 1, 0, [], false), (32, .goto 4, 24, [], false), (35, .iconst 0, 0, [], false), (36, .istore 6, 0, [], false), (38, .iload 6, 0, [], false), (40, .ifCond .eq 13, 32, [], false), (43, .aload_n 0, 0, [], false), (44, .getfield 29, 0, [(0, 3), (0, 20), (0, 27), (0, 0)], false), (47, .iload 5, 0, [], false), (49, .iaload, 0, [], false), (50, .goto 10, 36, [], false), (53, .aload_n 0, 0, [], false), (54, .getfield 32, 0, [(0, 3), (0, 20), (0, 28), (0, 0)], false), (57, .iload 5, 0, [], false), (59, .iaload, 0, [], false), (60, .istore 7, 0, [], false), (62, .iload_n 2, 0, [], false), (63, .iload 7, 0, [], false), (65, .iadd, 0, [], false), (66, .istore_n 2, 0, [], false), (67, .iload 6, 0, [], false), (69, .ifCond .eq 8, 45, [], false), (72, .iload 7, 0, [], false), (74, .goto 7, 48, [], false), (77, .iload_n 3, 0, [], false), (78, .iload 7, 0, [], false), (80, .iadd, 0, [], false), (81, .istore_n 3, 0, [], false), (82, .iload_n 3, 0, [], false), (83, .iload 4, 0, [], false), (85, .if_icmp .le 7, 54, [], false), (88, .iload_n 3, 0, [], false), (89, .goto 5, 55, [], false), (92, .iload 4, 0, [], false), (94, .istore 4, 0, [], false), (96, .iinc 5 1, 0, [], false), (99, .goto (-89), 8, [], false), (102, .iload_n 2, 0, [], false), (103, .aload_n 0, 0, [], false), (104, .getfield 7, 0, [(0, 3), (0, 20), (0, 21), (0, 0)], false), (107, .iconst 5, 0, [], false), (108, .iaload, 0, [], false), (109, .iload 4, 0, [], false), (111, .imul, 0, [], false), (112, .iadd, 0, [], false), (113, .ireturn, 0, [], false)]
def zc150 : List mzN := [(0, .iconst 0, 0, [], false), (1, .istore_n 1, 0, [], false), (2, .iconst 0, 0, [], false), (3, .istore_n 2, 0, [], false), (4, .iload_n 2, 0, [], true), (5, .bipush 10, 0, [], false), (7, .if_icmp .ge 17, 17, [], false), (10, .iload_n 1, 0, [], false), (11, .iload_n 0, 0, [], false), (12, .iload_n 2, 0, [], false), (13, .ishr, 0, [], false), (14, .iconst 1, 0, [], false), (15, .iand, 0, [], false), (16, .iadd, 0, [], false), (17, .istore_n 1, 0, [], false), (18, .iinc 2 1, 0, [], false), (21, .goto (-17), 4, [], false), (24, .iload_n 1, 0, [], false), (25, .ireturn, 0, [], false)]
def zc151 : List mzN := [(0, .iconst 0, 0, [], false), (1, .istore_n 1, 0, [], false), (2, .iload_n 1, 0, [], true), (3, .aload_n 0, 0, [], false), (4, .getfield 7, 0, [(0, 3), (0, 20), (0, 21), (0, 0)], false), (7, .iconst 2, 0, [], false), (8, .iaload, 0, [], false), (9, .if_icmp .ge 43, 32, [], false), (12, .aload_n 0, 0, [], false), (13, .getfield 29, 0, [(0, 3), (0, 20), (0, 27), (0, 0)], false), (16, .iload_n 1, 0, [], false), (17, .aload_n 0, 0, [], false), (18, .iload_n 1, 0, [], false), (19, .iconst (-1), 0, [], false), (20, .invokevirtual 197, 138, [(3, 1)], false), (23, .iastore, 0, [], false), (24, .aload_n 0, 0, [], false), (25, .getfield 32, 0, [(0, 3), (0, 20), (0, 28), (0, 0)], false), (28, .iload_n 1, 0, [], false), (29, .iload_n 1, 0, [], false), (30, .ifCond .ne 7, 23, [], false), (33, .iconst 0, 0, [], false), (34, .goto 11, 29, [], false), (37, .aload_n 0, 0, [], false), (38, .iload_n 1, 0, [], false), (39, .iload_n 1, 0, [], false), (40, .iconst 1, 0, [], false), (41, .isub, 0, [], false), (42, .invokevirtual 197, 138, [(3, 1)], false), (45, .iastore, 0, [], false), (46, .iinc 1 1, 0, [], false), (49, .goto (-47), 2, [], false), (52, .aload_n 0, 0, [], false), (53, .iconst 1, 0, [], false), (54, .putfield 209, 0, [(16, 0), (0, 20), (0, 20), (0, 0)], false), (57, .aload_n 0, 0, [], false), (58, .iconst 1, 0, [], false), (59, .invokevirtual 212, 149, [(2, 1)], false), (62, .istore_n 1, 0, [], false), (63, .iconst 3, 0, [], false), (64, .istore_n 2, 0, [], false), (65, .iload_n 2, 0, [], true), (66, .iconst 1, 0, [], false), (67, .aload_n 0, 0, [], false), (68, .getfield 7, 0, [(0, 3), (0, 20), (0, 21), (0, 0)], false), (71, .iconst 2, 0, [], false), (72, .iaload, 0, [], false), (73, .ishl, 0, [], false), (74, .if_icmp .ge 74, 85, [], false), (77, .aload_n 0, 0, [], false), (78, .iload_n 2, 0, [], false), (79, .invokevirtual 212, 149, [(2, 1)], false), (82, .istore_n 3, 0, [], false), (83, .iload_n 3, 0, [], false), (84, .iload_n 1, 0, [], false), (85, .if_icmp .lt 22, 65, [], false), (88, .iload_n 3, 0, [], false), (89, .iload_n 1, 0, [], false), (90, .if_icmp .ne 21, 67, [], false), (93, .iload_n 2, 0, [], false), (94, .invokestatic 215, 150, [(1, 1)], false), (97, .aload_n 0, 0, [], false), (98, .getfield 209, 0, [(16, 0), (0, 20), (0, 20), (0, 0)], false), (101, .invokestatic 215, 150, [(1, 1)], false), (104, .if_icmp .ge 7, 67, [], false), (107, .iconst 1, 0, [], false), (108, .goto 4, 68, [], false), (111, .iconst 0, 0, [], false), (112, .istore 4, 0, [], false), (114, .aload_n 0, 0, [], false), (115, .iload 4, 0, [], false), (117, .ifCond .eq 7, 74, [], false), (120, .iload_n 2, 0, [], false), (121, .goto 7, 76, [], false), (124, .aload_n 0, 0, [], false), (125, .getfield 209, 0, [(16, 0), (0, 20), (0, 20), (0, 0)], false), (128, .putfield 209, 0, [(16, 0), (0, 20), (0, 20), (0, 0)], false), (131, .iload 4, 0, [], false), (133, .ifCond .eq 7, 81, [], false), (136, .iload_n 3, 0, [], false), (137, .goto 4, 82, [], false), (140, .iload_n 1, 0, [], false), (141, .istore_n 1, 0, [], false), (142, .iinc 2 2, 0, [], false), (145, .goto (-80), 41, [], false), (148, .iload_n 1, 0, [], false), (149, .ireturn, 0, [], false)]
def zc152 : List mzN := [(0, .aload_n 0, 0, [], false), (1, .getfield 7, 0, [(0, 3), (0, 20), (0, 21), (0, 0)], false), (4, .iconst 2, 0, [], false), (5, .iaload, 0, [], false), (6, .ifCond .ne 6, 7, [], false), (9, .bipush (-2), 0, [], false), (11, .ireturn, 0, [], false), (12, .aload_n 0, 0, [], false), (13, .invokevirtual 58, 99, [(1, 0)], false), (16, .aload_n 0, 0, [], false), (17, .invokevirtual 218, 151, [(1, 1)], false), (20, .istore_n 1, 0, [], false), (21, .iconst 0, 0, [], false), (22, .istore_n 2, 0, [], false), (23, .iload_n 2, 0, [], true), (24, .aload_n 0, 0, [], false), (25, .getfield 7, 0, [(0, 3), (0, 20), (0, 21), (0, 0)], false), (28, .iconst 2, 0, [], false), (29, .iaload, 0, [], false), (30, .if_icmp .ge 52, 49, [], false), (33, .aload_n 0, 0, [], false), (34, .getfield 209, 0, [(16, 0), (0, 20), (0, 20), (0, 0)], false), (37, .iload_n 2, 0, [], false), (38, .ishr, 0, [], false), (39, .iconst 1, 0, [], false), (40, .iand, 0, [], false), (41, .iconst 1, 0, [], false), (42, .if_icmp .ne 7, 30, [], false), (45, .iconst (-1), 0, [], false), (46, .goto 6, 33, [], false), (49, .iload_n 2, 0, [], false), (50, .iconst 1, 0, [], false), (51, .isub, 0, [], false), (52, .istore_n 3, 0, [], false), (53, .aload_n 0, 0, [], false), (54, .iload_n 2, 0, [], false), (55, .iload_n 3, 0, [], false), (56, .invokevirtual 197, 138, [(3, 1)], false), (59, .istore 4, 0, [], false), (61, .aload_n 0, 0, [], false), (62, .iload_n 2, 0, [], false), (63, .iload 4, 0, [], false), (65, .ifCond .ge 7, 45, [], false), (68, .iconst (-1), 0, [], false), (69, .goto 4, 46, [], false), (72, .iload_n 3, 0, [], false), (73, .invokevirtual 200, 143, [(3, 0)], false), (76, .iinc 2 1, 0, [], false), (79, .goto (-56), 14, [], false), (82, .iload_n 1, 0, [], false), (83, .ireturn, 0, [], false)]
def zc153 : List mzN := [(0, .aload_n 0, 0, [], false), (1, .getfield 7, 0, [(0, 3), (0, 20), (0, 21), (0, 0)], false), (4, .iconst 2, 0, [], false), (5, .iaload, 0, [], false), (6, .ifCond .ne 8, 7, [], false), (9, .bipush (-9), 0, [], false), (11, .goto 7, 9, [], false), (14, .aload_n 0, 0, [], false), (15, .invokevirtual 218, 151, [(1, 1)], false), (18, .ireturn, 0, [], false)]
def zc154 : List mzN := [(0, .aload_n 0, 0, [], false), (1, .getfield 7, 0, [(0, 3), (0, 20), (0, 21), (0, 0)], false), (4, .iconst 2, 0, [], false), (5, .iaload, 0, [], false), (6, .ifCond .ne 6, 7, [], false), (9, .bipush (-9), 0, [], false), (11, .ireturn, 0, [], false), (12, .aload_n 0, 0, [], false), (13, .invokevirtual 218, 151, [(1, 1)], false), (16, .ifCond .ge 8, 12, [], false), (19, .bipush (-9), 0, [], false), (21, .goto 7, 14, [], false), (24, .aload_n 0, 0, [], false), (25, .getfield 209, 0, [(16, 0), (0, 20), (0, 20), (0, 0)], false), (28, .ireturn, 0, [], false)]
def zc155 : List mzN := [(0, .iload_n 1, 0, [], false), (1, .iconst 0, 0, [], false), (2, .iconst 4, 0, [], false), (3, .invokestatic 46, 98, [(3, 1)], false), (6, .ifCond .eq 23, 15, [], false), (9, .iload_n 2, 0, [], false), (10, .iconst 0, 0, [], false), (11, .bipush 9, 0, [], false), (13, .invokestatic 46, 98, [(3, 1)], false), (16, .ifCond .eq 13, 15, [], false), (19, .iload_n 3, 0, [], false), (20, .iconst 0, 0, [], false), (21, .bipush 9, 0, [], false), (23, .invokestatic 46, 98, [(3, 1)], false), (26, .ifCond .ne 5, 17, [], false), (29, .iconst (-1), 0, [], false), (30, .ireturn, 0, [], false), (31, .aload_n 0, 0, [], false), (32, .invokevirtual 58, 99, [(1, 0)], false), (35, .aload_n 0, 0, [], false), (36, .getfield 7, 0, [(0, 3), (0, 20), (0, 21), (0, 0)], false), (39, .iconst 3, 0, [], false), (40, .iaload, 0, [], false), (41, .iload_n 1, 0, [], false), (42, .if_icmp .ne 23, 37, [], false), (45, .aload_n 0, 0, [], false), (46, .getfield 7, 0, [(0, 3), (0, 20), (0, 21), (0, 0)], false), (49, .iconst 4, 0, [], false), (50, .iaload, 0, [], false), (51, .iload_n 2, 0, [], false), (52, .if_icmp .ne 13, 37, [], false), (55, .aload_n 0, 0, [], false), (56, .getfield 7, 0, [(0, 3), (0, 20), (0, 21), (0, 0)], false), (59, .iconst 5, 0, [], false), (60, .iaload, 0, [], false), (61, .iload_n 3, 0, [], false), (62, .if_icmp .eq 7, 39, [], false), (65, .iconst 1, 0, [], false), (66, .goto 4, 40, [], false), (69, .iconst 0, 0, [], false), (70, .istore 4, 0, [], false), (72, .aload_n 0, 0, [], false), (73, .getfield 7, 0, [(0, 3), (0, 20), (0, 21), (0, 0)], false), (76, .iconst 3, 0, [], false), (77, .iload_n 1, 0, [], false), (78, .iastore, 0, [], false), (79, .aload_n 0, 0, [], false), (80, .getfield 7, 0, [(0, 3), (0, 20), (0, 21), (0, 0)], false), (83, .iconst 4, 0, [], false), (84, .iload_n 2, 0, [], false), (85, .iastore, 0, [], false), (86, .aload_n 0, 0, [], false), (87, .getfield 7, 0, [(0, 3), (0, 20), (0, 21), (0, 0)], false), (90, .iconst 5, 0, [], false), (91, .iload_n 3, 0, [], false), (92, .iastore, 0, [], false), (93, .iload 4, 0, [], false), (95, .ifCond .eq 7, 60, [], false), (98, .iconst 1, 0, [], false), (99, .goto 4, 61, [], false), (102, .iconst 0, 0, [], false), (103, .ireturn, 0, [], false)]
def zc156 : List mzN := [(0, .aload_n 0, 0, [], false), (1, .iload_n 1, 0, [], false), (2, .invokevirtual 140, 103, [(2, 1)], false), (5, .ifCond .eq 12, 9, [], false), (8, .iload_n 2, 0, [], false), (9, .iconst 0, 0, [], false), (10, .iconst 1, 0, [], false), (11, .invokestatic 46, 98, [(3, 1)], false), (14, .ifCond .ne 5, 11, [], false), (17, .iconst (-1), 0, [], false), (18, .ireturn, 0, [], false), (19, .aload_n 0, 0, [], false), (20, .getfield 7, 0, [(0, 3), (0, 20), (0, 21), (0, 0)], false), (23, .sipush 1600, 0, [], false), (26, .iload_n 1, 0, [], false), (27, .iadd, 0, [], false), (28, .iaload, 0, [], false), (29, .iload_n 2, 0, [], false), (30, .if_icmp .ne 6, 21, [], false), (33, .bipush (-2), 0, [], false), (35, .ireturn, 0, [], false), (36, .aload_n 0, 0, [], false), (37, .invokevirtual 58, 99, [(1, 0)], false), (40, .aload_n 0, 0, [], false), (41, .getfield 7, 0, [(0, 3), (0, 20), (0, 21), (0, 0)], false), (44, .sipush 1600, 0, [], false), (47, .iload_n 1, 0, [], false), (48, .iadd, 0, [], false), (49, .iload_n 2, 0, [], false), (50, .iastore, 0, [], false), (51, .aload_n 0, 0, [], false), (52, .invokevirtual 221, 108, [(1, 1)], false), (55, .ireturn, 0, [], false)]
def zc157 : List mzN := [(0, .iconst 0, 0, [], false), (1, .istore_n 3, 0, [], false), (2, .iconst 0, 0, [], false), (3, .istore 4, 0, [], false), (5, .iload 4, 0, [], true), (7, .aload_n 0, 0, [], false), (8, .invokevirtual 61, 102, [(1, 1)], false), (11, .if_icmp .ge 33, 25, [], false), (14, .iload_n 3, 0, [], false), (15, .aload_n 0, 0, [], false), (16, .getfield 7, 0, [(0, 3), (0, 20), (0, 21), (0, 0)], false), (19, .aload_n 0, 0, [], false), (20, .iload_n 1, 0, [], false), (21, .iload 4, 0, [], false), (23, .invokevirtual 188, 139, [(3, 1)], false), (26, .iaload, 0, [], false), (27, .iload_n 2, 0, [], false), (28, .if_icmp .ne 7, 20, [], false), (31, .iconst 1, 0, [], false), (32, .goto 4, 21, [], false), (35, .iconst 0, 0, [], false), (36, .iadd, 0, [], false), (37, .istore_n 3, 0, [], false), (38, .iinc 4 1, 0, [], false), (41, .goto (-36), 4, [], false), (44, .iload_n 3, 0, [], false), (45, .ireturn, 0, [], false)]
def zc158 : List mzN := [(0, .aload_n 0, 0, [], false), (1, .iload_n 1, 0, [], false), (2, .invokevirtual 140, 103, [(2, 1)], false), (5, .ifCond .eq 13, 9, [], false), (8, .iload_n 2, 0, [], false), (9, .iconst 0, 0, [], false), (10, .bipush 8, 0, [], false), (12, .invokestatic 46, 98, [(3, 1)], false), (15, .ifCond .ne 5, 11, [], false), (18, .iconst (-1), 0, [], false), (19, .ireturn, 0, [], false), (20, .iload_n 2, 0, [], false), (21, .tableswitch 87 0 4 #[35, 55, 61, 67, 73], 44, [(0, 13), (1, 24), (2, 28), (3, 32), (4, 36)], false), (56, .aload_n 0, 0, [], false), (57, .iload_n 1, 0, [], false), (58, .invokevirtual 50, 105, [(2, 1)], false), (61, .iconst (-1), 0, [], false), (62, .if_icmp .ne 8, 20, [], false), (65, .bipush (-9), 0, [], false), (67, .goto 8, 23, [], false), (70, .aload_n 0, 0, [], false), (71, .iload_n 1, 0, [], false), (72, .invokevirtual 50, 105, [(2, 1)], false), (75, .ireturn, 0, [], false), (76, .aload_n 0, 0, [], false), (77, .iload_n 1, 0, [], false), (78, .invokevirtual 194, 141, [(2, 1)], false), (81, .ireturn, 0, [], false), (82, .aload_n 0, 0, [], false), (83, .iload_n 1, 0, [], false), (84, .invokevirtual 224, 142, [(2, 1)], false), (87, .ireturn, 0, [], false), (88, .aload_n 0, 0, [], false), (89, .iload_n 1, 0, [], false), (90, .invokevirtual 206, 106, [(2, 1)], false), (93, .ireturn, 0, [], false), (94, .aload_n 0, 0, [], false), (95, .iload_n 1, 0, [], false), (96, .invokevirtual 54, 107, [(2, 1)], false), (99, .ifCond .eq 7, 42, [], false), (102, .iconst 1, 0, [], false), (103, .goto 4, 43, [], false), (106, .iconst 0, 0, [], false), (107, .ireturn, 0, [], false), (108, .aload_n 0, 0, [], false), (109, .iload_n 1, 0, [], false), (110, .iload_n 2, 0, [], false), (111, .iconst 5, 0, [], false), (112, .isub, 0, [], false), (113, .invokevirtual 227, 157, [(3, 1)], false), (116, .ireturn, 0, [], false)]
def zc159 : List mzN := [(0, .iload_n 1, 0, [], false), (1, .iconst 0, 0, [], false), (2, .aload_n 0, 0, [], false), (3, .invokevirtual 61, 102, [(1, 1)], false), (6, .iconst 1, 0, [], false), (7, .isub, 0, [], false), (8, .invokestatic 46, 98, [(3, 1)], false), (11, .ireturn, 1, [], false)]
def zc160 : List mzN := [(0, .aload_n 0, 0, [], false), (1, .iload_n 1, 0, [], false), (2, .invokevirtual 140, 103, [(2, 1)], false), (5, .ifCond .eq 20, 13, [], false), (8, .aload_n 0, 0, [], false), (9, .iload_n 2, 0, [], false), (10, .invokevirtual 230, 159, [(2, 1)], false), (13, .ifCond .eq 12, 13, [], false), (16, .iload_n 3, 0, [], false), (17, .iconst 0, 0, [], false), (18, .iconst 3, 0, [], false), (19, .invokestatic 46, 98, [(3, 1)], false), (22, .ifCond .ne 5, 15, [], false), (25, .iconst (-1), 0, [], false), (26, .ireturn, 0, [], false), (27, .aload_n 0, 0, [], false), (28, .getfield 7, 0, [(0, 3), (0, 20), (0, 21), (0, 0)], false), (31, .aload_n 0, 0, [], false), (32, .iload_n 1, 0, [], false), (33, .iload_n 2, 0, [], false), (34, .invokevirtual 188, 139, [(3, 1)], false), (37, .iaload, 0, [], false), (38, .istore 4, 0, [], false), (40, .iload_n 3, 0, [], false), (41, .ifCond .ne 6, 27, [], false), (44, .iload 4, 0, [], false), (46, .ireturn, 0, [], false), (47, .iload_n 3, 0, [], false), (48, .iconst 3, 0, [], false), (49, .if_icmp .ne 23, 40, [], false), (52, .iload 4, 0, [], false), (54, .iconst 2, 0, [], false), (55, .if_icmp .lt 12, 38, [], false), (58, .aload_n 0, 0, [], false), (59, .iload_n 1, 0, [], false), (60, .iload_n 2, 0, [], false), (61, .invokevirtual 191, 140, [(3, 1)], false), (64, .goto 32, 54, [], false), (67, .bipush (-9), 0, [], false), (69, .goto 27, 54, [], false), (72, .iload 4, 0, [], false), (74, .iconst 1, 0, [], false), (75, .if_icmp .ne 19, 53, [], false), (78, .aload_n 0, 0, [], false), (79, .getfield 7, 0, [(0, 3), (0, 20), (0, 21), (0, 0)], false), (82, .aload_n 0, 0, [], false), (83, .iload_n 1, 0, [], false), (84, .iload_n 2, 0, [], false), (85, .invokevirtual 188, 139, [(3, 1)], false), (88, .iload_n 3, 0, [], false), (89, .iadd, 0, [], false), (90, .iaload, 0, [], false), (91, .goto 5, 54, [], false), (94, .bipush (-9), 0, [], false), (96, .ireturn, 0, [], false)]
def zc161 : List mzN := [(0, .aload_n 0, 0, [], false), (1, .iload_n 1, 0, [], false), (2, .invokevirtual 140, 103, [(2, 1)], false), (5, .ifCond .eq 25, 15, [], false), (8, .aload_n 0, 0, [], false), (9, .iload_n 2, 0, [], false), (10, .invokevirtual 230, 159, [(2, 1)], false), (13, .ifCond .eq 17, 15, [], false), (16, .iload_n 3, 0, [], false), (17, .ifCond .lt 13, 15, [], false), (20, .iload 4, 0, [], false), (22, .iconst 0, 0, [], false), (23, .iconst 1, 0, [], false), (24, .invokestatic 46, 98, [(3, 1)], false), (27, .ifCond .ne 5, 17, [], false), (30, .iconst (-1), 0, [], false), (31, .ireturn, 0, [], false), (32, .aload_n 0, 0, [], false), (33, .getfield 7, 0, [(0, 3), (0, 20), (0, 21), (0, 0)], false), (36, .aload_n 0, 0, [], false), (37, .iload_n 1, 0, [], false), (38, .iload_n 2, 0, [], false), (39, .invokevirtual 188, 139, [(3, 1)], false), (42, .iaload, 0, [], false), (43, .istore 5, 0, [], false), (45, .iload_n 3, 0, [], false), (46, .aload_n 0, 0, [], false), (47, .iload_n 1, 0, [], false), (48, .iload_n 2, 0, [], false), (49, .invokevirtual 191, 140, [(3, 1)], false), (52, .if_icmp .lt 6, 33, [], false), (55, .bipush (-9), 0, [], false), (57, .ireturn, 0, [], false), (58, .iload 5, 0, [], false), (60, .iconst 2, 0, [], false), (61, .if_icmp .ne 11, 40, [], false), (64, .aload_n 0, 0, [], false), (65, .iload_n 1, 0, [], false), (66, .invokevirtual 50, 105, [(2, 1)], false), (69, .goto 4, 41, [], false), (72, .iconst (-1), 0, [], false), (73, .istore 6, 0, [], false), (75, .iconst 0, 0, [], false), (76, .istore 7, 0, [], false), (78, .iconst 0, 0, [], false), (79, .istore 8, 0, [], false), (81, .iconst 0, 0, [], false), (82, .istore 9, 0, [], false), (84, .iconst 0, 0, [], false), (85, .istore 10, 0, [], false), (87, .iload 10, 0, [], true), (89, .bipush 16, 0, [], false), (91, .if_icmp .ge 88, 99, [], false), (94, .iload 7, 0, [], false), (96, .iload 10, 0, [], false), (98, .ifCond .le 32, 73, [], false), (101, .aload_n 0, 0, [], false), (102, .iload_n 1, 0, [], false), (103, .iload 6, 0, [], false), (105, .iload_n 2, 0, [], false), (106, .iload 10, 0, [], false), (108, .invokevirtual 168, 132, [(5, 1)], false), (111, .aload_n 0, 0, [], false), (112, .iload_n 1, 0, [], false), (113, .iload 6, 0, [], false), (115, .iload_n 2, 0, [], false), (116, .iload 10, 0, [], false), (118, .iconst 1, 0, [], false), (119, .isub, 0, [], false), (120, .invokevirtual 168, 132, [(5, 1)], false), (123, .if_icmp .eq 7, 73, [], false), (126, .iconst 1, 0, [], false), (127, .goto 4, 74, [], false), (130, .iconst 0, 0, [], false), (131, .iadd, 0, [], false), (132, .istore 7, 0, [], false), (134, .iload 8, 0, [], false), (136, .iload 7, 0, [], false), (138, .iload_n 3, 0, [], false), (139, .if_icmp .ne 7, 82, [], false), (142, .iconst 1, 0, [], false), (143, .goto 4, 83, [], false), (146, .iconst 0, 0, [], false), (147, .iadd, 0, [], false), (148, .istore 8, 0, [], false), (150, .iload 7, 0, [], false), (152, .iload_n 3, 0, [], false), (153, .if_icmp .ne 16, 95, [], false), (156, .aload_n 0, 0, [], false), (157, .iload_n 1, 0, [], false), (158, .iload 6, 0, [], false), (160, .iload_n 2, 0, [], false), (161, .iload 10, 0, [], false), (163, .invokevirtual 168, 132, [(5, 1)], false), (166, .goto 5, 96, [], false), (169, .iload 9, 0, [], false), (171, .istore 9, 0, [], false), (173, .iinc 10 1, 0, [], false), (176, .goto (-89), 50, [], false), (179, .iload 4, 0, [], false), (181, .ifCond .ne 8, 103, [], false), (184, .iload 8, 0, [], false), (186, .goto 5, 104, [], false), (189, .iload 9, 0, [], false), (191, .ireturn, 0, [], false)]
def zc162 : List mzN := [(0, .aload_n 0, 0, [], false), (1, .iload_n 1, 0, [], false), (2, .invokevirtual 140, 103, [(2, 1)], false), (5, .ifCond .eq 11, 8, [], false), (8, .aload_n 0, 0, [], false), (9, .iload_n 2, 0, [], false), (10, .invokevirtual 64, 110, [(2, 1)], false), (13, .ifCond .ne 5, 10, [], false), (16, .iconst (-1), 0, [], false), (17, .ireturn, 0, [], false), (18, .aload_n 0, 0, [], false), (19, .iload_n 1, 0, [], false), (20, .invokevirtual 54, 107, [(2, 1)], false), (23, .ifCond .eq 12, 19, [], false), (26, .aload_n 0, 0, [], false), (27, .iload_n 1, 0, [], false), (28, .iload_n 2, 0, [], false), (29, .invokevirtual 143, 104, [(3, 1)], false), (32, .goto 5, 20, [], false), (35, .bipush (-2), 0, [], false), (37, .ireturn, 0, [], false)]
def zc163 : List mzN := [(0, .iconst 0, 0, [], false), (1, .istore_n 2, 0, [], false), (2, .iload_n 1, 0, [], false), (3, .tableswitch 103 0 9 #[53, 53, 53, 53, 53, 53, 60, 88, 93, 98], 36, [(0, 4), (1, 4), (2, 4), (3, 4), (4, 4), (5, 4), (6, 9), (7, 27), (8, 30), (9, 33)], false), (56, .aload_n 0, 0, [], false), (57, .getfield 7, 0, [(0, 3), (0, 20), (0, 21), (0, 0)], false), (60, .iload_n 1, 0, [], false), (61, .iaload, 0, [], false), (62, .ireturn, 0, [], false), (63, .iconst 0, 0, [], false), (64, .istore_n 3, 0, [], false), (65, .iload_n 3, 0, [], true), (66, .aload_n 0, 0, [], false), (67, .getfield 7, 0, [(0, 3), (0, 20), (0, 21), (0, 0)], false), (70, .iconst 2, 0, [], false), (71, .iaload, 0, [], false), (72, .if_icmp .ge 17, 25, [], false), (75, .iload_n 2, 0, [], false), (76, .aload_n 0, 0, [], false), (77, .iload_n 3, 0, [], false), (78, .invokevirtual 194, 141, [(2, 1)], false), (81, .iadd, 0, [], false), (82, .istore_n 2, 0, [], false), (83, .iinc 3 1, 0, [], false), (86, .goto (-21), 11, [], false), (89, .iload_n 2, 0, [], false), (90, .ireturn, 0, [], false), (91, .aload_n 0, 0, [], false), (92, .invokevirtual 221, 108, [(1, 1)], false), (95, .ireturn, 0, [], false), (96, .aload_n 0, 0, [], false), (97, .getfield 67, 0, [(4, 0), (0, 20), (0, 20), (0, 0)], false), (100, .ireturn, 0, [], false), (101, .aload_n 0, 0, [], false), (102, .getfield 38, 0, [(2, 0), (0, 20), (0, 20), (0, 0)], false), (105, .ireturn, 0, [], false), (106, .iconst (-1), 0, [], false), (107, .ireturn, 0, [], false)]
def zc164 : List mzN := [(0, .aload_n 0, 0, [], false), (1, .iload_n 1, 0, [], false), (2, .invokevirtual 152, 126, [(2, 1)], false), (5, .ifCond .ne 5, 6, [], false), (8, .iconst (-1), 0, [], false), (9, .ireturn, 0, [], false), (10, .aload_n 0, 0, [], false), (11, .iload_n 1, 0, [], false), (12, .invokevirtual 155, 127, [(2, 1)], false), (15, .ifCond .eq 12, 15, [], false), (18, .aload_n 0, 0, [], false), (19, .iconst (-1), 0, [], false), (20, .iload_n 1, 0, [], false), (21, .invokevirtual 197, 138, [(3, 1)], false), (24, .goto 5, 16, [], false), (27, .bipush (-2), 0, [], false), (29, .ireturn, 0, [], false)]
def zc165 : List mzN := [(0, .iconst 0, 0, [], false), (1, .istore_n 3, 0, [], false), (2, .iconst 0, 0, [], false), (3, .istore 4, 0, [], false), (5, .iload 4, 0, [], true), (7, .aload_n 0, 0, [], false), (8, .invokevirtual 42, 101, [(1, 1)], false), (11, .if_icmp .ge 34, 25, [], false), (14, .iload_n 3, 0, [], false), (15, .aload_n 0, 0, [], false), (16, .iload_n 1, 0, [], false), (17, .iload 4, 0, [], false), (19, .invokevirtual 143, 104, [(3, 1)], false), (22, .aload_n 0, 0, [], false), (23, .iload_n 2, 0, [], false), (24, .iload 4, 0, [], false), (26, .invokevirtual 143, 104, [(3, 1)], false), (29, .if_icmp .eq 7, 20, [], false), (32, .iconst 1, 0, [], false), (33, .goto 4, 21, [], false), (36, .iconst 0, 0, [], false), (37, .iadd, 0, [], false), (38, .istore_n 3, 0, [], false), (39, .iinc 4 1, 0, [], false), (42, .goto (-37), 4, [], false), (45, .iload_n 3, 0, [], false), (46, .ireturn, 0, [], false)]
def zc166 : List mzN := [(0, .aload_n 0, 0, [], false), (1, .iload_n 1, 0, [], false), (2, .invokevirtual 152, 126, [(2, 1)], false), (5, .ifCond .eq 11, 8, [], false), (8, .aload_n 0, 0, [], false), (9, .iload_n 2, 0, [], false), (10, .invokevirtual 152, 126, [(2, 1)], false), (13, .ifCond .ne 5, 10, [], false), (16, .iconst (-1), 0, [], false), (17, .ireturn, 0, [], false), (18, .aload_n 0, 0, [], false), (19, .iload_n 1, 0, [], false), (20, .invokevirtual 155, 127, [(2, 1)], false), (23, .ifCond .eq 20, 23, [], false), (26, .aload_n 0, 0, [], false), (27, .iload_n 2, 0, [], false), (28, .invokevirtual 155, 127, [(2, 1)], false), (31, .ifCond .eq 12, 23, [], false), (34, .aload_n 0, 0, [], false), (35, .iload_n 1, 0, [], false), (36, .iload_n 2, 0, [], false), (37, .invokevirtual 233, 165, [(3, 1)], false), (40, .goto 5, 24, [], false), (43, .bipush (-2), 0, [], false), (45, .ireturn, 0, [], false)]
def zc167 : List mzN := [(0, .iconst 1, 0, [], false), (1, .istore 7, 0, [], false), (3, .iconst 0, 0, [], false), (4, .istore 8, 0, [], false), (6, .iload 8, 0, [], true), (8, .bipush 16, 0, [], false), (10, .if_icmp .ge 69, 46, [], false), (13, .iload 7, 0, [], false), (15, .ifCond .eq 55, 42, [], false), (18, .aload_n 0, 0, [], false), (19, .iload_n 1, 0, [], false), (20, .aload_n 0, 0, [], false), (21, .iload_n 2, 0, [], false), (22, .iload 8, 0, [], false), (24, .iconst 4, 0, [], false), (25, .irem, 0, [], false), (26, .iadd, 0, [], false), (27, .iload_n 3, 0, [], false), (28, .iload 8, 0, [], false), (30, .iconst 4, 0, [], false), (31, .idiv, 0, [], false), (32, .iadd, 0, [], false), (33, .invokevirtual 115, 119, [(3, 1)], false), (36, .invokevirtual 143, 104, [(3, 1)], false), (39, .aload_n 0, 0, [], false), (40, .iload 4, 0, [], false), (42, .aload_n 0, 0, [], false), (43, .iload 5, 0, [], false), (45, .iload 8, 0, [], false), (47, .iconst 4, 0, [], false), (48, .irem, 0, [], false), (49, .iadd, 0, [], false), (50, .iload 6, 0, [], false), (52, .iload 8, 0, [], false), (54, .iconst 4, 0, [], false), (55, .idiv, 0, [], false), (56, .iadd, 0, [], false), (57, .invokevirtual 115, 119, [(3, 1)], false), (60, .invokevirtual 143, 104, [(3, 1)], false), (63, .if_icmp .ne 7, 42, [], false), (66, .iconst 1, 0, [], false), (67, .goto 4, 43, [], false), (70, .iconst 0, 0, [], false), (71, .istore 7, 0, [], false), (73, .iinc 8 1, 0, [], false), (76, .goto (-70), 4, [], false), (79, .iload 7, 0, [], false), (81, .ireturn, 1, [], false)]
def zc168 : List mzN := [(0, .aload_n 0, 0, [], false), (1, .iload_n 1, 0, [], false), (2, .invokevirtual 140, 103, [(2, 1)], false), (5, .ifCond .eq 11, 8, [], false), (8, .aload_n 0, 0, [], false), (9, .iload_n 2, 0, [], false), (10, .invokevirtual 230, 159, [(2, 1)], false), (13, .ifCond .ne 5, 10, [], false), (16, .iconst (-1), 0, [], false), (17, .ireturn, 0, [], false), (18, .aload_n 0, 0, [], false), (19, .iload_n 1, 0, [], false), (20, .invokevirtual 54, 107, [(2, 1)], false), (23, .ifCond .ne 6, 16, [], false), (26, .bipush (-2), 0, [], false), (28, .ireturn, 0, [], false), (29, .iconst 0, 0, [], false), (30, .istore_n 3, 0, [], false), (31, .iload_n 3, 0, [], true), (32, .aload_n 0, 0, [], false), (33, .getfield 7, 0, [(0, 3), (0, 20), (0, 21), (0, 0)], false), (36, .iconst 1, 0, [], false), (37, .iaload, 0, [], false), (38, .iconst 4, 0, [], false), (39, .isub, 0, [], false), (40, .if_icmp .gt 61, 59, [], false), (43, .iconst 0, 0, [], false), (44, .istore 4, 0, [], false), (46, .iload 4, 0, [], true), (48, .aload_n 0, 0, [], false), (49, .getfield 7, 0, [(0, 3), (0, 20), (0, 21), (0, 0)], false), (52, .iconst 0, 0, [], false), (53, .iaload, 0, [], false), (54, .iconst 4, 0, [], false), (55, .isub, 0, [], false), (56, .if_icmp .gt 39, 57, [], false), (59, .aload_n 0, 0, [], false), (60, .iconst (-1), 0, [], false), (61, .aload_n 0, 0, [], false), (62, .iload_n 2, 0, [], false), (63, .invokevirtual 162, 130, [(2, 1)], false), (66, .aload_n 0, 0, [], false), (67, .iload_n 2, 0, [], false), (68, .invokevirtual 165, 131, [(2, 1)], false), (71, .iload_n 1, 0, [], false), (72, .iload 4, 0, [], false), (74, .iload_n 3, 0, [], false), (75, .invokevirtual 236, 167, [(7, 1)], false), (78, .ifCond .eq 11, 55, [], false), (81, .bipush 100, 0, [], false), (83, .iload 4, 0, [], false), (85, .imul, 0, [], false), (86, .iload_n 3, 0, [], false), (87, .iadd, 0, [], false), (88, .ireturn, 0, [], false), (89, .iinc 4 1, 0, [], false), (92, .goto (-46), 28, [], false), (95, .iinc 3 1, 0, [], false), (98, .goto (-67), 18, [], false), (101, .bipush (-9), 0, [], false), (103, .ireturn, 0, [], false)]
def zc169 : List mzN := [(0, .aload_n 0, 0, [], false), (1, .iload_n 1, 0, [], false), (2, .invokevirtual 152, 126, [(2, 1)], false), (5, .ifCond .ne 5, 6, [], false), (8, .iconst (-1), 0, [], false), (9, .ireturn, 0, [], false), (10, .aload_n 0, 0, [], false), (11, .iload_n 1, 0, [], false), (12, .invokevirtual 155, 127, [(2, 1)], false), (15, .ifCond .ne 6, 12, [], false), (18, .bipush (-2), 0, [], false), (20, .ireturn, 0, [], false), (21, .aload_n 0, 0, [], false), (22, .getfield 7, 0, [(0, 3), (0, 20), (0, 21), (0, 0)], false), (25, .iconst 0, 0, [], false), (26, .iaload, 0, [], false), (27, .iconst 3, 0, [], false), (28, .isub, 0, [], false), (29, .istore_n 2, 0, [], false), (30, .iload_n 2, 0, [], false), (31, .aload_n 0, 0, [], false), (32, .getfield 7, 0, [(0, 3), (0, 20), (0, 21), (0, 0)], false), (35, .iconst 1, 0, [], false), (36, .iaload, 0, [], false), (37, .iconst 3, 0, [], false), (38, .isub, 0, [], false), (39, .imul, 0, [], false), (40, .istore_n 3, 0, [], false), (41, .iconst 0, 0, [], false), (42, .istore 4, 0, [], false), (44, .iconst 0, 0, [], false), (45, .istore 5, 0, [], false), (47, .iload 5, 0, [], true), (49, .iload_n 3, 0, [], false), (50, .if_icmp .ge 109, 95, [], false), (53, .aload_n 0, 0, [], false), (54, .getfield 35, 0, [(0, 3), (0, 20), (0, 29), (0, 0)], false), (57, .iload 5, 0, [], false), (59, .aload_n 0, 0, [], false), (60, .iload_n 1, 0, [], false), (61, .iload 5, 0, [], false), (63, .iload_n 2, 0, [], false), (64, .irem, 0, [], false), (65, .iload 5, 0, [], false), (67, .iload_n 2, 0, [], false), (68, .idiv, 0, [], false), (69, .invokevirtual 158, 128, [(4, 1)], false), (72, .iastore, 0, [], false), (73, .iconst 0, 0, [], false), (74, .istore 6, 0, [], false), (76, .iload 6, 0, [], true), (78, .iload 5, 0, [], false), (80, .if_icmp .ge 73, 93, [], false), (83, .aload_n 0, 0, [], false), (84, .getfield 35, 0, [(0, 3), (0, 20), (0, 29), (0, 0)], false), (87, .iload 6, 0, [], false), (89, .iaload, 0, [], false), (90, .aload_n 0, 0, [], false), (91, .getfield 35, 0, [(0, 3), (0, 20), (0, 29), (0, 0)], false), (94, .iload 5, 0, [], false), (96, .iaload, 0, [], false), (97, .if_icmp .ne 32, 81, [], false), (100, .aload_n 0, 0, [], false), (101, .iload_n 1, 0, [], false), (102, .iload 5, 0, [], false), (104, .iload_n 2, 0, [], false), (105, .irem, 0, [], false), (106, .iload 5, 0, [], false), (108, .iload_n 2, 0, [], false), (109, .idiv, 0, [], false), (110, .iload_n 1, 0, [], false), (111, .iload 6, 0, [], false), (113, .iload_n 2, 0, [], false), (114, .irem, 0, [], false), (115, .iload 6, 0, [], false), (117, .iload_n 2, 0, [], false), (118, .idiv, 0, [], false), (119, .invokevirtual 236, 167, [(7, 1)], false), (122, .ifCond .ne 7, 81, [], false), (125, .iconst 1, 0, [], false), (126, .goto 4, 82, [], false), (129, .iconst 0, 0, [], false), (130, .istore 7, 0, [], false), (132, .iload 4, 0, [], false), (134, .iload 7, 0, [], false), (136, .ifCond .eq 7, 88, [], false), (139, .iconst 1, 0, [], false), (140, .goto 4, 89, [], false), (143, .iconst 0, 0, [], false), (144, .iadd, 0, [], false), (145, .istore 4, 0, [], false), (147, .iinc 6 1, 0, [], false), (150, .goto (-74), 50, [], false), (153, .iinc 5 1, 0, [], false), (156, .goto (-109), 32, [], false), (159, .iload 4, 0, [], false), (161, .ireturn, 0, [], false)]
def zc170 : List mzN := [(0, .bipush (-9), 0, [], false), (2, .istore_n 1, 0, [], false), (3, .iconst 0, 0, [], false), (4, .istore_n 2, 0, [], false), (5, .iload_n 2, 0, [], true), (6, .aload_n 0, 0, [], false), (7, .getfield 7, 0, [(0, 3), (0, 20), (0, 21), (0, 0)], false), (10, .iconst 2, 0, [], false), (11, .iaload, 0, [], false), (12, .if_icmp .ge 28, 23, [], false), (15, .aload_n 0, 0, [], false), (16, .iload_n 2, 0, [], false), (17, .invokevirtual 224, 142, [(2, 1)], false), (20, .iload_n 1, 0, [], false), (21, .if_icmp .le 11, 19, [], false), (24, .aload_n 0, 0, [], false), (25, .iload_n 2, 0, [], false), (26, .invokevirtual 224, 142, [(2, 1)], false), (29, .goto 4, 20, [], false), (32, .iload_n 1, 0, [], false), (33, .istore_n 1, 0, [], false), (34, .iinc 2 1, 0, [], false), (37, .goto (-32), 4, [], false), (40, .iload_n 1, 0, [], false), (41, .ireturn, 0, [], false)]
def zc171 : List mzN := [(0, .iload_n 2, 0, [], false), (1, .istore_n 3, 0, [], false), (2, .iload_n 3, 0, [], true), (3, .iload_n 1, 0, [], false), (4, .if_icmp .eq 21, 15, [], false), (7, .aload_n 0, 0, [], false), (8, .iload_n 3, 0, [], false), (9, .invokevirtual 50, 105, [(2, 1)], false), (12, .iconst (-1), 0, [], false), (13, .if_icmp .eq 12, 15, [], false), (16, .aload_n 0, 0, [], false), (17, .iload_n 3, 0, [], false), (18, .invokevirtual 50, 105, [(2, 1)], false), (21, .istore_n 3, 0, [], false), (22, .goto (-20), 2, [], false), (25, .iload_n 3, 0, [], false), (26, .iload_n 1, 0, [], false), (27, .if_icmp .ne 7, 20, [], false), (30, .iconst 1, 0, [], false), (31, .goto 4, 21, [], false), (34, .iconst 0, 0, [], false), (35, .ireturn, 1, [], false)]
def zc172 : List mzN := [(0, .aload_n 0, 0, [], false), (1, .iload_n 1, 0, [], false), (2, .invokevirtual 140, 103, [(2, 1)], false), (5, .ifCond .ne 5, 6, [], false), (8, .iconst (-1), 0, [], false), (9, .ireturn, 0, [], false), (10, .iconst 0, 0, [], false), (11, .istore_n 2, 0, [], false), (12, .iconst 0, 0, [], false), (13, .istore_n 3, 0, [], false), (14, .iload_n 3, 0, [], true), (15, .aload_n 0, 0, [], false), (16, .getfield 7, 0, [(0, 3), (0, 20), (0, 21), (0, 0)], false), (19, .iconst 2, 0, [], false), (20, .iaload, 0, [], false), (21, .if_icmp .ge 26, 29, [], false), (24, .iload_n 2, 0, [], false), (25, .aload_n 0, 0, [], false), (26, .iload_n 1, 0, [], false), (27, .iload_n 3, 0, [], false), (28, .invokevirtual 240, 171, [(3, 1)], false), (31, .ifCond .eq 7, 24, [], false), (34, .iconst 1, 0, [], false), (35, .goto 4, 25, [], false), (38, .iconst 0, 0, [], false), (39, .iadd, 0, [], false), (40, .istore_n 2, 0, [], false), (41, .iinc 3 1, 0, [], false), (44, .goto (-30), 10, [], false), (47, .iload_n 2, 0, [], false), (48, .ireturn, 0, [], false)]
def zc173 : List mzN := [(0, .aload_n 0, 0, [], false), (1, .iload_n 1, 0, [], false), (2, .invokevirtual 140, 103, [(2, 1)], false), (5, .ifCond .ne 5, 6, [], false), (8, .iconst (-1), 0, [], false), (9, .ireturn, 0, [], false), (10, .aload_n 0, 0, [], false), (11, .getfield 7, 0, [(0, 3), (0, 20), (0, 21), (0, 0)], false), (14, .sipush 1600, 0, [], false), (17, .iload_n 1, 0, [], false), (18, .iadd, 0, [], false), (19, .iaload, 0, [], false), (20, .ifCond .ne 6, 15, [], false), (23, .bipush (-2), 0, [], false), (25, .ireturn, 0, [], false), (26, .bipush (-9), 0, [], false), (28, .istore_n 2, 0, [], false), (29, .iconst 0, 0, [], false), (30, .istore_n 3, 0, [], false), (31, .iload_n 3, 0, [], true), (32, .aload_n 0, 0, [], false), (33, .getfield 7, 0, [(0, 3), (0, 20), (0, 21), (0, 0)], false), (36, .iconst 2, 0, [], false), (37, .iaload, 0, [], false), (38, .if_icmp .ge 56, 53, [], false), (41, .aload_n 0, 0, [], false), (42, .iload_n 3, 0, [], false), (43, .invokevirtual 54, 107, [(2, 1)], false), (46, .ifCond .eq 28, 43, [], false), (49, .iload_n 2, 0, [], false), (50, .bipush (-9), 0, [], false), (52, .if_icmp .eq 18, 41, [], false), (55, .aload_n 0, 0, [], false), (56, .iload_n 1, 0, [], false), (57, .iload_n 3, 0, [], false), (58, .invokevirtual 233, 165, [(3, 1)], false), (61, .aload_n 0, 0, [], false), (62, .iload_n 1, 0, [], false), (63, .iload_n 2, 0, [], false), (64, .invokevirtual 233, 165, [(3, 1)], false), (67, .if_icmp .ge 7, 43, [], false), (70, .iconst 1, 0, [], false), (71, .goto 4, 44, [], false), (74, .iconst 0, 0, [], false), (75, .istore 4, 0, [], false), (77, .iload 4, 0, [], false), (79, .ifCond .eq 7, 49, [], false), (82, .iload_n 3, 0, [], false), (83, .goto 4, 50, [], false), (86, .iload_n 2, 0, [], false), (87, .istore_n 2, 0, [], false), (88, .iinc 3 1, 0, [], false), (91, .goto (-60), 19, [], false), (94, .iload_n 2, 0, [], false), (95, .ireturn, 0, [], false)]
def zc174 : List mzN := [(0, .iload_n 0, 0, [], false), (1, .iload_n 0, 0, [], false), (2, .iconst 1, 0, [], false), (3, .iushr, 0, [], false), (4, .ldc_w 265, 0, [(1431655765, 0)], false), (7, .iand, 0, [], false), (8, .isub, 0, [], false), (9, .istore_n 0, 0, [], false), (10, .iload_n 0, 0, [], false), (11, .ldc_w 266, 0, [(858993459, 0)], false), (14, .iand, 0, [], false), (15, .iload_n 0, 0, [], false), (16, .iconst 2, 0, [], false), (17, .iushr, 0, [], false), (18, .ldc_w 266, 0, [(858993459, 0)], false), (21, .iand, 0, [], false), (22, .iadd, 0, [], false), (23, .istore_n 0, 0, [], false), (24, .iload_n 0, 0, [], false), (25, .iload_n 0, 0, [], false), (26, .iconst 4, 0, [], false), (27, .iushr, 0, [], false), (28, .iadd, 0, [], false), (29, .ldc_w 267, 0, [(252645135, 0)], false), (32, .iand, 0, [], false), (33, .istore_n 0, 0, [], false), (34, .iload_n 0, 0, [], false), (35, .iload_n 0, 0, [], false), (36, .bipush 8, 0, [], false), (38, .iushr, 0, [], false), (39, .iadd, 0, [], false), (40, .istore_n 0, 0, [], false), (41, .iload_n 0, 0, [], false), (42, .iload_n 0, 0, [], false), (43, .bipush 16, 0, [], false), (45, .iushr, 0, [], false), (46, .iadd, 0, [], false), (47, .istore_n 0, 0, [], false), (48, .iload_n 0, 0, [], false), (49, .bipush 63, 0, [], false), (51, .iand, 0, [], false), (52, .ireturn, 0, [], false)]
def zc175 : List mzN := [(0, .iload_n 0, 0, [], false), (1, .iload_n 1, 0, [], false), (2, .irem, 0, [], false), (3, .istore_n 2, 0, [], false), (4, .iload_n 0, 0, [], false), (5, .iload_n 1, 0, [], false), (6, .ixor, 0, [], false), (7, .ifCond .ge 11, 14, [], false), (10, .iload_n 2, 0, [], false), (11, .ifCond .eq 7, 14, [], false), (14, .iload_n 2, 0, [], false), (15, .iload_n 1, 0, [], false), (16, .iadd, 0, [], false), (17, .ireturn, 0, [], false), (18, .iload_n 2, 0, [], false), (19, .ireturn, 0, [], false)]
def zc176 : List mzN := [(0, .iload_n 0, 0, [], false), (1, .ifCond .ge 8, 5, [], false), (4, .iload_n 0, 0, [], false), (5, .ineg, 0, [], false), (6, .goto 4, 6, [], false), (9, .iload_n 0, 0, [], false), (10, .ireturn, 0, [], false)]
def zc177 : List mzN := [(0, .iload_n 0, 0, [], false), (1, .iload_n 1, 0, [], false), (2, .if_icmp .lt 7, 5, [], false), (5, .iload_n 0, 0, [], false), (6, .goto 4, 6, [], false), (9, .iload_n 1, 0, [], false), (10, .ireturn, 0, [], false)]
def zc178 : List mzN := [(0, .iload_n 0, 0, [], false), (1, .iload_n 1, 0, [], false), (2, .if_icmp .gt 7, 5, [], false), (5, .iload_n 0, 0, [], false), (6, .goto 4, 6, [], false), (9, .iload_n 1, 0, [], false), (10, .ireturn, 0, [], false)]
def zc179 : List mzN := [(0, .aload_n 0, 0, [], false), (1, .getfield 9, 0, [(0, 3), (0, 30), (0, 31), (0, 1)], false), (4, .arraylength, 0, [], false), (5, .aload_n 0, 0, [], false), (6, .invokevirtual 335, 181, [(1, 1)], false), (9, .ishr, 0, [], false), (10, .ireturn, 0, [], false)]
def zc180 : List mzN := [(0, .aload_n 0, 0, [], false), (1, .invokevirtual 492, 182, [(1, 1)], false), (4, .ifCond .eq 12, 8, [], false), (7, .aload_n 0, 0, [], false), (8, .getfield 9, 0, [(0, 3), (0, 30), (0, 31), (0, 1)], false), (11, .iload_n 1, 0, [], false), (12, .invokestatic 495, 184, [(2, 1)], false), (15, .ireturn, 2, [], false), (16, .aload_n 0, 0, [], false), (17, .getfield 9, 0, [(0, 3), (0, 30), (0, 31), (0, 1)], false), (20, .iload_n 1, 0, [], false), (21, .invokestatic 498, 998, [], false), (24, .ireturn, 2, [], false)]
def zc181 : List mzN := [(0, .getstatic 38, 0, [], false), (3, .ifCond .eq 10, 5, [], false), (6, .aload_n 0, 0, [], false), (7, .getfield 15, 0, [(0, 4), (0, 30), (0, 0), (0, 0)], false), (10, .goto 4, 6, [], false), (13, .iconst 1, 0, [], false), (14, .ireturn, 3, [], false)]
def zc182 : List mzN := [(0, .getstatic 38, 0, [], false), (3, .ifCond .eq 14, 7, [], false), (6, .aload_n 0, 0, [], false), (7, .getfield 15, 0, [(0, 4), (0, 30), (0, 0), (0, 0)], false), (10, .ifCond .ne 7, 7, [], false), (13, .iconst 1, 0, [], false), (14, .goto 4, 8, [], false), (17, .iconst 0, 0, [], false), (18, .ireturn, 1, [], false)]
def zc183 : List mzN := [(0, .iload_n 0, 0, [], false), (1, .iload_n 1, 0, [], false), (2, .getstatic 1053, 1, [], false), (5, .invokestatic 1059, 185, [(3, 1)], false), (8, .pop, 0, [], false), (9, .return_, 0, [], false)]
def zc184 : List mzN := [(0, .iload_n 1, 0, [], false), (1, .aload_n 0, 0, [], false), (2, .arraylength, 0, [], false), (3, .invokestatic 9, 183, [(2, 0)], false), (6, .aload_n 0, 0, [], false), (7, .iload_n 1, 0, [], false), (8, .baload, 0, [], false), (9, .sipush 255, 0, [], false), (12, .iand, 0, [], false), (13, .i2c, 0, [], false), (14, .ireturn, 2, [], false)]
def zc185 : List mzN := [(0, .iload_n 0, 0, [], false), (1, .ifCond .lt 8, 5, [], false), (4, .iload_n 0, 0, [], false), (5, .iload_n 1, 0, [], false), (6, .if_icmp .lt 10, 10, [], false), (9, .aload_n 2, 0, [], false), (10, .iload_n 0, 0, [], false), (11, .iload_n 1, 0, [], false), (12, .invokestatic 95, 998, [], false), (15, .athrow, 0, [], false), (16, .iload_n 0, 0, [], false), (17, .ireturn, 0, [], false)]
def zc186 : List mzN := [(0, .new 7, 0, [], false), (3, .dup, 0, [], false), (4, .invokespecial 9, 998, [], false), (7, .astore_n 1, 0, [], false), (8, .new 10, 0, [], false), (11, .dup, 0, [], false), (12, .invokespecial 12, 998, [], false), (15, .astore_n 2, 0, [], false), (16, .iconst 0, 0, [], false), (17, .istore_n 3, 0, [], false), (18, .iload_n 3, 0, [], true), (19, .aload_n 0, 0, [], false), (20, .arraylength, 0, [], false), (21, .iconst 5, 0, [], false), (22, .isub, 0, [], false), (23, .if_icmp .gt 874, 577, [], false), (26, .aload_n 0, 0, [], false), (27, .iload_n 3, 0, [], false), (28, .iaload, 0, [], false), (29, .bipush 31, 0, [], false), (31, .iand, 0, [], false), (32, .tableswitch 859 0 28 #[132, 165, 198, 221, 244, 257, 270, 313, 326, 349, 362, 375, 388, 431, 464, 497, 540, 593, 626, 649, 672, 705, 738, 761, 774, 797, 820, 833, 846], 575, [(0, 22), (1, 49), (2, 76), (3, 93), (4, 110), (5, 117), (6, 124), (7, 161), (8, 168), (9, 185), (10, 192), (11, 199), (12, 206), (13, 243), (14, 270), (15, 297), (16, 334), (17, 381), (18, 408), (19, 425), (20, 442), (21, 469), (22, 496), (23, 513), (24, 520), (25, 537), (26, 554), (27, 561), (28, 568)], false), (164, .aload_n 1, 0, [], false), (165, .aload_n 0, 0, [], false), (166, .iload_n 3, 0, [], false), (167, .iconst 1, 0, [], false), (168, .iadd, 0, [], false), (169, .iaload, 0, [], false), (170, .aload_n 0, 0, [], false), (171, .iload_n 3, 0, [], false), (172, .iconst 2, 0, [], false), (173, .iadd, 0, [], false), (174, .iaload, 0, [], false), (175, .invokevirtual 13, 62, [(3, 1)], false), (178, .aload_n 2, 0, [], false), (179, .aload_n 0, 0, [], false), (180, .iload_n 3, 0, [], false), (181, .iconst 1, 0, [], false), (182, .iadd, 0, [], false), (183, .iaload, 0, [], false), (184, .aload_n 0, 0, [], false), (185, .iload_n 3, 0, [], false), (186, .iconst 2, 0, [], false), (187, .iadd, 0, [], false), (188, .iaload, 0, [], false), (189, .invokevirtual 17, 109, [(3, 1)], false), (192, .if_icmp .eq 699, 575, [], false), (195, .iconst 0, 0, [], false), (196, .ireturn, 1, [], false), (197, .aload_n 1, 0, [], false), (198, .aload_n 0, 0, [], false), (199, .iload_n 3, 0, [], false), (200, .iconst 1, 0, [], false), (201, .iadd, 0, [], false), (202, .iaload, 0, [], false), (203, .aload_n 0, 0, [], false), (204, .iload_n 3, 0, [], false), (205, .iconst 2, 0, [], false), (206, .iadd, 0, [], false), (207, .iaload, 0, [], false), (208, .invokevirtual 18, 63, [(3, 1)], false), (211, .aload_n 2, 0, [], false), (212, .aload_n 0, 0, [], false), (213, .iload_n 3, 0, [], false), (214, .iconst 1, 0, [], false), (215, .iadd, 0, [], false), (216, .iaload, 0, [], false), (217, .aload_n 0, 0, [], false), (218, .iload_n 3, 0, [], false), (219, .iconst 2, 0, [], false), (220, .iadd, 0, [], false), (221, .iaload, 0, [], false), (222, .invokevirtual 21, 111, [(3, 1)], false), (225, .if_icmp .eq 666, 575, [], false), (228, .iconst 0, 0, [], false), (229, .ireturn, 1, [], false), (230, .aload_n 1, 0, [], false), (231, .aload_n 0, 0, [], false), (232, .iload_n 3, 0, [], false), (233, .iconst 1, 0, [], false), (234, .iadd, 0, [], false), (235, .iaload, 0, [], false), (236, .invokevirtual 22, 64, [(2, 1)], false), (239, .aload_n 2, 0, [], false), (240, .aload_n 0, 0, [], false), (241, .iload_n 3, 0, [], false), (242, .iconst 1, 0, [], false), (243, .iadd, 0, [], false), (244, .iaload, 0, [], false), (245, .invokevirtual 26, 112, [(2, 1)], false), (248, .if_icmp .eq 643, 575, [], false), (251, .iconst 0, 0, [], false), (252, .ireturn, 1, [], false), (253, .aload_n 1, 0, [], false), (254, .aload_n 0, 0, [], false), (255, .iload_n 3, 0, [], false), (256, .iconst 1, 0, [], false), (257, .iadd, 0, [], false), (258, .iaload, 0, [], false), (259, .invokevirtual 27, 65, [(2, 1)], false), (262, .aload_n 2, 0, [], false), (263, .aload_n 0, 0, [], false), (264, .iload_n 3, 0, [], false), (265, .iconst 1, 0, [], false), (266, .iadd, 0, [], false), (267, .iaload, 0, [], false), (268, .invokevirtual 30, 113, [(2, 1)], false), (271, .if_icmp .eq 620, 575, [], false), (274, .iconst 0, 0, [], false), (275, .ireturn, 1, [], false), (276, .aload_n 1, 0, [], false), (277, .invokevirtual 31, 66, [(1, 1)], false), (280, .aload_n 2, 0, [], false), (281, .invokevirtual 35, 114, [(1, 1)], false), (284, .if_icmp .eq 607, 575, [], false), (287, .iconst 0, 0, [], false), (288, .ireturn, 1, [], false), (289, .aload_n 1, 0, [], false), (290, .invokevirtual 36, 67, [(1, 1)], false), (293, .aload_n 2, 0, [], false), (294, .invokevirtual 39, 125, [(1, 1)], false), (297, .if_icmp .eq 594, 575, [], false), (300, .iconst 0, 0, [], false), (301, .ireturn, 1, [], false), (302, .aload_n 1, 0, [], false), (303, .aload_n 0, 0, [], false), (304, .iload_n 3, 0, [], false), (305, .iconst 1, 0, [], false), (306, .iadd, 0, [], false), (307, .iaload, 0, [], false), (308, .aload_n 0, 0, [], false), (309, .iload_n 3, 0, [], false), (310, .iconst 2, 0, [], false), (311, .iadd, 0, [], false), (312, .iaload, 0, [], false), (313, .aload_n 0, 0, [], false), (314, .iload_n 3, 0, [], false), (315, .iconst 3, 0, [], false), (316, .iadd, 0, [], false), (317, .iaload, 0, [], false), (318, .invokevirtual 40, 68, [(4, 1)], false), (321, .aload_n 2, 0, [], false), (322, .aload_n 0, 0, [], false), (323, .iload_n 3, 0, [], false), (324, .iconst 1, 0, [], false), (325, .iadd, 0, [], false), (326, .iaload, 0, [], false), (327, .aload_n 0, 0, [], false), (328, .iload_n 3, 0, [], false), (329, .iconst 2, 0, [], false), (330, .iadd, 0, [], false), (331, .iaload, 0, [], false), (332, .aload_n 0, 0, [], false), (333, .iload_n 3, 0, [], false), (334, .iconst 3, 0, [], false), (335, .iadd, 0, [], false), (336, .iaload, 0, [], false), (337, .invokevirtual 44, 129, [(4, 1)], false), (340, .if_icmp .eq 551, 575, [], false), (343, .iconst 0, 0, [], false), (344, .ireturn, 1, [], false), (345, .aload_n 1, 0, [], false), (346, .invokevirtual 45, 69, [(1, 1)], false), (349, .aload_n 2, 0, [], false), (350, .invokevirtual 48, 145, [(1, 1)], false), (353, .if_icmp .eq 538, 575, [], false), (356, .iconst 0, 0, [], false), (357, .ireturn, 1, [], false), (358, .aload_n 1, 0, [], false), (359, .aload_n 0, 0, [], false), (360, .iload_n 3, 0, [], false), (361, .iconst 1, 0, [], false), (362, .iadd, 0, [], false), (363, .iaload, 0, [], false), (364, .invokevirtual 49, 70, [(2, 1)], false), (367, .aload_n 2, 0, [], false), (368, .aload_n 0, 0, [], false), (369, .iload_n 3, 0, [], false), (370, .iconst 1, 0, [], false), (371, .iadd, 0, [], false), (372, .iaload, 0, [], false), (373, .invokevirtual 52, 146, [(2, 1)], false), (376, .if_icmp .eq 515, 575, [], false), (379, .iconst 0, 0, [], false), (380, .ireturn, 1, [], false), (381, .aload_n 1, 0, [], false), (382, .invokevirtual 53, 71, [(1, 1)], false), (385, .aload_n 2, 0, [], false), (386, .invokevirtual 56, 147, [(1, 1)], false), (389, .if_icmp .eq 502, 575, [], false), (392, .iconst 0, 0, [], false), (393, .ireturn, 1, [], false), (394, .aload_n 1, 0, [], false), (395, .invokevirtual 57, 72, [(1, 1)], false), (398, .aload_n 2, 0, [], false), (399, .invokevirtual 60, 148, [(1, 1)], false), (402, .if_icmp .eq 489, 575, [], false), (405, .iconst 0, 0, [], false), (406, .ireturn, 1, [], false), (407, .aload_n 1, 0, [], false), (408, .invokevirtual 61, 73, [(1, 1)], false), (411, .aload_n 2, 0, [], false), (412, .invokevirtual 64, 152, [(1, 1)], false), (415, .if_icmp .eq 476, 575, [], false), (418, .iconst 0, 0, [], false), (419, .ireturn, 1, [], false), (420, .aload_n 1, 0, [], false), (421, .aload_n 0, 0, [], false), (422, .iload_n 3, 0, [], false), (423, .iconst 1, 0, [], false), (424, .iadd, 0, [], false), (425, .iaload, 0, [], false), (426, .aload_n 0, 0, [], false), (427, .iload_n 3, 0, [], false), (428, .iconst 2, 0, [], false), (429, .iadd, 0, [], false), (430, .iaload, 0, [], false), (431, .aload_n 0, 0, [], false), (432, .iload_n 3, 0, [], false), (433, .iconst 3, 0, [], false), (434, .iadd, 0, [], false), (435, .iaload, 0, [], false), (436, .invokevirtual 65, 74, [(4, 1)], false), (439, .aload_n 2, 0, [], false), (440, .aload_n 0, 0, [], false), (441, .iload_n 3, 0, [], false), (442, .iconst 1, 0, [], false), (443, .iadd, 0, [], false), (444, .iaload, 0, [], false), (445, .aload_n 0, 0, [], false), (446, .iload_n 3, 0, [], false), (447, .iconst 2, 0, [], false), (448, .iadd, 0, [], false), (449, .iaload, 0, [], false), (450, .aload_n 0, 0, [], false), (451, .iload_n 3, 0, [], false), (452, .iconst 3, 0, [], false), (453, .iadd, 0, [], false), (454, .iaload, 0, [], false), (455, .invokevirtual 68, 155, [(4, 1)], false), (458, .if_icmp .eq 433, 575, [], false), (461, .iconst 0, 0, [], false), (462, .ireturn, 1, [], false), (463, .aload_n 1, 0, [], false), (464, .aload_n 0, 0, [], false), (465, .iload_n 3, 0, [], false), (466, .iconst 1, 0, [], false), (467, .iadd, 0, [], false), (468, .iaload, 0, [], false), (469, .aload_n 0, 0, [], false), (470, .iload_n 3, 0, [], false), (471, .iconst 2, 0, [], false), (472, .iadd, 0, [], false), (473, .iaload, 0, [], false), (474, .invokevirtual 69, 75, [(3, 1)], false), (477, .aload_n 2, 0, [], false), (478, .aload_n 0, 0, [], false), (479, .iload_n 3, 0, [], false), (480, .iconst 1, 0, [], false), (481, .iadd, 0, [], false), (482, .iaload, 0, [], false), (483, .aload_n 0, 0, [], false), (484, .iload_n 3, 0, [], false), (485, .iconst 2, 0, [], false), (486, .iadd, 0, [], false), (487, .iaload, 0, [], false), (488, .invokevirtual 72, 156, [(3, 1)], false), (491, .if_icmp .eq 400, 575, [], false), (494, .iconst 0, 0, [], false), (495, .ireturn, 1, [], false), (496, .aload_n 1, 0, [], false), (497, .aload_n 0, 0, [], false), (498, .iload_n 3, 0, [], false), (499, .iconst 1, 0, [], false), (500, .iadd, 0, [], false), (501, .iaload, 0, [], false), (502, .aload_n 0, 0, [], false), (503, .iload_n 3, 0, [], false), (504, .iconst 2, 0, [], false), (505, .iadd, 0, [], false), (506, .iaload, 0, [], false), (507, .invokevirtual 73, 76, [(3, 1)], false), (510, .aload_n 2, 0, [], false), (511, .aload_n 0, 0, [], false), (512, .iload_n 3, 0, [], false), (513, .iconst 1, 0, [], false), (514, .iadd, 0, [], false), (515, .iaload, 0, [], false), (516, .aload_n 0, 0, [], false), (517, .iload_n 3, 0, [], false), (518, .iconst 2, 0, [], false), (519, .iadd, 0, [], false), (520, .iaload, 0, [], false), (521, .invokevirtual 76, 158, [(3, 1)], false), (524, .if_icmp .eq 367, 575, [], false), (527, .iconst 0, 0, [], false), (528, .ireturn, 1, [], false), (529, .aload_n 1, 0, [], false), (530, .aload_n 0, 0, [], false), (531, .iload_n 3, 0, [], false), (532, .iconst 1, 0, [], false), (533, .iadd, 0, [], false), (534, .iaload, 0, [], false), (535, .aload_n 0, 0, [], false), (536, .iload_n 3, 0, [], false), (537, .iconst 2, 0, [], false), (538, .iadd, 0, [], false), (539, .iaload, 0, [], false), (540, .aload_n 0, 0, [], false), (541, .iload_n 3, 0, [], false), (542, .iconst 3, 0, [], false), (543, .iadd, 0, [], false), (544, .iaload, 0, [], false), (545, .invokevirtual 77, 77, [(4, 1)], false), (548, .aload_n 2, 0, [], false), (549, .aload_n 0, 0, [], false), (550, .iload_n 3, 0, [], false), (551, .iconst 1, 0, [], false), (552, .iadd, 0, [], false), (553, .iaload, 0, [], false), (554, .aload_n 0, 0, [], false), (555, .iload_n 3, 0, [], false), (556, .iconst 2, 0, [], false), (557, .iadd, 0, [], false), (558, .iaload, 0, [], false), (559, .aload_n 0, 0, [], false), (560, .iload_n 3, 0, [], false), (561, .iconst 3, 0, [], false), (562, .iadd, 0, [], false), (563, .iaload, 0, [], false), (564, .invokevirtual 80, 160, [(4, 1)], false), (567, .if_icmp .eq 324, 575, [], false), (570, .iconst 0, 0, [], false), (571, .ireturn, 1, [], false), (572, .aload_n 1, 0, [], false), (573, .aload_n 0, 0, [], false), (574, .iload_n 3, 0, [], false), (575, .iconst 1, 0, [], false), (576, .iadd, 0, [], false), (577, .iaload, 0, [], false), (578, .aload_n 0, 0, [], false), (579, .iload_n 3, 0, [], false), (580, .iconst 2, 0, [], false), (581, .iadd, 0, [], false), (582, .iaload, 0, [], false), (583, .aload_n 0, 0, [], false), (584, .iload_n 3, 0, [], false), (585, .iconst 3, 0, [], false), (586, .iadd, 0, [], false), (587, .iaload, 0, [], false), (588, .aload_n 0, 0, [], false), (589, .iload_n 3, 0, [], false), (590, .iconst 4, 0, [], false), (591, .iadd, 0, [], false), (592, .iaload, 0, [], false), (593, .invokevirtual 81, 78, [(5, 1)], false), (596, .aload_n 2, 0, [], false), (597, .aload_n 0, 0, [], false), (598, .iload_n 3, 0, [], false), (599, .iconst 1, 0, [], false), (600, .iadd, 0, [], false), (601, .iaload, 0, [], false), (602, .aload_n 0, 0, [], false), (603, .iload_n 3, 0, [], false), (604, .iconst 2, 0, [], false), (605, .iadd, 0, [], false), (606, .iaload, 0, [], false), (607, .aload_n 0, 0, [], false), (608, .iload_n 3, 0, [], false), (609, .iconst 3, 0, [], false), (610, .iadd, 0, [], false), (611, .iaload, 0, [], false), (612, .aload_n 0, 0, [], false), (613, .iload_n 3, 0, [], false), (614, .iconst 4, 0, [], false), (615, .iadd, 0, [], false), (616, .iaload, 0, [], false), (617, .invokevirtual 85, 161, [(5, 1)], false), (620, .if_icmp .eq 271, 575, [], false), (623, .iconst 0, 0, [], false), (624, .ireturn, 1, [], false), (625, .aload_n 1, 0, [], false), (626, .aload_n 0, 0, [], false), (627, .iload_n 3, 0, [], false), (628, .iconst 1, 0, [], false), (629, .iadd, 0, [], false), (630, .iaload, 0, [], false), (631, .aload_n 0, 0, [], false), (632, .iload_n 3, 0, [], false), (633, .iconst 2, 0, [], false), (634, .iadd, 0, [], false), (635, .iaload, 0, [], false), (636, .invokevirtual 86, 79, [(3, 1)], false), (639, .aload_n 2, 0, [], false), (640, .aload_n 0, 0, [], false), (641, .iload_n 3, 0, [], false), (642, .iconst 1, 0, [], false), (643, .iadd, 0, [], false), (644, .iaload, 0, [], false), (645, .aload_n 0, 0, [], false), (646, .iload_n 3, 0, [], false), (647, .iconst 2, 0, [], false), (648, .iadd, 0, [], false), (649, .iaload, 0, [], false), (650, .invokevirtual 89, 162, [(3, 1)], false), (653, .if_icmp .eq 238, 575, [], false), (656, .iconst 0, 0, [], false), (657, .ireturn, 1, [], false), (658, .aload_n 1, 0, [], false), (659, .aload_n 0, 0, [], false), (660, .iload_n 3, 0, [], false), (661, .iconst 1, 0, [], false), (662, .iadd, 0, [], false), (663, .iaload, 0, [], false), (664, .invokevirtual 90, 80, [(2, 1)], false), (667, .aload_n 2, 0, [], false), (668, .aload_n 0, 0, [], false), (669, .iload_n 3, 0, [], false), (670, .iconst 1, 0, [], false), (671, .iadd, 0, [], false), (672, .iaload, 0, [], false), (673, .invokevirtual 93, 163, [(2, 1)], false), (676, .if_icmp .eq 215, 575, [], false), (679, .iconst 0, 0, [], false), (680, .ireturn, 1, [], false), (681, .aload_n 1, 0, [], false), (682, .aload_n 0, 0, [], false), (683, .iload_n 3, 0, [], false), (684, .iconst 1, 0, [], false), (685, .iadd, 0, [], false), (686, .iaload, 0, [], false), (687, .invokevirtual 94, 81, [(2, 1)], false), (690, .aload_n 2, 0, [], false), (691, .aload_n 0, 0, [], false), (692, .iload_n 3, 0, [], false), (693, .iconst 1, 0, [], false), (694, .iadd, 0, [], false), (695, .iaload, 0, [], false), (696, .invokevirtual 97, 164, [(2, 1)], false), (699, .if_icmp .eq 192, 575, [], false), (702, .iconst 0, 0, [], false), (703, .ireturn, 1, [], false), (704, .aload_n 1, 0, [], false), (705, .aload_n 0, 0, [], false), (706, .iload_n 3, 0, [], false), (707, .iconst 1, 0, [], false), (708, .iadd, 0, [], false), (709, .iaload, 0, [], false), (710, .aload_n 0, 0, [], false), (711, .iload_n 3, 0, [], false), (712, .iconst 2, 0, [], false), (713, .iadd, 0, [], false), (714, .iaload, 0, [], false), (715, .invokevirtual 98, 82, [(3, 1)], false), (718, .aload_n 2, 0, [], false), (719, .aload_n 0, 0, [], false), (720, .iload_n 3, 0, [], false), (721, .iconst 1, 0, [], false), (722, .iadd, 0, [], false), (723, .iaload, 0, [], false), (724, .aload_n 0, 0, [], false), (725, .iload_n 3, 0, [], false), (726, .iconst 2, 0, [], false), (727, .iadd, 0, [], false), (728, .iaload, 0, [], false), (729, .invokevirtual 101, 166, [(3, 1)], false), (732, .if_icmp .eq 159, 575, [], false), (735, .iconst 0, 0, [], false), (736, .ireturn, 1, [], false), (737, .aload_n 1, 0, [], false), (738, .aload_n 0, 0, [], false), (739, .iload_n 3, 0, [], false), (740, .iconst 1, 0, [], false), (741, .iadd, 0, [], false), (742, .iaload, 0, [], false), (743, .aload_n 0, 0, [], false), (744, .iload_n 3, 0, [], false), (745, .iconst 2, 0, [], false), (746, .iadd, 0, [], false), (747, .iaload, 0, [], false), (748, .invokevirtual 102, 83, [(3, 1)], false), (751, .aload_n 2, 0, [], false), (752, .aload_n 0, 0, [], false), (753, .iload_n 3, 0, [], false), (754, .iconst 1, 0, [], false), (755, .iadd, 0, [], false), (756, .iaload, 0, [], false), (757, .aload_n 0, 0, [], false), (758, .iload_n 3, 0, [], false), (759, .iconst 2, 0, [], false), (760, .iadd, 0, [], false), (761, .iaload, 0, [], false), (762, .invokevirtual 105, 168, [(3, 1)], false), (765, .if_icmp .eq 126, 575, [], false), (768, .iconst 0, 0, [], false), (769, .ireturn, 1, [], false), (770, .aload_n 1, 0, [], false), (771, .aload_n 0, 0, [], false), (772, .iload_n 3, 0, [], false), (773, .iconst 1, 0, [], false), (774, .iadd, 0, [], false), (775, .iaload, 0, [], false), (776, .invokevirtual 106, 84, [(2, 1)], false), (779, .aload_n 2, 0, [], false), (780, .aload_n 0, 0, [], false), (781, .iload_n 3, 0, [], false), (782, .iconst 1, 0, [], false), (783, .iadd, 0, [], false), (784, .iaload, 0, [], false), (785, .invokevirtual 109, 169, [(2, 1)], false), (788, .if_icmp .eq 103, 575, [], false), (791, .iconst 0, 0, [], false), (792, .ireturn, 1, [], false), (793, .aload_n 1, 0, [], false), (794, .invokevirtual 110, 85, [(1, 1)], false), (797, .aload_n 2, 0, [], false), (798, .invokevirtual 113, 170, [(1, 1)], false), (801, .if_icmp .eq 90, 575, [], false), (804, .iconst 0, 0, [], false), (805, .ireturn, 1, [], false), (806, .aload_n 1, 0, [], false), (807, .aload_n 0, 0, [], false), (808, .iload_n 3, 0, [], false), (809, .iconst 1, 0, [], false), (810, .iadd, 0, [], false), (811, .iaload, 0, [], false), (812, .invokevirtual 114, 86, [(2, 1)], false), (815, .aload_n 2, 0, [], false), (816, .aload_n 0, 0, [], false), (817, .iload_n 3, 0, [], false), (818, .iconst 1, 0, [], false), (819, .iadd, 0, [], false), (820, .iaload, 0, [], false), (821, .invokevirtual 117, 172, [(2, 1)], false), (824, .if_icmp .eq 67, 575, [], false), (827, .iconst 0, 0, [], false), (828, .ireturn, 1, [], false), (829, .aload_n 1, 0, [], false), (830, .aload_n 0, 0, [], false), (831, .iload_n 3, 0, [], false), (832, .iconst 1, 0, [], false), (833, .iadd, 0, [], false), (834, .iaload, 0, [], false), (835, .invokevirtual 118, 87, [(2, 1)], false), (838, .aload_n 2, 0, [], false), (839, .aload_n 0, 0, [], false), (840, .iload_n 3, 0, [], false), (841, .iconst 1, 0, [], false), (842, .iadd, 0, [], false), (843, .iaload, 0, [], false), (844, .invokevirtual 121, 173, [(2, 1)], false), (847, .if_icmp .eq 44, 575, [], false), (850, .iconst 0, 0, [], false), (851, .ireturn, 1, [], false), (852, .aload_n 1, 0, [], false), (853, .invokevirtual 122, 88, [(1, 1)], false), (856, .aload_n 2, 0, [], false), (857, .invokevirtual 125, 153, [(1, 1)], false), (860, .if_icmp .eq 31, 575, [], false), (863, .iconst 0, 0, [], false), (864, .ireturn, 1, [], false), (865, .aload_n 1, 0, [], false), (866, .invokevirtual 126, 89, [(1, 1)], false), (869, .aload_n 2, 0, [], false), (870, .invokevirtual 129, 154, [(1, 1)], false), (873, .if_icmp .eq 18, 575, [], false), (876, .iconst 0, 0, [], false), (877, .ireturn, 1, [], false), (878, .aload_n 1, 0, [], false), (879, .invokevirtual 130, 90, [(1, 1)], false), (882, .aload_n 2, 0, [], false), (883, .invokevirtual 133, 100, [(1, 1)], false), (886, .if_icmp .eq 5, 575, [], false), (889, .iconst 0, 0, [], false), (890, .ireturn, 1, [], false), (891, .iinc 3 5, 0, [], true), (894, .goto (-876), 10, [], false), (897, .iconst 1, 0, [], false), (898, .ireturn, 1, [], false)]
def zcd : Nat → List mzN
  | 0 => zc0
  | 1 => zc1
  | 2 => zc2
  | 3 => zc3
  | 4 => zc4
  | 5 => zc5
  | 6 => zc6
  | 7 => zc7
  | 8 => zc8
  | 9 => zc9
  | 10 => zc10
  | 11 => zc11
  | 12 => zc12
  | 13 => zc13
  | 14 => zc14
  | 15 => zc15
  | 16 => zc16
  | 17 => zc17
  | 18 => zc18
  | 19 => zc19
  | 20 => zc20
  | 21 => zc21
  | 22 => zc22
  | 23 => zc23
  | 24 => zc24
  | 25 => zc25
  | 26 => zc26
  | 27 => zc27
  | 28 => zc28
  | 29 => zc29
  | 30 => zc30
  | 31 => zc31
  | 32 => zc32
  | 33 => zc33
  | 34 => zc34
  | 35 => zc35
  | 36 => zc36
  | 37 => zc37
  | 38 => zc38
  | 39 => zc39
  | 40 => zc40
  | 41 => zc41
  | 42 => zc42
  | 43 => zc43
  | 44 => zc44
  | 45 => zc45
  | 46 => zc46
  | 47 => zc47
  | 48 => zc48
  | 49 => zc49
  | 50 => zc50
  | 51 => zc51
  | 52 => zc52
  | 53 => zc53
  | 54 => zc54
  | 55 => zc55
  | 56 => zc56
  | 57 => zc57
  | 58 => zc58
  | 59 => zc59
  | 60 => zc60
  | 61 => zc61
  | 62 => zc62
  | 63 => zc63
  | 64 => zc64
  | 65 => zc65
  | 66 => zc66
  | 67 => zc67
  | 68 => zc68
  | 69 => zc69
  | 70 => zc70
  | 71 => zc71
  | 72 => zc72
  | 73 => zc73
  | 74 => zc74
  | 75 => zc75
  | 76 => zc76
  | 77 => zc77
  | 78 => zc78
  | 79 => zc79
  | 80 => zc80
  | 81 => zc81
  | 82 => zc82
  | 83 => zc83
  | 84 => zc84
  | 85 => zc85
  | 86 => zc86
  | 87 => zc87
  | 88 => zc88
  | 89 => zc89
  | 90 => zc90
  | 91 => zc91
  | 92 => zc92
  | 93 => zc93
  | 94 => zc94
  | 95 => zc95
  | 96 => zc96
  | 97 => zc97
  | 98 => zc98
  | 99 => zc99
  | 100 => zc100
  | 101 => zc101
  | 102 => zc102
  | 103 => zc103
  | 104 => zc104
  | 105 => zc105
  | 106 => zc106
  | 107 => zc107
  | 108 => zc108
  | 109 => zc109
  | 110 => zc110
  | 111 => zc111
  | 112 => zc112
  | 113 => zc113
  | 114 => zc114
  | 115 => zc115
  | 116 => zc116
  | 117 => zc117
  | 118 => zc118
  | 119 => zc119
  | 120 => zc120
  | 121 => zc121
  | 122 => zc122
  | 123 => zc123
  | 124 => zc124
  | 125 => zc125
  | 126 => zc126
  | 127 => zc127
  | 128 => zc128
  | 129 => zc129
  | 130 => zc130
  | 131 => zc131
  | 132 => zc132
  | 133 => zc133
  | 134 => zc134
  | 135 => zc135
  | 136 => zc136
  | 137 => zc137
  | 138 => zc138
  | 139 => zc139
  | 140 => zc140
  | 141 => zc141
  | 142 => zc142
  | 143 => zc143
  | 144 => zc144
  | 145 => zc145
  | 146 => zc146
  | 147 => zc147
  | 148 => zc148
  | 149 => zc149
  | 150 => zc150
  | 151 => zc151
  | 152 => zc152
  | 153 => zc153
  | 154 => zc154
  | 155 => zc155
  | 156 => zc156
  | 157 => zc157
  | 158 => zc158
  | 159 => zc159
  | 160 => zc160
  | 161 => zc161
  | 162 => zc162
  | 163 => zc163
  | 164 => zc164
  | 165 => zc165
  | 166 => zc166
  | 167 => zc167
  | 168 => zc168
  | 169 => zc169
  | 170 => zc170
  | 171 => zc171
  | 172 => zc172
  | 173 => zc173
  | 174 => zc174
  | 175 => zc175
  | 176 => zc176
  | 177 => zc177
  | 178 => zc178
  | 179 => zc179
  | 180 => zc180
  | 181 => zc181
  | 182 => zc182
  | 183 => zc183
  | 184 => zc184
  | 185 => zc185
  | 186 => zc186
  | _ => []
def zml : Nat → Nat
  | 0 => 6
  | 1 => 3
  | 2 => 7
  | 3 => 10
  | 4 => 2
  | 5 => 4
  | 6 => 7
  | 7 => 4
  | 8 => 4
  | 9 => 2
  | 10 => 2
  | 11 => 2
  | 12 => 3
  | 13 => 4
  | 14 => 1
  | 15 => 2
  | 16 => 2
  | 17 => 2
  | 18 => 3
  | 19 => 5
  | 20 => 9
  | 21 => 4
  | 22 => 8
  | 23 => 6
  | 24 => 4
  | 25 => 8
  | 26 => 6
  | 27 => 10
  | 28 => 2
  | 29 => 10
  | 30 => 4
  | 31 => 2
  | 32 => 2
  | 33 => 2
  | 34 => 1
  | 35 => 1
  | 36 => 3
  | 37 => 5
  | 38 => 2
  | 39 => 2
  | 40 => 2
  | 41 => 1
  | 42 => 1
  | 43 => 2
  | 44 => 3
  | 45 => 3
  | 46 => 3
  | 47 => 6
  | 48 => 2
  | 49 => 8
  | 50 => 3
  | 51 => 2
  | 52 => 2
  | 53 => 2
  | 54 => 2
  | 55 => 4
  | 56 => 2
  | 57 => 5
  | 58 => 5
  | 59 => 5
  | 60 => 3
  | 61 => 3
  | 62 => 3
  | 63 => 4
  | 64 => 2
  | 65 => 2
  | 66 => 2
  | 67 => 3
  | 68 => 4
  | 69 => 1
  | 70 => 2
  | 71 => 1
  | 72 => 1
  | 73 => 2
  | 74 => 5
  | 75 => 4
  | 76 => 4
  | 77 => 6
  | 78 => 9
  | 79 => 3
  | 80 => 2
  | 81 => 2
  | 82 => 3
  | 83 => 8
  | 84 => 2
  | 85 => 3
  | 86 => 4
  | 87 => 7
  | 88 => 1
  | 89 => 1
  | 90 => 1
  | 91 => 1
  | 92 => 1
  | 93 => 2
  | 94 => 3
  | 95 => 2
  | 96 => 7
  | 97 => 7
  | 98 => 3
  | 99 => 2
  | 100 => 2
  | 101 => 1
  | 102 => 1
  | 103 => 2
  | 104 => 3
  | 105 => 2
  | 106 => 4
  | 107 => 4
  | 108 => 3
  | 109 => 4
  | 110 => 2
  | 111 => 4
  | 112 => 2
  | 113 => 2
  | 114 => 2
  | 115 => 1
  | 116 => 2
  | 117 => 2
  | 118 => 5
  | 119 => 3
  | 120 => 2
  | 121 => 9
  | 122 => 6
  | 123 => 11
  | 124 => 3
  | 125 => 2
  | 126 => 2
  | 127 => 2
  | 128 => 6
  | 129 => 4
  | 130 => 2
  | 131 => 2
  | 132 => 6
  | 133 => 6
  | 134 => 10
  | 135 => 1
  | 136 => 10
  | 137 => 6
  | 138 => 5
  | 139 => 3
  | 140 => 4
  | 141 => 5
  | 142 => 4
  | 143 => 4
  | 144 => 5
  | 145 => 1
  | 146 => 2
  | 147 => 8
  | 148 => 1
  | 149 => 8
  | 150 => 3
  | 151 => 5
  | 152 => 5
  | 153 => 1
  | 154 => 1
  | 155 => 5
  | 156 => 3
  | 157 => 5
  | 158 => 3
  | 159 => 2
  | 160 => 5
  | 161 => 11
  | 162 => 3
  | 163 => 4
  | 164 => 2
  | 165 => 5
  | 166 => 3
  | 167 => 9
  | 168 => 5
  | 169 => 8
  | 170 => 3
  | 171 => 4
  | 172 => 4
  | 173 => 5
  | 174 => 1
  | 175 => 3
  | 176 => 1
  | 177 => 2
  | 178 => 2
  | 179 => 1
  | 180 => 2
  | 181 => 1
  | 182 => 1
  | 183 => 2
  | 184 => 2
  | 185 => 3
  | 186 => 4
  | _ => 0
abbrev ZW (m k : Nat) (ls st : List mzV) (μ : mzM) (Q : Option mzV → mzM → Prop) : Prop := mW zcd zml m k ls st μ Q
abbrev ZI (f : Nat) (as : List mzV) (μ : mzM) (K : Int → mzM → Prop) : Prop := mCI zcd zml f as μ K
abbrev ZV (f : Nat) (as : List mzV) (μ : mzM) (K : mzM → Prop) : Prop := mCV zcd zml f as μ K
abbrev ZR (f t : Nat) (as : List mzV) (μ : mzM) (K : Int → mzM → Prop) : Prop := mCR zcd zml f t as μ K
end
section
theorem vc_X0_encode_0 {μ : mzM} {Q : Option mzV → mzM → Prop} {o0 o1 o2 x3 : Int} (h :
    (if x3 = (-1) then
    ZW f_X0_encode 20 [vR 11 o0, vR 2 o1, vR 1 o2, vI x3, vR 99 0, vI 0] [] (mup (mup (mup μ 2 o1 2 x3) 2 o1 4 0) 2 o1 3 2) Q
    else
    ZR f_X6_imageOf 3 [vR 1 o2, vI x3] μ (fun r2 ν1 =>
      ZW f_X0_encode 20 [vR 11 o0, vR 2 o1, vR 1 o2, vI x3, vR 3 r2, vI 0] [] (mup (mup (mup ν1 2 o1 2 x3) 2 o1 4 0) 2 o1 3 2) Q))) :
    ZW f_X0_encode 0 [vR 11 o0, vR 2 o1, vR 1 o2, vI x3, none, none] [] μ Q := mvc_at zcd zml (C := zc0) rfl 52 0 h
theorem vc_X0_encode_20 {μ : mzM} {Q : Option mzV → mzM → Prop} {o0 o1 o2 x3 x5 : Int} (h :
    ZI f_X2_blocks [vR 3 o1] μ (fun r2 ν1 =>
    (if x5 < r2 then
    ZI f_X0_encodeRaw [vR 11 o0, vR 2 o1, vI x5] ν1 (fun r4 ν3 =>
      (zin ((ν1 2 o1 3) + r4) ∧ (zin (x5 + 1) ∧ ZW f_X0_encode 20 [vR 11 o0, vR 2 o1, vR 1 o2, vI x3, vR 99 0, vI (x5 + 1)] [] (mup ν3 2 o1 3 ((ν1 2 o1 3) + r4)) Q)))
    else
    Q none ν1))) :
    ZW f_X0_encode 20 [vR 11 o0, vR 2 o1, vR 1 o2, vI x3, vR 99 0, vI x5] [] μ Q := mvc_at zcd zml (C := zc0) rfl 52 20 h
theorem vc_X0_encode_20b {μ : mzM} {Q : Option mzV → mzM → Prop} {o0 o1 o2 o4 x3 x5 : Int} (h :
    ZI f_X2_blocks [vR 3 o1] μ (fun r2 ν1 =>
    (if x5 < r2 then
    ZI f_X0_encodeWith [vR 11 o0, vR 2 o1, vI x5, vR 3 o4, vI (ν1 1 o2 4)] ν1 (fun r4 ν3 =>
      (zin ((ν1 2 o1 3) + r4) ∧ (zin (x5 + 1) ∧ ZW f_X0_encode 20 [vR 11 o0, vR 2 o1, vR 1 o2, vI x3, vR 3 o4, vI (x5 + 1)] [] (mup ν3 2 o1 3 ((ν1 2 o1 3) + r4)) Q)))
    else
    Q none ν1))) :
    ZW f_X0_encode 20 [vR 11 o0, vR 2 o1, vR 1 o2, vI x3, vR 3 o4, vI x5] [] μ Q := mvc_at zcd zml (C := zc0) rfl 52 20 h
theorem vc_X0_encodeRaw_0 {μ : mzM} {Q : Option mzV → mzM → Prop} {o0 o1 x2 : Int} (h :
    ZV f_X4_read [vR 12 0, vR 3 o1, vR 99 0, vI x2] μ (fun ν1 =>
    ZV f_X1_setCode [vR 2 o1, vI x2, vI 3, vI 0, vI 0, vI (ν1 12 0 2)] ν1 (fun ν2 =>
    (zin (2 * (ν2 12 0 2)) ∧ (zin (2 + (2 * (ν2 12 0 2))) ∧ Q (some (vI (2 + (2 * (ν2 12 0 2))))) ν2))))) :
    ZW f_X0_encodeRaw 0 [vR 11 o0, vR 2 o1, vI x2] [] μ Q := mvc_at zcd zml (C := zc1) rfl 29 0 h
theorem vc_X0_encodeWith_0 {μ : mzM} {Q : Option mzV → mzM → Prop} {o0 o1 o3 x2 x4 : Int} (h :
    ZI f_X2_left [vR 3 o1, vI x2] μ (fun r2 ν1 =>
    ZI f_X2_top [vR 3 o1, vI x2] ν1 (fun r4 ν3 =>
    ZI f_X2_samePart [vR 3 o1, vI r2, vI r4, vR 3 o3, vI r2, vI r4] ν3 (fun r6 ν5 =>
    (if r6 = 0 then
    ZI f_X0_findMove [vR 11 o0, vR 3 o1, vI r2, vI r4, vR 3 o3, vI x4] ν5 (fun r8 ν7 =>
      (if r8 = 0 then
      ZV f_X4_read [vR 12 0, vR 3 o1, vR 99 0, vI x2] ν7 (fun ν9 =>
        ZV f_X4_read [vR 12 1, vR 3 o1, vR 3 o3, vI x2] ν9 (fun ν10 =>
        (if (ν10 12 0 2) < (ν10 12 1 2) then
        ZV f_X1_setCode [vR 2 o1, vI x2, vI 3, vI 0, vI 0, vI (ν10 12 0 2)] ν10 (fun ν11 =>
          (zin (2 * (ν11 12 0 2)) ∧ (zin (2 + (2 * (ν11 12 0 2))) ∧ Q (some (vI (2 + (2 * (ν11 12 0 2))))) ν11)))
        else
        ZV f_X1_setCode [vR 2 o1, vI x2, vI 2, vI 0, vI 0, vI (ν10 12 1 2)] ν10 (fun ν12 =>
          (zin (2 * (ν12 12 1 2)) ∧ (zin (2 + (2 * (ν12 12 1 2))) ∧ Q (some (vI (2 + (2 * (ν12 12 1 2))))) ν12))))))
      else
      ZV f_X1_setCode [vR 2 o1, vI x2, vI 1, vI (ν7 11 o0 2), vI (ν7 11 o0 3), vI 0] ν7 (fun ν13 =>
        Q (some (vI 3)) ν13)))
    else
    ZV f_X1_setCode [vR 2 o1, vI x2, vI 0, vI 0, vI 0, vI 0] ν5 (fun ν14 =>
      Q (some (vI 1)) ν14)))))) :
    ZW f_X0_encodeWith 0 [vR 11 o0, vR 2 o1, vI x2, vR 3 o3, vI x4, none, none] [] μ Q := mvc_at zcd zml (C := zc2) rfl 108 0 h
theorem vc_X0_findMove_0 {μ : mzM} {Q : Option mzV → mzM → Prop} {o0 o1 o4 x2 x3 x5 : Int} (h :
    ZW f_X0_findMove 2 [vR 11 o0, vR 3 o1, vI x2, vI x3, vR 3 o4, vI x5, vI 1, none, none, none] [] μ Q) :
    ZW f_X0_findMove 0 [vR 11 o0, vR 3 o1, vI x2, vI x3, vR 3 o4, vI x5, none, none, none, none] [] μ Q := mvc_at zcd zml (C := zc3) rfl 79 0 h
theorem vc_X0_findMove_2 {μ : mzM} {Q : Option mzV → mzM → Prop} {o0 o1 o4 x2 x3 x5 x6 : Int} {v7 v8 v9 : mzV} (h :
    (zin (2 * x5) ∧ (if (2 * x5) < x6 then
    Q (some (vI 0)) μ
    else
    ZW f_X0_findMove 10 [vR 11 o0, vR 3 o1, vI x2, vI x3, vR 3 o4, vI x5, vI x6, vI (zw (-x5)), v8, v9] [] μ Q))) :
    ZW f_X0_findMove 2 [vR 11 o0, vR 3 o1, vI x2, vI x3, vR 3 o4, vI x5, vI x6, v7, v8, v9] [] μ Q := mvc_at zcd zml (C := zc3) rfl 79 2 h
theorem vc_X0_findMove_10 {μ : mzM} {Q : Option mzV → mzM → Prop} {o0 o1 o4 x2 x3 x5 x6 x7 : Int} {v8 v9 : mzV} (h :
    (if x5 < x7 then
    (zin (x6 + 1) ∧ ZW f_X0_findMove 2 [vR 11 o0, vR 3 o1, vI x2, vI x3, vR 3 o4, vI x5, vI (x6 + 1), vI x7, v8, v9] [] μ Q)
    else
    ZI f_J9_abs_0f7a4 [vI x7] μ (fun r2 ν1 =>
      (zin (x6 - r2) ∧ (if (x6 - r2) < 0 then
      (zin (x7 + 1) ∧ ZW f_X0_findMove 10 [vR 11 o0, vR 3 o1, vI x2, vI x3, vR 3 o4, vI x5, vI x6, vI (x7 + 1), vI (x6 - r2), v9] [] ν1 Q)
      else
      (if x5 < (x6 - r2) then
        (zin (x7 + 1) ∧ ZW f_X0_findMove 10 [vR 11 o0, vR 3 o1, vI x2, vI x3, vR 3 o4, vI x5, vI x6, vI (x7 + 1), vI (x6 - r2), v9] [] ν1 Q)
        else
        ZW f_X0_findMove 27 [vR 11 o0, vR 3 o1, vI x2, vI x3, vR 3 o4, vI x5, vI x6, vI x7, vI (x6 - r2), vI (zw (-(x6 - r2)))] [] ν1 Q)))))) :
    ZW f_X0_findMove 10 [vR 11 o0, vR 3 o1, vI x2, vI x3, vR 3 o4, vI x5, vI x6, vI x7, v8, v9] [] μ Q := mvc_at zcd zml (C := zc3) rfl 79 10 h
theorem vc_X0_findMove_27 {μ : mzM} {Q : Option mzV → mzM → Prop} {o0 o1 o4 x2 x3 x5 x6 x7 x8 x9 : Int} (h :
    (if x8 < x9 then
    (zin (x7 + 1) ∧ ZW f_X0_findMove 10 [vR 11 o0, vR 3 o1, vI x2, vI x3, vR 3 o4, vI x5, vI x6, vI (x7 + 1), vI x8, vI x9] [] μ Q)
    else
    (zin (x2 + x9) ∧ (zin (x3 + x7) ∧ ZI f_X2_hasPart [vR 3 o4, vI (x2 + x9), vI (x3 + x7)] μ (fun r2 ν1 =>
      (if r2 = 0 then
      (zin (2 * x8) ∧ ZI f_J9_max_7cf53 [vI 1, vI (2 * x8)] ν1 (fun r4 ν3 =>
        (zin (x9 + r4) ∧ ZW f_X0_findMove 27 [vR 11 o0, vR 3 o1, vI x2, vI x3, vR 3 o4, vI x5, vI x6, vI x7, vI x8, vI (x9 + r4)] [] ν3 Q)))
      else
      (zin (x2 + x9) ∧ (zin (x3 + x7) ∧ ZI f_X2_samePart [vR 3 o1, vI x2, vI x3, vR 3 o4, vI (x2 + x9), vI (x3 + x7)] ν1 (fun r6 ν5 =>
        (if r6 = 0 then
        (zin (2 * x8) ∧ ZI f_J9_max_7cf53 [vI 1, vI (2 * x8)] ν5 (fun r8 ν7 =>
          (zin (x9 + r8) ∧ ZW f_X0_findMove 27 [vR 11 o0, vR 3 o1, vI x2, vI x3, vR 3 o4, vI x5, vI x6, vI x7, vI x8, vI (x9 + r8)] [] ν7 Q)))
        else
        Q (some (vI 1)) (mup (mup ν5 11 o0 2 x9) 11 o0 3 x7))))))))))) :
    ZW f_X0_findMove 27 [vR 11 o0, vR 3 o1, vI x2, vI x3, vR 3 o4, vI x5, vI x6, vI x7, vI x8, vI x9] [] μ Q := mvc_at zcd zml (C := zc3) rfl 79 27 h
theorem vc_X1_take_0 {μ : mzM} {Q : Option mzV → mzM → Prop} {o0 o1 : Int} (h :
    ZV f_X2_take [vR 3 o0, vR 3 o1] μ (fun ν1 =>
    (((0 ≤ (36 : Int) ∧ 0 ≤ (0 : Int) ∧ 0 ≤ (0 : Int)) ∧ ((0 : Int) + 36 ≤ 36 ∧ (0 : Int) + 36 ≤ 36)) ∧ Q none (mup (mup (mup (mcp ν1 5 o1 0 5 o0 0 36) 2 o0 2 ((mcp ν1 5 o1 0 5 o0 0 36) 2 o1 2)) 2 o0 3 ((mup (mcp ν1 5 o1 0 5 o0 0 36) 2 o0 2 ((mcp ν1 5 o1 0 5 o0 0 36) 2 o1 2)) 2 o1 3)) 2 o0 4 (((mup (mup (mcp ν1 5 o1 0 5 o0 0 36) 2 o0 2 ((mcp ν1 5 o1 0 5 o0 0 36) 2 o1 2)) 2 o0 3 ((mup (mcp ν1 5 o1 0 5 o0 0 36) 2 o0 2 ((mcp ν1 5 o1 0 5 o0 0 36) 2 o1 2)) 2 o1 3)) 2 o1 4) % 2))))) :
    ZW f_X1_take 0 [vR 2 o0, vR 2 o1] [] μ Q := mvc_at zcd zml (C := zc4) rfl 31 0 h
theorem vc_X1_codePart_0 {μ : mzM} {Q : Option mzV → mzM → Prop} {o0 x1 x2 : Int} (h :
    (zin (x1 * 4) ∧ (zin ((x1 * 4) + x2) ∧ (if ((x1 * 4) + x2) < 0 then
    Q (some (vI 0)) μ
    else
    (if ((x1 * 4) + x2) < 36 then
      ((0 ≤ ((x1 * 4) + x2) ∧ ((x1 * 4) + x2) < 36) ∧ Q (some (vI (μ 5 o0 ((x1 * 4) + x2)))) μ)
      else
      Q (some (vI 0)) μ))))) :
    ZW f_X1_codePart 0 [vR 2 o0, vI x1, vI x2, none] [] μ Q := mvc_at zcd zml (C := zc5) rfl 25 0 h
theorem vc_X1_setCode_0 {μ : mzM} {Q : Option mzV → mzM → Prop} {o0 x1 x2 x3 x4 x5 : Int} (h :
    (zin (x1 * 4) ∧ (if (x1 * 4) < 0 then
    Q none μ
    else
    (zin ((x1 * 4) + 3) ∧ (if ((x1 * 4) + 3) < 36 then
      (zin ((x1 * 4) + 0) ∧ ((0 ≤ ((x1 * 4) + 0) ∧ ((x1 * 4) + 0) < 36) ∧ (zin ((x1 * 4) + 1) ∧ ((0 ≤ ((x1 * 4) + 1) ∧ ((x1 * 4) + 1) < 36) ∧ (zin ((x1 * 4) + 2) ∧ ((0 ≤ ((x1 * 4) + 2) ∧ ((x1 * 4) + 2) < 36) ∧ (zin ((x1 * 4) + 3) ∧ ((0 ≤ ((x1 * 4) + 3) ∧ ((x1 * 4) + 3) < 36) ∧ Q none (mup (mup (mup (mup μ 5 o0 ((x1 * 4) + 0) x2) 5 o0 ((x1 * 4) + 1) x3) 5 o0 ((x1 * 4) + 2) x4) 5 o0 ((x1 * 4) + 3) x5)))))))))
      else
      Q none μ))))) :
    ZW f_X1_setCode 0 [vR 2 o0, vI x1, vI x2, vI x3, vI x4, vI x5, none] [] μ Q := mvc_at zcd zml (C := zc6) rfl 47 0 h
theorem vc_X1_codesOfKind_0 {μ : mzM} {Q : Option mzV → mzM → Prop} {o0 x1 : Int} (h :
    ZW f_X1_codesOfKind 4 [vR 2 o0, vI x1, vI 0, vI 0] [] μ Q) :
    ZW f_X1_codesOfKind 0 [vR 2 o0, vI x1, none, none] [] μ Q := mvc_at zcd zml (C := zc7) rfl 25 0 h
theorem vc_X1_codesOfKind_4 {μ : mzM} {Q : Option mzV → mzM → Prop} {o0 x1 x2 x3 : Int} (h :
    ZI f_X2_blocks [vR 3 o0] μ (fun r2 ν1 =>
    (if x3 < r2 then
    ZI f_X1_codePart [vR 2 o0, vI x3, vI 0] ν1 (fun r4 ν3 =>
      (if r4 = x1 then
      (zin (x2 + 1) ∧ (zin (x3 + 1) ∧ ZW f_X1_codesOfKind 4 [vR 2 o0, vI x1, vI (x2 + 1), vI (x3 + 1)] [] ν3 Q))
      else
      (zin (x3 + 1) ∧ ZW f_X1_codesOfKind 4 [vR 2 o0, vI x1, vI x2, vI (x3 + 1)] [] ν3 Q)))
    else
    Q (some (vI x2)) ν1))) :
    ZW f_X1_codesOfKind 4 [vR 2 o0, vI x1, vI x2, vI x3] [] μ Q := mvc_at zcd zml (C := zc7) rfl 25 4 h
theorem vc_X2_reset_0 {μ : mzM} {Q : Option mzV → mzM → Prop} {o0 x1 x2 : Int} (h :
    ZW f_X2_reset 8 [vR 3 o0, vI x1, vI x2, vI 0] [] (mup (mup μ 3 o0 1 x1) 3 o0 2 x2) Q) :
    ZW f_X2_reset 0 [vR 3 o0, vI x1, vI x2, none] [] μ Q := mvc_at zcd zml (C := zc8) rfl 26 0 h
theorem vc_X2_reset_8 {μ : mzM} {Q : Option mzV → mzM → Prop} {o0 x1 x2 x3 : Int} (h :
    (if x3 < 144 then
    ((0 ≤ x3 ∧ x3 < 144) ∧ (zin (x3 + 1) ∧ ZW f_X2_reset 8 [vR 3 o0, vI x1, vI x2, vI (x3 + 1)] [] (mup μ 4 o0 x3 0) Q))
    else
    Q none μ)) :
    ZW f_X2_reset 8 [vR 3 o0, vI x1, vI x2, vI x3] [] μ Q := mvc_at zcd zml (C := zc8) rfl 26 8 h
theorem vc_X2_take_0 {μ : mzM} {Q : Option mzV → mzM → Prop} {o0 o1 : Int} (h :
    (((0 ≤ (144 : Int) ∧ 0 ≤ (0 : Int) ∧ 0 ≤ (0 : Int)) ∧ ((0 : Int) + 144 ≤ 144 ∧ (0 : Int) + 144 ≤ 144)) ∧ Q none (mcp (mup (mup μ 3 o0 1 (μ 3 o1 1)) 3 o0 2 ((mup μ 3 o0 1 (μ 3 o1 1)) 3 o1 2)) 4 o1 0 4 o0 0 144))) :
    ZW f_X2_take 0 [vR 3 o0, vR 3 o1] [] μ Q := mvc_at zcd zml (C := zc9) rfl 22 0 h
theorem vc_X2_hasCell_0 {μ : mzM} {Q : Option mzV → mzM → Prop} {o0 x1 : Int} (h :
    (if x1 < 0 then
    Q (some (vI 0)) μ
    else
    (zin ((μ 3 o0 1) * (μ 3 o0 2)) ∧ (if x1 < ((μ 3 o0 1) * (μ 3 o0 2)) then
      Q (some (vI 1)) μ
      else
      Q (some (vI 0)) μ)))) :
    ZW f_X2_hasCell 0 [vR 3 o0, vI x1] [] μ Q := mvc_at zcd zml (C := zc10) rfl 18 0 h
theorem vc_X2_numbered_0 {μ : mzM} {Q : Option mzV → mzM → Prop} {o0 x1 : Int} (h :
    (if x1 < 0 then
    Q (some (vI 0)) μ
    else
    (if x1 < 144 then
      ((0 ≤ x1 ∧ x1 < 144) ∧ Q (some (vI (μ 4 o0 x1))) μ)
      else
      Q (some (vI 0)) μ))) :
    ZW f_X2_numbered 0 [vR 3 o0, vI x1] [] μ Q := mvc_at zcd zml (C := zc11) rfl 19 0 h
theorem vc_X2_putNumbered_0 {μ : mzM} {Q : Option mzV → mzM → Prop} {o0 x1 x2 : Int} (h :
    (if x1 < 0 then
    Q none μ
    else
    (if x1 < 144 then
      ((0 ≤ x1 ∧ x1 < 144) ∧ Q none (mup μ 4 o0 x1 x2))
      else
      Q none μ))) :
    ZW f_X2_putNumbered 0 [vR 3 o0, vI x1, vI x2] [] μ Q := mvc_at zcd zml (C := zc12) rfl 18 0 h
theorem vc_X2_at_0 {μ : mzM} {Q : Option mzV → mzM → Prop} {o0 x1 x2 : Int} (h :
    (if x1 < 0 then
    Q (some (vI 0)) μ
    else
    (if x1 < (μ 3 o0 1) then
      (if x2 < 0 then
        Q (some (vI 0)) μ
        else
        (if x2 < (μ 3 o0 2) then
          (zin (x2 * (μ 3 o0 1)) ∧ (zin ((x2 * (μ 3 o0 1)) + x1) ∧ (if ((x2 * (μ 3 o0 1)) + x1) < 144 then
            ((0 ≤ ((x2 * (μ 3 o0 1)) + x1) ∧ ((x2 * (μ 3 o0 1)) + x1) < 144) ∧ Q (some (vI (μ 4 o0 ((x2 * (μ 3 o0 1)) + x1)))) μ)
            else
            Q (some (vI 0)) μ)))
          else
          Q (some (vI 0)) μ))
      else
      Q (some (vI 0)) μ))) :
    ZW f_X2_at 0 [vR 3 o0, vI x1, vI x2, none] [] μ Q := mvc_at zcd zml (C := zc13) rfl 38 0 h
theorem vc_X2_blocks_0 {μ : mzM} {Q : Option mzV → mzM → Prop} {o0 : Int} (h :
    (((4 : Int) ≠ 0 ∧ zin (Int.tdiv (μ 3 o0 1) 4)) ∧ (((4 : Int) ≠ 0 ∧ zin (Int.tdiv (μ 3 o0 2) 4)) ∧ (zin ((Int.tdiv (μ 3 o0 1) 4) * (Int.tdiv (μ 3 o0 2) 4)) ∧ Q (some (vI ((Int.tdiv (μ 3 o0 1) 4) * (Int.tdiv (μ 3 o0 2) 4)))) μ)))) :
    ZW f_X2_blocks 0 [vR 3 o0] [] μ Q := mvc_at zcd zml (C := zc14) rfl 15 0 h
theorem vc_X2_hasBlock_0 {μ : mzM} {Q : Option mzV → mzM → Prop} {o0 x1 : Int} (h :
    (if x1 < 0 then
    Q (some (vI 0)) μ
    else
    ZI f_X2_blocks [vR 3 o0] μ (fun r2 ν1 =>
      (if x1 < r2 then
      Q (some (vI 1)) ν1
      else
      Q (some (vI 0)) ν1)))) :
    ZW f_X2_hasBlock 0 [vR 3 o0, vI x1] [] μ Q := mvc_at zcd zml (C := zc15) rfl 15 0 h
theorem vc_X2_left_0 {μ : mzM} {Q : Option mzV → mzM → Prop} {o0 x1 : Int} (h :
    (((4 : Int) ≠ 0 ∧ zin (Int.tdiv (μ 3 o0 1) 4)) ∧ ZI f_J9_max_7cf53 [vI 1, vI (Int.tdiv (μ 3 o0 1) 4)] μ (fun r2 ν1 =>
    (r2 ≠ 0 ∧ (zin (4 * (Int.tmod x1 r2)) ∧ Q (some (vI (4 * (Int.tmod x1 r2)))) ν1))))) :
    ZW f_X2_left 0 [vR 3 o0, vI x1] [] μ Q := mvc_at zcd zml (C := zc16) rfl 16 0 h
theorem vc_X2_top_0 {μ : mzM} {Q : Option mzV → mzM → Prop} {o0 x1 : Int} (h :
    (((4 : Int) ≠ 0 ∧ zin (Int.tdiv (μ 3 o0 1) 4)) ∧ ZI f_J9_max_7cf53 [vI 1, vI (Int.tdiv (μ 3 o0 1) 4)] μ (fun r2 ν1 =>
    ((r2 ≠ 0 ∧ zin (Int.tdiv x1 r2)) ∧ (zin (4 * (Int.tdiv x1 r2)) ∧ Q (some (vI (4 * (Int.tdiv x1 r2)))) ν1))))) :
    ZW f_X2_top 0 [vR 3 o0, vI x1] [] μ Q := mvc_at zcd zml (C := zc17) rfl 16 0 h
theorem vc_X2_hasPart_0 {μ : mzM} {Q : Option mzV → mzM → Prop} {o0 x1 x2 : Int} (h :
    (if x1 < 0 then
    Q (some (vI 0)) μ
    else
    (zin ((μ 3 o0 1) - 4) ∧ (if ((μ 3 o0 1) - 4) < x1 then
      Q (some (vI 0)) μ
      else
      (if x2 < 0 then
        Q (some (vI 0)) μ
        else
        (zin ((μ 3 o0 2) - 4) ∧ (if ((μ 3 o0 2) - 4) < x2 then
          Q (some (vI 0)) μ
          else
          Q (some (vI 1)) μ))))))) :
    ZW f_X2_hasPart 0 [vR 3 o0, vI x1, vI x2] [] μ Q := mvc_at zcd zml (C := zc18) rfl 25 0 h
theorem vc_X2_partDigest_0 {μ : mzM} {Q : Option mzV → mzM → Prop} {o0 x1 x2 : Int} (h :
    ZW f_X2_partDigest 4 [vR 3 o0, vI x1, vI x2, vI 7, vI 0] [] μ Q) :
    ZW f_X2_partDigest 0 [vR 3 o0, vI x1, vI x2, none, none] [] μ Q := mvc_at zcd zml (C := zc19) rfl 35 0 h
theorem vc_X2_partDigest_4 {μ : mzM} {Q : Option mzV → mzM → Prop} {o0 x1 x2 x3 x4 : Int} (h :
    (if x4 < 16 then
    (zin (x3 * 31) ∧ ((4 : Int) ≠ 0 ∧ (zin (x1 + (Int.tmod x4 4)) ∧ (((4 : Int) ≠ 0 ∧ zin (Int.tdiv x4 4)) ∧ (zin (x2 + (Int.tdiv x4 4)) ∧ ZI f_X2_at [vR 3 o0, vI (x1 + (Int.tmod x4 4)), vI (x2 + (Int.tdiv x4 4))] μ (fun r2 ν1 =>
      (zin ((x3 * 31) + r2) ∧ ((9973 : Int) ≠ 0 ∧ (zin (x4 + 1) ∧ ZW f_X2_partDigest 4 [vR 3 o0, vI x1, vI x2, vI (Int.tmod ((x3 * 31) + r2) 9973), vI (x4 + 1)] [] ν1 Q)))))))))
    else
    Q (some (vI x3)) μ)) :
    ZW f_X2_partDigest 4 [vR 3 o0, vI x1, vI x2, vI x3, vI x4] [] μ Q := mvc_at zcd zml (C := zc19) rfl 35 4 h
theorem vc_X2_samePart_0 {μ : mzM} {Q : Option mzV → mzM → Prop} {o0 o3 x1 x2 x4 x5 : Int} (h :
    ZW f_X2_samePart 2 [vR 3 o0, vI x1, vI x2, vR 3 o3, vI x4, vI x5, vI 0, none, none] [] μ Q) :
    ZW f_X2_samePart 0 [vR 3 o0, vI x1, vI x2, vR 3 o3, vI x4, vI x5, none, none, none] [] μ Q := mvc_at zcd zml (C := zc20) rfl 71 0 h
theorem vc_X2_samePart_2 {μ : mzM} {Q : Option mzV → mzM → Prop} {o0 o3 x1 x2 x4 x5 x6 : Int} {v7 v8 : mzV} (h :
    (if x6 < 16 then
    (((4 : Int) ≠ 0 ∧ zin (Int.tdiv x6 4)) ∧ (zin (x2 + (Int.tdiv x6 4)) ∧ (zin ((x2 + (Int.tdiv x6 4)) * (μ 3 o0 1)) ∧ (zin (((x2 + (Int.tdiv x6 4)) * (μ 3 o0 1)) + x1) ∧ ((4 : Int) ≠ 0 ∧ (zin ((((x2 + (Int.tdiv x6 4)) * (μ 3 o0 1)) + x1) + (Int.tmod x6 4)) ∧ (((4 : Int) ≠ 0 ∧ zin (Int.tdiv x6 4)) ∧ (zin (x5 + (Int.tdiv x6 4)) ∧ (zin ((x5 + (Int.tdiv x6 4)) * (μ 3 o3 1)) ∧ (zin (((x5 + (Int.tdiv x6 4)) * (μ 3 o3 1)) + x4) ∧ ((4 : Int) ≠ 0 ∧ (zin ((((x5 + (Int.tdiv x6 4)) * (μ 3 o3 1)) + x4) + (Int.tmod x6 4)) ∧ (if ((((x2 + (Int.tdiv x6 4)) * (μ 3 o0 1)) + x1) + (Int.tmod x6 4)) < 0 then
      Q (some (vI 0)) μ
      else
      (if ((((x2 + (Int.tdiv x6 4)) * (μ 3 o0 1)) + x1) + (Int.tmod x6 4)) < 144 then
        (if ((((x5 + (Int.tdiv x6 4)) * (μ 3 o3 1)) + x4) + (Int.tmod x6 4)) < 0 then
          Q (some (vI 0)) μ
          else
          (if ((((x5 + (Int.tdiv x6 4)) * (μ 3 o3 1)) + x4) + (Int.tmod x6 4)) < 144 then
            ((0 ≤ ((((x2 + (Int.tdiv x6 4)) * (μ 3 o0 1)) + x1) + (Int.tmod x6 4)) ∧ ((((x2 + (Int.tdiv x6 4)) * (μ 3 o0 1)) + x1) + (Int.tmod x6 4)) < 144) ∧ ((0 ≤ ((((x5 + (Int.tdiv x6 4)) * (μ 3 o3 1)) + x4) + (Int.tmod x6 4)) ∧ ((((x5 + (Int.tdiv x6 4)) * (μ 3 o3 1)) + x4) + (Int.tmod x6 4)) < 144) ∧ (if (μ 4 o0 ((((x2 + (Int.tdiv x6 4)) * (μ 3 o0 1)) + x1) + (Int.tmod x6 4))) = (μ 4 o3 ((((x5 + (Int.tdiv x6 4)) * (μ 3 o3 1)) + x4) + (Int.tmod x6 4))) then
              (zin (x6 + 1) ∧ ZW f_X2_samePart 2 [vR 3 o0, vI x1, vI x2, vR 3 o3, vI x4, vI x5, vI (x6 + 1), vI ((((x2 + (Int.tdiv x6 4)) * (μ 3 o0 1)) + x1) + (Int.tmod x6 4)), vI ((((x5 + (Int.tdiv x6 4)) * (μ 3 o3 1)) + x4) + (Int.tmod x6 4))] [] μ Q)
              else
              Q (some (vI 0)) μ)))
            else
            Q (some (vI 0)) μ))
        else
        Q (some (vI 0)) μ))))))))))))))
    else
    Q (some (vI 1)) μ)) :
    ZW f_X2_samePart 2 [vR 3 o0, vI x1, vI x2, vR 3 o3, vI x4, vI x5, vI x6, v7, v8] [] μ Q := mvc_at zcd zml (C := zc20) rfl 71 2 h
theorem vc_X2_cellsUnlike_0 {μ : mzM} {Q : Option mzV → mzM → Prop} {o0 o1 : Int} (h :
    ZW f_X2_cellsUnlike 4 [vR 3 o0, vR 3 o1, vI 0, vI 0] [] μ Q) :
    ZW f_X2_cellsUnlike 0 [vR 3 o0, vR 3 o1, none, none] [] μ Q := mvc_at zcd zml (C := zc21) rfl 28 0 h
theorem vc_X2_cellsUnlike_4 {μ : mzM} {Q : Option mzV → mzM → Prop} {o0 o1 x2 x3 : Int} (h :
    (zin ((μ 3 o0 1) * (μ 3 o0 2)) ∧ (if x3 < ((μ 3 o0 1) * (μ 3 o0 2)) then
    ZI f_X2_numbered [vR 3 o0, vI x3] μ (fun r2 ν1 =>
      ZI f_X2_numbered [vR 3 o1, vI x3] ν1 (fun r4 ν3 =>
      (if r2 = r4 then
      (zin (x3 + 1) ∧ ZW f_X2_cellsUnlike 4 [vR 3 o0, vR 3 o1, vI x2, vI (x3 + 1)] [] ν3 Q)
      else
      (zin (x2 + 1) ∧ (zin (x3 + 1) ∧ ZW f_X2_cellsUnlike 4 [vR 3 o0, vR 3 o1, vI (x2 + 1), vI (x3 + 1)] [] ν3 Q)))))
    else
    Q (some (vI x2)) μ))) :
    ZW f_X2_cellsUnlike 4 [vR 3 o0, vR 3 o1, vI x2, vI x3] [] μ Q := mvc_at zcd zml (C := zc21) rfl 28 4 h
theorem vc_X2_fillBox_0 {μ : mzM} {Q : Option mzV → mzM → Prop} {o0 x1 x2 x3 x4 x5 : Int} (h :
    ZW f_X2_fillBox 2 [vR 3 o0, vI x1, vI x2, vI x3, vI x4, vI x5, vI x2, none] [] μ Q) :
    ZW f_X2_fillBox 0 [vR 3 o0, vI x1, vI x2, vI x3, vI x4, vI x5, none, none] [] μ Q := mvc_at zcd zml (C := zc22) rfl 39 0 h
theorem vc_X2_fillBox_2 {μ : mzM} {Q : Option mzV → mzM → Prop} {o0 x1 x2 x3 x4 x5 x6 : Int} {v7 : mzV} (h :
    (zin (x2 + x4) ∧ ZI f_J9_min_7cf53 [vI (μ 3 o0 2), vI (x2 + x4)] μ (fun r2 ν1 =>
    (if x6 < r2 then
    ZW f_X2_fillBox 12 [vR 3 o0, vI x1, vI x2, vI x3, vI x4, vI x5, vI x6, vI x1] [] ν1 Q
    else
    Q none ν1)))) :
    ZW f_X2_fillBox 2 [vR 3 o0, vI x1, vI x2, vI x3, vI x4, vI x5, vI x6, v7] [] μ Q := mvc_at zcd zml (C := zc22) rfl 39 2 h
theorem vc_X2_fillBox_12 {μ : mzM} {Q : Option mzV → mzM → Prop} {o0 x1 x2 x3 x4 x5 x6 x7 : Int} (h :
    (zin (x1 + x3) ∧ ZI f_J9_min_7cf53 [vI (μ 3 o0 1), vI (x1 + x3)] μ (fun r2 ν1 =>
    (if x7 < r2 then
    (zin (x6 * (ν1 3 o0 1)) ∧ (zin ((x6 * (ν1 3 o0 1)) + x7) ∧ ZV f_X2_putNumbered [vR 3 o0, vI ((x6 * (ν1 3 o0 1)) + x7), vI x5] ν1 (fun ν3 =>
      (zin (x7 + 1) ∧ ZW f_X2_fillBox 12 [vR 3 o0, vI x1, vI x2, vI x3, vI x4, vI x5, vI x6, vI (x7 + 1)] [] ν3 Q))))
    else
    (zin (x6 + 1) ∧ ZW f_X2_fillBox 2 [vR 3 o0, vI x1, vI x2, vI x3, vI x4, vI x5, vI (x6 + 1), vI x7] [] ν1 Q))))) :
    ZW f_X2_fillBox 12 [vR 3 o0, vI x1, vI x2, vI x3, vI x4, vI x5, vI x6, vI x7] [] μ Q := mvc_at zcd zml (C := zc22) rfl 39 12 h
theorem vc_X2_takeShifted_0 {μ : mzM} {Q : Option mzV → mzM → Prop} {o0 o1 x2 x3 : Int} (h :
    ZW f_X2_takeShifted 2 [vR 3 o0, vR 3 o1, vI x2, vI x3, vI 0, none] [] μ Q) :
    ZW f_X2_takeShifted 0 [vR 3 o0, vR 3 o1, vI x2, vI x3, none, none] [] μ Q := mvc_at zcd zml (C := zc23) rfl 38 0 h
theorem vc_X2_takeShifted_2 {μ : mzM} {Q : Option mzV → mzM → Prop} {o0 o1 x2 x3 x4 : Int} {v5 : mzV} (h :
    (if x4 < (μ 3 o0 2) then
    ZW f_X2_takeShifted 8 [vR 3 o0, vR 3 o1, vI x2, vI x3, vI x4, vI 0] [] μ Q
    else
    Q none μ)) :
    ZW f_X2_takeShifted 2 [vR 3 o0, vR 3 o1, vI x2, vI x3, vI x4, v5] [] μ Q := mvc_at zcd zml (C := zc23) rfl 38 2 h
theorem vc_X2_takeShifted_8 {μ : mzM} {Q : Option mzV → mzM → Prop} {o0 o1 x2 x3 x4 x5 : Int} (h :
    (if x5 < (μ 3 o0 1) then
    (zin (x4 * (μ 3 o0 1)) ∧ (zin ((x4 * (μ 3 o0 1)) + x5) ∧ (zin (x5 - x2) ∧ (zin (x4 - x3) ∧ ZI f_X2_at [vR 3 o1, vI (x5 - x2), vI (x4 - x3)] μ (fun r2 ν1 =>
      ZV f_X2_putNumbered [vR 3 o0, vI ((x4 * (μ 3 o0 1)) + x5), vI r2] ν1 (fun ν3 =>
      (zin (x5 + 1) ∧ ZW f_X2_takeShifted 8 [vR 3 o0, vR 3 o1, vI x2, vI x3, vI x4, vI (x5 + 1)] [] ν3 Q)))))))
    else
    (zin (x4 + 1) ∧ ZW f_X2_takeShifted 2 [vR 3 o0, vR 3 o1, vI x2, vI x3, vI (x4 + 1), vI x5] [] μ Q))) :
    ZW f_X2_takeShifted 8 [vR 3 o0, vR 3 o1, vI x2, vI x3, vI x4, vI x5] [] μ Q := mvc_at zcd zml (C := zc23) rfl 38 8 h
theorem vc_X2_swapValues_0 {μ : mzM} {Q : Option mzV → mzM → Prop} {o0 x1 x2 : Int} (h :
    ZW f_X2_swapValues 2 [vR 3 o0, vI x1, vI x2, vI 0] [] μ Q) :
    ZW f_X2_swapValues 0 [vR 3 o0, vI x1, vI x2, none] [] μ Q := mvc_at zcd zml (C := zc24) rfl 38 0 h
theorem vc_X2_swapValues_2 {μ : mzM} {Q : Option mzV → mzM → Prop} {o0 x1 x2 x3 : Int} (h :
    (if x3 < 144 then
    ((0 ≤ x3 ∧ x3 < 144) ∧ (if (μ 4 o0 x3) = x1 then
      ((0 ≤ x3 ∧ x3 < 144) ∧ (zin (x3 + 1) ∧ ZW f_X2_swapValues 2 [vR 3 o0, vI x1, vI x2, vI (x3 + 1)] [] (mup μ 4 o0 x3 x2) Q))
      else
      ((0 ≤ x3 ∧ x3 < 144) ∧ (if (μ 4 o0 x3) = x2 then
        ((0 ≤ x3 ∧ x3 < 144) ∧ (zin (x3 + 1) ∧ ZW f_X2_swapValues 2 [vR 3 o0, vI x1, vI x2, vI (x3 + 1)] [] (mup μ 4 o0 x3 x1) Q))
        else
        (zin (x3 + 1) ∧ ZW f_X2_swapValues 2 [vR 3 o0, vI x1, vI x2, vI (x3 + 1)] [] μ Q)))))
    else
    Q none μ)) :
    ZW f_X2_swapValues 2 [vR 3 o0, vI x1, vI x2, vI x3] [] μ Q := mvc_at zcd zml (C := zc24) rfl 38 2 h
theorem vc_X3_plan_0 {μ : mzM} {Q : Option mzV → mzM → Prop} {o0 o1 o2 o3 : Int} (h :
    ZI f_J9_min_7cf53 [vI (μ 1 o1 3), vI 10] μ (fun r2 ν1 =>
    ZV f_X3_measure [vR 15 o0, vR 1 o1, vR 11 o2, vR 2 o3, vI r2] ν1 (fun ν3 =>
    ZI f_X3_costOf [vR 15 o0, vI 1, vI r2, vI (ν3 1 o1 6)] ν3 (fun r5 ν4 =>
    ZW f_X3_plan 24 [vR 15 o0, vR 1 o1, vR 11 o2, vR 2 o3, vI r2, vI 3, none, none] [] (mup (mup ν4 15 o0 2 r5) 15 o0 3 1) Q)))) :
    ZW f_X3_plan 0 [vR 15 o0, vR 1 o1, vR 11 o2, vR 2 o3, none, none, none, none] [] μ Q := mvc_at zcd zml (C := zc25) rfl 70 0 h
theorem vc_X3_plan_24 {μ : mzM} {Q : Option mzV → mzM → Prop} {o0 o1 o2 o3 x4 x5 : Int} {v6 v7 : mzV} (h :
    (if x5 < (zshl 1 x4) then
    ZI f_X3_costOf [vR 15 o0, vI x5, vI x4, vI (μ 1 o1 6)] μ (fun r2 ν1 =>
      ZI f_J6_bitCount_0f7a4 [vI x5] ν1 (fun r4 ν3 =>
      ZI f_J6_bitCount_0f7a4 [vI (ν3 15 o0 3)] ν3 (fun r6 ν5 =>
      (if r4 < r6 then
      (if r2 < (ν5 15 o0 2) then
        (zin (x5 + 2) ∧ ZW f_X3_plan 24 [vR 15 o0, vR 1 o1, vR 11 o2, vR 2 o3, vI x4, vI (x5 + 2), vI r2, vI 1] [] (mup (mup ν5 15 o0 2 r2) 15 o0 3 x5) Q)
        else
        (if r2 = (ν5 15 o0 2) then
          (zin (x5 + 2) ∧ ZW f_X3_plan 24 [vR 15 o0, vR 1 o1, vR 11 o2, vR 2 o3, vI x4, vI (x5 + 2), vI r2, vI 1] [] (mup (mup ν5 15 o0 2 r2) 15 o0 3 x5) Q)
          else
          (zin (x5 + 2) ∧ ZW f_X3_plan 24 [vR 15 o0, vR 1 o1, vR 11 o2, vR 2 o3, vI x4, vI (x5 + 2), vI r2, vI 1] [] ν5 Q)))
      else
      (if r2 < (ν5 15 o0 2) then
        (zin (x5 + 2) ∧ ZW f_X3_plan 24 [vR 15 o0, vR 1 o1, vR 11 o2, vR 2 o3, vI x4, vI (x5 + 2), vI r2, vI 0] [] (mup (mup ν5 15 o0 2 r2) 15 o0 3 x5) Q)
        else
        (if r2 = (ν5 15 o0 2) then
          (zin (x5 + 2) ∧ ZW f_X3_plan 24 [vR 15 o0, vR 1 o1, vR 11 o2, vR 2 o3, vI x4, vI (x5 + 2), vI r2, vI 0] [] ν5 Q)
          else
          (zin (x5 + 2) ∧ ZW f_X3_plan 24 [vR 15 o0, vR 1 o1, vR 11 o2, vR 2 o3, vI x4, vI (x5 + 2), vI r2, vI 0] [] ν5 Q)))))))
    else
    Q none μ)) :
    ZW f_X3_plan 24 [vR 15 o0, vR 1 o1, vR 11 o2, vR 2 o3, vI x4, vI x5, v6, v7] [] μ Q := mvc_at zcd zml (C := zc25) rfl 70 24 h
theorem vc_X3_measure_0 {μ : mzM} {Q : Option mzV → mzM → Prop} {o0 o1 o2 o3 x4 : Int} (h :
    ZW f_X3_measure 2 [vR 15 o0, vR 1 o1, vR 11 o2, vR 2 o3, vI x4, vI 0] [] μ Q) :
    ZW f_X3_measure 0 [vR 15 o0, vR 1 o1, vR 11 o2, vR 2 o3, vI x4, none] [] μ Q := mvc_at zcd zml (C := zc26) rfl 55 0 h
theorem vc_X3_measure_2 {μ : mzM} {Q : Option mzV → mzM → Prop} {o0 o1 o2 o3 x4 x5 : Int} (h :
    (if x5 < x4 then
    (if x5 < 10 then
      (if x5 < 10 then
        ZR f_X6_imageOf 3 [vR 1 o1, vI x5] μ (fun r2 ν1 =>
          ZV f_X2_take [vR 3 o3, vR 3 r2] ν1 (fun ν3 =>
          ZV f_X0_encode [vR 11 o2, vR 2 o3, vR 1 o1, vI (-1)] ν3 (fun ν4 =>
          ((0 ≤ x5 ∧ x5 < 10) ∧ (if (0 : Int) < x5 then
          (zin (x5 - 1) ∧ ZV f_X0_encode [vR 11 o2, vR 2 o3, vR 1 o1, vI (x5 - 1)] (mup ν4 16 0 x5 (ν4 2 o3 3)) (fun ν5 =>
            ((0 ≤ x5 ∧ x5 < 10) ∧ (zin (x5 + 1) ∧ ZW f_X3_measure 2 [vR 15 o0, vR 1 o1, vR 11 o2, vR 2 o3, vI x4, vI (x5 + 1)] [] (mup ν5 17 0 x5 (ν5 2 o3 3)) Q))))
          else
          (zin (x5 + 1) ∧ ZW f_X3_measure 2 [vR 15 o0, vR 1 o1, vR 11 o2, vR 2 o3, vI x4, vI (x5 + 1)] [] (mup ν4 16 0 x5 (ν4 2 o3 3)) Q))))))
        else
        Q none μ)
      else
      Q none μ)
    else
    Q none μ)) :
    ZW f_X3_measure 2 [vR 15 o0, vR 1 o1, vR 11 o2, vR 2 o3, vI x4, vI x5] [] μ Q := mvc_at zcd zml (C := zc26) rfl 55 2 h
theorem vc_X3_costOf_0 {μ : mzM} {Q : Option mzV → mzM → Prop} {o0 x1 x2 x3 : Int} (h :
    ZW f_X3_costOf 8 [vR 15 o0, vI x1, vI x2, vI x3, vI 0, vI 0, vI 0, vI 0, none, none] [] μ Q) :
    ZW f_X3_costOf 0 [vR 15 o0, vI x1, vI x2, vI x3, none, none, none, none, none, none] [] μ Q := mvc_at zcd zml (C := zc27) rfl 73 0 h
theorem vc_X3_costOf_8 {μ : mzM} {Q : Option mzV → mzM → Prop} {o0 x1 x2 x3 x4 x5 x6 x7 : Int} {v8 v9 : mzV} (h :
    (if x7 < x2 then
    (if x7 < 10 then
      (if x7 < 10 then
        (if (zand (zshr x1 x7) 1) = 1 then
          ((0 ≤ x7 ∧ x7 < 10) ∧ (zin (x4 + (μ 16 0 x7)) ∧ ZI f_J9_max_7cf53 [vI x6, vI (μ 16 0 x7)] μ (fun r2 ν1 =>
            (zin (x7 + 1) ∧ ZW f_X3_costOf 8 [vR 15 o0, vI x1, vI x2, vI x3, vI (x4 + (μ 16 0 x7)), vI (μ 16 0 x7), vI r2, vI (x7 + 1), vI 1, vI (μ 16 0 x7)] [] ν1 Q))))
          else
          ((0 ≤ x7 ∧ x7 < 10) ∧ (zin (x4 + (μ 17 0 x7)) ∧ (zin (x5 + (μ 17 0 x7)) ∧ ZI f_J9_max_7cf53 [vI x6, vI (x5 + (μ 17 0 x7))] μ (fun r4 ν3 =>
            (zin (x7 + 1) ∧ ZW f_X3_costOf 8 [vR 15 o0, vI x1, vI x2, vI x3, vI (x4 + (μ 17 0 x7)), vI (x5 + (μ 17 0 x7)), vI r4, vI (x7 + 1), vI 0, vI (μ 17 0 x7)] [] ν3 Q))))))
        else
        (zin (x3 * x6) ∧ (zin (x4 + (x3 * x6)) ∧ Q (some (vI (x4 + (x3 * x6)))) μ)))
      else
      (zin (x3 * x6) ∧ (zin (x4 + (x3 * x6)) ∧ Q (some (vI (x4 + (x3 * x6)))) μ)))
    else
    (zin (x3 * x6) ∧ (zin (x4 + (x3 * x6)) ∧ Q (some (vI (x4 + (x3 * x6)))) μ)))) :
    ZW f_X3_costOf 8 [vR 15 o0, vI x1, vI x2, vI x3, vI x4, vI x5, vI x6, vI x7, v8, v9] [] μ Q := mvc_at zcd zml (C := zc27) rfl 73 8 h
theorem vc_X3_referenceOf_0 {μ : mzM} {Q : Option mzV → mzM → Prop} {o0 x1 : Int} (h :
    (if (zand (zshr (μ 15 o0 3) x1) 1) = 1 then
    Q (some (vI (-1))) μ
    else
    (zin (x1 - 1) ∧ Q (some (vI (x1 - 1))) μ))) :
    ZW f_X3_referenceOf 0 [vR 15 o0, vI x1] [] μ Q := mvc_at zcd zml (C := zc28) rfl 19 0 h
theorem vc_X4_read_0 {μ : mzM} {Q : Option mzV → mzM → Prop} {o0 o1 o2 x3 : Int} (h :
    ZI f_X2_left [vR 3 o1, vI x3] μ (fun r2 ν1 =>
    ZI f_X2_top [vR 3 o1, vI x3] ν1 (fun r4 ν3 =>
    ZW f_X4_read 13 [vR 12 o0, vR 3 o1, vR 3 o2, vI x3, vI r2, vI r4, vI 0, none, none, none] [] (mup ν3 12 o0 2 0) Q))) :
    ZW f_X4_read 0 [vR 12 o0, vR 3 o1, vR 3 o2, vI x3, none, none, none, none, none, none] [] μ Q := mvc_at zcd zml (C := zc29) rfl 55 0 h
theorem vc_X4_read_0b {μ : mzM} {Q : Option mzV → mzM → Prop} {o0 o1 x3 : Int} (h :
    ZI f_X2_left [vR 3 o1, vI x3] μ (fun r2 ν1 =>
    ZI f_X2_top [vR 3 o1, vI x3] ν1 (fun r4 ν3 =>
    ZW f_X4_read 13 [vR 12 o0, vR 3 o1, vR 99 0, vI x3, vI r2, vI r4, vI 0, none, none, none] [] (mup ν3 12 o0 2 0) Q))) :
    ZW f_X4_read 0 [vR 12 o0, vR 3 o1, vR 99 0, vI x3, none, none, none, none, none, none] [] μ Q := mvc_at zcd zml (C := zc29) rfl 55 0 h
theorem vc_X4_read_13 {μ : mzM} {Q : Option mzV → mzM → Prop} {o0 o1 o2 x3 x4 x5 x6 : Int} {v7 v8 v9 : mzV} (h :
    (if x6 < 16 then
    ((4 : Int) ≠ 0 ∧ (zin (x4 + (Int.tmod x6 4)) ∧ (((4 : Int) ≠ 0 ∧ zin (Int.tdiv x6 4)) ∧ (zin (x5 + (Int.tdiv x6 4)) ∧ ZI f_X2_at [vR 3 o1, vI (x4 + (Int.tmod x6 4)), vI (x5 + (Int.tdiv x6 4))] μ (fun r2 ν1 =>
      ZI f_X2_at [vR 3 o2, vI (x4 + (Int.tmod x6 4)), vI (x5 + (Int.tdiv x6 4))] ν1 (fun r4 ν3 =>
      (zin (r2 - r4) ∧ ZV f_X4_addCell [vR 12 o0, vI (zand (r2 - r4) 15)] ν3 (fun ν5 =>
      (zin (x6 + 1) ∧ ZW f_X4_read 13 [vR 12 o0, vR 3 o1, vR 3 o2, vI x3, vI x4, vI x5, vI (x6 + 1), vI (x4 + (Int.tmod x6 4)), vI (x5 + (Int.tdiv x6 4)), vI (zand (r2 - r4) 15)] [] ν5 Q)))))))))
    else
    Q none μ)) :
    ZW f_X4_read 13 [vR 12 o0, vR 3 o1, vR 3 o2, vI x3, vI x4, vI x5, vI x6, v7, v8, v9] [] μ Q := mvc_at zcd zml (C := zc29) rfl 55 13 h
theorem vc_X4_read_13b {μ : mzM} {Q : Option mzV → mzM → Prop} {o0 o1 x3 x4 x5 x6 : Int} {v7 v8 v9 : mzV} (h :
    (if x6 < 16 then
    ((4 : Int) ≠ 0 ∧ (zin (x4 + (Int.tmod x6 4)) ∧ (((4 : Int) ≠ 0 ∧ zin (Int.tdiv x6 4)) ∧ (zin (x5 + (Int.tdiv x6 4)) ∧ ZI f_X2_at [vR 3 o1, vI (x4 + (Int.tmod x6 4)), vI (x5 + (Int.tdiv x6 4))] μ (fun r2 ν1 =>
      ZV f_X4_addCell [vR 12 o0, vI r2] ν1 (fun ν3 =>
      (zin (x6 + 1) ∧ ZW f_X4_read 13 [vR 12 o0, vR 3 o1, vR 99 0, vI x3, vI x4, vI x5, vI (x6 + 1), vI (x4 + (Int.tmod x6 4)), vI (x5 + (Int.tdiv x6 4)), vI r2] [] ν3 Q)))))))
    else
    Q none μ)) :
    ZW f_X4_read 13 [vR 12 o0, vR 3 o1, vR 99 0, vI x3, vI x4, vI x5, vI x6, v7, v8, v9] [] μ Q := mvc_at zcd zml (C := zc29) rfl 55 13 h
theorem vc_X4_addCell_0 {μ : mzM} {Q : Option mzV → mzM → Prop} {o0 x1 : Int} (h :
    (zin ((μ 12 o0 2) - 1) ∧ (if ((μ 12 o0 2) - 1) < 0 then
    (if (μ 12 o0 2) < 0 then
      Q none μ
      else
      (if (μ 12 o0 2) < 16 then
        (if (μ 12 o0 2) < 16 then
          ((0 ≤ (μ 12 o0 2) ∧ (μ 12 o0 2) < 16) ∧ ((0 ≤ ((mup μ 13 o0 (μ 12 o0 2) 1) 12 o0 2) ∧ ((mup μ 13 o0 (μ 12 o0 2) 1) 12 o0 2) < 16) ∧ (zin (((mup (mup μ 13 o0 (μ 12 o0 2) 1) 14 o0 ((mup μ 13 o0 (μ 12 o0 2) 1) 12 o0 2) x1) 12 o0 2) + 1) ∧ Q none (mup (mup (mup μ 13 o0 (μ 12 o0 2) 1) 14 o0 ((mup μ 13 o0 (μ 12 o0 2) 1) 12 o0 2) x1) 12 o0 2 (((mup (mup μ 13 o0 (μ 12 o0 2) 1) 14 o0 ((mup μ 13 o0 (μ 12 o0 2) 1) 12 o0 2) x1) 12 o0 2) + 1)))))
          else
          Q none μ)
        else
        Q none μ))
    else
    (if ((μ 12 o0 2) - 1) < 16 then
      ((0 ≤ ((μ 12 o0 2) - 1) ∧ ((μ 12 o0 2) - 1) < 16) ∧ (if (μ 14 o0 ((μ 12 o0 2) - 1)) = x1 then
        (if ((μ 12 o0 2) - 1) < 16 then
          ((0 ≤ ((μ 12 o0 2) - 1) ∧ ((μ 12 o0 2) - 1) < 16) ∧ (zin ((μ 13 o0 ((μ 12 o0 2) - 1)) + 1) ∧ ((0 ≤ ((μ 12 o0 2) - 1) ∧ ((μ 12 o0 2) - 1) < 16) ∧ Q none (mup μ 13 o0 ((μ 12 o0 2) - 1) ((μ 13 o0 ((μ 12 o0 2) - 1)) + 1)))))
          else
          (if (μ 12 o0 2) < 0 then
            Q none μ
            else
            (if (μ 12 o0 2) < 16 then
              (if (μ 12 o0 2) < 16 then
                ((0 ≤ (μ 12 o0 2) ∧ (μ 12 o0 2) < 16) ∧ ((0 ≤ ((mup μ 13 o0 (μ 12 o0 2) 1) 12 o0 2) ∧ ((mup μ 13 o0 (μ 12 o0 2) 1) 12 o0 2) < 16) ∧ (zin (((mup (mup μ 13 o0 (μ 12 o0 2) 1) 14 o0 ((mup μ 13 o0 (μ 12 o0 2) 1) 12 o0 2) x1) 12 o0 2) + 1) ∧ Q none (mup (mup (mup μ 13 o0 (μ 12 o0 2) 1) 14 o0 ((mup μ 13 o0 (μ 12 o0 2) 1) 12 o0 2) x1) 12 o0 2 (((mup (mup μ 13 o0 (μ 12 o0 2) 1) 14 o0 ((mup μ 13 o0 (μ 12 o0 2) 1) 12 o0 2) x1) 12 o0 2) + 1)))))
                else
                Q none μ)
              else
              Q none μ)))
        else
        (if (μ 12 o0 2) < 0 then
          Q none μ
          else
          (if (μ 12 o0 2) < 16 then
            (if (μ 12 o0 2) < 16 then
              ((0 ≤ (μ 12 o0 2) ∧ (μ 12 o0 2) < 16) ∧ ((0 ≤ ((mup μ 13 o0 (μ 12 o0 2) 1) 12 o0 2) ∧ ((mup μ 13 o0 (μ 12 o0 2) 1) 12 o0 2) < 16) ∧ (zin (((mup (mup μ 13 o0 (μ 12 o0 2) 1) 14 o0 ((mup μ 13 o0 (μ 12 o0 2) 1) 12 o0 2) x1) 12 o0 2) + 1) ∧ Q none (mup (mup (mup μ 13 o0 (μ 12 o0 2) 1) 14 o0 ((mup μ 13 o0 (μ 12 o0 2) 1) 12 o0 2) x1) 12 o0 2 (((mup (mup μ 13 o0 (μ 12 o0 2) 1) 14 o0 ((mup μ 13 o0 (μ 12 o0 2) 1) 12 o0 2) x1) 12 o0 2) + 1)))))
              else
              Q none μ)
            else
            Q none μ))))
      else
      (if (μ 12 o0 2) < 0 then
        Q none μ
        else
        (if (μ 12 o0 2) < 16 then
          (if (μ 12 o0 2) < 16 then
            ((0 ≤ (μ 12 o0 2) ∧ (μ 12 o0 2) < 16) ∧ ((0 ≤ ((mup μ 13 o0 (μ 12 o0 2) 1) 12 o0 2) ∧ ((mup μ 13 o0 (μ 12 o0 2) 1) 12 o0 2) < 16) ∧ (zin (((mup (mup μ 13 o0 (μ 12 o0 2) 1) 14 o0 ((mup μ 13 o0 (μ 12 o0 2) 1) 12 o0 2) x1) 12 o0 2) + 1) ∧ Q none (mup (mup (mup μ 13 o0 (μ 12 o0 2) 1) 14 o0 ((mup μ 13 o0 (μ 12 o0 2) 1) 12 o0 2) x1) 12 o0 2 (((mup (mup μ 13 o0 (μ 12 o0 2) 1) 14 o0 ((mup μ 13 o0 (μ 12 o0 2) 1) 12 o0 2) x1) 12 o0 2) + 1)))))
            else
            Q none μ)
          else
          Q none μ)))))) :
    ZW f_X4_addCell 0 [vR 12 o0, vI x1, none, none] [] μ Q := mvc_at zcd zml (C := zc30) rfl 77 0 h
theorem vc_X4_lengthOf_0 {μ : mzM} {Q : Option mzV → mzM → Prop} {o0 x1 : Int} (h :
    (if x1 < 0 then
    Q (some (vI 0)) μ
    else
    (if x1 < 16 then
      ((0 ≤ x1 ∧ x1 < 16) ∧ Q (some (vI (μ 13 o0 x1))) μ)
      else
      Q (some (vI 0)) μ))) :
    ZW f_X4_lengthOf 0 [vR 12 o0, vI x1] [] μ Q := mvc_at zcd zml (C := zc31) rfl 19 0 h
theorem vc_X4_valueOf_0 {μ : mzM} {Q : Option mzV → mzM → Prop} {o0 x1 : Int} (h :
    (if x1 < 0 then
    Q (some (vI 0)) μ
    else
    (if x1 < 16 then
      ((0 ≤ x1 ∧ x1 < 16) ∧ Q (some (vI (μ 14 o0 x1))) μ)
      else
      Q (some (vI 0)) μ))) :
    ZW f_X4_valueOf 0 [vR 12 o0, vI x1] [] μ Q := mvc_at zcd zml (C := zc32) rfl 19 0 h
theorem vc_X5_append_0 {μ : mzM} {Q : Option mzV → mzM → Prop} {o0 x1 : Int} (h :
    (if (μ 8 o0 1) < 0 then
    Q (some (vI (μ 8 o0 1))) μ
    else
    (if (μ 8 o0 1) < 160 then
      ((0 ≤ (μ 8 o0 1) ∧ (μ 8 o0 1) < 160) ∧ (zin (((mup μ 9 0 (μ 8 o0 1) (x1 % 65536)) 8 o0 1) + 1) ∧ Q (some (vI ((mup (mup μ 9 0 (μ 8 o0 1) (x1 % 65536)) 8 o0 1 (((mup μ 9 0 (μ 8 o0 1) (x1 % 65536)) 8 o0 1) + 1)) 8 o0 1))) (mup (mup μ 9 0 (μ 8 o0 1) (x1 % 65536)) 8 o0 1 (((mup μ 9 0 (μ 8 o0 1) (x1 % 65536)) 8 o0 1) + 1))))
      else
      Q (some (vI (μ 8 o0 1))) μ))) :
    ZW f_X5_append 0 [vR 8 o0, vI x1] [] μ Q := mvc_at zcd zml (C := zc33) rfl 29 0 h
theorem vc_X5_wordOf_0 {μ : mzM} {Q : Option mzV → mzM → Prop} {x0 : Int} (h :
    (if x0 = 0 then
    Q (some (vR 30 0)) μ
    else
    (if x0 = 1 then
    Q (some (vR 30 1)) μ
    else
    (if x0 = 2 then
    Q (some (vR 30 2)) μ
    else
    (if x0 = 3 then
    Q (some (vR 30 3)) μ
    else
    Q (some (vR 30 4)) μ))))) :
    ZW f_X5_wordOf 0 [vI x0] [] μ Q := mvc_at zcd zml (C := zc34) rfl 17 0 h
theorem vc_X5_argumentsOf_0 {μ : mzM} {Q : Option mzV → mzM → Prop} {x0 : Int} (h :
    (if x0 = 0 then
    Q (some (vR 30 5)) μ
    else
    (if x0 = 1 then
    Q (some (vR 30 6)) μ
    else
    (if x0 = 2 then
    Q (some (vR 30 7)) μ
    else
    (if x0 = 3 then
    Q (some (vR 30 8)) μ
    else
    Q (some (vR 30 9)) μ))))) :
    ZW f_X5_argumentsOf 0 [vI x0] [] μ Q := mvc_at zcd zml (C := zc35) rfl 17 0 h
theorem vc_X5_errorPosition_0 {μ : mzM} {Q : Option mzV → mzM → Prop} {o0 o1 : Int} (h :
    ZW f_X5_errorPosition 8 [vR 8 o0, vR 1 o1, vI 0] [] (mup (mup μ 8 o0 4 0) 8 o0 7 0) Q) :
    ZW f_X5_errorPosition 0 [vR 8 o0, vR 1 o1, none] [] μ Q := mvc_at zcd zml (C := zc36) rfl 35 0 h
theorem vc_X5_errorPosition_8 {μ : mzM} {Q : Option mzV → mzM → Prop} {o0 o1 x2 : Int} (h :
    (if (160 : Int) < x2 then
    Q (some (vI (μ 8 o0 3))) μ
    else
    ZV f_X5_nextToken [vR 8 o0] μ (fun ν1 =>
      (if (ν1 8 o0 2) = 0 then
      Q (some (vI (-1))) ν1
      else
      ZI f_X5_readCommand [vR 8 o0, vR 1 o1] ν1 (fun r3 ν2 =>
        (if r3 = 0 then
        Q (some (vI (ν2 8 o0 3))) ν2
        else
        (zin (x2 + 1) ∧ ZW f_X5_errorPosition 8 [vR 8 o0, vR 1 o1, vI (x2 + 1)] [] ν2 Q))))))) :
    ZW f_X5_errorPosition 8 [vR 8 o0, vR 1 o1, vI x2] [] μ Q := mvc_at zcd zml (C := zc36) rfl 35 8 h
theorem vc_X5_readCommand_0 {μ : mzM} {Q : Option mzV → mzM → Prop} {o0 o1 : Int} (h :
    ZI f_X5_commandOfToken [vR 8 o0] μ (fun r2 ν1 =>
    (if r2 < 0 then
    Q (some (vI 0)) ν1
    else
    ZV f_X5_addToProgram [vR 8 o0, vI r2] ν1 (fun ν3 =>
      ZR f_X5_argumentsOf 30 [vI r2] ν3 (fun r5 ν4 =>
      ZW f_X5_readCommand 15 [vR 8 o0, vR 1 o1, vI r2, vR 30 r5, vI 0] [] ν4 Q))))) :
    ZW f_X5_readCommand 0 [vR 8 o0, vR 1 o1, none, none, none] [] μ Q := mvc_at zcd zml (C := zc37) rfl 60 0 h
theorem vc_X5_readCommand_15 {μ : mzM} {Q : Option mzV → mzM → Prop} {o0 o1 o3 x2 x4 : Int} (h :
    ZI f_J0_length_8abf5 [vR 30 o3] μ (fun r2 ν1 =>
    (if x4 < r2 then
    ZV f_X5_nextToken [vR 8 o0] ν1 (fun ν3 =>
      ZI f_X5_readNumber [vR 8 o0] ν3 (fun r5 ν4 =>
      (if r5 = 0 then
      Q (some (vI 0)) ν4
      else
      ZI f_J0_charAt_5068e [vR 30 o3, vI x4] ν4 (fun r7 ν6 =>
        ZI f_X5_isAllowed [vR 8 o0, vI r7, vR 1 o1] ν6 (fun r9 ν8 =>
        (if r9 = 0 then
        Q (some (vI 0)) ν8
        else
        ZV f_X5_addToProgram [vR 8 o0, vI (ν8 8 o0 5)] ν8 (fun ν10 =>
          (zin (x4 + 1) ∧ ZW f_X5_readCommand 15 [vR 8 o0, vR 1 o1, vI x2, vR 30 o3, vI (x4 + 1)] [] ν10 Q))))))))
    else
    ZV f_X5_nextToken [vR 8 o0] ν1 (fun ν11 =>
      (if (ν11 8 o0 2) = 3 then
      ZI f_X5_signAt [vR 8 o0, vI (ν11 8 o0 3)] ν11 (fun r13 ν12 =>
        (if r13 = 59 then
        Q (some (vI 1)) ν12
        else
        Q (some (vI 0)) ν12))
      else
      Q (some (vI 0)) ν11))))) :
    ZW f_X5_readCommand 15 [vR 8 o0, vR 1 o1, vI x2, vR 30 o3, vI x4] [] μ Q := mvc_at zcd zml (C := zc37) rfl 60 15 h
theorem vc_X5_addToProgram_0 {μ : mzM} {Q : Option mzV → mzM → Prop} {o0 x1 : Int} (h :
    (if (μ 8 o0 7) < 0 then
    Q none μ
    else
    (if (μ 8 o0 7) < 160 then
      ((0 ≤ (μ 8 o0 7) ∧ (μ 8 o0 7) < 160) ∧ (zin (((mup μ 10 0 (μ 8 o0 7) x1) 8 o0 7) + 1) ∧ Q none (mup (mup μ 10 0 (μ 8 o0 7) x1) 8 o0 7 (((mup μ 10 0 (μ 8 o0 7) x1) 8 o0 7) + 1))))
      else
      Q none μ))) :
    ZW f_X5_addToProgram 0 [vR 8 o0, vI x1] [] μ Q := mvc_at zcd zml (C := zc38) rfl 27 0 h
theorem vc_X5_nextToken_0 {μ : mzM} {Q : Option mzV → mzM → Prop} {o0 : Int} (h :
    ZW f_X5_nextToken 4 [vR 8 o0, none] [] (mup μ 8 o0 3 (μ 8 o0 4)) Q) :
    ZW f_X5_nextToken 0 [vR 8 o0, none] [] μ Q := mvc_at zcd zml (C := zc39) rfl 106 0 h
theorem vc_X5_nextToken_4 {μ : mzM} {Q : Option mzV → mzM → Prop} {o0 : Int} (h :
    (if (μ 8 o0 3) < (μ 8 o0 1) then
    ZI f_X5_signAt [vR 8 o0, vI (μ 8 o0 3)] μ (fun r2 ν1 =>
      (if r2 = 32 then
      (zin ((ν1 8 o0 3) + 1) ∧ ZW f_X5_nextToken 4 [vR 8 o0, none] [] (mup ν1 8 o0 3 ((ν1 8 o0 3) + 1)) Q)
      else
      (if ((mup ν1 8 o0 4 (ν1 8 o0 3)) 8 o0 3) < ((mup ν1 8 o0 4 (ν1 8 o0 3)) 8 o0 1) then
        (zin (((mup ν1 8 o0 4 (ν1 8 o0 3)) 8 o0 4) + 1) ∧ ZI f_X5_signAt [vR 8 o0, vI ((mup (mup ν1 8 o0 4 (ν1 8 o0 3)) 8 o0 4 (((mup ν1 8 o0 4 (ν1 8 o0 3)) 8 o0 4) + 1)) 8 o0 3)] (mup (mup ν1 8 o0 4 (ν1 8 o0 3)) 8 o0 4 (((mup ν1 8 o0 4 (ν1 8 o0 3)) 8 o0 4) + 1)) (fun r4 ν3 =>
          ZI f_X5_isLetter [vI r4] ν3 (fun r6 ν5 =>
          (if r6 = 0 then
          (if r4 = 45 then
            ZW f_X5_nextToken 79 [vR 8 o0, vI r4] [] (mup ν5 8 o0 2 2) Q
            else
            ZI f_X5_isDigit [vI r4] ν5 (fun r8 ν7 =>
              (if r8 = 0 then
              Q none (mup ν7 8 o0 2 3)
              else
              ZW f_X5_nextToken 79 [vR 8 o0, vI r4] [] (mup ν7 8 o0 2 2) Q)))
          else
          ZW f_X5_nextToken 52 [vR 8 o0, vI r4] [] (mup ν5 8 o0 2 1) Q))))
        else
        Q none (mup (mup ν1 8 o0 4 (ν1 8 o0 3)) 8 o0 2 0))))
    else
    (if ((mup μ 8 o0 4 (μ 8 o0 3)) 8 o0 3) < ((mup μ 8 o0 4 (μ 8 o0 3)) 8 o0 1) then
      (zin (((mup μ 8 o0 4 (μ 8 o0 3)) 8 o0 4) + 1) ∧ ZI f_X5_signAt [vR 8 o0, vI ((mup (mup μ 8 o0 4 (μ 8 o0 3)) 8 o0 4 (((mup μ 8 o0 4 (μ 8 o0 3)) 8 o0 4) + 1)) 8 o0 3)] (mup (mup μ 8 o0 4 (μ 8 o0 3)) 8 o0 4 (((mup μ 8 o0 4 (μ 8 o0 3)) 8 o0 4) + 1)) (fun r10 ν9 =>
        ZI f_X5_isLetter [vI r10] ν9 (fun r12 ν11 =>
        (if r12 = 0 then
        (if r10 = 45 then
          ZW f_X5_nextToken 79 [vR 8 o0, vI r10] [] (mup ν11 8 o0 2 2) Q
          else
          ZI f_X5_isDigit [vI r10] ν11 (fun r14 ν13 =>
            (if r14 = 0 then
            Q none (mup ν13 8 o0 2 3)
            else
            ZW f_X5_nextToken 79 [vR 8 o0, vI r10] [] (mup ν13 8 o0 2 2) Q)))
        else
        ZW f_X5_nextToken 52 [vR 8 o0, vI r10] [] (mup ν11 8 o0 2 1) Q))))
      else
      Q none (mup (mup μ 8 o0 4 (μ 8 o0 3)) 8 o0 2 0)))) :
    ZW f_X5_nextToken 4 [vR 8 o0, none] [] μ Q := mvc_at zcd zml (C := zc39) rfl 106 4 h
theorem vc_X5_nextToken_52 {μ : mzM} {Q : Option mzV → mzM → Prop} {o0 x1 : Int} (h :
    (if (μ 8 o0 4) < (μ 8 o0 1) then
    ZI f_X5_signAt [vR 8 o0, vI (μ 8 o0 4)] μ (fun r2 ν1 =>
      ZI f_X5_isLetter [vI r2] ν1 (fun r4 ν3 =>
      (if r4 = 0 then
      Q none ν3
      else
      (zin ((ν3 8 o0 4) + 1) ∧ ZW f_X5_nextToken 52 [vR 8 o0, vI x1] [] (mup ν3 8 o0 4 ((ν3 8 o0 4) + 1)) Q))))
    else
    Q none μ)) :
    ZW f_X5_nextToken 52 [vR 8 o0, vI x1] [] μ Q := mvc_at zcd zml (C := zc39) rfl 106 52 h
theorem vc_X5_nextToken_79 {μ : mzM} {Q : Option mzV → mzM → Prop} {o0 x1 : Int} (h :
    (if (μ 8 o0 4) < (μ 8 o0 1) then
    ZI f_X5_signAt [vR 8 o0, vI (μ 8 o0 4)] μ (fun r2 ν1 =>
      ZI f_X5_isDigit [vI r2] ν1 (fun r4 ν3 =>
      (if r4 = 0 then
      Q none ν3
      else
      (zin ((ν3 8 o0 4) + 1) ∧ ZW f_X5_nextToken 79 [vR 8 o0, vI x1] [] (mup ν3 8 o0 4 ((ν3 8 o0 4) + 1)) Q))))
    else
    Q none μ)) :
    ZW f_X5_nextToken 79 [vR 8 o0, vI x1] [] μ Q := mvc_at zcd zml (C := zc39) rfl 106 79 h
theorem vc_X5_signAt_0 {μ : mzM} {Q : Option mzV → mzM → Prop} {o0 x1 : Int} (h :
    (if x1 < 0 then
    Q (some (vI 32)) μ
    else
    (if x1 < (μ 8 o0 1) then
      (if x1 < 160 then
        ((0 ≤ x1 ∧ x1 < 160) ∧ Q (some (vI ((μ 9 0 x1) % 65536))) μ)
        else
        Q (some (vI 32)) μ)
      else
      Q (some (vI 32)) μ))) :
    ZW f_X5_signAt 0 [vR 8 o0, vI x1] [] μ Q := mvc_at zcd zml (C := zc40) rfl 23 0 h
theorem vc_X5_isLetter_0 {μ : mzM} {Q : Option mzV → mzM → Prop} {x0 : Int} (h :
    (if x0 < 97 then
    Q (some (vI 0)) μ
    else
    (if (122 : Int) < x0 then
      Q (some (vI 0)) μ
      else
      Q (some (vI 1)) μ))) :
    ZW f_X5_isLetter 0 [vI x0] [] μ Q := mvc_at zcd zml (C := zc41) rfl 15 0 h
theorem vc_X5_isDigit_0 {μ : mzM} {Q : Option mzV → mzM → Prop} {x0 : Int} (h :
    (if x0 < 48 then
    Q (some (vI 0)) μ
    else
    (if (57 : Int) < x0 then
      Q (some (vI 0)) μ
      else
      Q (some (vI 1)) μ))) :
    ZW f_X5_isDigit 0 [vI x0] [] μ Q := mvc_at zcd zml (C := zc42) rfl 15 0 h
theorem vc_X5_commandOfToken_0 {μ : mzM} {Q : Option mzV → mzM → Prop} {o0 : Int} (h :
    ZW f_X5_commandOfToken 2 [vR 8 o0, vI 0] [] μ Q) :
    ZW f_X5_commandOfToken 0 [vR 8 o0, none] [] μ Q := mvc_at zcd zml (C := zc43) rfl 25 0 h
theorem vc_X5_commandOfToken_2 {μ : mzM} {Q : Option mzV → mzM → Prop} {o0 x1 : Int} (h :
    (if x1 < 5 then
    (if (μ 8 o0 2) = 1 then
      ZR f_X5_wordOf 30 [vI x1] μ (fun r2 ν1 =>
        ZI f_X5_isToken [vR 8 o0, vR 30 r2] ν1 (fun r4 ν3 =>
        (if r4 = 0 then
        (zin (x1 + 1) ∧ ZW f_X5_commandOfToken 2 [vR 8 o0, vI (x1 + 1)] [] ν3 Q)
        else
        Q (some (vI x1)) ν3)))
      else
      Q (some (vI (-1))) μ)
    else
    Q (some (vI (-1))) μ)) :
    ZW f_X5_commandOfToken 2 [vR 8 o0, vI x1] [] μ Q := mvc_at zcd zml (C := zc43) rfl 25 2 h
theorem vc_X5_isToken_0 {μ : mzM} {Q : Option mzV → mzM → Prop} {o0 o1 : Int} (h :
    (zin ((μ 8 o0 4) - (μ 8 o0 3)) ∧ ZI f_J0_length_8abf5 [vR 30 o1] μ (fun r2 ν1 =>
    (if ((μ 8 o0 4) - (μ 8 o0 3)) = r2 then
    ZW f_X5_isToken 12 [vR 8 o0, vR 30 o1, vI 0] [] ν1 Q
    else
    Q (some (vI 0)) ν1)))) :
    ZW f_X5_isToken 0 [vR 8 o0, vR 30 o1, none] [] μ Q := mvc_at zcd zml (C := zc44) rfl 37 0 h
theorem vc_X5_isToken_12 {μ : mzM} {Q : Option mzV → mzM → Prop} {o0 o1 x2 : Int} (h :
    ZI f_J0_length_8abf5 [vR 30 o1] μ (fun r2 ν1 =>
    (if x2 < r2 then
    (zin ((ν1 8 o0 3) + x2) ∧ ZI f_X5_signAt [vR 8 o0, vI ((ν1 8 o0 3) + x2)] ν1 (fun r4 ν3 =>
      ZI f_J0_charAt_5068e [vR 30 o1, vI x2] ν3 (fun r6 ν5 =>
      (if r4 = r6 then
      (zin (x2 + 1) ∧ ZW f_X5_isToken 12 [vR 8 o0, vR 30 o1, vI (x2 + 1)] [] ν5 Q)
      else
      Q (some (vI 0)) ν5))))
    else
    Q (some (vI 1)) ν1))) :
    ZW f_X5_isToken 12 [vR 8 o0, vR 30 o1, vI x2] [] μ Q := mvc_at zcd zml (C := zc44) rfl 37 12 h
theorem vc_X5_readNumber_0 {μ : mzM} {Q : Option mzV → mzM → Prop} {o0 : Int} (h :
    (if (μ 8 o0 2) = 2 then
    ZI f_X5_signAt [vR 8 o0, vI (μ 8 o0 3)] μ (fun r2 ν1 =>
      (if r2 = 45 then
      (zin ((ν1 8 o0 3) + 1) ∧ (zin ((ν1 8 o0 4) - ((ν1 8 o0 3) + 1)) ∧ (if ((ν1 8 o0 4) - ((ν1 8 o0 3) + 1)) < 1 then
        Q (some (vI 0)) ν1
        else
        (if (2 : Int) < ((ν1 8 o0 4) - ((ν1 8 o0 3) + 1)) then
          Q (some (vI 0)) ν1
          else
          (if ((ν1 8 o0 4) - ((ν1 8 o0 3) + 1)) = 2 then
            ZI f_X5_signAt [vR 8 o0, vI ((ν1 8 o0 3) + 1)] ν1 (fun r4 ν3 =>
              (if r4 = 48 then
              Q (some (vI 0)) ν3
              else
              ZW f_X5_readNumber 44 [vR 8 o0, vI ((ν1 8 o0 3) + 1), vI ((ν1 8 o0 4) - ((ν1 8 o0 3) + 1))] [vI ((ν1 8 o0 3) + 1), vR 8 o0, vR 8 o0] ν3 Q))
            else
            ZW f_X5_readNumber 44 [vR 8 o0, vI ((ν1 8 o0 3) + 1), vI ((ν1 8 o0 4) - ((ν1 8 o0 3) + 1))] [vI ((ν1 8 o0 3) + 1), vR 8 o0, vR 8 o0] ν1 Q)))))
      else
      (zin ((ν1 8 o0 4) - (ν1 8 o0 3)) ∧ (if ((ν1 8 o0 4) - (ν1 8 o0 3)) < 1 then
        Q (some (vI 0)) ν1
        else
        (if (2 : Int) < ((ν1 8 o0 4) - (ν1 8 o0 3)) then
          Q (some (vI 0)) ν1
          else
          (if ((ν1 8 o0 4) - (ν1 8 o0 3)) = 2 then
            ZI f_X5_signAt [vR 8 o0, vI (ν1 8 o0 3)] ν1 (fun r6 ν5 =>
              (if r6 = 48 then
              Q (some (vI 0)) ν5
              else
              ZW f_X5_readNumber 44 [vR 8 o0, vI (ν1 8 o0 3), vI ((ν1 8 o0 4) - (ν1 8 o0 3))] [vI (ν1 8 o0 3), vR 8 o0, vR 8 o0] ν5 Q))
            else
            ZW f_X5_readNumber 44 [vR 8 o0, vI (ν1 8 o0 3), vI ((ν1 8 o0 4) - (ν1 8 o0 3))] [vI (ν1 8 o0 3), vR 8 o0, vR 8 o0] ν1 Q))))))
    else
    Q (some (vI 0)) μ)) :
    ZW f_X5_readNumber 0 [vR 8 o0, none, none] [] μ Q := mvc_at zcd zml (C := zc45) rfl 81 0 h
theorem vc_X5_readNumber_44 {μ : mzM} {Q : Option mzV → mzM → Prop} {o0 q0 q1 x1 x2 y2 : Int} (h :
    ZI f_X5_signAt [vR 8 q1, vI y2] μ (fun r2 ν1 =>
    (zin (r2 - 48) ∧ (if x2 = 2 then
    (zin (10 * ((mup ν1 8 q0 5 (r2 - 48)) 8 o0 5)) ∧ (zin (x1 + 1) ∧ ZI f_X5_signAt [vR 8 o0, vI (x1 + 1)] (mup ν1 8 q0 5 (r2 - 48)) (fun r4 ν3 =>
      (zin (r4 - 48) ∧ (zin ((10 * ((mup ν1 8 q0 5 (r2 - 48)) 8 o0 5)) + (r4 - 48)) ∧ (if ((mup ν3 8 o0 5 ((10 * ((mup ν1 8 q0 5 (r2 - 48)) 8 o0 5)) + (r4 - 48))) 8 o0 3) < x1 then
      Q (some (vI 1)) (mup (mup ν3 8 o0 5 ((10 * ((mup ν1 8 q0 5 (r2 - 48)) 8 o0 5)) + (r4 - 48))) 8 o0 5 (zw (-((mup ν3 8 o0 5 ((10 * ((mup ν1 8 q0 5 (r2 - 48)) 8 o0 5)) + (r4 - 48))) 8 o0 5))))
      else
      Q (some (vI 1)) (mup ν3 8 o0 5 ((10 * ((mup ν1 8 q0 5 (r2 - 48)) 8 o0 5)) + (r4 - 48)))))))))
    else
    (if ((mup ν1 8 q0 5 (r2 - 48)) 8 o0 3) < x1 then
      Q (some (vI 1)) (mup (mup ν1 8 q0 5 (r2 - 48)) 8 o0 5 (zw (-((mup ν1 8 q0 5 (r2 - 48)) 8 o0 5))))
      else
      Q (some (vI 1)) (mup ν1 8 q0 5 (r2 - 48))))))) :
    ZW f_X5_readNumber 44 [vR 8 o0, vI x1, vI x2] [vI y2, vR 8 q1, vR 8 q0] μ Q := mvc_at zcd zml (C := zc45) rfl 81 44 h
theorem vc_X5_isAllowed_0 {μ : mzM} {Q : Option mzV → mzM → Prop} {o0 o2 x1 : Int} (h :
    (if x1 = 119 then
    (if (μ 8 o0 5) < (-12) then
      Q (some (vI 0)) μ
      else
      (if (12 : Int) < (μ 8 o0 5) then
        Q (some (vI 0)) μ
        else
        Q (some (vI 1)) μ))
    else
    ZI f_X5_signAt [vR 8 o0, vI (μ 8 o0 3)] μ (fun r2 ν1 =>
      (if r2 = 45 then
      Q (some (vI 0)) ν1
      else
      (if x1 = 102 then
        ZI f_X6_isFrame [vR 1 o2, vI (ν1 8 o0 5)] ν1 (fun r4 ν3 =>
          (if r4 = 0 then
          Q (some (vI 0)) ν3
          else
          ZI f_X6_isReadable [vR 1 o2, vI (ν3 8 o0 5)] ν3 (fun r6 ν5 =>
            (if r6 = 0 then
            Q (some (vI 0)) ν5
            else
            Q (some (vI 1)) ν5))))
        else
        (if x1 = 118 then
          (if (15 : Int) < (ν1 8 o0 5) then
            Q (some (vI 0)) ν1
            else
            Q (some (vI 1)) ν1)
          else
          (if (12 : Int) < (ν1 8 o0 5) then
            Q (some (vI 0)) ν1
            else
            Q (some (vI 1)) ν1))))))) :
    ZW f_X5_isAllowed 0 [vR 8 o0, vI x1, vR 1 o2] [] μ Q := mvc_at zcd zml (C := zc46) rfl 58 0 h
theorem vc_X5_carryOut_0 {μ : mzM} {Q : Option mzV → mzM → Prop} {o0 o1 o2 : Int} (h :
    ZW f_X5_carryOut 4 [vR 8 o0, vR 1 o1, vR 3 o2, vI 0, vI 0, none] [] μ Q) :
    ZW f_X5_carryOut 0 [vR 8 o0, vR 1 o1, vR 3 o2, none, none, none] [] μ Q := mvc_at zcd zml (C := zc47) rfl 37 0 h
theorem vc_X5_carryOut_4 {μ : mzM} {Q : Option mzV → mzM → Prop} {o0 o1 o2 x3 x4 : Int} {v5 : mzV} (h :
    (if x4 < (μ 8 o0 7) then
    ZI f_X5_programAt [vR 8 o0, vI x4] μ (fun r2 ν1 =>
      (zin (x4 + 1) ∧ ZV f_X5_apply [vR 8 o0, vI r2, vI (x4 + 1), vR 1 o1, vR 3 o2] ν1 (fun ν3 =>
      ZR f_X5_argumentsOf 30 [vI r2] ν3 (fun r5 ν4 =>
      ZI f_J0_length_8abf5 [vR 30 r5] ν4 (fun r7 ν6 =>
      (zin (1 + r7) ∧ (zin (x4 + (1 + r7)) ∧ (zin (x3 + 1) ∧ ZW f_X5_carryOut 4 [vR 8 o0, vR 1 o1, vR 3 o2, vI (x3 + 1), vI (x4 + (1 + r7)), vI r2] [] ν6 Q))))))))
    else
    Q (some (vI x3)) μ)) :
    ZW f_X5_carryOut 4 [vR 8 o0, vR 1 o1, vR 3 o2, vI x3, vI x4, v5] [] μ Q := mvc_at zcd zml (C := zc47) rfl 37 4 h
theorem vc_X5_programAt_0 {μ : mzM} {Q : Option mzV → mzM → Prop} {o0 x1 : Int} (h :
    (if x1 < 0 then
    Q (some (vI 0)) μ
    else
    (if x1 < 160 then
      ((0 ≤ x1 ∧ x1 < 160) ∧ Q (some (vI (μ 10 0 x1))) μ)
      else
      Q (some (vI 0)) μ))) :
    ZW f_X5_programAt 0 [vR 8 o0, vI x1] [] μ Q := mvc_at zcd zml (C := zc48) rfl 19 0 h
theorem vc_X5_apply_0 {μ : mzM} {Q : Option mzV → mzM → Prop} {o0 o3 o4 x1 x2 : Int} (h :
    ZI f_X5_programAt [vR 8 o0, vI x2] μ (fun r2 ν1 =>
    (zin (x2 + 1) ∧ ZI f_X5_programAt [vR 8 o0, vI (x2 + 1)] ν1 (fun r4 ν3 =>
    (if x1 = 0 then
    ZV f_X2_fillBox [vR 3 (78 + o3), vI 0, vI 0, vI (ν3 3 (78 + o3) 1), vI (ν3 3 (78 + o3) 2), vI r2] ν3 (fun ν5 =>
      Q none ν5)
    else
    (if x1 = 1 then
    (zin (x2 + 2) ∧ ZI f_X5_programAt [vR 8 o0, vI (x2 + 2)] ν3 (fun r7 ν6 =>
      (zin (x2 + 3) ∧ ZI f_X5_programAt [vR 8 o0, vI (x2 + 3)] ν6 (fun r9 ν8 =>
      (zin (x2 + 4) ∧ ZI f_X5_programAt [vR 8 o0, vI (x2 + 4)] ν8 (fun r11 ν10 =>
      ZV f_X2_fillBox [vR 3 (78 + o3), vI r2, vI r4, vI r7, vI r9, vI r11] ν10 (fun ν12 =>
      Q none ν12)))))))
    else
    (if x1 = 2 then
    ZV f_X2_take [vR 3 o4, vR 3 (78 + o3)] ν3 (fun ν13 =>
      ZV f_X2_takeShifted [vR 3 (78 + o3), vR 3 o4, vI r2, vI r4] ν13 (fun ν14 =>
      Q none ν14))
    else
    (if x1 = 3 then
    ZV f_X2_swapValues [vR 3 (78 + o3), vI r2, vI r4] ν3 (fun ν15 =>
      Q none ν15)
    else
    ZR f_X6_imageOf 3 [vR 1 o3, vI r2] ν3 (fun r17 ν16 =>
      ZV f_X2_take [vR 3 (78 + o3), vR 3 r17] ν16 (fun ν18 =>
      Q none ν18)))))))))) :
    ZW f_X5_apply 0 [vR 8 o0, vI x1, vI x2, vR 1 o3, vR 3 o4, none, none, none] [] μ Q := mvc_at zcd zml (C := zc49) rfl 70 0 h
theorem vc_X6_take_0 {μ : mzM} {Q : Option mzV → mzM → Prop} {o0 o1 : Int} (h :
    ZV f_X2_take [vR 3 (78 + o0), vR 3 (78 + o1)] μ (fun ν1 =>
    ZW f_X6_take 23 [vR 1 o0, vR 1 o1, vI 0] [] (mup (mup (mup (mup ν1 1 o0 3 (ν1 1 o1 3)) 1 o0 4 ((mup ν1 1 o0 3 (ν1 1 o1 3)) 1 o1 4)) 1 o0 5 ((mup (mup ν1 1 o0 3 (ν1 1 o1 3)) 1 o0 4 ((mup ν1 1 o0 3 (ν1 1 o1 3)) 1 o1 4)) 1 o1 5)) 1 o0 6 ((mup (mup (mup ν1 1 o0 3 (ν1 1 o1 3)) 1 o0 4 ((mup ν1 1 o0 3 (ν1 1 o1 3)) 1 o1 4)) 1 o0 5 ((mup (mup ν1 1 o0 3 (ν1 1 o1 3)) 1 o0 4 ((mup ν1 1 o0 3 (ν1 1 o1 3)) 1 o1 4)) 1 o1 5)) 1 o1 6)) Q)) :
    ZW f_X6_take 0 [vR 1 o0, vR 1 o1, none] [] μ Q := mvc_at zcd zml (C := zc50) rfl 42 0 h
theorem vc_X6_take_23 {μ : mzM} {Q : Option mzV → mzM → Prop} {o0 o1 x2 : Int} (h :
    (if x2 < (μ 1 o0 3) then
    ZR f_X6_frameAt 2 [vR 1 o0, vI x2] μ (fun r2 ν1 =>
      ZR f_X6_frameAt 2 [vR 1 o1, vI x2] ν1 (fun r4 ν3 =>
      ZV f_X1_take [vR 2 r2, vR 2 r4] ν3 (fun ν5 =>
      (zin (x2 + 1) ∧ ZW f_X6_take 23 [vR 1 o0, vR 1 o1, vI (x2 + 1)] [] ν5 Q))))
    else
    Q none μ)) :
    ZW f_X6_take 23 [vR 1 o0, vR 1 o1, vI x2] [] μ Q := mvc_at zcd zml (C := zc50) rfl 42 23 h
theorem vc_X6_frameAt_0 {μ : mzM} {Q : Option mzV → mzM → Prop} {o0 x1 : Int} (h :
    (if x1 < 0 then
    Q (some (vR 2 (11 * o0 + 10))) μ
    else
    (if x1 < 10 then
      ((0 ≤ x1 ∧ x1 < 10) ∧ Q (some (vR 2 (11 * o0 + x1))) μ)
      else
      Q (some (vR 2 (11 * o0 + 10))) μ))) :
    ZW f_X6_frameAt 0 [vR 1 o0, vI x1] [] μ Q := mvc_at zcd zml (C := zc51) rfl 20 0 h
theorem vc_X6_isFrame_0 {μ : mzM} {Q : Option mzV → mzM → Prop} {o0 x1 : Int} (h :
    (if x1 < 0 then
    Q (some (vI 0)) μ
    else
    (if x1 < (μ 1 o0 3) then
      Q (some (vI 1)) μ
      else
      Q (some (vI 0)) μ))) :
    ZW f_X6_isFrame 0 [vR 1 o0, vI x1] [] μ Q := mvc_at zcd zml (C := zc52) rfl 15 0 h
theorem vc_X6_isImage_0 {μ : mzM} {Q : Option mzV → mzM → Prop} {o0 x1 : Int} (h :
    (if x1 = (-1) then
    Q (some (vI 1)) μ
    else
    ZI f_X6_isFrame [vR 1 o0, vI x1] μ (fun r2 ν1 =>
      (if r2 = 0 then
      Q (some (vI 0)) ν1
      else
      Q (some (vI 1)) ν1)))) :
    ZW f_X6_isImage 0 [vR 1 o0, vI x1] [] μ Q := mvc_at zcd zml (C := zc53) rfl 16 0 h
theorem vc_X6_imageOf_0 {μ : mzM} {Q : Option mzV → mzM → Prop} {o0 x1 : Int} (h :
    (if x1 = (-1) then
    Q (some (vR 3 (78 + o0))) μ
    else
    ZR f_X6_frameAt 2 [vR 1 o0, vI x1] μ (fun r2 ν1 =>
      Q (some (vR 3 r2)) ν1))) :
    ZW f_X6_imageOf 0 [vR 1 o0, vI x1] [] μ Q := mvc_at zcd zml (C := zc54) rfl 16 0 h
theorem vc_X6_isReadable_0 {μ : mzM} {Q : Option mzV → mzM → Prop} {o0 x1 : Int} (h :
    ZW f_X6_isReadable 4 [vR 1 o0, vI x1, vI x1, vI 0] [] μ Q) :
    ZW f_X6_isReadable 0 [vR 1 o0, vI x1, none, none] [] μ Q := mvc_at zcd zml (C := zc55) rfl 30 0 h
theorem vc_X6_isReadable_4 {μ : mzM} {Q : Option mzV → mzM → Prop} {o0 x1 x2 x3 : Int} (h :
    (if x3 < 10 then
    (if x2 < 0 then
      Q (some (vI 1)) μ
      else
      ZR f_X6_frameAt 2 [vR 1 o0, vI x2] μ (fun r2 ν1 =>
        (if (ν1 2 r2 4) = 0 then
        ZR f_X6_frameAt 2 [vR 1 o0, vI x2] ν1 (fun r4 ν3 =>
          (zin (x3 + 1) ∧ ZW f_X6_isReadable 4 [vR 1 o0, vI x1, vI (ν3 2 r4 2), vI (x3 + 1)] [] ν3 Q))
        else
        Q (some (vI 0)) ν1)))
    else
    Q (some (vI 1)) μ)) :
    ZW f_X6_isReadable 4 [vR 1 o0, vI x1, vI x2, vI x3] [] μ Q := mvc_at zcd zml (C := zc55) rfl 30 4 h
theorem vc_X6_mayBeReference_0 {μ : mzM} {Q : Option mzV → mzM → Prop} {o0 x1 : Int} (h :
    ZI f_X6_isReadable [vR 1 o0, vI x1] μ (fun r2 ν1 =>
    (if r2 = 0 then
    Q (some (vI 0)) ν1
    else
    ZI f_X6_depthOf [vR 1 o0, vI x1] ν1 (fun r4 ν3 =>
      (if r4 < (ν3 1 o0 5) then
      Q (some (vI 1)) ν3
      else
      Q (some (vI 0)) ν3))))) :
    ZW f_X6_mayBeReference 0 [vR 1 o0, vI x1] [] μ Q := mvc_at zcd zml (C := zc56) rfl 19 0 h
theorem vc_X6_depthOf_0 {μ : mzM} {Q : Option mzV → mzM → Prop} {o0 x1 : Int} (h :
    ZR f_X6_frameAt 2 [vR 1 o0, vI x1] μ (fun r2 ν1 =>
    ZW f_X6_depthOf 9 [vR 1 o0, vI x1, vI 0, vI (ν1 2 r2 2), vI 0] [] ν1 Q)) :
    ZW f_X6_depthOf 0 [vR 1 o0, vI x1, none, none, none] [] μ Q := mvc_at zcd zml (C := zc57) rfl 29 0 h
theorem vc_X6_depthOf_9 {μ : mzM} {Q : Option mzV → mzM → Prop} {o0 x1 x2 x3 x4 : Int} (h :
    (if x4 < 10 then
    (if x3 < 0 then
      Q (some (vI x2)) μ
      else
      (zin (x2 + 1) ∧ ZR f_X6_frameAt 2 [vR 1 o0, vI x3] μ (fun r2 ν1 =>
        (zin (x4 + 1) ∧ ZW f_X6_depthOf 9 [vR 1 o0, vI x1, vI (x2 + 1), vI (ν1 2 r2 2), vI (x4 + 1)] [] ν1 Q))))
    else
    Q (some (vI x2)) μ)) :
    ZW f_X6_depthOf 9 [vR 1 o0, vI x1, vI x2, vI x3, vI x4] [] μ Q := mvc_at zcd zml (C := zc57) rfl 29 9 h
theorem vc_X6_seekCost_0 {μ : mzM} {Q : Option mzV → mzM → Prop} {o0 x1 : Int} (h :
    ZW f_X6_seekCost 6 [vR 1 o0, vI x1, vI 0, vI x1, vI 0] [] μ Q) :
    ZW f_X6_seekCost 0 [vR 1 o0, vI x1, none, none, none] [] μ Q := mvc_at zcd zml (C := zc58) rfl 32 0 h
theorem vc_X6_seekCost_6 {μ : mzM} {Q : Option mzV → mzM → Prop} {o0 x1 x2 x3 x4 : Int} (h :
    (if x4 < 10 then
    (if x3 < 0 then
      Q (some (vI x2)) μ
      else
      ZR f_X6_frameAt 2 [vR 1 o0, vI x3] μ (fun r2 ν1 =>
        (zin (x2 + (ν1 2 r2 3)) ∧ ZR f_X6_frameAt 2 [vR 1 o0, vI x3] ν1 (fun r4 ν3 =>
        (zin (x4 + 1) ∧ ZW f_X6_seekCost 6 [vR 1 o0, vI x1, vI (x2 + (ν1 2 r2 3)), vI (ν3 2 r4 2), vI (x4 + 1)] [] ν3 Q)))))
    else
    Q (some (vI x2)) μ)) :
    ZW f_X6_seekCost 6 [vR 1 o0, vI x1, vI x2, vI x3, vI x4] [] μ Q := mvc_at zcd zml (C := zc58) rfl 32 6 h
theorem vc_X6_chainHas_0 {μ : mzM} {Q : Option mzV → mzM → Prop} {o0 x1 x2 : Int} (h :
    ZW f_X6_chainHas 4 [vR 1 o0, vI x1, vI x2, vI x1, vI 0] [] μ Q) :
    ZW f_X6_chainHas 0 [vR 1 o0, vI x1, vI x2, none, none] [] μ Q := mvc_at zcd zml (C := zc59) rfl 28 0 h
theorem vc_X6_chainHas_4 {μ : mzM} {Q : Option mzV → mzM → Prop} {o0 x1 x2 x3 x4 : Int} (h :
    (if x4 < 10 then
    (if x3 < 0 then
      Q (some (vI 0)) μ
      else
      (if x3 = x2 then
        Q (some (vI 1)) μ
        else
        ZR f_X6_frameAt 2 [vR 1 o0, vI x3] μ (fun r2 ν1 =>
          (zin (x4 + 1) ∧ ZW f_X6_chainHas 4 [vR 1 o0, vI x1, vI x2, vI (ν1 2 r2 2), vI (x4 + 1)] [] ν1 Q))))
    else
    Q (some (vI 0)) μ)) :
    ZW f_X6_chainHas 4 [vR 1 o0, vI x1, vI x2, vI x3, vI x4] [] μ Q := mvc_at zcd zml (C := zc59) rfl 28 4 h
theorem vc_X6_readableFrames_0 {μ : mzM} {Q : Option mzV → mzM → Prop} {o0 : Int} (h :
    ZW f_X6_readableFrames 4 [vR 1 o0, vI 0, vI 0] [] μ Q) :
    ZW f_X6_readableFrames 0 [vR 1 o0, none, none] [] μ Q := mvc_at zcd zml (C := zc60) rfl 22 0 h
theorem vc_X6_readableFrames_4 {μ : mzM} {Q : Option mzV → mzM → Prop} {o0 x1 x2 : Int} (h :
    (if x2 < (μ 1 o0 3) then
    ZI f_X6_isReadable [vR 1 o0, vI x2] μ (fun r2 ν1 =>
      (if r2 = 0 then
      (zin (x2 + 1) ∧ ZW f_X6_readableFrames 4 [vR 1 o0, vI x1, vI (x2 + 1)] [] ν1 Q)
      else
      (zin (x1 + 1) ∧ (zin (x2 + 1) ∧ ZW f_X6_readableFrames 4 [vR 1 o0, vI (x1 + 1), vI (x2 + 1)] [] ν1 Q))))
    else
    Q (some (vI x1)) μ)) :
    ZW f_X6_readableFrames 4 [vR 1 o0, vI x1, vI x2] [] μ Q := mvc_at zcd zml (C := zc60) rfl 22 4 h
theorem vc_X6_costOfRecords_0 {μ : mzM} {Q : Option mzV → mzM → Prop} {o0 : Int} (h :
    ZW f_X6_costOfRecords 4 [vR 1 o0, vI 0, vI 0] [] μ Q) :
    ZW f_X6_costOfRecords 0 [vR 1 o0, none, none] [] μ Q := mvc_at zcd zml (C := zc61) rfl 24 0 h
theorem vc_X6_costOfRecords_4 {μ : mzM} {Q : Option mzV → mzM → Prop} {o0 x1 x2 : Int} (h :
    (if x2 < (μ 1 o0 3) then
    ZR f_X6_frameAt 2 [vR 1 o0, vI x2] μ (fun r2 ν1 =>
      (zin (x1 + (ν1 2 r2 3)) ∧ (zin (x2 + 1) ∧ ZW f_X6_costOfRecords 4 [vR 1 o0, vI (x1 + (ν1 2 r2 3)), vI (x2 + 1)] [] ν1 Q)))
    else
    Q (some (vI x1)) μ)) :
    ZW f_X6_costOfRecords 4 [vR 1 o0, vI x1, vI x2] [] μ Q := mvc_at zcd zml (C := zc61) rfl 24 4 h
theorem vc_X7_setSize_0 {μ : mzM} {Q : Option mzV → mzM → Prop} {o0 x1 x2 : Int} (h :
    ZI f_X7_isSize [vI x1] μ (fun r2 ν1 =>
    (if r2 = 0 then
    Q (some (vI (-1))) ν1
    else
    ZI f_X7_isSize [vI x2] ν1 (fun r4 ν3 =>
      (if r4 = 0 then
      Q (some (vI (-1))) ν3
      else
      ZV f_X7_save [vR 0 o0] ν3 (fun ν5 =>
        ZV f_X2_reset [vR 3 78, vI x1, vI x2] (mup ν5 1 0 3 0) (fun ν6 =>
        ZI f_X2_blocks [vR 3 78] ν6 (fun r8 ν7 =>
        Q (some (vI r8)) ν7)))))))) :
    ZW f_X7_setSize 0 [vR 0 o0, vI x1, vI x2] [] μ Q := mvc_at zcd zml (C := zc62) rfl 30 0 h
theorem vc_X7_setCell_0 {μ : mzM} {Q : Option mzV → mzM → Prop} {o0 x1 x2 : Int} (h :
    ZI f_X2_hasCell [vR 3 78, vI x1] μ (fun r2 ν1 =>
    (if r2 = 0 then
    Q (some (vI (-1))) ν1
    else
    (if x2 < 0 then
      Q (some (vI (-1))) ν1
      else
      (if (15 : Int) < x2 then
        Q (some (vI (-1))) ν1
        else
        ZV f_X7_save [vR 0 o0] ν1 (fun ν3 =>
          ZI f_X2_numbered [vR 3 78, vI x1] ν3 (fun r5 ν4 =>
          ZV f_X2_putNumbered [vR 3 78, vI x1, vI x2] ν4 (fun ν6 =>
          Q (some (vI r5)) ν6)))))))) :
    ZW f_X7_setCell 0 [vR 0 o0, vI x1, vI x2, none] [] μ Q := mvc_at zcd zml (C := zc63) rfl 34 0 h
theorem vc_X7_cell_0 {μ : mzM} {Q : Option mzV → mzM → Prop} {o0 x1 : Int} (h :
    ZI f_X2_hasCell [vR 3 78, vI x1] μ (fun r2 ν1 =>
    (if r2 = 0 then
    Q (some (vI (-1))) ν1
    else
    ZI f_X2_numbered [vR 3 78, vI x1] ν1 (fun r4 ν3 =>
      Q (some (vI r4)) ν3)))) :
    ZW f_X7_cell 0 [vR 0 o0, vI x1] [] μ Q := mvc_at zcd zml (C := zc64) rfl 19 0 h
theorem vc_X7_appendCharacter_0 {μ : mzM} {Q : Option mzV → mzM → Prop} {o0 x1 : Int} (h :
    (if x1 < 0 then
    Q (some (vI (-1))) μ
    else
    (if (255 : Int) < x1 then
      Q (some (vI (-1))) μ
      else
      (if (μ 8 0 1) < 160 then
        ZI f_X5_append [vR 8 0, vI (x1 % 65536)] μ (fun r2 ν1 =>
          Q (some (vI r2)) ν1)
        else
        Q (some (vI (-3))) μ)))) :
    ZW f_X7_appendCharacter 0 [vR 0 o0, vI x1] [] μ Q := mvc_at zcd zml (C := zc65) rfl 25 0 h
theorem vc_X7_clearText_0 {μ : mzM} {Q : Option mzV → mzM → Prop} {o0 : Int} (h :
    Q (some (vI (μ 8 0 1))) (mup μ 8 0 1 0)) :
    ZW f_X7_clearText 0 [vR 0 o0, none] [] μ Q := mvc_at zcd zml (C := zc66) rfl 15 0 h
theorem vc_X7_draw_0 {μ : mzM} {Q : Option mzV → mzM → Prop} {o0 : Int} (h :
    ZI f_X5_errorPosition [vR 8 0, vR 1 0] μ (fun r2 ν1 =>
    (if r2 < 0 then
    ZV f_X7_save [vR 0 o0] ν1 (fun ν3 =>
      ZI f_X5_carryOut [vR 8 0, vR 1 0, vR 3 85] ν3 (fun r5 ν4 =>
      Q (some (vI r5)) (mup ν4 8 0 1 0)))
    else
    (zin ((-10) - r2) ∧ Q (some (vI ((-10) - r2))) ν1)))) :
    ZW f_X7_draw 0 [vR 0 o0, none, none] [] μ Q := mvc_at zcd zml (C := zc67) rfl 33 0 h
theorem vc_X7_digest_0 {μ : mzM} {Q : Option mzV → mzM → Prop} {o0 x1 x2 x3 : Int} (h :
    ZI f_X6_isImage [vR 1 0, vI x1] μ (fun r2 ν1 =>
    (if r2 = 0 then
    Q (some (vI (-1))) ν1
    else
    ZI f_X2_hasPart [vR 3 78, vI x2, vI x3] ν1 (fun r4 ν3 =>
      (if r4 = 0 then
      Q (some (vI (-1))) ν3
      else
      ZI f_X6_isReadable [vR 1 0, vI x1] ν3 (fun r6 ν5 =>
        (if r6 = 0 then
        Q (some (vI (-2))) ν5
        else
        ZR f_X6_imageOf 3 [vR 1 0, vI x1] ν5 (fun r8 ν7 =>
          ZI f_X2_partDigest [vR 3 r8, vI x2, vI x3] ν7 (fun r10 ν9 =>
          Q (some (vI r10)) ν9))))))))) :
    ZW f_X7_digest 0 [vR 0 o0, vI x1, vI x2, vI x3] [] μ Q := mvc_at zcd zml (C := zc68) rfl 34 0 h
theorem vc_X7_addKey_0 {μ : mzM} {Q : Option mzV → mzM → Prop} {o0 : Int} (h :
    (if (μ 1 0 3) < 10 then
    ZI f_X7_add [vR 0 o0, vI (-1)] μ (fun r2 ν1 =>
      Q (some (vI r2)) ν1)
    else
    Q (some (vI (-3))) μ)) :
    ZW f_X7_addKey 0 [vR 0 o0] [] μ Q := mvc_at zcd zml (C := zc69) rfl 16 0 h
theorem vc_X7_addDelta_0 {μ : mzM} {Q : Option mzV → mzM → Prop} {o0 x1 : Int} (h :
    ZI f_X6_isFrame [vR 1 0, vI x1] μ (fun r2 ν1 =>
    (if r2 = 0 then
    Q (some (vI (-1))) ν1
    else
    ZI f_X6_mayBeReference [vR 1 0, vI x1] ν1 (fun r4 ν3 =>
      (if r4 = 0 then
      Q (some (vI (-2))) ν3
      else
      (if (ν3 1 0 3) < 10 then
        ZI f_X7_add [vR 0 o0, vI x1] ν3 (fun r6 ν5 =>
          Q (some (vI r6)) ν5)
        else
        Q (some (vI (-3))) ν3)))))) :
    ZW f_X7_addDelta 0 [vR 0 o0, vI x1] [] μ Q := mvc_at zcd zml (C := zc70) rfl 30 0 h
theorem vc_X7_addChosen_0 {μ : mzM} {Q : Option mzV → mzM → Prop} {o0 : Int} (h :
    (if (μ 1 0 3) < 10 then
    ZI f_X7_chosenReference [vR 0 o0] μ (fun r2 ν1 =>
      ZI f_X7_add [vR 0 o0, vI r2] ν1 (fun r4 ν3 =>
      Q (some (vI r4)) ν3))
    else
    Q (some (vI (-3))) μ)) :
    ZW f_X7_addChosen 0 [vR 0 o0] [] μ Q := mvc_at zcd zml (C := zc71) rfl 17 0 h
theorem vc_X7_removeLast_0 {μ : mzM} {Q : Option mzV → mzM → Prop} {o0 : Int} (h :
    (if (μ 1 0 3) < 1 then
    Q (some (vI (-2))) μ
    else
    ZV f_X7_save [vR 0 o0] μ (fun ν1 =>
      (zin ((ν1 1 0 3) - 1) ∧ Q (some (vI ((mup ν1 1 0 3 ((ν1 1 0 3) - 1)) 1 0 3))) (mup ν1 1 0 3 ((ν1 1 0 3) - 1)))))) :
    ZW f_X7_removeLast 0 [vR 0 o0] [] μ Q := mvc_at zcd zml (C := zc72) rfl 25 0 h
theorem vc_X7_recode_0 {μ : mzM} {Q : Option mzV → mzM → Prop} {o0 : Int} (h :
    (if (μ 1 0 3) < 1 then
    Q (some (vI (-2))) μ
    else
    ZV f_X7_save [vR 0 o0] μ (fun ν1 =>
      ZV f_X3_plan [vR 15 0, vR 1 0, vR 11 0, vR 2 77] ν1 (fun ν2 =>
      ZW f_X7_recode 20 [vR 0 o0, vI 0] [] ν2 Q)))) :
    ZW f_X7_recode 0 [vR 0 o0, none] [] μ Q := mvc_at zcd zml (C := zc73) rfl 49 0 h
theorem vc_X7_recode_20 {μ : mzM} {Q : Option mzV → mzM → Prop} {o0 x1 : Int} (h :
    (if x1 < (μ 1 0 3) then
    ZR f_X6_frameAt 2 [vR 1 0, vI x1] μ (fun r2 ν1 =>
      ZI f_X3_referenceOf [vR 15 0, vI x1] ν1 (fun r4 ν3 =>
      ZV f_X0_encode [vR 11 0, vR 2 r2, vR 1 0, vI r4] ν3 (fun ν5 =>
      (zin (x1 + 1) ∧ ZW f_X7_recode 20 [vR 0 o0, vI (x1 + 1)] [] ν5 Q))))
    else
    Q (some (vI (μ 15 0 2))) μ)) :
    ZW f_X7_recode 20 [vR 0 o0, vI x1] [] μ Q := mvc_at zcd zml (C := zc73) rfl 49 20 h
theorem vc_X7_setLimits_0 {μ : mzM} {Q : Option mzV → mzM → Prop} {o0 x1 x2 x3 : Int} (h :
    (if x1 < 0 then
    Q (some (vI (-1))) μ
    else
    (if (4 : Int) < x1 then
      Q (some (vI (-1))) μ
      else
      (if x2 < 0 then
        Q (some (vI (-1))) μ
        else
        (if (9 : Int) < x2 then
          Q (some (vI (-1))) μ
          else
          (if x3 < 0 then
            Q (some (vI (-1))) μ
            else
            (if (9 : Int) < x3 then
              Q (some (vI (-1))) μ
              else
              ZV f_X7_save [vR 0 o0] μ (fun ν1 =>
                (if (ν1 1 0 4) = x1 then
                (if (ν1 1 0 5) = x2 then
                  (if (ν1 1 0 6) = x3 then
                    Q (some (vI 0)) (mup (mup (mup ν1 1 0 4 x1) 1 0 5 x2) 1 0 6 x3)
                    else
                    Q (some (vI 1)) (mup (mup (mup ν1 1 0 4 x1) 1 0 5 x2) 1 0 6 x3))
                  else
                  Q (some (vI 1)) (mup (mup (mup ν1 1 0 4 x1) 1 0 5 x2) 1 0 6 x3))
                else
                Q (some (vI 1)) (mup (mup (mup ν1 1 0 4 x1) 1 0 5 x2) 1 0 6 x3)))))))))) :
    ZW f_X7_setLimits 0 [vR 0 o0, vI x1, vI x2, vI x3, none] [] μ Q := mvc_at zcd zml (C := zc74) rfl 63 0 h
theorem vc_X7_setLost_0 {μ : mzM} {Q : Option mzV → mzM → Prop} {o0 x1 x2 : Int} (h :
    ZI f_X6_isFrame [vR 1 0, vI x1] μ (fun r2 ν1 =>
    (if r2 = 0 then
    Q (some (vI (-1))) ν1
    else
    (if x2 < 0 then
      Q (some (vI (-1))) ν1
      else
      (if (1 : Int) < x2 then
        Q (some (vI (-1))) ν1
        else
        (if x2 = 1 then
          ZR f_X6_frameAt 2 [vR 1 0, vI x1] ν1 (fun r4 ν3 =>
            (if (ν3 2 r4 4) = 1 then
            Q (some (vI (-2))) ν3
            else
            ZV f_X7_save [vR 0 o0] ν3 (fun ν5 =>
              ZR f_X6_frameAt 2 [vR 1 0, vI x1] ν5 (fun r7 ν6 =>
              ZI f_X6_readableFrames [vR 1 0] (mup ν6 2 r7 4 1) (fun r9 ν8 =>
              Q (some (vI r9)) ν8)))))
          else
          ZR f_X6_frameAt 2 [vR 1 0, vI x1] ν1 (fun r11 ν10 =>
            (if (ν10 2 r11 4) = 0 then
            Q (some (vI (-2))) ν10
            else
            ZV f_X7_save [vR 0 o0] ν10 (fun ν12 =>
              ZR f_X6_frameAt 2 [vR 1 0, vI x1] ν12 (fun r14 ν13 =>
              ZI f_X6_readableFrames [vR 1 0] (mup ν13 2 r14 4 0) (fun r16 ν15 =>
              Q (some (vI r16)) ν15))))))))))) :
    ZW f_X7_setLost 0 [vR 0 o0, vI x1, vI x2, none] [] μ Q := mvc_at zcd zml (C := zc75) rfl 45 0 h
theorem vc_X7_frame_0 {μ : mzM} {Q : Option mzV → mzM → Prop} {o0 x1 x2 : Int} (h :
    ZI f_X6_isFrame [vR 1 0, vI x1] μ (fun r2 ν1 =>
    (if r2 = 0 then
    Q (some (vI (-1))) ν1
    else
    ZR f_X6_frameAt 2 [vR 1 0, vI x1] ν1 (fun r4 ν3 =>
      (if x2 = 0 then
      (if (ν3 2 r4 2) = (-1) then
        Q (some (vI (-9))) ν3
        else
        Q (some (vI (ν3 2 r4 2))) ν3)
      else
      (if x2 = 1 then
      Q (some (vI (ν3 2 r4 3))) ν3
      else
      (if x2 = 2 then
      ZI f_X6_seekCost [vR 1 0, vI x1] ν3 (fun r6 ν5 =>
        Q (some (vI r6)) ν5)
      else
      (if x2 = 3 then
      ZI f_X6_depthOf [vR 1 0, vI x1] ν3 (fun r8 ν7 =>
        Q (some (vI r8)) ν7)
      else
      (if x2 = 4 then
      ZI f_X6_isReadable [vR 1 0, vI x1] ν3 (fun r10 ν9 =>
        (if r10 = 0 then
        Q (some (vI 0)) ν9
        else
        Q (some (vI 1)) ν9))
      else
      (if x2 = 5 then
      ZI f_X1_codesOfKind [vR 2 r4, vI 0] ν3 (fun r12 ν11 =>
        Q (some (vI r12)) ν11)
      else
      (if x2 = 6 then
      ZI f_X1_codesOfKind [vR 2 r4, vI 1] ν3 (fun r14 ν13 =>
        Q (some (vI r14)) ν13)
      else
      (if x2 = 7 then
      ZI f_X1_codesOfKind [vR 2 r4, vI 2] ν3 (fun r16 ν15 =>
        Q (some (vI r16)) ν15)
      else
      (if x2 = 8 then
      ZI f_X1_codesOfKind [vR 2 r4, vI 3] ν3 (fun r18 ν17 =>
        Q (some (vI r18)) ν17)
      else
      Q (some (vI (-1))) ν3))))))))))))) :
    ZW f_X7_frame 0 [vR 0 o0, vI x1, vI x2, none] [] μ Q := mvc_at zcd zml (C := zc76) rfl 68 0 h
theorem vc_X7_code_0 {μ : mzM} {Q : Option mzV → mzM → Prop} {o0 x1 x2 x3 : Int} (h :
    ZI f_X6_isFrame [vR 1 0, vI x1] μ (fun r2 ν1 =>
    (if r2 = 0 then
    Q (some (vI (-1))) ν1
    else
    ZI f_X2_hasBlock [vR 3 78, vI x2] ν1 (fun r4 ν3 =>
      (if r4 = 0 then
      Q (some (vI (-1))) ν3
      else
      (if x3 < 0 then
        Q (some (vI (-1))) ν3
        else
        (if x3 < 4 then
          ZR f_X6_frameAt 2 [vR 1 0, vI x1] ν3 (fun r6 ν5 =>
            ZI f_X1_codePart [vR 2 r6, vI x2, vI 0] ν5 (fun r8 ν7 =>
            (if x3 = 1 then
            (if r8 = 1 then
              (if x3 = 3 then
                (if r8 = 2 then
                  ZI f_X1_codePart [vR 2 r6, vI x2, vI x3] ν7 (fun r10 ν9 =>
                    Q (some (vI r10)) ν9)
                  else
                  (if r8 = 3 then
                    ZI f_X1_codePart [vR 2 r6, vI x2, vI x3] ν7 (fun r12 ν11 =>
                      Q (some (vI r12)) ν11)
                    else
                    Q (some (vI (-9))) ν7))
                else
                ZI f_X1_codePart [vR 2 r6, vI x2, vI x3] ν7 (fun r14 ν13 =>
                  Q (some (vI r14)) ν13))
              else
              Q (some (vI (-9))) ν7)
            else
            (if x3 = 2 then
              (if r8 = 1 then
                (if x3 = 3 then
                  (if r8 = 2 then
                    ZI f_X1_codePart [vR 2 r6, vI x2, vI x3] ν7 (fun r16 ν15 =>
                      Q (some (vI r16)) ν15)
                    else
                    (if r8 = 3 then
                      ZI f_X1_codePart [vR 2 r6, vI x2, vI x3] ν7 (fun r18 ν17 =>
                        Q (some (vI r18)) ν17)
                      else
                      Q (some (vI (-9))) ν7))
                  else
                  ZI f_X1_codePart [vR 2 r6, vI x2, vI x3] ν7 (fun r20 ν19 =>
                    Q (some (vI r20)) ν19))
                else
                Q (some (vI (-9))) ν7)
              else
              (if x3 = 3 then
                (if r8 = 2 then
                  ZI f_X1_codePart [vR 2 r6, vI x2, vI x3] ν7 (fun r22 ν21 =>
                    Q (some (vI r22)) ν21)
                  else
                  (if r8 = 3 then
                    ZI f_X1_codePart [vR 2 r6, vI x2, vI x3] ν7 (fun r24 ν23 =>
                      Q (some (vI r24)) ν23)
                    else
                    Q (some (vI (-9))) ν7))
                else
                ZI f_X1_codePart [vR 2 r6, vI x2, vI x3] ν7 (fun r26 ν25 =>
                  Q (some (vI r26)) ν25))))))
          else
          Q (some (vI (-1))) ν3))))))) :
    ZW f_X7_code 0 [vR 0 o0, vI x1, vI x2, vI x3, none, none] [] μ Q := mvc_at zcd zml (C := zc77) rfl 62 0 h
theorem vc_X7_run_0 {μ : mzM} {Q : Option mzV → mzM → Prop} {o0 x1 x2 x3 x4 : Int} (h :
    ZI f_X6_isFrame [vR 1 0, vI x1] μ (fun r2 ν1 =>
    (if r2 = 0 then
    Q (some (vI (-1))) ν1
    else
    ZI f_X2_hasBlock [vR 3 78, vI x2] ν1 (fun r4 ν3 =>
      (if r4 = 0 then
      Q (some (vI (-1))) ν3
      else
      (if x3 < 0 then
        Q (some (vI (-1))) ν3
        else
        (if x4 < 0 then
          Q (some (vI (-1))) ν3
          else
          (if (1 : Int) < x4 then
            Q (some (vI (-1))) ν3
            else
            ZR f_X6_frameAt 2 [vR 1 0, vI x1] ν3 (fun r6 ν5 =>
              ZI f_X1_codePart [vR 2 r6, vI x2, vI 0] ν5 (fun r8 ν7 =>
              (if r8 = 2 then
              (if r8 = 2 then
                ZR f_X6_frameAt 2 [vR 1 0, vI (ν7 2 r6 2)] ν7 (fun r10 ν9 =>
                  ZV f_X4_read [vR 12 0, vR 3 r6, vR 3 r10, vI x2] ν9 (fun ν11 =>
                  (if x3 < (ν11 12 0 2) then
                  (if x4 = 0 then
                    ZI f_X4_lengthOf [vR 12 0, vI x3] ν11 (fun r13 ν12 =>
                      Q (some (vI r13)) ν12)
                    else
                    ZI f_X4_valueOf [vR 12 0, vI x3] ν11 (fun r15 ν14 =>
                      Q (some (vI r15)) ν14))
                  else
                  Q (some (vI (-9))) ν11)))
                else
                ZV f_X4_read [vR 12 0, vR 3 r6, vR 99 0, vI x2] ν7 (fun ν16 =>
                  (if x3 < (ν16 12 0 2) then
                  (if x4 = 0 then
                    ZI f_X4_lengthOf [vR 12 0, vI x3] ν16 (fun r18 ν17 =>
                      Q (some (vI r18)) ν17)
                    else
                    ZI f_X4_valueOf [vR 12 0, vI x3] ν16 (fun r20 ν19 =>
                      Q (some (vI r20)) ν19))
                  else
                  Q (some (vI (-9))) ν16)))
              else
              (if r8 = 3 then
                (if r8 = 2 then
                  ZR f_X6_frameAt 2 [vR 1 0, vI (ν7 2 r6 2)] ν7 (fun r22 ν21 =>
                    ZV f_X4_read [vR 12 0, vR 3 r6, vR 3 r22, vI x2] ν21 (fun ν23 =>
                    (if x3 < (ν23 12 0 2) then
                    (if x4 = 0 then
                      ZI f_X4_lengthOf [vR 12 0, vI x3] ν23 (fun r25 ν24 =>
                        Q (some (vI r25)) ν24)
                      else
                      ZI f_X4_valueOf [vR 12 0, vI x3] ν23 (fun r27 ν26 =>
                        Q (some (vI r27)) ν26))
                    else
                    Q (some (vI (-9))) ν23)))
                  else
                  ZV f_X4_read [vR 12 0, vR 3 r6, vR 99 0, vI x2] ν7 (fun ν28 =>
                    (if x3 < (ν28 12 0 2) then
                    (if x4 = 0 then
                      ZI f_X4_lengthOf [vR 12 0, vI x3] ν28 (fun r30 ν29 =>
                        Q (some (vI r30)) ν29)
                      else
                      ZI f_X4_valueOf [vR 12 0, vI x3] ν28 (fun r32 ν31 =>
                        Q (some (vI r32)) ν31))
                    else
                    Q (some (vI (-9))) ν28)))
                else
                Q (some (vI (-9))) ν7)))))))))))) :
    ZW f_X7_run 0 [vR 0 o0, vI x1, vI x2, vI x3, vI x4, none, none, none, none] [] μ Q := mvc_at zcd zml (C := zc78) rfl 83 0 h
theorem vc_X7_pixel_0 {μ : mzM} {Q : Option mzV → mzM → Prop} {o0 x1 x2 : Int} (h :
    ZI f_X6_isFrame [vR 1 0, vI x1] μ (fun r2 ν1 =>
    (if r2 = 0 then
    Q (some (vI (-1))) ν1
    else
    ZI f_X2_hasCell [vR 3 78, vI x2] ν1 (fun r4 ν3 =>
      (if r4 = 0 then
      Q (some (vI (-1))) ν3
      else
      ZI f_X6_isReadable [vR 1 0, vI x1] ν3 (fun r6 ν5 =>
        (if r6 = 0 then
        Q (some (vI (-2))) ν5
        else
        ZR f_X6_imageOf 3 [vR 1 0, vI x1] ν5 (fun r8 ν7 =>
          ZI f_X2_numbered [vR 3 r8, vI x2] ν7 (fun r10 ν9 =>
          Q (some (vI r10)) ν9))))))))) :
    ZW f_X7_pixel 0 [vR 0 o0, vI x1, vI x2] [] μ Q := mvc_at zcd zml (C := zc79) rfl 32 0 h
theorem vc_X7_count_0 {μ : mzM} {Q : Option mzV → mzM → Prop} {o0 x1 : Int} (h :
    (if x1 = 0 then
    Q (some (vI (μ 3 78 1))) μ
    else
    (if x1 = 1 then
    Q (some (vI (μ 3 78 2))) μ
    else
    (if x1 = 2 then
    Q (some (vI (μ 1 0 3))) μ
    else
    (if x1 = 3 then
    Q (some (vI (μ 1 0 4))) μ
    else
    (if x1 = 4 then
    Q (some (vI (μ 1 0 5))) μ
    else
    (if x1 = 5 then
    Q (some (vI (μ 1 0 6))) μ
    else
    (if x1 = 6 then
    ZI f_X6_costOfRecords [vR 1 0] μ (fun r2 ν1 =>
      Q (some (vI r2)) ν1)
    else
    (if x1 = 7 then
    ZI f_X6_readableFrames [vR 1 0] μ (fun r4 ν3 =>
      Q (some (vI r4)) ν3)
    else
    (if x1 = 8 then
    Q (some (vI (μ 8 0 1))) μ
    else
    (if x1 = 9 then
    Q (some (vI (μ 0 o0 3))) μ
    else
    Q (some (vI (-1))) μ))))))))))) :
    ZW f_X7_count 0 [vR 0 o0, vI x1] [] μ Q := mvc_at zcd zml (C := zc80) rfl 50 0 h
theorem vc_X7_costWith_0 {μ : mzM} {Q : Option mzV → mzM → Prop} {o0 x1 : Int} (h :
    ZI f_X6_isImage [vR 1 0, vI x1] μ (fun r2 ν1 =>
    (if r2 = 0 then
    Q (some (vI (-1))) ν1
    else
    ZI f_X6_isReadable [vR 1 0, vI x1] ν1 (fun r4 ν3 =>
      (if r4 = 0 then
      Q (some (vI (-2))) ν3
      else
      ZI f_X7_costOfCanvas [vR 0 o0, vI x1] ν3 (fun r6 ν5 =>
        Q (some (vI r6)) ν5)))))) :
    ZW f_X7_costWith 0 [vR 0 o0, vI x1] [] μ Q := mvc_at zcd zml (C := zc81) rfl 23 0 h
theorem vc_X7_difference_0 {μ : mzM} {Q : Option mzV → mzM → Prop} {o0 x1 x2 : Int} (h :
    ZI f_X6_isImage [vR 1 0, vI x1] μ (fun r2 ν1 =>
    (if r2 = 0 then
    Q (some (vI (-1))) ν1
    else
    ZI f_X6_isImage [vR 1 0, vI x2] ν1 (fun r4 ν3 =>
      (if r4 = 0 then
      Q (some (vI (-1))) ν3
      else
      ZI f_X6_isReadable [vR 1 0, vI x1] ν3 (fun r6 ν5 =>
        (if r6 = 0 then
        Q (some (vI (-2))) ν5
        else
        ZI f_X6_isReadable [vR 1 0, vI x2] ν5 (fun r8 ν7 =>
          (if r8 = 0 then
          Q (some (vI (-2))) ν7
          else
          ZR f_X6_imageOf 3 [vR 1 0, vI x1] ν7 (fun r10 ν9 =>
            ZR f_X6_imageOf 3 [vR 1 0, vI x2] ν9 (fun r12 ν11 =>
            ZI f_X2_cellsUnlike [vR 3 r10, vR 3 r12] ν11 (fun r14 ν13 =>
            Q (some (vI r14)) ν13)))))))))))) :
    ZW f_X7_difference 0 [vR 0 o0, vI x1, vI x2] [] μ Q := mvc_at zcd zml (C := zc82) rfl 39 0 h
theorem vc_X7_findBlock_0 {μ : mzM} {Q : Option mzV → mzM → Prop} {o0 x1 x2 : Int} (h :
    ZI f_X6_isFrame [vR 1 0, vI x1] μ (fun r2 ν1 =>
    (if r2 = 0 then
    Q (some (vI (-1))) ν1
    else
    ZI f_X2_hasBlock [vR 3 78, vI x2] ν1 (fun r4 ν3 =>
      (if r4 = 0 then
      Q (some (vI (-1))) ν3
      else
      ZI f_X6_isReadable [vR 1 0, vI x1] ν3 (fun r6 ν5 =>
        (if r6 = 0 then
        Q (some (vI (-2))) ν5
        else
        ZR f_X6_imageOf 3 [vR 1 0, vI x1] ν5 (fun r8 ν7 =>
          ZI f_X2_left [vR 3 78, vI x2] ν7 (fun r10 ν9 =>
          ZI f_X2_top [vR 3 78, vI x2] ν9 (fun r12 ν11 =>
          ZW f_X7_findBlock 39 [vR 0 o0, vI x1, vI x2, vR 3 r8, vI r10, vI r12, vI 0, none] [] ν11 Q)))))))))) :
    ZW f_X7_findBlock 0 [vR 0 o0, vI x1, vI x2, none, none, none, none, none] [] μ Q := mvc_at zcd zml (C := zc83) rfl 80 0 h
theorem vc_X7_findBlock_39 {μ : mzM} {Q : Option mzV → mzM → Prop} {o0 o3 x1 x2 x4 x5 x6 : Int} {v7 : mzV} (h :
    (zin ((μ 3 o3 2) - 4) ∧ (if ((μ 3 o3 2) - 4) < x6 then
    Q (some (vI (-9))) μ
    else
    ZW f_X7_findBlock 47 [vR 0 o0, vI x1, vI x2, vR 3 o3, vI x4, vI x5, vI x6, vI 0] [] μ Q))) :
    ZW f_X7_findBlock 39 [vR 0 o0, vI x1, vI x2, vR 3 o3, vI x4, vI x5, vI x6, v7] [] μ Q := mvc_at zcd zml (C := zc83) rfl 80 39 h
theorem vc_X7_findBlock_47 {μ : mzM} {Q : Option mzV → mzM → Prop} {o0 o3 x1 x2 x4 x5 x6 x7 : Int} (h :
    (zin ((μ 3 o3 1) - 4) ∧ (if ((μ 3 o3 1) - 4) < x7 then
    (zin (x6 + 1) ∧ ZW f_X7_findBlock 39 [vR 0 o0, vI x1, vI x2, vR 3 o3, vI x4, vI x5, vI (x6 + 1), vI x7] [] μ Q)
    else
    ZI f_X2_samePart [vR 3 78, vI x4, vI x5, vR 3 o3, vI x7, vI x6] μ (fun r2 ν1 =>
      (if r2 = 0 then
      (zin (x7 + 1) ∧ ZW f_X7_findBlock 47 [vR 0 o0, vI x1, vI x2, vR 3 o3, vI x4, vI x5, vI x6, vI (x7 + 1)] [] ν1 Q)
      else
      (zin (100 * x7) ∧ (zin ((100 * x7) + x6) ∧ Q (some (vI ((100 * x7) + x6))) ν1))))))) :
    ZW f_X7_findBlock 47 [vR 0 o0, vI x1, vI x2, vR 3 o3, vI x4, vI x5, vI x6, vI x7] [] μ Q := mvc_at zcd zml (C := zc83) rfl 80 47 h
theorem vc_X7_falseMatches_0 {μ : mzM} {Q : Option mzV → mzM → Prop} {o0 x1 : Int} (h :
    ZI f_X6_isImage [vR 1 0, vI x1] μ (fun r2 ν1 =>
    (if r2 = 0 then
    Q (some (vI (-1))) ν1
    else
    ZI f_X6_isReadable [vR 1 0, vI x1] ν1 (fun r4 ν3 =>
      (if r4 = 0 then
      Q (some (vI (-2))) ν3
      else
      ZR f_X6_imageOf 3 [vR 1 0, vI x1] ν3 (fun r6 ν5 =>
        ZI f_X7_falsePairs [vR 0 o0, vR 3 r6] ν5 (fun r8 ν7 =>
        Q (some (vI r8)) ν7))))))) :
    ZW f_X7_falseMatches 0 [vR 0 o0, vI x1] [] μ Q := mvc_at zcd zml (C := zc84) rfl 26 0 h
theorem vc_X7_greatestSeek_0 {μ : mzM} {Q : Option mzV → mzM → Prop} {o0 : Int} (h :
    (if (μ 1 0 3) < 1 then
    Q (some (vI (-9))) μ
    else
    ZW f_X7_greatestSeek 11 [vR 0 o0, vI 0, vI 0] [] μ Q)) :
    ZW f_X7_greatestSeek 0 [vR 0 o0, none, none] [] μ Q := mvc_at zcd zml (C := zc85) rfl 32 0 h
theorem vc_X7_greatestSeek_11 {μ : mzM} {Q : Option mzV → mzM → Prop} {o0 x1 x2 : Int} (h :
    (if x2 < (μ 1 0 3) then
    ZI f_X6_seekCost [vR 1 0, vI x2] μ (fun r2 ν1 =>
      ZI f_J9_max_7cf53 [vI x1, vI r2] ν1 (fun r4 ν3 =>
      (zin (x2 + 1) ∧ ZW f_X7_greatestSeek 11 [vR 0 o0, vI r4, vI (x2 + 1)] [] ν3 Q)))
    else
    Q (some (vI x1)) μ)) :
    ZW f_X7_greatestSeek 11 [vR 0 o0, vI x1, vI x2] [] μ Q := mvc_at zcd zml (C := zc85) rfl 32 11 h
theorem vc_X7_dependents_0 {μ : mzM} {Q : Option mzV → mzM → Prop} {o0 x1 : Int} (h :
    ZI f_X6_isFrame [vR 1 0, vI x1] μ (fun r2 ν1 =>
    (if r2 = 0 then
    Q (some (vI (-1))) ν1
    else
    ZW f_X7_dependents 11 [vR 0 o0, vI x1, vI 0, vI 0] [] ν1 Q))) :
    ZW f_X7_dependents 0 [vR 0 o0, vI x1, none, none] [] μ Q := mvc_at zcd zml (C := zc86) rfl 32 0 h
theorem vc_X7_dependents_11 {μ : mzM} {Q : Option mzV → mzM → Prop} {o0 x1 x2 x3 : Int} (h :
    (if x3 < (μ 1 0 3) then
    ZI f_X6_chainHas [vR 1 0, vI x3, vI x1] μ (fun r2 ν1 =>
      (if r2 = 0 then
      (zin (x3 + 1) ∧ ZW f_X7_dependents 11 [vR 0 o0, vI x1, vI x2, vI (x3 + 1)] [] ν1 Q)
      else
      (zin (x2 + 1) ∧ (zin (x3 + 1) ∧ ZW f_X7_dependents 11 [vR 0 o0, vI x1, vI (x2 + 1), vI (x3 + 1)] [] ν1 Q))))
    else
    Q (some (vI x2)) μ)) :
    ZW f_X7_dependents 11 [vR 0 o0, vI x1, vI x2, vI x3] [] μ Q := mvc_at zcd zml (C := zc86) rfl 32 11 h
theorem vc_X7_patch_0 {μ : mzM} {Q : Option mzV → mzM → Prop} {o0 x1 : Int} (h :
    ZI f_X6_isFrame [vR 1 0, vI x1] μ (fun r2 ν1 =>
    (if r2 = 0 then
    Q (some (vI (-1))) ν1
    else
    ZR f_X6_frameAt 2 [vR 1 0, vI x1] ν1 (fun r4 ν3 =>
      (if (ν3 2 r4 4) = 0 then
      Q (some (vI (-2))) ν3
      else
      ZR f_X6_imageOf 3 [vR 1 0, vI x1] ν3 (fun r6 ν5 =>
        ZW f_X7_patch 26 [vR 0 o0, vI x1, vR 3 r6, vI (-9), vI 145, vI 0, none] [] ν5 Q)))))) :
    ZW f_X7_patch 0 [vR 0 o0, vI x1, none, none, none, none, none] [] μ Q := mvc_at zcd zml (C := zc87) rfl 59 0 h
theorem vc_X7_patch_26 {μ : mzM} {Q : Option mzV → mzM → Prop} {o0 o2 x1 x3 x4 x5 : Int} {v6 : mzV} (h :
    (if x5 < (μ 1 0 3) then
    ZI f_X6_isReadable [vR 1 0, vI x5] μ (fun r2 ν1 =>
      (if r2 = 0 then
      (zin (x5 + 1) ∧ ZW f_X7_patch 26 [vR 0 o0, vI x1, vR 3 o2, vI x3, vI x4, vI (x5 + 1), v6] [] ν1 Q)
      else
      ZR f_X6_imageOf 3 [vR 1 0, vI x5] ν1 (fun r4 ν3 =>
        ZI f_X2_cellsUnlike [vR 3 o2, vR 3 r4] ν3 (fun r6 ν5 =>
        (if r6 < x4 then
        (zin (x5 + 1) ∧ ZW f_X7_patch 26 [vR 0 o0, vI x1, vR 3 o2, vI x5, vI r6, vI (x5 + 1), vI r6] [] ν5 Q)
        else
        (zin (x5 + 1) ∧ ZW f_X7_patch 26 [vR 0 o0, vI x1, vR 3 o2, vI x3, vI x4, vI (x5 + 1), vI r6] [] ν5 Q))))))
    else
    Q (some (vI x3)) μ)) :
    ZW f_X7_patch 26 [vR 0 o0, vI x1, vR 3 o2, vI x3, vI x4, vI x5, v6] [] μ Q := mvc_at zcd zml (C := zc87) rfl 59 26 h
theorem vc_X7_planCost_0 {μ : mzM} {Q : Option mzV → mzM → Prop} {o0 : Int} (h :
    (if (μ 1 0 3) < 1 then
    Q (some (vI (-9))) μ
    else
    ZV f_X3_plan [vR 15 0, vR 1 0, vR 11 0, vR 2 77] μ (fun ν1 =>
      Q (some (vI (ν1 15 0 2))) ν1))) :
    ZW f_X7_planCost 0 [vR 0 o0] [] μ Q := mvc_at zcd zml (C := zc88) rfl 25 0 h
theorem vc_X7_planKeys_0 {μ : mzM} {Q : Option mzV → mzM → Prop} {o0 : Int} (h :
    (if (μ 1 0 3) < 1 then
    Q (some (vI (-9))) μ
    else
    ZV f_X3_plan [vR 15 0, vR 1 0, vR 11 0, vR 2 77] μ (fun ν1 =>
      Q (some (vI (ν1 15 0 3))) ν1))) :
    ZW f_X7_planKeys 0 [vR 0 o0] [] μ Q := mvc_at zcd zml (C := zc89) rfl 25 0 h
theorem vc_X7_undo_0 {μ : mzM} {Q : Option mzV → mzM → Prop} {o0 : Int} (h :
    (if (μ 0 o0 3) < 1 then
    Q (some (vI (-2))) μ
    else
    (zin ((μ 0 o0 3) - 1) ∧ ZR f_X7_savedSlot 1 [vR 0 o0, vI ((mup μ 0 o0 3 ((μ 0 o0 3) - 1)) 0 o0 3)] (mup μ 0 o0 3 ((μ 0 o0 3) - 1)) (fun r2 ν1 =>
      ZV f_X6_take [vR 1 0, vR 1 r2] ν1 (fun ν3 =>
      Q (some (vI (ν3 0 o0 3))) ν3))))) :
    ZW f_X7_undo 0 [vR 0 o0] [] μ Q := mvc_at zcd zml (C := zc90) rfl 27 0 h
theorem vc_X7_isSize_0 {μ : mzM} {Q : Option mzV → mzM → Prop} {x0 : Int} (h :
    (if x0 = 4 then
    Q (some (vI 1)) μ
    else
    (if x0 = 8 then
      Q (some (vI 1)) μ
      else
      (if x0 = 12 then
        Q (some (vI 1)) μ
        else
        Q (some (vI 0)) μ)))) :
    ZW f_X7_isSize 0 [vI x0] [] μ Q := mvc_at zcd zml (C := zc91) rfl 18 0 h
theorem vc_X7_save_0 {μ : mzM} {Q : Option mzV → mzM → Prop} {o0 : Int} (h :
    ZR f_X7_savedSlot 1 [vR 0 o0, vI (μ 0 o0 3)] μ (fun r2 ν1 =>
    ZV f_X6_take [vR 1 r2, vR 1 0] ν1 (fun ν3 =>
    (if (ν3 0 o0 3) < 6 then
    (zin ((ν3 0 o0 3) + 1) ∧ Q none (mup ν3 0 o0 3 ((ν3 0 o0 3) + 1)))
    else
    (zin ((ν3 0 o0 2) + 1) ∧ ((6 : Int) ≠ 0 ∧ Q none (mup ν3 0 o0 2 (Int.tmod ((ν3 0 o0 2) + 1) 6)))))))) :
    ZW f_X7_save 0 [vR 0 o0] [] μ Q := mvc_at zcd zml (C := zc92) rfl 32 0 h
theorem vc_X7_savedSlot_0 {μ : mzM} {Q : Option mzV → mzM → Prop} {o0 x1 : Int} (h :
    (zin ((μ 0 o0 2) + x1) ∧ ZI f_J9_floorMod_7cf53 [vI ((μ 0 o0 2) + x1), vI 6] μ (fun r2 ν1 =>
    ((0 ≤ r2 ∧ r2 < 6) ∧ Q (some (vR 1 (1 + r2))) ν1)))) :
    ZW f_X7_savedSlot 0 [vR 0 o0, vI x1] [] μ Q := mvc_at zcd zml (C := zc93) rfl 15 0 h
theorem vc_X7_add_0 {μ : mzM} {Q : Option mzV → mzM → Prop} {o0 x1 : Int} (h :
    ZV f_X7_save [vR 0 o0] μ (fun ν1 =>
    ZR f_X6_frameAt 2 [vR 1 0, vI (ν1 1 0 3)] ν1 (fun r3 ν2 =>
    ZV f_X2_take [vR 3 r3, vR 3 78] ν2 (fun ν4 =>
    ZV f_X0_encode [vR 11 0, vR 2 r3, vR 1 0, vI x1] ν4 (fun ν5 =>
    (zin ((ν5 1 0 3) + 1) ∧ Q (some (vI ((mup ν5 1 0 3 ((ν5 1 0 3) + 1)) 2 r3 3))) (mup ν5 1 0 3 ((ν5 1 0 3) + 1)))))))) :
    ZW f_X7_add 0 [vR 0 o0, vI x1, none] [] μ Q := mvc_at zcd zml (C := zc94) rfl 37 0 h
theorem vc_X7_costOfCanvas_0 {μ : mzM} {Q : Option mzV → mzM → Prop} {o0 x1 : Int} (h :
    ZV f_X2_take [vR 3 77, vR 3 78] μ (fun ν1 =>
    ZV f_X0_encode [vR 11 0, vR 2 77, vR 1 0, vI x1] ν1 (fun ν2 =>
    Q (some (vI (ν2 2 77 3))) ν2))) :
    ZW f_X7_costOfCanvas 0 [vR 0 o0, vI x1] [] μ Q := mvc_at zcd zml (C := zc95) rfl 24 0 h
theorem vc_X7_chosenReference_0 {μ : mzM} {Q : Option mzV → mzM → Prop} {o0 : Int} (h :
    ZI f_X7_costOfCanvas [vR 0 o0, vI (-1)] μ (fun r2 ν1 =>
    ZW f_X7_chosenReference 10 [vR 0 o0, vI (-1), vI r2, vI 0, vI 0, none, none] [] ν1 Q)) :
    ZW f_X7_chosenReference 0 [vR 0 o0, none, none, none, none, none, none] [] μ Q := mvc_at zcd zml (C := zc96) rfl 56 0 h
theorem vc_X7_chosenReference_10 {μ : mzM} {Q : Option mzV → mzM → Prop} {o0 x1 x2 x3 x4 : Int} {v5 v6 : mzV} (h :
    (if x4 < (μ 1 0 3) then
    ZI f_X6_mayBeReference [vR 1 0, vI x4] μ (fun r2 ν1 =>
      (if r2 = 0 then
      (zin (x4 + 1) ∧ ZW f_X7_chosenReference 10 [vR 0 o0, vI x1, vI x2, vI x3, vI (x4 + 1), v5, v6] [] ν1 Q)
      else
      ZI f_X7_costOfCanvas [vR 0 o0, vI x4] ν1 (fun r4 ν3 =>
        ZI f_X6_depthOf [vR 1 0, vI x4] ν3 (fun r6 ν5 =>
        (zin (r6 + 1) ∧ (if r4 < x2 then
        (zin (x4 + 1) ∧ ZW f_X7_chosenReference 10 [vR 0 o0, vI x4, vI r4, vI (r6 + 1), vI (x4 + 1), vI r4, vI (r6 + 1)] [] ν5 Q)
        else
        (if r4 = x2 then
          (if x3 < (r6 + 1) then
            (zin (x4 + 1) ∧ ZW f_X7_chosenReference 10 [vR 0 o0, vI x1, vI x2, vI x3, vI (x4 + 1), vI r4, vI (r6 + 1)] [] ν5 Q)
            else
            (zin (x4 + 1) ∧ ZW f_X7_chosenReference 10 [vR 0 o0, vI x4, vI r4, vI (r6 + 1), vI (x4 + 1), vI r4, vI (r6 + 1)] [] ν5 Q))
          else
          (zin (x4 + 1) ∧ ZW f_X7_chosenReference 10 [vR 0 o0, vI x1, vI x2, vI x3, vI (x4 + 1), vI r4, vI (r6 + 1)] [] ν5 Q))))))))
    else
    Q (some (vI x1)) μ)) :
    ZW f_X7_chosenReference 10 [vR 0 o0, vI x1, vI x2, vI x3, vI x4, v5, v6] [] μ Q := mvc_at zcd zml (C := zc96) rfl 56 10 h
theorem vc_X7_falsePairs_0 {μ : mzM} {Q : Option mzV → mzM → Prop} {o0 o1 : Int} (h :
    (zin ((μ 3 o1 1) - 4) ∧ (zin (((μ 3 o1 1) - 4) + 1) ∧ (zin ((μ 3 o1 2) - 4) ∧ (zin (((μ 3 o1 2) - 4) + 1) ∧ (zin ((((μ 3 o1 1) - 4) + 1) * (((μ 3 o1 2) - 4) + 1)) ∧ ZI f_J9_min_7cf53 [vI 81, vI ((((μ 3 o1 1) - 4) + 1) * (((μ 3 o1 2) - 4) + 1))] μ (fun r2 ν1 =>
    (if (((μ 3 o1 1) - 4) + 1) < 1 then
    Q (some (vI 0)) ν1
    else
    ZW f_X7_falsePairs 27 [vR 0 o0, vR 3 o1, vI (((μ 3 o1 1) - 4) + 1), vI r2, vI 0, none, none] [] ν1 Q)))))))) :
    ZW f_X7_falsePairs 0 [vR 0 o0, vR 3 o1, none, none, none, none, none] [] μ Q := mvc_at zcd zml (C := zc97) rfl 95 0 h
theorem vc_X7_falsePairs_27 {μ : mzM} {Q : Option mzV → mzM → Prop} {o0 o1 x2 x3 x4 : Int} (h :
    (if x4 < x3 then
    (x2 ≠ 0 ∧ ((x2 ≠ 0 ∧ zin (Int.tdiv x4 x2)) ∧ ZI f_X2_partDigest [vR 3 o1, vI (Int.tmod x4 x2), vI (Int.tdiv x4 x2)] μ (fun r2 ν1 =>
      ((0 ≤ x4 ∧ x4 < 81) ∧ (zin (x4 + 1) ∧ ZW f_X7_falsePairs 27 [vR 0 o0, vR 3 o1, vI x2, vI x3, vI (x4 + 1), none, none] [] (mup ν1 18 0 x4 r2) Q)))))
    else
    ZW f_X7_falsePairs 48 [vR 0 o0, vR 3 o1, vI x2, vI x3, vI 0, vI 0, none] [] μ Q)) :
    ZW f_X7_falsePairs 27 [vR 0 o0, vR 3 o1, vI x2, vI x3, vI x4, none, none] [] μ Q := mvc_at zcd zml (C := zc97) rfl 95 27 h
theorem vc_X7_falsePairs_48 {μ : mzM} {Q : Option mzV → mzM → Prop} {o0 o1 x2 x3 x4 x5 : Int} {v6 : mzV} (h :
    (if x5 < x3 then
    (zin (x5 + 1) ∧ ZW f_X7_falsePairs 55 [vR 0 o0, vR 3 o1, vI x2, vI x3, vI x4, vI x5, vI (x5 + 1)] [] μ Q)
    else
    Q (some (vI x4)) μ)) :
    ZW f_X7_falsePairs 48 [vR 0 o0, vR 3 o1, vI x2, vI x3, vI x4, vI x5, v6] [] μ Q := mvc_at zcd zml (C := zc97) rfl 95 48 h
theorem vc_X7_falsePairs_55 {μ : mzM} {Q : Option mzV → mzM → Prop} {o0 o1 x2 x3 x4 x5 x6 : Int} (h :
    (if x6 < x3 then
    ((0 ≤ x5 ∧ x5 < 81) ∧ ((0 ≤ x6 ∧ x6 < 81) ∧ (if (μ 18 0 x5) = (μ 18 0 x6) then
      (x2 ≠ 0 ∧ ((x2 ≠ 0 ∧ zin (Int.tdiv x5 x2)) ∧ (x2 ≠ 0 ∧ ((x2 ≠ 0 ∧ zin (Int.tdiv x6 x2)) ∧ ZI f_X2_samePart [vR 3 o1, vI (Int.tmod x5 x2), vI (Int.tdiv x5 x2), vR 3 o1, vI (Int.tmod x6 x2), vI (Int.tdiv x6 x2)] μ (fun r2 ν1 =>
        (if r2 = 0 then
        (zin (x4 + 1) ∧ (zin (x6 + 1) ∧ ZW f_X7_falsePairs 55 [vR 0 o0, vR 3 o1, vI x2, vI x3, vI (x4 + 1), vI x5, vI (x6 + 1)] [] ν1 Q))
        else
        (zin (x6 + 1) ∧ ZW f_X7_falsePairs 55 [vR 0 o0, vR 3 o1, vI x2, vI x3, vI x4, vI x5, vI (x6 + 1)] [] ν1 Q)))))))
      else
      (zin (x6 + 1) ∧ ZW f_X7_falsePairs 55 [vR 0 o0, vR 3 o1, vI x2, vI x3, vI x4, vI x5, vI (x6 + 1)] [] μ Q))))
    else
    (zin (x5 + 1) ∧ ZW f_X7_falsePairs 48 [vR 0 o0, vR 3 o1, vI x2, vI x3, vI x4, vI (x5 + 1), vI x6] [] μ Q))) :
    ZW f_X7_falsePairs 55 [vR 0 o0, vR 3 o1, vI x2, vI x3, vI x4, vI x5, vI x6] [] μ Q := mvc_at zcd zml (C := zc97) rfl 95 55 h
theorem vc_X8_in_0 {μ : mzM} {Q : Option mzV → mzM → Prop} {x0 x1 x2 : Int} (h :
    (if x0 < x1 then
    Q (some (vI 0)) μ
    else
    (if x2 < x0 then
      Q (some (vI 0)) μ
      else
      Q (some (vI 1)) μ))) :
    ZW f_X8_in 0 [vI x0, vI x1, vI x2] [] μ Q := mvc_at zcd zml (C := zc98) rfl 15 0 h
theorem vc_X8_note_0 {μ : mzM} {Q : Option mzV → mzM → Prop} {o0 : Int} (h :
    (if (μ 20 o0 2) = 6 then
    ZW f_X8_note 6 [vR 20 o0, vI 0] [] μ Q
    else
    ZW f_X8_note 29 [vR 20 o0, vI 0] [] μ Q)) :
    ZW f_X8_note 0 [vR 20 o0, none] [] μ Q := mvc_at zcd zml (C := zc99) rfl 59 0 h
theorem vc_X8_note_6 {μ : mzM} {Q : Option mzV → mzM → Prop} {o0 x1 : Int} (h :
    (if x1 < 9400 then
    (zin (x1 + 1880) ∧ ((0 ≤ (x1 + 1880) ∧ (x1 + 1880) < 11280) ∧ ((0 ≤ x1 ∧ x1 < 11280) ∧ (zin (x1 + 1) ∧ ZW f_X8_note 6 [vR 20 o0, vI (x1 + 1)] [] (mup μ 22 0 x1 (μ 22 0 (x1 + 1880))) Q))))
    else
    (zin ((μ 20 o0 2) - 1) ∧ ZW f_X8_note 29 [vR 20 o0, vI 0] [] (mup μ 20 o0 2 ((μ 20 o0 2) - 1)) Q))) :
    ZW f_X8_note 6 [vR 20 o0, vI x1] [] μ Q := mvc_at zcd zml (C := zc99) rfl 59 6 h
theorem vc_X8_note_29 {μ : mzM} {Q : Option mzV → mzM → Prop} {o0 x1 : Int} (h :
    (if x1 < 1880 then
    (zin (1880 * (μ 20 o0 2)) ∧ (zin ((1880 * (μ 20 o0 2)) + x1) ∧ ((0 ≤ x1 ∧ x1 < 1880) ∧ ((0 ≤ ((1880 * (μ 20 o0 2)) + x1) ∧ ((1880 * (μ 20 o0 2)) + x1) < 11280) ∧ (zin (x1 + 1) ∧ ZW f_X8_note 29 [vR 20 o0, vI (x1 + 1)] [] (mup μ 22 0 ((1880 * (μ 20 o0 2)) + x1) (μ 21 0 x1)) Q)))))
    else
    (zin ((μ 20 o0 2) + 1) ∧ Q none (mup μ 20 o0 2 ((μ 20 o0 2) + 1))))) :
    ZW f_X8_note 29 [vR 20 o0, vI x1] [] μ Q := mvc_at zcd zml (C := zc99) rfl 59 29 h
theorem vc_X8_undo_0 {μ : mzM} {Q : Option mzV → mzM → Prop} {o0 : Int} (h :
    (if (μ 20 o0 2) = 0 then
    Q (some (vI (-2))) μ
    else
    (zin ((μ 20 o0 2) - 1) ∧ ZW f_X8_undo 13 [vR 20 o0, vI 0] [] (mup μ 20 o0 2 ((μ 20 o0 2) - 1)) Q))) :
    ZW f_X8_undo 0 [vR 20 o0, none] [] μ Q := mvc_at zcd zml (C := zc100) rfl 39 0 h
theorem vc_X8_undo_13 {μ : mzM} {Q : Option mzV → mzM → Prop} {o0 x1 : Int} (h :
    (if x1 < 1880 then
    (zin (1880 * (μ 20 o0 2)) ∧ (zin ((1880 * (μ 20 o0 2)) + x1) ∧ ((0 ≤ ((1880 * (μ 20 o0 2)) + x1) ∧ ((1880 * (μ 20 o0 2)) + x1) < 11280) ∧ ((0 ≤ x1 ∧ x1 < 1880) ∧ (zin (x1 + 1) ∧ ZW f_X8_undo 13 [vR 20 o0, vI (x1 + 1)] [] (mup μ 21 0 x1 (μ 22 0 ((1880 * (μ 20 o0 2)) + x1))) Q)))))
    else
    Q (some (vI (μ 20 o0 2))) μ)) :
    ZW f_X8_undo 13 [vR 20 o0, vI x1] [] μ Q := mvc_at zcd zml (C := zc100) rfl 39 13 h
theorem vc_X8_cells_0 {μ : mzM} {Q : Option mzV → mzM → Prop} {o0 : Int} (h :
    ((0 ≤ (0 : Int) ∧ (0 : Int) < 1880) ∧ ((0 ≤ (1 : Int) ∧ (1 : Int) < 1880) ∧ (zin ((μ 21 0 0) * (μ 21 0 1)) ∧ Q (some (vI ((μ 21 0 0) * (μ 21 0 1)))) μ)))) :
    ZW f_X8_cells 0 [vR 20 o0] [] μ Q := mvc_at zcd zml (C := zc101) rfl 15 0 h
theorem vc_X8_blocks_0 {μ : mzM} {Q : Option mzV → mzM → Prop} {o0 : Int} (h :
    ZI f_X8_cells [vR 20 o0] μ (fun r2 ν1 =>
    (((16 : Int) ≠ 0 ∧ zin (Int.tdiv r2 16)) ∧ Q (some (vI (Int.tdiv r2 16))) ν1))) :
    ZW f_X8_blocks 0 [vR 20 o0] [] μ Q := mvc_at zcd zml (C := zc102) rfl 10 0 h
theorem vc_X8_isFrame_0 {μ : mzM} {Q : Option mzV → mzM → Prop} {o0 x1 : Int} (h :
    ((0 ≤ (2 : Int) ∧ (2 : Int) < 1880) ∧ (zin ((μ 21 0 2) - 1) ∧ ZI f_X8_in [vI x1, vI 0, vI ((μ 21 0 2) - 1)] μ (fun r2 ν1 =>
    Q (some (vI (r2 % 2))) ν1)))) :
    ZW f_X8_isFrame 0 [vR 20 o0, vI x1] [] μ Q := mvc_at zcd zml (C := zc103) rfl 15 0 h
theorem vc_X8_value_0 {μ : mzM} {Q : Option mzV → mzM → Prop} {o0 x1 x2 : Int} (h :
    (if x1 < 0 then
    (zin (6 + x2) ∧ ((0 ≤ (6 + x2) ∧ (6 + x2) < 1880) ∧ Q (some (vI (μ 21 0 (6 + x2)))) μ))
    else
    (zin (144 * x1) ∧ (zin (150 + (144 * x1)) ∧ (zin ((150 + (144 * x1)) + x2) ∧ ((0 ≤ ((150 + (144 * x1)) + x2) ∧ ((150 + (144 * x1)) + x2) < 1880) ∧ Q (some (vI (μ 21 0 ((150 + (144 * x1)) + x2)))) μ)))))) :
    ZW f_X8_value 0 [vR 20 o0, vI x1, vI x2] [] μ Q := mvc_at zcd zml (C := zc104) rfl 25 0 h
theorem vc_X8_reference_0 {μ : mzM} {Q : Option mzV → mzM → Prop} {o0 x1 : Int} (h :
    (zin (1590 + x1) ∧ ((0 ≤ (1590 + x1) ∧ (1590 + x1) < 1880) ∧ Q (some (vI (μ 21 0 (1590 + x1)))) μ))) :
    ZW f_X8_reference 0 [vR 20 o0, vI x1] [] μ Q := mvc_at zcd zml (C := zc105) rfl 12 0 h
theorem vc_X8_depthOf_0 {μ : mzM} {Q : Option mzV → mzM → Prop} {o0 x1 : Int} (h :
    ZW f_X8_depthOf 4 [vR 20 o0, vI x1, vI 0, vI x1] [] μ Q) :
    ZW f_X8_depthOf 0 [vR 20 o0, vI x1, none, none] [] μ Q := mvc_at zcd zml (C := zc106) rfl 22 0 h
theorem vc_X8_depthOf_4 {μ : mzM} {Q : Option mzV → mzM → Prop} {o0 x1 x2 x3 : Int} (h :
    ZI f_X8_reference [vR 20 o0, vI x3] μ (fun r2 ν1 =>
    (if r2 = (-1) then
    Q (some (vI x2)) ν1
    else
    (zin (x2 + 1) ∧ ZI f_X8_reference [vR 20 o0, vI x3] ν1 (fun r4 ν3 =>
      ZW f_X8_depthOf 4 [vR 20 o0, vI x1, vI (x2 + 1), vI r4] [] ν3 Q))))) :
    ZW f_X8_depthOf 4 [vR 20 o0, vI x1, vI x2, vI x3] [] μ Q := mvc_at zcd zml (C := zc106) rfl 22 4 h
theorem vc_X8_isGood_0 {μ : mzM} {Q : Option mzV → mzM → Prop} {o0 x1 : Int} (h :
    (zin (1600 + x1) ∧ ((0 ≤ (1600 + x1) ∧ (1600 + x1) < 1880) ∧ (if (μ 21 0 (1600 + x1)) = 0 then
    ZW f_X8_isGood 13 [vR 20 o0, vI x1, vI 1, vI x1] [] μ Q
    else
    ZW f_X8_isGood 13 [vR 20 o0, vI x1, vI 0, vI x1] [] μ Q)))) :
    ZW f_X8_isGood 0 [vR 20 o0, vI x1, none, none] [] μ Q := mvc_at zcd zml (C := zc107) rfl 45 0 h
theorem vc_X8_isGood_13 {μ : mzM} {Q : Option mzV → mzM → Prop} {o0 x1 x2 x3 : Int} (h :
    ZI f_X8_reference [vR 20 o0, vI x3] μ (fun r2 ν1 =>
    (if r2 = (-1) then
    Q (some (vI (x2 % 2))) ν1
    else
    (if x2 = 0 then
      Q (some (vI (x2 % 2))) ν1
      else
      ZI f_X8_reference [vR 20 o0, vI x3] ν1 (fun r4 ν3 =>
        (zin (1600 + r4) ∧ ((0 ≤ (1600 + r4) ∧ (1600 + r4) < 1880) ∧ (if (ν3 21 0 (1600 + r4)) = 0 then
        ZI f_X8_reference [vR 20 o0, vI x3] ν3 (fun r6 ν5 =>
          ZW f_X8_isGood 13 [vR 20 o0, vI x1, vI 1, vI r6] [] ν5 Q)
        else
        ZI f_X8_reference [vR 20 o0, vI x3] ν3 (fun r8 ν7 =>
          ZW f_X8_isGood 13 [vR 20 o0, vI x1, vI 0, vI r8] [] ν7 Q))))))))) :
    ZW f_X8_isGood 13 [vR 20 o0, vI x1, vI x2, vI x3] [] μ Q := mvc_at zcd zml (C := zc107) rfl 45 13 h
theorem vc_X8_goods_0 {μ : mzM} {Q : Option mzV → mzM → Prop} {o0 : Int} (h :
    ZW f_X8_goods 4 [vR 20 o0, vI 0, vI 0] [] μ Q) :
    ZW f_X8_goods 0 [vR 20 o0, none, none] [] μ Q := mvc_at zcd zml (C := zc108) rfl 29 0 h
theorem vc_X8_goods_4 {μ : mzM} {Q : Option mzV → mzM → Prop} {o0 x1 x2 : Int} (h :
    ((0 ≤ (2 : Int) ∧ (2 : Int) < 1880) ∧ (if x2 < (μ 21 0 2) then
    ZI f_X8_isGood [vR 20 o0, vI x2] μ (fun r2 ν1 =>
      (if r2 = 0 then
      (zin (x1 + 0) ∧ (zin (x2 + 1) ∧ ZW f_X8_goods 4 [vR 20 o0, vI (x1 + 0), vI (x2 + 1)] [] ν1 Q))
      else
      (zin (x1 + 1) ∧ (zin (x2 + 1) ∧ ZW f_X8_goods 4 [vR 20 o0, vI (x1 + 1), vI (x2 + 1)] [] ν1 Q))))
    else
    Q (some (vI x1)) μ))) :
    ZW f_X8_goods 4 [vR 20 o0, vI x1, vI x2] [] μ Q := mvc_at zcd zml (C := zc108) rfl 29 4 h
theorem vc_X8_setSize_0 {μ : mzM} {Q : Option mzV → mzM → Prop} {o0 x1 x2 : Int} (h :
    ((4 : Int) ≠ 0 ∧ (if (Int.tmod x1 4) = 0 then
    ((4 : Int) ≠ 0 ∧ (if (Int.tmod x2 4) = 0 then
      ZI f_X8_in [vI x1, vI 4, vI 12] μ (fun r2 ν1 =>
        (if r2 = 0 then
        Q (some (vI (-1))) ν1
        else
        ZI f_X8_in [vI x2, vI 4, vI 12] ν1 (fun r4 ν3 =>
          (if r4 = 0 then
          Q (some (vI (-1))) ν3
          else
          ZV f_X8_note [vR 20 o0] ν3 (fun ν5 =>
            ((0 ≤ (0 : Int) ∧ (0 : Int) < 1880) ∧ ((0 ≤ (1 : Int) ∧ (1 : Int) < 1880) ∧ ((0 ≤ (2 : Int) ∧ (2 : Int) < 1880) ∧ ZW f_X8_setSize 39 [vR 20 o0, vI x1, vI x2, vI 6] [] (mup (mup (mup ν5 21 0 0 x1) 21 0 1 x2) 21 0 2 0) Q))))))))
      else
      Q (some (vI (-1))) μ))
    else
    Q (some (vI (-1))) μ))) :
    ZW f_X8_setSize 0 [vR 20 o0, vI x1, vI x2, none] [] μ Q := mvc_at zcd zml (C := zc109) rfl 57 0 h
theorem vc_X8_setSize_39 {μ : mzM} {Q : Option mzV → mzM → Prop} {o0 x1 x2 x3 : Int} (h :
    (if x3 < 1880 then
    ((0 ≤ x3 ∧ x3 < 1880) ∧ (zin (x3 + 1) ∧ ZW f_X8_setSize 39 [vR 20 o0, vI x1, vI x2, vI (x3 + 1)] [] (mup μ 21 0 x3 0) Q))
    else
    ZI f_X8_blocks [vR 20 o0] μ (fun r2 ν1 =>
      Q (some (vI r2)) ν1))) :
    ZW f_X8_setSize 39 [vR 20 o0, vI x1, vI x2, vI x3] [] μ Q := mvc_at zcd zml (C := zc109) rfl 57 39 h
theorem vc_X8_isCell_0 {μ : mzM} {Q : Option mzV → mzM → Prop} {o0 x1 : Int} (h :
    ZI f_X8_cells [vR 20 o0] μ (fun r2 ν1 =>
    (zin (r2 - 1) ∧ ZI f_X8_in [vI x1, vI 0, vI (r2 - 1)] ν1 (fun r4 ν3 =>
    Q (some (vI (r4 % 2))) ν3)))) :
    ZW f_X8_isCell 0 [vR 20 o0, vI x1] [] μ Q := mvc_at zcd zml (C := zc110) rfl 13 0 h
theorem vc_X8_setCell_0 {μ : mzM} {Q : Option mzV → mzM → Prop} {o0 x1 x2 : Int} (h :
    ZI f_X8_isCell [vR 20 o0, vI x1] μ (fun r2 ν1 =>
    (if r2 = 0 then
    Q (some (vI (-1))) ν1
    else
    ZI f_X8_in [vI x2, vI 0, vI 15] ν1 (fun r4 ν3 =>
      (if r4 = 0 then
      Q (some (vI (-1))) ν3
      else
      ZV f_X8_note [vR 20 o0] ν3 (fun ν5 =>
        (zin (6 + x1) ∧ ((0 ≤ (6 + x1) ∧ (6 + x1) < 1880) ∧ (zin (6 + x1) ∧ ((0 ≤ (6 + x1) ∧ (6 + x1) < 1880) ∧ Q (some (vI (ν5 21 0 (6 + x1)))) (mup ν5 21 0 (6 + x1) x2))))))))))) :
    ZW f_X8_setCell 0 [vR 20 o0, vI x1, vI x2, none] [] μ Q := mvc_at zcd zml (C := zc111) rfl 34 0 h
theorem vc_X8_cell_0 {μ : mzM} {Q : Option mzV → mzM → Prop} {o0 x1 : Int} (h :
    ZI f_X8_isCell [vR 20 o0, vI x1] μ (fun r2 ν1 =>
    (if r2 = 0 then
    Q (some (vI (-1))) ν1
    else
    (zin (6 + x1) ∧ ((0 ≤ (6 + x1) ∧ (6 + x1) < 1880) ∧ Q (some (vI (ν1 21 0 (6 + x1)))) ν1))))) :
    ZW f_X8_cell 0 [vR 20 o0, vI x1] [] μ Q := mvc_at zcd zml (C := zc112) rfl 18 0 h
theorem vc_X8_appendCharacter_0 {μ : mzM} {Q : Option mzV → mzM → Prop} {o0 x1 : Int} (h :
    ZI f_X8_in [vI x1, vI 0, vI 255] μ (fun r2 ν1 =>
    (if r2 = 0 then
    Q (some (vI (-1))) ν1
    else
    (if (ν1 20 o0 4) = 160 then
      Q (some (vI (-3))) ν1
      else
      ((0 ≤ (ν1 20 o0 4) ∧ (ν1 20 o0 4) < 160) ∧ (zin (((mup ν1 23 0 (ν1 20 o0 4) (zb (zb x1))) 20 o0 4) + 1) ∧ Q (some (vI ((mup (mup ν1 23 0 (ν1 20 o0 4) (zb (zb x1))) 20 o0 4 (((mup ν1 23 0 (ν1 20 o0 4) (zb (zb x1))) 20 o0 4) + 1)) 20 o0 4))) (mup (mup ν1 23 0 (ν1 20 o0 4) (zb (zb x1))) 20 o0 4 (((mup ν1 23 0 (ν1 20 o0 4) (zb (zb x1))) 20 o0 4) + 1)))))))) :
    ZW f_X8_appendCharacter 0 [vR 20 o0, vI x1] [] μ Q := mvc_at zcd zml (C := zc113) rfl 34 0 h
theorem vc_X8_clearText_0 {μ : mzM} {Q : Option mzV → mzM → Prop} {o0 : Int} (h :
    Q (some (vI (μ 20 o0 4))) (mup μ 20 o0 4 0)) :
    ZW f_X8_clearText 0 [vR 20 o0, none] [] μ Q := mvc_at zcd zml (C := zc114) rfl 13 0 h
theorem vc_X8_here_0 {μ : mzM} {Q : Option mzV → mzM → Prop} {o0 : Int} (h :
    (if (μ 20 o0 5) < (μ 20 o0 4) then
    ((0 ≤ (μ 20 o0 5) ∧ (μ 20 o0 5) < 160) ∧ Q (some (vI (zand (μ 23 0 (μ 20 o0 5)) 255))) μ)
    else
    Q (some (vI (-1))) μ)) :
    ZW f_X8_here 0 [vR 20 o0] [] μ Q := mvc_at zcd zml (C := zc115) rfl 20 0 h
theorem vc_X8_readsToken_0 {μ : mzM} {Q : Option mzV → mzM → Prop} {o0 : Int} (h :
    ZI f_X8_here [vR 20 o0] μ (fun r2 ν1 =>
    (if r2 = 32 then
    (zin ((ν1 20 o0 5) + 1) ∧ ZW f_X8_readsToken 0 [vR 20 o0, none] [] (mup ν1 20 o0 5 ((ν1 20 o0 5) + 1)) Q)
    else
    ZI f_X8_here [vR 20 o0] (mup (mup ν1 20 o0 6 (ν1 20 o0 5)) 33 o0 0 0) (fun r4 ν3 =>
      (if r4 = 45 then
      (if ((mup ν3 20 o0 9 1) 20 o0 9) = 0 then
        (zin (((mup ν3 20 o0 9 1) 20 o0 5) + 0) ∧ (if ((mup (mup ν3 20 o0 9 1) 20 o0 5 (((mup ν3 20 o0 9 1) 20 o0 5) + 0)) 20 o0 9) = 0 then
          ZI f_X8_here [vR 20 o0] (mup (mup ν3 20 o0 9 1) 20 o0 5 (((mup ν3 20 o0 9 1) 20 o0 5) + 0)) (fun r6 ν5 =>
            ZI f_X8_in [vI r6, vI 97, vI 122] ν5 (fun r8 ν7 =>
            (if r8 = 0 then
            ZW f_X8_readsToken 87 [vR 20 o0, none] [vR 20 o0] ν7 Q
            else
            ZW f_X8_readsToken 50 [vR 20 o0, none] [] (mup ν7 20 o0 7 1) Q)))
          else
          ZW f_X8_readsToken 87 [vR 20 o0, none] [vR 20 o0] (mup (mup ν3 20 o0 9 1) 20 o0 5 (((mup ν3 20 o0 9 1) 20 o0 5) + 0)) Q))
        else
        (zin (((mup ν3 20 o0 9 1) 20 o0 5) + 1) ∧ (if ((mup (mup ν3 20 o0 9 1) 20 o0 5 (((mup ν3 20 o0 9 1) 20 o0 5) + 1)) 20 o0 9) = 0 then
          ZI f_X8_here [vR 20 o0] (mup (mup ν3 20 o0 9 1) 20 o0 5 (((mup ν3 20 o0 9 1) 20 o0 5) + 1)) (fun r10 ν9 =>
            ZI f_X8_in [vI r10, vI 97, vI 122] ν9 (fun r12 ν11 =>
            (if r12 = 0 then
            ZW f_X8_readsToken 87 [vR 20 o0, none] [vR 20 o0] ν11 Q
            else
            ZW f_X8_readsToken 50 [vR 20 o0, none] [] (mup ν11 20 o0 7 1) Q)))
          else
          ZW f_X8_readsToken 87 [vR 20 o0, none] [vR 20 o0] (mup (mup ν3 20 o0 9 1) 20 o0 5 (((mup ν3 20 o0 9 1) 20 o0 5) + 1)) Q)))
      else
      (if ((mup ν3 20 o0 9 0) 20 o0 9) = 0 then
        (zin (((mup ν3 20 o0 9 0) 20 o0 5) + 0) ∧ (if ((mup (mup ν3 20 o0 9 0) 20 o0 5 (((mup ν3 20 o0 9 0) 20 o0 5) + 0)) 20 o0 9) = 0 then
          ZI f_X8_here [vR 20 o0] (mup (mup ν3 20 o0 9 0) 20 o0 5 (((mup ν3 20 o0 9 0) 20 o0 5) + 0)) (fun r14 ν13 =>
            ZI f_X8_in [vI r14, vI 97, vI 122] ν13 (fun r16 ν15 =>
            (if r16 = 0 then
            ZW f_X8_readsToken 87 [vR 20 o0, none] [vR 20 o0] ν15 Q
            else
            ZW f_X8_readsToken 50 [vR 20 o0, none] [] (mup ν15 20 o0 7 1) Q)))
          else
          ZW f_X8_readsToken 87 [vR 20 o0, none] [vR 20 o0] (mup (mup ν3 20 o0 9 0) 20 o0 5 (((mup ν3 20 o0 9 0) 20 o0 5) + 0)) Q))
        else
        (zin (((mup ν3 20 o0 9 0) 20 o0 5) + 1) ∧ (if ((mup (mup ν3 20 o0 9 0) 20 o0 5 (((mup ν3 20 o0 9 0) 20 o0 5) + 1)) 20 o0 9) = 0 then
          ZI f_X8_here [vR 20 o0] (mup (mup ν3 20 o0 9 0) 20 o0 5 (((mup ν3 20 o0 9 0) 20 o0 5) + 1)) (fun r18 ν17 =>
            ZI f_X8_in [vI r18, vI 97, vI 122] ν17 (fun r20 ν19 =>
            (if r20 = 0 then
            ZW f_X8_readsToken 87 [vR 20 o0, none] [vR 20 o0] ν19 Q
            else
            ZW f_X8_readsToken 50 [vR 20 o0, none] [] (mup ν19 20 o0 7 1) Q)))
          else
          ZW f_X8_readsToken 87 [vR 20 o0, none] [vR 20 o0] (mup (mup ν3 20 o0 9 0) 20 o0 5 (((mup ν3 20 o0 9 0) 20 o0 5) + 1)) Q)))))))) :
    ZW f_X8_readsToken 0 [vR 20 o0, none] [] μ Q := mvc_at zcd zml (C := zc116) rfl 191 0 h
theorem vc_X8_readsToken_50 {μ : mzM} {Q : Option mzV → mzM → Prop} {o0 : Int} (h :
    ZI f_X8_here [vR 20 o0] μ (fun r2 ν1 =>
    ZI f_X8_in [vI r2, vI 97, vI 122] ν1 (fun r4 ν3 =>
    (if r4 = 0 then
    Q none ν3
    else
    (zin ((ν3 20 o0 5) - (ν3 20 o0 6)) ∧ (if ((ν3 20 o0 5) - (ν3 20 o0 6)) < 8 then
      (zin6 (27 * (ν3 33 o0 0)) ∧ ZI f_X8_here [vR 20 o0] ν3 (fun r6 ν5 =>
        (zin6 ((27 * (ν3 33 o0 0)) + r6) ∧ (zin6 (((27 * (ν3 33 o0 0)) + r6) - 97) ∧ (zin6 ((((27 * (ν3 33 o0 0)) + r6) - 97) + 1) ∧ (zin (((mup ν5 33 o0 0 ((((27 * (ν3 33 o0 0)) + r6) - 97) + 1)) 20 o0 5) + 1) ∧ ZW f_X8_readsToken 50 [vR 20 o0, none] [] (mup (mup ν5 33 o0 0 ((((27 * (ν3 33 o0 0)) + r6) - 97) + 1)) 20 o0 5 (((mup ν5 33 o0 0 ((((27 * (ν3 33 o0 0)) + r6) - 97) + 1)) 20 o0 5) + 1)) Q))))))
      else
      (zin (((mup ν3 33 o0 0 (-1)) 20 o0 5) + 1) ∧ ZW f_X8_readsToken 50 [vR 20 o0, none] [] (mup (mup ν3 33 o0 0 (-1)) 20 o0 5 (((mup ν3 33 o0 0 (-1)) 20 o0 5) + 1)) Q))))))) :
    ZW f_X8_readsToken 50 [vR 20 o0, none] [] μ Q := mvc_at zcd zml (C := zc116) rfl 191 50 h
theorem vc_X8_readsToken_87 {μ : mzM} {Q : Option mzV → mzM → Prop} {o0 q0 : Int} (h :
    ZI f_X8_here [vR 20 q0] μ (fun r2 ν1 =>
    ZI f_X8_in [vI r2, vI 48, vI 57] ν1 (fun r4 ν3 =>
    (if r4 = 0 then
    (if (ν3 20 o0 9) = 0 then
      ZI f_X8_here [vR 20 o0] ν3 (fun r6 ν5 =>
        (if r6 < 0 then
        (if ((mup ν5 20 o0 7 0) 20 o0 9) = 0 then
          ZI f_X8_here [vR 20 o0] (mup ν5 20 o0 7 0) (fun r8 ν7 =>
            (if r8 < 0 then
            (zin (((mup ν5 20 o0 7 0) 20 o0 5) + 0) ∧ Q none (mup ν7 20 o0 5 (((mup ν5 20 o0 7 0) 20 o0 5) + 0)))
            else
            (zin (((mup ν5 20 o0 7 0) 20 o0 5) + 1) ∧ Q none (mup ν7 20 o0 5 (((mup ν5 20 o0 7 0) 20 o0 5) + 1)))))
          else
          (zin (((mup ν5 20 o0 7 0) 20 o0 5) + 0) ∧ Q none (mup (mup ν5 20 o0 7 0) 20 o0 5 (((mup ν5 20 o0 7 0) 20 o0 5) + 0))))
        else
        ZI f_X8_here [vR 20 o0] ν5 (fun r10 ν9 =>
          (if r10 = 59 then
          (if ((mup ν9 20 o0 7 3) 20 o0 9) = 0 then
            ZI f_X8_here [vR 20 o0] (mup ν9 20 o0 7 3) (fun r12 ν11 =>
              (if r12 < 0 then
              (zin (((mup ν9 20 o0 7 3) 20 o0 5) + 0) ∧ Q none (mup ν11 20 o0 5 (((mup ν9 20 o0 7 3) 20 o0 5) + 0)))
              else
              (zin (((mup ν9 20 o0 7 3) 20 o0 5) + 1) ∧ Q none (mup ν11 20 o0 5 (((mup ν9 20 o0 7 3) 20 o0 5) + 1)))))
            else
            (zin (((mup ν9 20 o0 7 3) 20 o0 5) + 0) ∧ Q none (mup (mup ν9 20 o0 7 3) 20 o0 5 (((mup ν9 20 o0 7 3) 20 o0 5) + 0))))
          else
          (if ((mup ν9 20 o0 7 4) 20 o0 9) = 0 then
            ZI f_X8_here [vR 20 o0] (mup ν9 20 o0 7 4) (fun r14 ν13 =>
              (if r14 < 0 then
              (zin (((mup ν9 20 o0 7 4) 20 o0 5) + 0) ∧ Q none (mup ν13 20 o0 5 (((mup ν9 20 o0 7 4) 20 o0 5) + 0)))
              else
              (zin (((mup ν9 20 o0 7 4) 20 o0 5) + 1) ∧ Q none (mup ν13 20 o0 5 (((mup ν9 20 o0 7 4) 20 o0 5) + 1)))))
            else
            (zin (((mup ν9 20 o0 7 4) 20 o0 5) + 0) ∧ Q none (mup (mup ν9 20 o0 7 4) 20 o0 5 (((mup ν9 20 o0 7 4) 20 o0 5) + 0))))))))
      else
      (if ((mup ν3 20 o0 7 4) 20 o0 9) = 0 then
        ZI f_X8_here [vR 20 o0] (mup ν3 20 o0 7 4) (fun r16 ν15 =>
          (if r16 < 0 then
          (zin (((mup ν3 20 o0 7 4) 20 o0 5) + 0) ∧ Q none (mup ν15 20 o0 5 (((mup ν3 20 o0 7 4) 20 o0 5) + 0)))
          else
          (zin (((mup ν3 20 o0 7 4) 20 o0 5) + 1) ∧ Q none (mup ν15 20 o0 5 (((mup ν3 20 o0 7 4) 20 o0 5) + 1)))))
        else
        (zin (((mup ν3 20 o0 7 4) 20 o0 5) + 0) ∧ Q none (mup (mup ν3 20 o0 7 4) 20 o0 5 (((mup ν3 20 o0 7 4) 20 o0 5) + 0)))))
    else
    ZW f_X8_readsToken 95 [vR 20 o0, vI (ν3 20 o0 5)] [] ν3 Q)))) :
    ZW f_X8_readsToken 87 [vR 20 o0, none] [vR 20 q0] μ Q := mvc_at zcd zml (C := zc116) rfl 191 87 h
theorem vc_X8_readsToken_95 {μ : mzM} {Q : Option mzV → mzM → Prop} {o0 x1 : Int} (h :
    ZI f_X8_here [vR 20 o0] μ (fun r2 ν1 =>
    ZI f_X8_in [vI r2, vI 48, vI 57] ν1 (fun r4 ν3 =>
    (if r4 = 0 then
    (zin ((ν3 20 o0 5) - x1) ∧ (if (2 : Int) < ((ν3 20 o0 5) - x1) then
      Q none (mup ν3 20 o0 7 4)
      else
      ((0 ≤ x1 ∧ x1 < 160) ∧ (if (ν3 23 0 x1) = 48 then
        (zin ((ν3 20 o0 5) - x1) ∧ (if (1 : Int) < ((ν3 20 o0 5) - x1) then
          Q none (mup ν3 20 o0 7 4)
          else
          Q none (mup ν3 20 o0 7 2)))
        else
        Q none (mup ν3 20 o0 7 2)))))
    else
    (if (zcmp (ν3 33 o0 0) 1000) < 0 then
      (zin6 (10 * (ν3 33 o0 0)) ∧ ZI f_X8_here [vR 20 o0] ν3 (fun r6 ν5 =>
        (zin6 ((10 * (ν3 33 o0 0)) + r6) ∧ (zin6 (((10 * (ν3 33 o0 0)) + r6) - 48) ∧ (zin (((mup ν5 33 o0 0 (((10 * (ν3 33 o0 0)) + r6) - 48)) 20 o0 5) + 1) ∧ ZW f_X8_readsToken 95 [vR 20 o0, vI x1] [] (mup (mup ν5 33 o0 0 (((10 * (ν3 33 o0 0)) + r6) - 48)) 20 o0 5 (((mup ν5 33 o0 0 (((10 * (ν3 33 o0 0)) + r6) - 48)) 20 o0 5) + 1)) Q)))))
      else
      (zin (((mup ν3 33 o0 0 (ν3 33 o0 0)) 20 o0 5) + 1) ∧ ZW f_X8_readsToken 95 [vR 20 o0, vI x1] [] (mup (mup ν3 33 o0 0 (ν3 33 o0 0)) 20 o0 5 (((mup ν3 33 o0 0 (ν3 33 o0 0)) 20 o0 5) + 1)) Q)))))) :
    ZW f_X8_readsToken 95 [vR 20 o0, vI x1] [] μ Q := mvc_at zcd zml (C := zc116) rfl 191 95 h
theorem vc_X8_takes_0 {μ : mzM} {Q : Option mzV → mzM → Prop} {o0 x1 : Int} (h :
    (if (μ 20 o0 10) = 0 then
    (if x1 = 0 then
      (if ((mup μ 20 o0 10 1) 20 o0 10) = 0 then
        ZV f_X8_readsToken [vR 20 o0] (mup μ 20 o0 10 1) (fun ν1 =>
          Q none ν1)
        else
        Q none (mup μ 20 o0 10 1))
      else
      (if ((mup μ 20 o0 10 0) 20 o0 10) = 0 then
        ZV f_X8_readsToken [vR 20 o0] (mup μ 20 o0 10 0) (fun ν2 =>
          Q none ν2)
        else
        Q none (mup μ 20 o0 10 0)))
    else
    (if ((mup μ 20 o0 10 1) 20 o0 10) = 0 then
      ZV f_X8_readsToken [vR 20 o0] (mup μ 20 o0 10 1) (fun ν3 =>
        Q none ν3)
      else
      Q none (mup μ 20 o0 10 1)))) :
    ZW f_X8_takes 0 [vR 20 o0, vI x1] [] μ Q := mvc_at zcd zml (C := zc117) rfl 21 0 h
theorem vc_X8_takesNumber_0 {μ : mzM} {Q : Option mzV → mzM → Prop} {o0 x1 x2 : Int} (h :
    (if (μ 20 o0 9) = 0 then
    (if (μ 20 o0 7) = 2 then
      ZI f_X8_in [vI (zw (μ 33 o0 0)), vI x1, vI x2] μ (fun r2 ν1 =>
        (if r2 = 0 then
        ZV f_X8_takes [vR 20 o0, vI 0] ν1 (fun ν3 =>
          Q (some (vI 0)) ν3)
        else
        (if (ν1 20 o0 9) = 0 then
          ZV f_X8_takes [vR 20 o0, vI 1] ν1 (fun ν4 =>
            Q (some (vI (zw (μ 33 o0 0)))) ν4)
          else
          (if x1 < 0 then
            ZV f_X8_takes [vR 20 o0, vI 1] ν1 (fun ν5 =>
              Q (some (vI (zw (μ 33 o0 0)))) ν5)
            else
            ZV f_X8_takes [vR 20 o0, vI 0] ν1 (fun ν6 =>
              Q (some (vI 0)) ν6)))))
      else
      ZV f_X8_takes [vR 20 o0, vI 0] μ (fun ν7 =>
        Q (some (vI 0)) ν7))
    else
    (if (μ 20 o0 7) = 2 then
      ZI f_X8_in [vI (zw (-(zw (μ 33 o0 0)))), vI x1, vI x2] μ (fun r9 ν8 =>
        (if r9 = 0 then
        ZV f_X8_takes [vR 20 o0, vI 0] ν8 (fun ν10 =>
          Q (some (vI 0)) ν10)
        else
        (if (ν8 20 o0 9) = 0 then
          ZV f_X8_takes [vR 20 o0, vI 1] ν8 (fun ν11 =>
            Q (some (vI (zw (-(zw (μ 33 o0 0)))))) ν11)
          else
          (if x1 < 0 then
            ZV f_X8_takes [vR 20 o0, vI 1] ν8 (fun ν12 =>
              Q (some (vI (zw (-(zw (μ 33 o0 0)))))) ν12)
            else
            ZV f_X8_takes [vR 20 o0, vI 0] ν8 (fun ν13 =>
              Q (some (vI 0)) ν13)))))
      else
      ZV f_X8_takes [vR 20 o0, vI 0] μ (fun ν14 =>
        Q (some (vI 0)) ν14)))) :
    ZW f_X8_takesNumber 0 [vR 20 o0, vI x1, vI x2, none, none] [] μ Q := mvc_at zcd zml (C := zc118) rfl 44 0 h
theorem vc_X8_place_0 {μ : mzM} {Q : Option mzV → mzM → Prop} {o0 x1 x2 : Int} (h :
    ((0 ≤ (0 : Int) ∧ (0 : Int) < 1880) ∧ (zin (x2 * (μ 21 0 0)) ∧ (zin ((x2 * (μ 21 0 0)) + x1) ∧ Q (some (vI ((x2 * (μ 21 0 0)) + x1))) μ)))) :
    ZW f_X8_place 0 [vR 20 o0, vI x1, vI x2] [] μ Q := mvc_at zcd zml (C := zc119) rfl 14 0 h
theorem vc_X8_keeps_0 {μ : mzM} {Q : Option mzV → mzM → Prop} {o0 : Int} (h :
    ZW f_X8_keeps 2 [vR 20 o0, vI 0] [] μ Q) :
    ZW f_X8_keeps 0 [vR 20 o0, none] [] μ Q := mvc_at zcd zml (C := zc120) rfl 23 0 h
theorem vc_X8_keeps_2 {μ : mzM} {Q : Option mzV → mzM → Prop} {o0 x1 : Int} (h :
    (if x1 < 144 then
    (zin (6 + x1) ∧ ((0 ≤ (6 + x1) ∧ (6 + x1) < 1880) ∧ ((0 ≤ x1 ∧ x1 < 144) ∧ (zin (x1 + 1) ∧ ZW f_X8_keeps 2 [vR 20 o0, vI (x1 + 1)] [] (mup μ 24 0 x1 (μ 21 0 (6 + x1))) Q))))
    else
    Q none μ)) :
    ZW f_X8_keeps 2 [vR 20 o0, vI x1] [] μ Q := mvc_at zcd zml (C := zc120) rfl 23 2 h
theorem vc_X8_fillsBox_0 {μ : mzM} {Q : Option mzV → mzM → Prop} {o0 x1 x2 x3 x4 x5 : Int} (h :
    ZW f_X8_fillsBox 2 [vR 20 o0, vI x1, vI x2, vI x3, vI x4, vI x5, vI 0, none, none] [] μ Q) :
    ZW f_X8_fillsBox 0 [vR 20 o0, vI x1, vI x2, vI x3, vI x4, vI x5, none, none, none] [] μ Q := mvc_at zcd zml (C := zc121) rfl 63 0 h
theorem vc_X8_fillsBox_2 {μ : mzM} {Q : Option mzV → mzM → Prop} {o0 x1 x2 x3 x4 x5 x6 : Int} {v7 v8 : mzV} (h :
    ZI f_X8_cells [vR 20 o0] μ (fun r2 ν1 =>
    (if x6 < r2 then
    (if (ν1 20 o0 10) = 0 then
      ((0 ≤ (0 : Int) ∧ (0 : Int) < 1880) ∧ ((ν1 21 0 0) ≠ 0 ∧ ((0 ≤ (0 : Int) ∧ (0 : Int) < 1880) ∧ (((ν1 21 0 0) ≠ 0 ∧ zin (Int.tdiv x6 (ν1 21 0 0))) ∧ (zin (6 + x6) ∧ (zin (x1 + x3) ∧ (zin ((x1 + x3) - 1) ∧ ZI f_X8_in [vI (Int.tmod x6 (ν1 21 0 0)), vI x1, vI ((x1 + x3) - 1)] ν1 (fun r4 ν3 =>
        (if r4 = 0 then
        (zin (6 + x6) ∧ ((0 ≤ (6 + x6) ∧ (6 + x6) < 1880) ∧ ((0 ≤ (6 + x6) ∧ (6 + x6) < 1880) ∧ (zin (x6 + 1) ∧ ZW f_X8_fillsBox 2 [vR 20 o0, vI x1, vI x2, vI x3, vI x4, vI x5, vI (x6 + 1), vI (Int.tmod x6 (ν1 21 0 0)), vI (Int.tdiv x6 (ν1 21 0 0))] [] (mup ν3 21 0 (6 + x6) (ν3 21 0 (6 + x6))) Q))))
        else
        (zin (x2 + x4) ∧ (zin ((x2 + x4) - 1) ∧ ZI f_X8_in [vI (Int.tdiv x6 (ν1 21 0 0)), vI x2, vI ((x2 + x4) - 1)] ν3 (fun r6 ν5 =>
          (if r6 = 0 then
          (zin (6 + x6) ∧ ((0 ≤ (6 + x6) ∧ (6 + x6) < 1880) ∧ ((0 ≤ (6 + x6) ∧ (6 + x6) < 1880) ∧ (zin (x6 + 1) ∧ ZW f_X8_fillsBox 2 [vR 20 o0, vI x1, vI x2, vI x3, vI x4, vI x5, vI (x6 + 1), vI (Int.tmod x6 (ν1 21 0 0)), vI (Int.tdiv x6 (ν1 21 0 0))] [] (mup ν5 21 0 (6 + x6) (ν5 21 0 (6 + x6))) Q))))
          else
          ((0 ≤ (6 + x6) ∧ (6 + x6) < 1880) ∧ (zin (x6 + 1) ∧ ZW f_X8_fillsBox 2 [vR 20 o0, vI x1, vI x2, vI x3, vI x4, vI x5, vI (x6 + 1), vI (Int.tmod x6 (ν1 21 0 0)), vI (Int.tdiv x6 (ν1 21 0 0))] [] (mup ν5 21 0 (6 + x6) x5) Q)))))))))))))))
      else
      Q none ν1)
    else
    Q none ν1))) :
    ZW f_X8_fillsBox 2 [vR 20 o0, vI x1, vI x2, vI x3, vI x4, vI x5, vI x6, v7, v8] [] μ Q := mvc_at zcd zml (C := zc121) rfl 63 2 h
theorem vc_X8_shifts_0 {μ : mzM} {Q : Option mzV → mzM → Prop} {o0 x1 x2 : Int} (h :
    ZV f_X8_keeps [vR 20 o0] μ (fun ν1 =>
    ZW f_X8_shifts 4 [vR 20 o0, vI x1, vI x2, vI 0, none, none] [] ν1 Q)) :
    ZW f_X8_shifts 0 [vR 20 o0, vI x1, vI x2, none, none, none] [] μ Q := mvc_at zcd zml (C := zc122) rfl 72 0 h
theorem vc_X8_shifts_4 {μ : mzM} {Q : Option mzV → mzM → Prop} {o0 x1 x2 x3 : Int} {v4 v5 : mzV} (h :
    ZI f_X8_cells [vR 20 o0] μ (fun r2 ν1 =>
    (if x3 < r2 then
    (if (ν1 20 o0 10) = 0 then
      ((0 ≤ (0 : Int) ∧ (0 : Int) < 1880) ∧ ((ν1 21 0 0) ≠ 0 ∧ (zin ((Int.tmod x3 (ν1 21 0 0)) - x1) ∧ ((0 ≤ (0 : Int) ∧ (0 : Int) < 1880) ∧ (((ν1 21 0 0) ≠ 0 ∧ zin (Int.tdiv x3 (ν1 21 0 0))) ∧ (zin ((Int.tdiv x3 (ν1 21 0 0)) - x2) ∧ (zin (6 + x3) ∧ ((0 ≤ (0 : Int) ∧ (0 : Int) < 1880) ∧ (zin ((ν1 21 0 0) - 1) ∧ ZI f_X8_in [vI ((Int.tmod x3 (ν1 21 0 0)) - x1), vI 0, vI ((ν1 21 0 0) - 1)] ν1 (fun r4 ν3 =>
        (if r4 = 0 then
        ((0 ≤ (6 + x3) ∧ (6 + x3) < 1880) ∧ (zin (x3 + 1) ∧ ZW f_X8_shifts 4 [vR 20 o0, vI x1, vI x2, vI (x3 + 1), vI ((Int.tmod x3 (ν1 21 0 0)) - x1), vI ((Int.tdiv x3 (ν1 21 0 0)) - x2)] [] (mup ν3 21 0 (6 + x3) 0) Q))
        else
        ((0 ≤ (1 : Int) ∧ (1 : Int) < 1880) ∧ (zin ((ν3 21 0 1) - 1) ∧ ZI f_X8_in [vI ((Int.tdiv x3 (ν1 21 0 0)) - x2), vI 0, vI ((ν3 21 0 1) - 1)] ν3 (fun r6 ν5 =>
          (if r6 = 0 then
          ((0 ≤ (6 + x3) ∧ (6 + x3) < 1880) ∧ (zin (x3 + 1) ∧ ZW f_X8_shifts 4 [vR 20 o0, vI x1, vI x2, vI (x3 + 1), vI ((Int.tmod x3 (ν1 21 0 0)) - x1), vI ((Int.tdiv x3 (ν1 21 0 0)) - x2)] [] (mup ν5 21 0 (6 + x3) 0) Q))
          else
          ZI f_X8_place [vR 20 o0, vI ((Int.tmod x3 (ν1 21 0 0)) - x1), vI ((Int.tdiv x3 (ν1 21 0 0)) - x2)] ν5 (fun r8 ν7 =>
            ((0 ≤ r8 ∧ r8 < 144) ∧ ((0 ≤ (6 + x3) ∧ (6 + x3) < 1880) ∧ (zin (x3 + 1) ∧ ZW f_X8_shifts 4 [vR 20 o0, vI x1, vI x2, vI (x3 + 1), vI ((Int.tmod x3 (ν1 21 0 0)) - x1), vI ((Int.tdiv x3 (ν1 21 0 0)) - x2)] [] (mup ν7 21 0 (6 + x3) (ν7 24 0 r8)) Q)))))))))))))))))))
      else
      Q none ν1)
    else
    Q none ν1))) :
    ZW f_X8_shifts 4 [vR 20 o0, vI x1, vI x2, vI x3, v4, v5] [] μ Q := mvc_at zcd zml (C := zc122) rfl 72 4 h
theorem vc_X8_readsCommand_0 {μ : mzM} {Q : Option mzV → mzM → Prop} {o0 : Int} (h :
    (if (μ 20 o0 7) = 1 then
    (if (zcmp (μ 33 o0 0) 124995) = 0 then
      (if (zcmp (μ 33 o0 0) 1887) = 0 then
        ZW f_X8_readsCommand 28 [vR 20 o0, vL (μ 33 o0 0), none, vI 1, vI 1, none, none, none, none, none, none] [vI (zcmp (μ 33 o0 0) 10261586)] μ Q
        else
        ZW f_X8_readsCommand 28 [vR 20 o0, vL (μ 33 o0 0), none, vI 1, vI 0, none, none, none, none, none, none] [vI (zcmp (μ 33 o0 0) 10261586)] μ Q)
      else
      (if (zcmp (μ 33 o0 0) 1887) = 0 then
        ZW f_X8_readsCommand 28 [vR 20 o0, vL (μ 33 o0 0), none, vI 0, vI 1, none, none, none, none, none, none] [vI (zcmp (μ 33 o0 0) 10261586)] μ Q
        else
        ZW f_X8_readsCommand 28 [vR 20 o0, vL (μ 33 o0 0), none, vI 0, vI 0, none, none, none, none, none, none] [vI (zcmp (μ 33 o0 0) 10261586)] μ Q))
    else
    (if (zcmp (-1) 124995) = 0 then
      (if (zcmp (-1) 1887) = 0 then
        ZW f_X8_readsCommand 28 [vR 20 o0, vL (-1), none, vI 1, vI 1, none, none, none, none, none, none] [vI (zcmp (-1) 10261586)] μ Q
        else
        ZW f_X8_readsCommand 28 [vR 20 o0, vL (-1), none, vI 1, vI 0, none, none, none, none, none, none] [vI (zcmp (-1) 10261586)] μ Q)
      else
      (if (zcmp (-1) 1887) = 0 then
        ZW f_X8_readsCommand 28 [vR 20 o0, vL (-1), none, vI 0, vI 1, none, none, none, none, none, none] [vI (zcmp (-1) 10261586)] μ Q
        else
        ZW f_X8_readsCommand 28 [vR 20 o0, vL (-1), none, vI 0, vI 0, none, none, none, none, none, none] [vI (zcmp (-1) 10261586)] μ Q)))) :
    ZW f_X8_readsCommand 0 [vR 20 o0, none, none, none, none, none, none, none, none, none, none] [] μ Q := mvc_at zcd zml (C := zc123) rfl 233 0 h
theorem vc_X8_readsCommand_28 {μ : mzM} {Q : Option mzV → mzM → Prop} {o0 x1 x3 x4 y0 : Int} (h :
    (if y0 = 0 then
    (if (zcmp x1 390787) = 0 then
      ZW f_X8_readsCommand 43 [vR 20 o0, vL x1, none, vI x3, vI x4, vI 1, vI 1, none, none, none, none] [vI x3, vR 20 o0] μ Q
      else
      ZW f_X8_readsCommand 43 [vR 20 o0, vL x1, none, vI x3, vI x4, vI 1, vI 0, none, none, none, none] [vI x3, vR 20 o0] μ Q)
    else
    (if (zcmp x1 390787) = 0 then
      ZW f_X8_readsCommand 43 [vR 20 o0, vL x1, none, vI x3, vI x4, vI 0, vI 1, none, none, none, none] [vI x3, vR 20 o0] μ Q
      else
      ZW f_X8_readsCommand 43 [vR 20 o0, vL x1, none, vI x3, vI x4, vI 0, vI 0, none, none, none, none] [vI x3, vR 20 o0] μ Q))) :
    ZW f_X8_readsCommand 28 [vR 20 o0, vL x1, none, vI x3, vI x4, none, none, none, none, none, none] [vI y0] μ Q := mvc_at zcd zml (C := zc123) rfl 233 28 h
theorem vc_X8_readsCommand_43 {μ : mzM} {Q : Option mzV → mzM → Prop} {o0 q0 x1 x3 x4 x5 x6 y1 : Int} (h :
    (if y1 = 0 then
    (if x4 = 0 then
      (if x5 = 0 then
        (if x6 = 0 then
          (if (zcmp x1 3544025) = 0 then
            ZW f_X8_readsCommand 57 [vR 20 o0, vL x1, none, vI x3, vI x4, vI x5, vI x6, none, none, none, none] [vI 1, vR 20 q0] μ Q
            else
            ZW f_X8_readsCommand 57 [vR 20 o0, vL x1, none, vI x3, vI x4, vI x5, vI x6, none, none, none, none] [vI 0, vR 20 q0] μ Q)
          else
          ZW f_X8_readsCommand 57 [vR 20 o0, vL x1, none, vI x3, vI x4, vI x5, vI x6, none, none, none, none] [vI 1, vR 20 q0] μ Q)
        else
        ZW f_X8_readsCommand 57 [vR 20 o0, vL x1, none, vI x3, vI x4, vI x5, vI x6, none, none, none, none] [vI 1, vR 20 q0] μ Q)
      else
      ZW f_X8_readsCommand 57 [vR 20 o0, vL x1, none, vI x3, vI x4, vI x5, vI x6, none, none, none, none] [vI 1, vR 20 q0] μ Q)
    else
    ZW f_X8_readsCommand 57 [vR 20 o0, vL x1, none, vI x3, vI x4, vI x5, vI x6, none, none, none, none] [vI 1, vR 20 q0] μ Q)) :
    ZW f_X8_readsCommand 43 [vR 20 o0, vL x1, none, vI x3, vI x4, vI x5, vI x6, none, none, none, none] [vI y1, vR 20 q0] μ Q := mvc_at zcd zml (C := zc123) rfl 233 43 h
theorem vc_X8_readsCommand_57 {μ : mzM} {Q : Option mzV → mzM → Prop} {o0 q0 x1 x3 x4 x5 x6 y1 : Int} (h :
    ZV f_X8_takes [vR 20 q0, vI y1] μ (fun ν1 =>
    (if (ν1 20 o0 10) = 0 then
    (if x3 = 0 then
      (if x4 = 0 then
        (if x5 = 0 then
          (if x6 = 0 then
            (if (ν1 20 o0 7) = 2 then
              (if (ν1 20 o0 9) = 0 then
                ZW f_X8_readsCommand 187 [vR 20 o0, vL x1, none, vI x3, vI x4, vI x5, vI x6, vI (zw (ν1 33 o0 0)), none, none, none] [vI (zw (ν1 33 o0 0)), vR 20 o0, vR 20 o0] ν1 Q
                else
                ZW f_X8_readsCommand 187 [vR 20 o0, vL x1, none, vI x3, vI x4, vI x5, vI x6, vI (-1), none, none, none] [vI (-1), vR 20 o0, vR 20 o0] ν1 Q)
              else
              ZW f_X8_readsCommand 187 [vR 20 o0, vL x1, none, vI x3, vI x4, vI x5, vI x6, vI (-1), none, none, none] [vI (-1), vR 20 o0, vR 20 o0] ν1 Q)
            else
            ZI f_X8_takesNumber [vR 20 o0, vI 0, vI 15] ν1 (fun r3 ν2 =>
              ZI f_X8_takesNumber [vR 20 o0, vI 0, vI 15] ν2 (fun r5 ν4 =>
              ZW f_X8_readsCommand 137 [vR 20 o0, vL x1, none, vI x3, vI x4, vI x5, vI x6, vI r3, vI r5, vI 0, none] [] ν4 Q)))
          else
          ZI f_X8_takesNumber [vR 20 o0, vI (-12), vI 12] ν1 (fun r7 ν6 =>
            ZI f_X8_takesNumber [vR 20 o0, vI (-12), vI 12] ν6 (fun r9 ν8 =>
            ZV f_X8_shifts [vR 20 o0, vI r7, vI r9] ν8 (fun ν10 =>
            (if (ν10 20 o0 7) = 3 then
            ZV f_X8_takes [vR 20 o0, vI 1] ν10 (fun ν11 =>
              Q none ν11)
            else
            ZV f_X8_takes [vR 20 o0, vI 0] ν10 (fun ν12 =>
              Q none ν12))))))
        else
        ZI f_X8_takesNumber [vR 20 o0, vI 0, vI 12] ν1 (fun r14 ν13 =>
          ZI f_X8_takesNumber [vR 20 o0, vI 0, vI 12] ν13 (fun r16 ν15 =>
          ZI f_X8_takesNumber [vR 20 o0, vI 0, vI 12] ν15 (fun r18 ν17 =>
          ZI f_X8_takesNumber [vR 20 o0, vI 0, vI 12] ν17 (fun r20 ν19 =>
          ZI f_X8_takesNumber [vR 20 o0, vI 0, vI 15] ν19 (fun r22 ν21 =>
          ZV f_X8_fillsBox [vR 20 o0, vI r14, vI r16, vI r18, vI r20, vI r22] ν21 (fun ν23 =>
          (if (ν23 20 o0 7) = 3 then
          ZV f_X8_takes [vR 20 o0, vI 1] ν23 (fun ν24 =>
            Q none ν24)
          else
          ZV f_X8_takes [vR 20 o0, vI 0] ν23 (fun ν25 =>
            Q none ν25)))))))))
      else
      ZI f_X8_takesNumber [vR 20 o0, vI 0, vI 15] ν1 (fun r27 ν26 =>
        ZV f_X8_fillsBox [vR 20 o0, vI 0, vI 0, vI 12, vI 12, vI r27] ν26 (fun ν28 =>
        (if (ν28 20 o0 7) = 3 then
        ZV f_X8_takes [vR 20 o0, vI 1] ν28 (fun ν29 =>
          Q none ν29)
        else
        ZV f_X8_takes [vR 20 o0, vI 0] ν28 (fun ν30 =>
          Q none ν30)))))
    else
    Q none ν1))) :
    ZW f_X8_readsCommand 57 [vR 20 o0, vL x1, none, vI x3, vI x4, vI x5, vI x6, none, none, none, none] [vI y1, vR 20 q0] μ Q := mvc_at zcd zml (C := zc123) rfl 233 57 h
theorem vc_X8_readsCommand_137 {μ : mzM} {Q : Option mzV → mzM → Prop} {o0 x1 x3 x4 x5 x6 x7 x8 x9 : Int} {v10 : mzV} (h :
    ZI f_X8_cells [vR 20 o0] μ (fun r2 ν1 =>
    (if x9 < r2 then
    (if (ν1 20 o0 10) = 0 then
      (zin (6 + x9) ∧ ((0 ≤ (6 + x9) ∧ (6 + x9) < 1880) ∧ (zin (6 + x9) ∧ (if (ν1 21 0 (6 + x9)) = x7 then
        ((0 ≤ (6 + x9) ∧ (6 + x9) < 1880) ∧ (zin (x9 + 1) ∧ ZW f_X8_readsCommand 137 [vR 20 o0, vL x1, none, vI x3, vI x4, vI x5, vI x6, vI x7, vI x8, vI (x9 + 1), vI (ν1 21 0 (6 + x9))] [] (mup ν1 21 0 (6 + x9) x8) Q))
        else
        (if (ν1 21 0 (6 + x9)) = x8 then
          ((0 ≤ (6 + x9) ∧ (6 + x9) < 1880) ∧ (zin (x9 + 1) ∧ ZW f_X8_readsCommand 137 [vR 20 o0, vL x1, none, vI x3, vI x4, vI x5, vI x6, vI x7, vI x8, vI (x9 + 1), vI (ν1 21 0 (6 + x9))] [] (mup ν1 21 0 (6 + x9) x7) Q))
          else
          ((0 ≤ (6 + x9) ∧ (6 + x9) < 1880) ∧ (zin (x9 + 1) ∧ ZW f_X8_readsCommand 137 [vR 20 o0, vL x1, none, vI x3, vI x4, vI x5, vI x6, vI x7, vI x8, vI (x9 + 1), vI (ν1 21 0 (6 + x9))] [] (mup ν1 21 0 (6 + x9) (ν1 21 0 (6 + x9))) Q)))))))
      else
      (if (ν1 20 o0 7) = 3 then
        ZV f_X8_takes [vR 20 o0, vI 1] ν1 (fun ν3 =>
          Q none ν3)
        else
        ZV f_X8_takes [vR 20 o0, vI 0] ν1 (fun ν4 =>
          Q none ν4)))
    else
    (if (ν1 20 o0 7) = 3 then
      ZV f_X8_takes [vR 20 o0, vI 1] ν1 (fun ν5 =>
        Q none ν5)
      else
      ZV f_X8_takes [vR 20 o0, vI 0] ν1 (fun ν6 =>
        Q none ν6))))) :
    ZW f_X8_readsCommand 137 [vR 20 o0, vL x1, none, vI x3, vI x4, vI x5, vI x6, vI x7, vI x8, vI x9, v10] [] μ Q := mvc_at zcd zml (C := zc123) rfl 233 137 h
theorem vc_X8_readsCommand_187 {μ : mzM} {Q : Option mzV → mzM → Prop} {o0 q0 q1 x1 x3 x4 x5 x6 x7 y2 : Int} (h :
    ZI f_X8_isFrame [vR 20 q1, vI y2] μ (fun r2 ν1 =>
    (if r2 = 0 then
    ZV f_X8_takes [vR 20 q0, vI 0] ν1 (fun ν3 =>
      ZW f_X8_readsCommand 199 [vR 20 o0, vL x1, none, vI x3, vI x4, vI x5, vI x6, vI x7, vI 0, none, none] [] ν3 Q)
    else
    ZI f_X8_isGood [vR 20 o0, vI x7] ν1 (fun r5 ν4 =>
      (if r5 = 0 then
      ZV f_X8_takes [vR 20 q0, vI 0] ν4 (fun ν6 =>
        ZW f_X8_readsCommand 199 [vR 20 o0, vL x1, none, vI x3, vI x4, vI x5, vI x6, vI x7, vI 0, none, none] [] ν6 Q)
      else
      ZV f_X8_takes [vR 20 q0, vI 1] ν4 (fun ν7 =>
        ZW f_X8_readsCommand 199 [vR 20 o0, vL x1, none, vI x3, vI x4, vI x5, vI x6, vI x7, vI 0, none, none] [] ν7 Q)))))) :
    ZW f_X8_readsCommand 187 [vR 20 o0, vL x1, none, vI x3, vI x4, vI x5, vI x6, vI x7, none, none, none] [vI y2, vR 20 q1, vR 20 q0] μ Q := mvc_at zcd zml (C := zc123) rfl 233 187 h
theorem vc_X8_readsCommand_199 {μ : mzM} {Q : Option mzV → mzM → Prop} {o0 x1 x3 x4 x5 x6 x7 x8 : Int} (h :
    ZI f_X8_cells [vR 20 o0] μ (fun r2 ν1 =>
    (if x8 < r2 then
    (if (ν1 20 o0 10) = 0 then
      (zin (6 + x8) ∧ ZI f_X8_value [vR 20 o0, vI x7, vI x8] ν1 (fun r4 ν3 =>
        ((0 ≤ (6 + x8) ∧ (6 + x8) < 1880) ∧ (zin (x8 + 1) ∧ ZW f_X8_readsCommand 199 [vR 20 o0, vL x1, none, vI x3, vI x4, vI x5, vI x6, vI x7, vI (x8 + 1), none, none] [] (mup ν3 21 0 (6 + x8) r4) Q))))
      else
      (if (ν1 20 o0 7) = 3 then
        ZV f_X8_takes [vR 20 o0, vI 1] ν1 (fun ν5 =>
          Q none ν5)
        else
        ZV f_X8_takes [vR 20 o0, vI 0] ν1 (fun ν6 =>
          Q none ν6)))
    else
    (if (ν1 20 o0 7) = 3 then
      ZV f_X8_takes [vR 20 o0, vI 1] ν1 (fun ν7 =>
        Q none ν7)
      else
      ZV f_X8_takes [vR 20 o0, vI 0] ν1 (fun ν8 =>
        Q none ν8))))) :
    ZW f_X8_readsCommand 199 [vR 20 o0, vL x1, none, vI x3, vI x4, vI x5, vI x6, vI x7, vI x8, none, none] [] μ Q := mvc_at zcd zml (C := zc123) rfl 233 199 h
theorem vc_X8_exchanges_0 {μ : mzM} {Q : Option mzV → mzM → Prop} {o0 : Int} (h :
    ZW f_X8_exchanges 2 [vR 20 o0, vI 0, none] [] μ Q) :
    ZW f_X8_exchanges 0 [vR 20 o0, none, none] [] μ Q := mvc_at zcd zml (C := zc124) rfl 35 0 h
theorem vc_X8_exchanges_2 {μ : mzM} {Q : Option mzV → mzM → Prop} {o0 x1 : Int} {v2 : mzV} (h :
    (if x1 < 144 then
    (zin (6 + x1) ∧ ((0 ≤ (6 + x1) ∧ (6 + x1) < 1880) ∧ (zin (6 + x1) ∧ ((0 ≤ x1 ∧ x1 < 144) ∧ ((0 ≤ (6 + x1) ∧ (6 + x1) < 1880) ∧ ((0 ≤ x1 ∧ x1 < 144) ∧ (zin (x1 + 1) ∧ ZW f_X8_exchanges 2 [vR 20 o0, vI (x1 + 1), vI (μ 21 0 (6 + x1))] [] (mup (mup μ 21 0 (6 + x1) (μ 25 0 x1)) 25 0 x1 (μ 21 0 (6 + x1))) Q)))))))
    else
    Q none μ)) :
    ZW f_X8_exchanges 2 [vR 20 o0, vI x1, v2] [] μ Q := mvc_at zcd zml (C := zc124) rfl 35 2 h
theorem vc_X8_draw_0 {μ : mzM} {Q : Option mzV → mzM → Prop} {o0 : Int} (h :
    ZW f_X8_draw 2 [vR 20 o0, vI 0] [] μ Q) :
    ZW f_X8_draw 0 [vR 20 o0, none] [] μ Q := mvc_at zcd zml (C := zc125) rfl 61 0 h
theorem vc_X8_draw_2 {μ : mzM} {Q : Option mzV → mzM → Prop} {o0 x1 : Int} (h :
    (if x1 < 144 then
    (zin (6 + x1) ∧ ((0 ≤ (6 + x1) ∧ (6 + x1) < 1880) ∧ ((0 ≤ x1 ∧ x1 < 144) ∧ (zin (x1 + 1) ∧ ZW f_X8_draw 2 [vR 20 o0, vI (x1 + 1)] [] (mup μ 25 0 x1 (μ 21 0 (6 + x1))) Q))))
    else
    ZV f_X8_readsToken [vR 20 o0] (mup (mup μ 20 o0 5 0) 20 o0 10 0) (fun ν1 =>
      ZW f_X8_draw 27 [vR 20 o0, vI 0] [] ν1 Q))) :
    ZW f_X8_draw 2 [vR 20 o0, vI x1] [] μ Q := mvc_at zcd zml (C := zc125) rfl 61 2 h
theorem vc_X8_draw_27 {μ : mzM} {Q : Option mzV → mzM → Prop} {o0 x1 : Int} (h :
    (if (μ 20 o0 10) = 0 then
    (if (μ 20 o0 7) = 0 then
      ZV f_X8_exchanges [vR 20 o0] μ (fun ν1 =>
        (if (ν1 20 o0 10) = 0 then
        ZV f_X8_note [vR 20 o0] ν1 (fun ν2 =>
          ZV f_X8_exchanges [vR 20 o0] ν2 (fun ν3 =>
          Q (some (vI x1)) (mup ν3 20 o0 4 0)))
        else
        (zin ((-10) - (ν1 20 o0 6)) ∧ Q (some (vI ((-10) - (ν1 20 o0 6)))) ν1)))
      else
      ZV f_X8_readsCommand [vR 20 o0] μ (fun ν4 =>
        (zin (x1 + 1) ∧ ZW f_X8_draw 27 [vR 20 o0, vI (x1 + 1)] [] ν4 Q)))
    else
    ZV f_X8_exchanges [vR 20 o0] μ (fun ν5 =>
      (if (ν5 20 o0 10) = 0 then
      ZV f_X8_note [vR 20 o0] ν5 (fun ν6 =>
        ZV f_X8_exchanges [vR 20 o0] ν6 (fun ν7 =>
        Q (some (vI x1)) (mup ν7 20 o0 4 0)))
      else
      (zin ((-10) - (ν5 20 o0 6)) ∧ Q (some (vI ((-10) - (ν5 20 o0 6)))) ν5))))) :
    ZW f_X8_draw 27 [vR 20 o0, vI x1] [] μ Q := mvc_at zcd zml (C := zc125) rfl 61 27 h
theorem vc_X8_isImage_0 {μ : mzM} {Q : Option mzV → mzM → Prop} {o0 x1 : Int} (h :
    (if x1 = (-1) then
    Q (some (vI 1)) μ
    else
    ZI f_X8_isFrame [vR 20 o0, vI x1] μ (fun r2 ν1 =>
      (if r2 = 0 then
      Q (some (vI 0)) ν1
      else
      Q (some (vI 1)) ν1)))) :
    ZW f_X8_isImage 0 [vR 20 o0, vI x1] [] μ Q := mvc_at zcd zml (C := zc126) rfl 16 0 h
theorem vc_X8_isKnown_0 {μ : mzM} {Q : Option mzV → mzM → Prop} {o0 x1 : Int} (h :
    (if x1 < 0 then
    Q (some (vI 1)) μ
    else
    ZI f_X8_isGood [vR 20 o0, vI x1] μ (fun r2 ν1 =>
      (if r2 = 0 then
      Q (some (vI 0)) ν1
      else
      Q (some (vI 1)) ν1)))) :
    ZW f_X8_isKnown 0 [vR 20 o0, vI x1] [] μ Q := mvc_at zcd zml (C := zc127) rfl 15 0 h
theorem vc_X8_digestOf_0 {μ : mzM} {Q : Option mzV → mzM → Prop} {o0 x1 x2 x3 : Int} (h :
    ZW f_X8_digestOf 4 [vR 20 o0, vI x1, vI x2, vI x3, vI 7, vI 0] [] μ Q) :
    ZW f_X8_digestOf 0 [vR 20 o0, vI x1, vI x2, vI x3, none, none] [] μ Q := mvc_at zcd zml (C := zc128) rfl 38 0 h
theorem vc_X8_digestOf_4 {μ : mzM} {Q : Option mzV → mzM → Prop} {o0 x1 x2 x3 x4 x5 : Int} (h :
    (if x5 < 16 then
    (zin (x4 * 31) ∧ ((4 : Int) ≠ 0 ∧ (zin (x2 + (Int.tmod x5 4)) ∧ (((4 : Int) ≠ 0 ∧ zin (Int.tdiv x5 4)) ∧ (zin (x3 + (Int.tdiv x5 4)) ∧ ZI f_X8_place [vR 20 o0, vI (x2 + (Int.tmod x5 4)), vI (x3 + (Int.tdiv x5 4))] μ (fun r2 ν1 =>
      ZI f_X8_value [vR 20 o0, vI x1, vI r2] ν1 (fun r4 ν3 =>
      (zin ((x4 * 31) + r4) ∧ ((9973 : Int) ≠ 0 ∧ (zin (x5 + 1) ∧ ZW f_X8_digestOf 4 [vR 20 o0, vI x1, vI x2, vI x3, vI (Int.tmod ((x4 * 31) + r4) 9973), vI (x5 + 1)] [] ν3 Q))))))))))
    else
    Q (some (vI x4)) μ)) :
    ZW f_X8_digestOf 4 [vR 20 o0, vI x1, vI x2, vI x3, vI x4, vI x5] [] μ Q := mvc_at zcd zml (C := zc128) rfl 38 4 h
theorem vc_X8_digest_0 {μ : mzM} {Q : Option mzV → mzM → Prop} {o0 x1 x2 x3 : Int} (h :
    ZI f_X8_isImage [vR 20 o0, vI x1] μ (fun r2 ν1 =>
    (if r2 = 0 then
    Q (some (vI (-1))) ν1
    else
    ((0 ≤ (0 : Int) ∧ (0 : Int) < 1880) ∧ (zin ((ν1 21 0 0) - 4) ∧ ZI f_X8_in [vI x2, vI 0, vI ((ν1 21 0 0) - 4)] ν1 (fun r4 ν3 =>
      (if r4 = 0 then
      Q (some (vI (-1))) ν3
      else
      ((0 ≤ (1 : Int) ∧ (1 : Int) < 1880) ∧ (zin ((ν3 21 0 1) - 4) ∧ ZI f_X8_in [vI x3, vI 0, vI ((ν3 21 0 1) - 4)] ν3 (fun r6 ν5 =>
        (if r6 = 0 then
        Q (some (vI (-1))) ν5
        else
        ZI f_X8_isKnown [vR 20 o0, vI x1] ν5 (fun r8 ν7 =>
          (if r8 = 0 then
          Q (some (vI (-2))) ν7
          else
          ZI f_X8_digestOf [vR 20 o0, vI x1, vI x2, vI x3] ν7 (fun r10 ν9 =>
            Q (some (vI r10)) ν9)))))))))))))) :
    ZW f_X8_digest 0 [vR 20 o0, vI x1, vI x2, vI x3] [] μ Q := mvc_at zcd zml (C := zc129) rfl 43 0 h
theorem vc_X8_left_0 {μ : mzM} {Q : Option mzV → mzM → Prop} {o0 x1 : Int} (h :
    ((0 ≤ (0 : Int) ∧ (0 : Int) < 1880) ∧ (((4 : Int) ≠ 0 ∧ zin (Int.tdiv (μ 21 0 0) 4)) ∧ ((Int.tdiv (μ 21 0 0) 4) ≠ 0 ∧ (zin (4 * (Int.tmod x1 (Int.tdiv (μ 21 0 0) 4))) ∧ Q (some (vI (4 * (Int.tmod x1 (Int.tdiv (μ 21 0 0) 4))))) μ))))) :
    ZW f_X8_left 0 [vR 20 o0, vI x1] [] μ Q := mvc_at zcd zml (C := zc130) rfl 16 0 h
theorem vc_X8_top_0 {μ : mzM} {Q : Option mzV → mzM → Prop} {o0 x1 : Int} (h :
    ((0 ≤ (0 : Int) ∧ (0 : Int) < 1880) ∧ (((4 : Int) ≠ 0 ∧ zin (Int.tdiv (μ 21 0 0) 4)) ∧ (((Int.tdiv (μ 21 0 0) 4) ≠ 0 ∧ zin (Int.tdiv x1 (Int.tdiv (μ 21 0 0) 4))) ∧ (zin (4 * (Int.tdiv x1 (Int.tdiv (μ 21 0 0) 4))) ∧ Q (some (vI (4 * (Int.tdiv x1 (Int.tdiv (μ 21 0 0) 4))))) μ))))) :
    ZW f_X8_top 0 [vR 20 o0, vI x1] [] μ Q := mvc_at zcd zml (C := zc131) rfl 16 0 h
theorem vc_X8_given_0 {μ : mzM} {Q : Option mzV → mzM → Prop} {o0 x1 x2 x3 x4 : Int} (h :
    ZI f_X8_left [vR 20 o0, vI x3] μ (fun r2 ν1 =>
    ((4 : Int) ≠ 0 ∧ (zin (r2 + (Int.tmod x4 4)) ∧ ZI f_X8_top [vR 20 o0, vI x3] ν1 (fun r4 ν3 =>
    (((4 : Int) ≠ 0 ∧ zin (Int.tdiv x4 4)) ∧ (zin (r4 + (Int.tdiv x4 4)) ∧ ZI f_X8_place [vR 20 o0, vI (r2 + (Int.tmod x4 4)), vI (r4 + (Int.tdiv x4 4))] ν3 (fun r6 ν5 =>
    (if x2 = (-1) then
    ZI f_X8_value [vR 20 o0, vI x1, vI r6] ν5 (fun r8 ν7 =>
      Q (some (vI r8)) ν7)
    else
    ZI f_X8_value [vR 20 o0, vI x1, vI r6] ν5 (fun r10 ν9 =>
      ZI f_X8_value [vR 20 o0, vI x2, vI r6] ν9 (fun r12 ν11 =>
      (zin (r10 - r12) ∧ (zin ((r10 - r12) + 16) ∧ ((16 : Int) ≠ 0 ∧ Q (some (vI (Int.tmod ((r10 - r12) + 16) 16))) ν11)))))))))))))) :
    ZW f_X8_given 0 [vR 20 o0, vI x1, vI x2, vI x3, vI x4, none] [] μ Q := mvc_at zcd zml (C := zc132) rfl 44 0 h
theorem vc_X8_runsOf_0 {μ : mzM} {Q : Option mzV → mzM → Prop} {o0 x1 x2 x3 : Int} (h :
    ZW f_X8_runsOf 4 [vR 20 o0, vI x1, vI x2, vI x3, vI 1, vI 1] [] μ Q) :
    ZW f_X8_runsOf 0 [vR 20 o0, vI x1, vI x2, vI x3, none, none] [] μ Q := mvc_at zcd zml (C := zc133) rfl 37 0 h
theorem vc_X8_runsOf_4 {μ : mzM} {Q : Option mzV → mzM → Prop} {o0 x1 x2 x3 x4 x5 : Int} (h :
    (if x5 < 16 then
    ZI f_X8_given [vR 20 o0, vI x1, vI x2, vI x3, vI x5] μ (fun r2 ν1 =>
      (zin (x5 - 1) ∧ ZI f_X8_given [vR 20 o0, vI x1, vI x2, vI x3, vI (x5 - 1)] ν1 (fun r4 ν3 =>
      (if r2 = r4 then
      (zin (x4 + 0) ∧ (zin (x5 + 1) ∧ ZW f_X8_runsOf 4 [vR 20 o0, vI x1, vI x2, vI x3, vI (x4 + 0), vI (x5 + 1)] [] ν3 Q))
      else
      (zin (x4 + 1) ∧ (zin (x5 + 1) ∧ ZW f_X8_runsOf 4 [vR 20 o0, vI x1, vI x2, vI x3, vI (x4 + 1), vI (x5 + 1)] [] ν3 Q))))))
    else
    Q (some (vI x4)) μ)) :
    ZW f_X8_runsOf 4 [vR 20 o0, vI x1, vI x2, vI x3, vI x4, vI x5] [] μ Q := mvc_at zcd zml (C := zc133) rfl 37 4 h
theorem vc_X8_isLike_0 {μ : mzM} {Q : Option mzV → mzM → Prop} {o0 x1 x2 x3 x4 x5 : Int} (h :
    ZI f_X8_left [vR 20 o0, vI x3] μ (fun r2 ν1 =>
    (zin (r2 + x4) ∧ ZI f_X8_top [vR 20 o0, vI x3] ν1 (fun r4 ν3 =>
    (zin (r4 + x5) ∧ ((0 ≤ (0 : Int) ∧ (0 : Int) < 1880) ∧ (zin ((ν3 21 0 0) - 4) ∧ ZI f_X8_in [vI (r2 + x4), vI 0, vI ((ν3 21 0 0) - 4)] ν3 (fun r6 ν5 =>
    (if r6 = 0 then
    ZW f_X8_isLike 38 [vR 20 o0, vI x1, vI x2, vI x3, vI x4, vI x5, vI (r2 + x4), vI (r4 + x5), vI 0, vI 0] [] ν5 Q
    else
    ((0 ≤ (1 : Int) ∧ (1 : Int) < 1880) ∧ (zin ((ν5 21 0 1) - 4) ∧ ZI f_X8_in [vI (r4 + x5), vI 0, vI ((ν5 21 0 1) - 4)] ν5 (fun r8 ν7 =>
      (if r8 = 0 then
      ZW f_X8_isLike 38 [vR 20 o0, vI x1, vI x2, vI x3, vI x4, vI x5, vI (r2 + x4), vI (r4 + x5), vI 0, vI 0] [] ν7 Q
      else
      ZW f_X8_isLike 38 [vR 20 o0, vI x1, vI x2, vI x3, vI x4, vI x5, vI (r2 + x4), vI (r4 + x5), vI 1, vI 0] [] ν7 Q))))))))))))) :
    ZW f_X8_isLike 0 [vR 20 o0, vI x1, vI x2, vI x3, vI x4, vI x5, none, none, none, none] [] μ Q := mvc_at zcd zml (C := zc134) rfl 91 0 h
theorem vc_X8_isLike_38 {μ : mzM} {Q : Option mzV → mzM → Prop} {o0 x1 x2 x3 x4 x5 x6 x7 x8 x9 : Int} (h :
    (if x9 < 16 then
    (if x8 = 0 then
      Q (some (vI (x8 % 2))) μ
      else
      ZI f_X8_left [vR 20 o0, vI x3] μ (fun r2 ν1 =>
        ((4 : Int) ≠ 0 ∧ (zin (r2 + (Int.tmod x9 4)) ∧ ZI f_X8_top [vR 20 o0, vI x3] ν1 (fun r4 ν3 =>
        (((4 : Int) ≠ 0 ∧ zin (Int.tdiv x9 4)) ∧ (zin (r4 + (Int.tdiv x9 4)) ∧ ZI f_X8_place [vR 20 o0, vI (r2 + (Int.tmod x9 4)), vI (r4 + (Int.tdiv x9 4))] ν3 (fun r6 ν5 =>
        ZI f_X8_value [vR 20 o0, vI x1, vI r6] ν5 (fun r8 ν7 =>
        ((4 : Int) ≠ 0 ∧ (zin (x6 + (Int.tmod x9 4)) ∧ (((4 : Int) ≠ 0 ∧ zin (Int.tdiv x9 4)) ∧ (zin (x7 + (Int.tdiv x9 4)) ∧ ZI f_X8_place [vR 20 o0, vI (x6 + (Int.tmod x9 4)), vI (x7 + (Int.tdiv x9 4))] ν7 (fun r10 ν9 =>
        ZI f_X8_value [vR 20 o0, vI x2, vI r10] ν9 (fun r12 ν11 =>
        (if r8 = r12 then
        (zin (x9 + 1) ∧ ZW f_X8_isLike 38 [vR 20 o0, vI x1, vI x2, vI x3, vI x4, vI x5, vI x6, vI x7, vI 1, vI (x9 + 1)] [] ν11 Q)
        else
        (zin (x9 + 1) ∧ ZW f_X8_isLike 38 [vR 20 o0, vI x1, vI x2, vI x3, vI x4, vI x5, vI x6, vI x7, vI 0, vI (x9 + 1)] [] ν11 Q)))))))))))))))))
    else
    Q (some (vI (x8 % 2))) μ)) :
    ZW f_X8_isLike 38 [vR 20 o0, vI x1, vI x2, vI x3, vI x4, vI x5, vI x6, vI x7, vI x8, vI x9] [] μ Q := mvc_at zcd zml (C := zc134) rfl 91 38 h
theorem vc_X8_size_0 {μ : mzM} {Q : Option mzV → mzM → Prop} {x0 : Int} (h :
    (if x0 < 0 then
    Q (some (vI (zw (-x0)))) μ
    else
    Q (some (vI x0)) μ)) :
    ZW f_X8_size 0 [vI x0] [] μ Q := mvc_at zcd zml (C := zc135) rfl 12 0 h
theorem vc_X8_finds_0 {μ : mzM} {Q : Option mzV → mzM → Prop} {o0 x1 x2 x3 : Int} (h :
    ((0 ≤ (3 : Int) ∧ (3 : Int) < 1880) ∧ ZW f_X8_finds 10 [vR 20 o0, vI x1, vI x2, vI x3, vI 0, vI (μ 21 0 3), vI (zw (-(μ 21 0 3))), none, none, none] [] μ Q)) :
    ZW f_X8_finds 0 [vR 20 o0, vI x1, vI x2, vI x3, none, none, none, none, none, none] [] μ Q := mvc_at zcd zml (C := zc136) rfl 95 0 h
theorem vc_X8_finds_10 {μ : mzM} {Q : Option mzV → mzM → Prop} {o0 x1 x2 x3 x4 x5 x6 : Int} {v7 v8 v9 : mzV} (h :
    (if x5 < x6 then
    Q (some (vI (x4 % 2))) μ
    else
    ZW f_X8_finds 16 [vR 20 o0, vI x1, vI x2, vI x3, vI x4, vI x5, vI x6, vI (zw (-x5)), v8, v9] [] μ Q)) :
    ZW f_X8_finds 10 [vR 20 o0, vI x1, vI x2, vI x3, vI x4, vI x5, vI x6, v7, v8, v9] [] μ Q := mvc_at zcd zml (C := zc136) rfl 95 10 h
theorem vc_X8_finds_16 {μ : mzM} {Q : Option mzV → mzM → Prop} {o0 x1 x2 x3 x4 x5 x6 x7 : Int} {v8 v9 : mzV} (h :
    (if x5 < x7 then
    (zin (x6 + 1) ∧ ZW f_X8_finds 10 [vR 20 o0, vI x1, vI x2, vI x3, vI x4, vI x5, vI (x6 + 1), vI x7, v8, v9] [] μ Q)
    else
    ZI f_X8_size [vI x7] μ (fun r2 ν1 =>
      ZI f_X8_size [vI x6] ν1 (fun r4 ν3 =>
      (zin (r2 + r4) ∧ (if x4 = 0 then
      (if (0 : Int) < (r2 + r4) then
        ZI f_X8_isLike [vR 20 o0, vI x1, vI x2, vI x3, vI x7, vI x6] ν3 (fun r6 ν5 =>
          (if r6 = 0 then
          (zin (x7 + 1) ∧ ZW f_X8_finds 16 [vR 20 o0, vI x1, vI x2, vI x3, vI x4, vI x5, vI x6, vI (x7 + 1), vI (r2 + r4), vI 1] [] ν5 Q)
          else
          (zin (3 * x3) ∧ (zin ((3 * x3) + 1) ∧ ((0 ≤ ((3 * x3) + 1) ∧ ((3 * x3) + 1) < 27) ∧ (zin (3 * x3) ∧ (zin ((3 * x3) + 2) ∧ ((0 ≤ ((3 * x3) + 2) ∧ ((3 * x3) + 2) < 27) ∧ (zin (x7 + 1) ∧ ZW f_X8_finds 16 [vR 20 o0, vI x1, vI x2, vI x3, vI 1, vI x5, vI x6, vI (x7 + 1), vI (r2 + r4), vI 1] [] (mup (mup ν5 26 0 ((3 * x3) + 1) x7) 26 0 ((3 * x3) + 2) x6) Q)))))))))
        else
        (zin (x7 + 1) ∧ ZW f_X8_finds 16 [vR 20 o0, vI x1, vI x2, vI x3, vI x4, vI x5, vI x6, vI (x7 + 1), vI (r2 + r4), vI 1] [] ν3 Q))
      else
      (zin (3 * x3) ∧ (zin ((3 * x3) + 1) ∧ ((0 ≤ ((3 * x3) + 1) ∧ ((3 * x3) + 1) < 27) ∧ ZI f_X8_size [vI (ν3 26 0 ((3 * x3) + 1))] ν3 (fun r8 ν7 =>
        (zin (3 * x3) ∧ (zin ((3 * x3) + 2) ∧ ((0 ≤ ((3 * x3) + 2) ∧ ((3 * x3) + 2) < 27) ∧ ZI f_X8_size [vI (ν7 26 0 ((3 * x3) + 2))] ν7 (fun r10 ν9 =>
        (zin (r8 + r10) ∧ (if (r2 + r4) < (r8 + r10) then
        (if (0 : Int) < (r2 + r4) then
          ZI f_X8_isLike [vR 20 o0, vI x1, vI x2, vI x3, vI x7, vI x6] ν9 (fun r12 ν11 =>
            (if r12 = 0 then
            (zin (x7 + 1) ∧ ZW f_X8_finds 16 [vR 20 o0, vI x1, vI x2, vI x3, vI x4, vI x5, vI x6, vI (x7 + 1), vI (r2 + r4), vI 1] [] ν11 Q)
            else
            (zin (3 * x3) ∧ (zin ((3 * x3) + 1) ∧ ((0 ≤ ((3 * x3) + 1) ∧ ((3 * x3) + 1) < 27) ∧ (zin (3 * x3) ∧ (zin ((3 * x3) + 2) ∧ ((0 ≤ ((3 * x3) + 2) ∧ ((3 * x3) + 2) < 27) ∧ (zin (x7 + 1) ∧ ZW f_X8_finds 16 [vR 20 o0, vI x1, vI x2, vI x3, vI 1, vI x5, vI x6, vI (x7 + 1), vI (r2 + r4), vI 1] [] (mup (mup ν11 26 0 ((3 * x3) + 1) x7) 26 0 ((3 * x3) + 2) x6) Q)))))))))
          else
          (zin (x7 + 1) ∧ ZW f_X8_finds 16 [vR 20 o0, vI x1, vI x2, vI x3, vI x4, vI x5, vI x6, vI (x7 + 1), vI (r2 + r4), vI 1] [] ν9 Q))
        else
        (if (0 : Int) < (r2 + r4) then
          (zin (x7 + 1) ∧ ZW f_X8_finds 16 [vR 20 o0, vI x1, vI x2, vI x3, vI x4, vI x5, vI x6, vI (x7 + 1), vI (r2 + r4), vI 0] [] ν9 Q)
          else
          (zin (x7 + 1) ∧ ZW f_X8_finds 16 [vR 20 o0, vI x1, vI x2, vI x3, vI x4, vI x5, vI x6, vI (x7 + 1), vI (r2 + r4), vI 0] [] ν9 Q)))))))))))))))))) :
    ZW f_X8_finds 16 [vR 20 o0, vI x1, vI x2, vI x3, vI x4, vI x5, vI x6, vI x7, v8, v9] [] μ Q := mvc_at zcd zml (C := zc136) rfl 95 16 h
theorem vc_X8_codes_0 {μ : mzM} {Q : Option mzV → mzM → Prop} {o0 x1 x2 x3 : Int} (h :
    (zin (3 * x3) ∧ (zin ((3 * x3) + 1) ∧ ((0 ≤ ((3 * x3) + 1) ∧ ((3 * x3) + 1) < 27) ∧ (zin (3 * x3) ∧ (zin ((3 * x3) + 2) ∧ ((0 ≤ ((3 * x3) + 2) ∧ ((3 * x3) + 2) < 27) ∧ ZI f_X8_runsOf [vR 20 o0, vI x1, vI (-1), vI x3] (mup (mup μ 26 0 ((3 * x3) + 1) 0) 26 0 ((3 * x3) + 2) 0) (fun r2 ν1 =>
    (zin (2 * r2) ∧ (zin (2 + (2 * r2)) ∧ (if x2 = (-1) then
    (zin (3 * x3) ∧ ((0 ≤ (3 * x3) ∧ (3 * x3) < 27) ∧ Q (some (vI (2 + (2 * r2)))) (mup ν1 26 0 (3 * x3) 3)))
    else
    ZI f_X8_isLike [vR 20 o0, vI x1, vI x2, vI x3, vI 0, vI 0] ν1 (fun r4 ν3 =>
      (if r4 = 0 then
      ZI f_X8_finds [vR 20 o0, vI x1, vI x2, vI x3] ν3 (fun r6 ν5 =>
        (if r6 = 0 then
        ZI f_X8_runsOf [vR 20 o0, vI x1, vI x2, vI x3] ν5 (fun r8 ν7 =>
          (zin (2 * r8) ∧ (zin (2 + (2 * r8)) ∧ (zin (3 * x3) ∧ (if (2 + (2 * r2)) < (2 + (2 * r8)) then
          ((0 ≤ (3 * x3) ∧ (3 * x3) < 27) ∧ (if (2 + (2 * r2)) < (2 + (2 * r8)) then
            Q (some (vI (2 + (2 * r2)))) (mup ν7 26 0 (3 * x3) 3)
            else
            Q (some (vI (2 + (2 * r8)))) (mup ν7 26 0 (3 * x3) 3)))
          else
          ((0 ≤ (3 * x3) ∧ (3 * x3) < 27) ∧ (if (2 + (2 * r2)) < (2 + (2 * r8)) then
            Q (some (vI (2 + (2 * r2)))) (mup ν7 26 0 (3 * x3) 2)
            else
            Q (some (vI (2 + (2 * r8)))) (mup ν7 26 0 (3 * x3) 2))))))))
        else
        (zin (3 * x3) ∧ ((0 ≤ (3 * x3) ∧ (3 * x3) < 27) ∧ Q (some (vI 3)) (mup ν5 26 0 (3 * x3) 1)))))
      else
      (zin (3 * x3) ∧ ((0 ≤ (3 * x3) ∧ (3 * x3) < 27) ∧ Q (some (vI 1)) (mup ν3 26 0 (3 * x3) 0)))))))))))))))) :
    ZW f_X8_codes 0 [vR 20 o0, vI x1, vI x2, vI x3, none, none] [] μ Q := mvc_at zcd zml (C := zc137) rfl 106 0 h
theorem vc_X8_codesAll_0 {μ : mzM} {Q : Option mzV → mzM → Prop} {o0 x1 x2 : Int} (h :
    ZW f_X8_codesAll 4 [vR 20 o0, vI x1, vI x2, vI 2, vI 0] [] μ Q) :
    ZW f_X8_codesAll 0 [vR 20 o0, vI x1, vI x2, none, none] [] μ Q := mvc_at zcd zml (C := zc138) rfl 25 0 h
theorem vc_X8_codesAll_4 {μ : mzM} {Q : Option mzV → mzM → Prop} {o0 x1 x2 x3 x4 : Int} (h :
    ZI f_X8_blocks [vR 20 o0] μ (fun r2 ν1 =>
    (if x4 < r2 then
    ZI f_X8_codes [vR 20 o0, vI x1, vI x2, vI x4] ν1 (fun r4 ν3 =>
      (zin (x3 + r4) ∧ (zin (x4 + 1) ∧ ZW f_X8_codesAll 4 [vR 20 o0, vI x1, vI x2, vI (x3 + r4), vI (x4 + 1)] [] ν3 Q)))
    else
    Q (some (vI x3)) ν1))) :
    ZW f_X8_codesAll 4 [vR 20 o0, vI x1, vI x2, vI x3, vI x4] [] μ Q := mvc_at zcd zml (C := zc138) rfl 25 4 h
theorem vc_X8_codeAt_0 {μ : mzM} {Q : Option mzV → mzM → Prop} {o0 x1 x2 : Int} (h :
    (zin (27 * x1) ∧ (zin (1610 + (27 * x1)) ∧ (zin (3 * x2) ∧ (zin ((1610 + (27 * x1)) + (3 * x2)) ∧ Q (some (vI ((1610 + (27 * x1)) + (3 * x2)))) μ))))) :
    ZW f_X8_codeAt 0 [vR 20 o0, vI x1, vI x2] [] μ Q := mvc_at zcd zml (C := zc139) rfl 15 0 h
theorem vc_X8_runsIn_0 {μ : mzM} {Q : Option mzV → mzM → Prop} {o0 x1 x2 : Int} (h :
    ZI f_X8_codeAt [vR 20 o0, vI x1, vI x2] μ (fun r2 ν1 =>
    ((0 ≤ r2 ∧ r2 < 1880) ∧ (if (ν1 21 0 r2) = 2 then
    ZI f_X8_reference [vR 20 o0, vI x1] ν1 (fun r4 ν3 =>
      ZI f_X8_runsOf [vR 20 o0, vI x1, vI r4, vI x2] ν3 (fun r6 ν5 =>
      Q (some (vI r6)) ν5))
    else
    (if (ν1 21 0 r2) = 3 then
      ZI f_X8_runsOf [vR 20 o0, vI x1, vI (-1), vI x2] ν1 (fun r8 ν7 =>
        Q (some (vI r8)) ν7)
      else
      Q (some (vI 0)) ν1))))) :
    ZW f_X8_runsIn 0 [vR 20 o0, vI x1, vI x2, none] [] μ Q := mvc_at zcd zml (C := zc140) rfl 35 0 h
theorem vc_X8_costOf_0 {μ : mzM} {Q : Option mzV → mzM → Prop} {o0 x1 : Int} (h :
    ZW f_X8_costOf 4 [vR 20 o0, vI x1, vI 2, vI 0, none] [] μ Q) :
    ZW f_X8_costOf 0 [vR 20 o0, vI x1, none, none, none] [] μ Q := mvc_at zcd zml (C := zc141) rfl 45 0 h
theorem vc_X8_costOf_4 {μ : mzM} {Q : Option mzV → mzM → Prop} {o0 x1 x2 x3 : Int} {v4 : mzV} (h :
    ZI f_X8_blocks [vR 20 o0] μ (fun r2 ν1 =>
    (if x3 < r2 then
    ZI f_X8_codeAt [vR 20 o0, vI x1, vI x3] ν1 (fun r4 ν3 =>
      ((0 ≤ r4 ∧ r4 < 1880) ∧ (if (ν3 21 0 r4) = 0 then
      (zin (x2 + 1) ∧ (zin (x3 + 1) ∧ ZW f_X8_costOf 4 [vR 20 o0, vI x1, vI (x2 + 1), vI (x3 + 1), vI (ν3 21 0 r4)] [] ν3 Q))
      else
      (if (ν3 21 0 r4) = 1 then
        (zin (x2 + 3) ∧ (zin (x3 + 1) ∧ ZW f_X8_costOf 4 [vR 20 o0, vI x1, vI (x2 + 3), vI (x3 + 1), vI (ν3 21 0 r4)] [] ν3 Q))
        else
        ZI f_X8_runsIn [vR 20 o0, vI x1, vI x3] ν3 (fun r6 ν5 =>
          (zin (2 * r6) ∧ (zin (2 + (2 * r6)) ∧ (zin (x2 + (2 + (2 * r6))) ∧ (zin (x3 + 1) ∧ ZW f_X8_costOf 4 [vR 20 o0, vI x1, vI (x2 + (2 + (2 * r6))), vI (x3 + 1), vI (ν3 21 0 r4)] [] ν5 Q)))))))))
    else
    Q (some (vI x2)) ν1))) :
    ZW f_X8_costOf 4 [vR 20 o0, vI x1, vI x2, vI x3, v4] [] μ Q := mvc_at zcd zml (C := zc141) rfl 45 4 h
theorem vc_X8_seekOf_0 {μ : mzM} {Q : Option mzV → mzM → Prop} {o0 x1 : Int} (h :
    ZI f_X8_costOf [vR 20 o0, vI x1] μ (fun r2 ν1 =>
    ZW f_X8_seekOf 6 [vR 20 o0, vI x1, vI r2, vI x1] [] ν1 Q)) :
    ZW f_X8_seekOf 0 [vR 20 o0, vI x1, none, none] [] μ Q := mvc_at zcd zml (C := zc142) rfl 31 0 h
theorem vc_X8_seekOf_6 {μ : mzM} {Q : Option mzV → mzM → Prop} {o0 x1 x2 x3 : Int} (h :
    ZI f_X8_reference [vR 20 o0, vI x3] μ (fun r2 ν1 =>
    (if r2 = (-1) then
    Q (some (vI x2)) ν1
    else
    ZI f_X8_reference [vR 20 o0, vI x3] ν1 (fun r4 ν3 =>
      ZI f_X8_costOf [vR 20 o0, vI r4] ν3 (fun r6 ν5 =>
      (zin (x2 + r6) ∧ ZI f_X8_reference [vR 20 o0, vI x3] ν5 (fun r8 ν7 =>
      ZW f_X8_seekOf 6 [vR 20 o0, vI x1, vI (x2 + r6), vI r8] [] ν7 Q))))))) :
    ZW f_X8_seekOf 6 [vR 20 o0, vI x1, vI x2, vI x3] [] μ Q := mvc_at zcd zml (C := zc142) rfl 31 6 h
theorem vc_X8_records_0 {μ : mzM} {Q : Option mzV → mzM → Prop} {o0 x1 x2 : Int} (h :
    (zin (1590 + x1) ∧ ((0 ≤ (1590 + x1) ∧ (1590 + x1) < 1880) ∧ (zin (1600 + x1) ∧ ((0 ≤ (1600 + x1) ∧ (1600 + x1) < 1880) ∧ ZW f_X8_records 16 [vR 20 o0, vI x1, vI x2, vI 0] [] (mup (mup μ 21 0 (1590 + x1) x2) 21 0 (1600 + x1) 0) Q))))) :
    ZW f_X8_records 0 [vR 20 o0, vI x1, vI x2, none] [] μ Q := mvc_at zcd zml (C := zc143) rfl 41 0 h
theorem vc_X8_records_16 {μ : mzM} {Q : Option mzV → mzM → Prop} {o0 x1 x2 x3 : Int} (h :
    (if x3 < 27 then
    (zin (27 * x1) ∧ (zin (1610 + (27 * x1)) ∧ (zin ((1610 + (27 * x1)) + x3) ∧ ((0 ≤ x3 ∧ x3 < 27) ∧ ((0 ≤ ((1610 + (27 * x1)) + x3) ∧ ((1610 + (27 * x1)) + x3) < 1880) ∧ (zin (x3 + 1) ∧ ZW f_X8_records 16 [vR 20 o0, vI x1, vI x2, vI (x3 + 1)] [] (mup μ 21 0 ((1610 + (27 * x1)) + x3) (μ 26 0 x3)) Q))))))
    else
    Q none μ)) :
    ZW f_X8_records 16 [vR 20 o0, vI x1, vI x2, vI x3] [] μ Q := mvc_at zcd zml (C := zc143) rfl 41 16 h
theorem vc_X8_adds_0 {μ : mzM} {Q : Option mzV → mzM → Prop} {o0 x1 : Int} (h :
    ZV f_X8_note [vR 20 o0] μ (fun ν1 =>
    ((0 ≤ (2 : Int) ∧ (2 : Int) < 1880) ∧ ZI f_X8_codesAll [vR 20 o0, vI (-1), vI x1] ν1 (fun r3 ν2 =>
    ZW f_X8_adds 14 [vR 20 o0, vI x1, vI (ν1 21 0 2), vI r3, vI 0] [] ν2 Q)))) :
    ZW f_X8_adds 0 [vR 20 o0, vI x1, none, none, none] [] μ Q := mvc_at zcd zml (C := zc144) rfl 54 0 h
theorem vc_X8_adds_14 {μ : mzM} {Q : Option mzV → mzM → Prop} {o0 x1 x2 x3 x4 : Int} (h :
    (if x4 < 144 then
    (zin (144 * x2) ∧ (zin (150 + (144 * x2)) ∧ (zin ((150 + (144 * x2)) + x4) ∧ (zin (6 + x4) ∧ ((0 ≤ (6 + x4) ∧ (6 + x4) < 1880) ∧ ((0 ≤ ((150 + (144 * x2)) + x4) ∧ ((150 + (144 * x2)) + x4) < 1880) ∧ (zin (x4 + 1) ∧ ZW f_X8_adds 14 [vR 20 o0, vI x1, vI x2, vI x3, vI (x4 + 1)] [] (mup μ 21 0 ((150 + (144 * x2)) + x4) (μ 21 0 (6 + x4))) Q)))))))
    else
    ZV f_X8_records [vR 20 o0, vI x2, vI x1] μ (fun ν1 =>
      ((0 ≤ (2 : Int) ∧ (2 : Int) < 1880) ∧ (zin ((ν1 21 0 2) + 1) ∧ ((0 ≤ (2 : Int) ∧ (2 : Int) < 1880) ∧ Q (some (vI x3)) (mup ν1 21 0 2 ((ν1 21 0 2) + 1)))))))) :
    ZW f_X8_adds 14 [vR 20 o0, vI x1, vI x2, vI x3, vI x4] [] μ Q := mvc_at zcd zml (C := zc144) rfl 54 14 h
theorem vc_X8_addKey_0 {μ : mzM} {Q : Option mzV → mzM → Prop} {o0 : Int} (h :
    ((0 ≤ (2 : Int) ∧ (2 : Int) < 1880) ∧ (if (μ 21 0 2) = 10 then
    Q (some (vI (-3))) μ
    else
    ZI f_X8_adds [vR 20 o0, vI (-1)] μ (fun r2 ν1 =>
      Q (some (vI r2)) ν1)))) :
    ZW f_X8_addKey 0 [vR 20 o0] [] μ Q := mvc_at zcd zml (C := zc145) rfl 17 0 h
theorem vc_X8_addDelta_0 {μ : mzM} {Q : Option mzV → mzM → Prop} {o0 x1 : Int} (h :
    ZI f_X8_isFrame [vR 20 o0, vI x1] μ (fun r2 ν1 =>
    (if r2 = 0 then
    Q (some (vI (-1))) ν1
    else
    ZI f_X8_isGood [vR 20 o0, vI x1] ν1 (fun r4 ν3 =>
      (if r4 = 0 then
      Q (some (vI (-2))) ν3
      else
      ZI f_X8_depthOf [vR 20 o0, vI x1] ν3 (fun r6 ν5 =>
        ((0 ≤ (4 : Int) ∧ (4 : Int) < 1880) ∧ (if r6 < (ν5 21 0 4) then
        ((0 ≤ (2 : Int) ∧ (2 : Int) < 1880) ∧ (if (ν5 21 0 2) = 10 then
          Q (some (vI (-3))) ν5
          else
          ZI f_X8_adds [vR 20 o0, vI x1] ν5 (fun r8 ν7 =>
            Q (some (vI r8)) ν7)))
        else
        Q (some (vI (-2))) ν5)))))))) :
    ZW f_X8_addDelta 0 [vR 20 o0, vI x1] [] μ Q := mvc_at zcd zml (C := zc146) rfl 37 0 h
theorem vc_X8_addChosen_0 {μ : mzM} {Q : Option mzV → mzM → Prop} {o0 : Int} (h :
    ((0 ≤ (2 : Int) ∧ (2 : Int) < 1880) ∧ (if (μ 21 0 2) = 10 then
    Q (some (vI (-3))) μ
    else
    ZI f_X8_codesAll [vR 20 o0, vI (-1), vI (-1)] μ (fun r2 ν1 =>
      ZW f_X8_addChosen 19 [vR 20 o0, vI (-1), vI r2, vI 0, vI 0, none, none, none] [] ν1 Q)))) :
    ZW f_X8_addChosen 0 [vR 20 o0, none, none, none, none, none, none, none] [] μ Q := mvc_at zcd zml (C := zc147) rfl 90 0 h
theorem vc_X8_addChosen_19 {μ : mzM} {Q : Option mzV → mzM → Prop} {o0 x1 x2 x3 x4 : Int} {v5 v6 v7 : mzV} (h :
    ((0 ≤ (2 : Int) ∧ (2 : Int) < 1880) ∧ (if x4 < (μ 21 0 2) then
    ZI f_X8_isGood [vR 20 o0, vI x4] μ (fun r2 ν1 =>
      (if r2 = 0 then
      (zin (x4 + 1) ∧ ZW f_X8_addChosen 19 [vR 20 o0, vI x1, vI x2, vI x3, vI (x4 + 1), v5, v6, v7] [] ν1 Q)
      else
      ZI f_X8_depthOf [vR 20 o0, vI x4] ν1 (fun r4 ν3 =>
        ((0 ≤ (4 : Int) ∧ (4 : Int) < 1880) ∧ (if r4 < (ν3 21 0 4) then
        ZI f_X8_codesAll [vR 20 o0, vI (-1), vI x4] ν3 (fun r6 ν5 =>
          ZI f_X8_depthOf [vR 20 o0, vI x4] ν5 (fun r8 ν7 =>
          (zin (r8 + 1) ∧ (if r6 < x2 then
          (zin (x4 + 1) ∧ ZW f_X8_addChosen 19 [vR 20 o0, vI x4, vI r6, vI (r8 + 1), vI (x4 + 1), vI r6, vI (r8 + 1), vI 1] [] ν7 Q)
          else
          (if r6 = x2 then
            (if x3 < (r8 + 1) then
              (zin (x4 + 1) ∧ ZW f_X8_addChosen 19 [vR 20 o0, vI x1, vI x2, vI x3, vI (x4 + 1), vI r6, vI (r8 + 1), vI 0] [] ν7 Q)
              else
              (zin (x4 + 1) ∧ ZW f_X8_addChosen 19 [vR 20 o0, vI x4, vI r6, vI (r8 + 1), vI (x4 + 1), vI r6, vI (r8 + 1), vI 1] [] ν7 Q))
            else
            (zin (x4 + 1) ∧ ZW f_X8_addChosen 19 [vR 20 o0, vI x1, vI x2, vI x3, vI (x4 + 1), vI r6, vI (r8 + 1), vI 0] [] ν7 Q))))))
        else
        (zin (x4 + 1) ∧ ZW f_X8_addChosen 19 [vR 20 o0, vI x1, vI x2, vI x3, vI (x4 + 1), v5, v6, v7] [] ν3 Q))))))
    else
    ZI f_X8_adds [vR 20 o0, vI x1] μ (fun r10 ν9 =>
      Q (some (vI r10)) ν9)))) :
    ZW f_X8_addChosen 19 [vR 20 o0, vI x1, vI x2, vI x3, vI x4, v5, v6, v7] [] μ Q := mvc_at zcd zml (C := zc147) rfl 90 19 h
theorem vc_X8_removeLast_0 {μ : mzM} {Q : Option mzV → mzM → Prop} {o0 : Int} (h :
    ((0 ≤ (2 : Int) ∧ (2 : Int) < 1880) ∧ (if (μ 21 0 2) = 0 then
    Q (some (vI (-2))) μ
    else
    ZV f_X8_note [vR 20 o0] μ (fun ν1 =>
      ((0 ≤ (2 : Int) ∧ (2 : Int) < 1880) ∧ (zin ((ν1 21 0 2) - 1) ∧ ((0 ≤ (2 : Int) ∧ (2 : Int) < 1880) ∧ ((0 ≤ (2 : Int) ∧ (2 : Int) < 1880) ∧ Q (some (vI ((mup ν1 21 0 2 ((ν1 21 0 2) - 1)) 21 0 2))) (mup ν1 21 0 2 ((ν1 21 0 2) - 1)))))))))) :
    ZW f_X8_removeLast 0 [vR 20 o0] [] μ Q := mvc_at zcd zml (C := zc148) rfl 27 0 h
theorem vc_X8_planOf_0 {μ : mzM} {Q : Option mzV → mzM → Prop} {o0 x1 : Int} (h :
    ZW f_X8_planOf 8 [vR 20 o0, vI x1, vI 0, vI 0, vI 0, vI 0, none, none] [] μ Q) :
    ZW f_X8_planOf 0 [vR 20 o0, vI x1, none, none, none, none, none, none] [] μ Q := mvc_at zcd zml (C := zc149) rfl 72 0 h
theorem vc_X8_planOf_8 {μ : mzM} {Q : Option mzV → mzM → Prop} {o0 x1 x2 x3 x4 x5 : Int} {v6 v7 : mzV} (h :
    ((0 ≤ (2 : Int) ∧ (2 : Int) < 1880) ∧ (if x5 < (μ 21 0 2) then
    (if (zand (zshr x1 x5) 1) = 1 then
      ((0 ≤ x5 ∧ x5 < 10) ∧ (zin (x2 + (μ 27 0 x5)) ∧ (if x4 < (μ 27 0 x5) then
        (zin (x5 + 1) ∧ ZW f_X8_planOf 8 [vR 20 o0, vI x1, vI (x2 + (μ 27 0 x5)), vI (μ 27 0 x5), vI (μ 27 0 x5), vI (x5 + 1), vI 1, vI (μ 27 0 x5)] [] μ Q)
        else
        (zin (x5 + 1) ∧ ZW f_X8_planOf 8 [vR 20 o0, vI x1, vI (x2 + (μ 27 0 x5)), vI (μ 27 0 x5), vI x4, vI (x5 + 1), vI 1, vI (μ 27 0 x5)] [] μ Q))))
      else
      ((0 ≤ x5 ∧ x5 < 10) ∧ (zin (x2 + (μ 28 0 x5)) ∧ (zin (x3 + (μ 28 0 x5)) ∧ (if x4 < (x3 + (μ 28 0 x5)) then
        (zin (x5 + 1) ∧ ZW f_X8_planOf 8 [vR 20 o0, vI x1, vI (x2 + (μ 28 0 x5)), vI (x3 + (μ 28 0 x5)), vI (x3 + (μ 28 0 x5)), vI (x5 + 1), vI 0, vI (μ 28 0 x5)] [] μ Q)
        else
        (zin (x5 + 1) ∧ ZW f_X8_planOf 8 [vR 20 o0, vI x1, vI (x2 + (μ 28 0 x5)), vI (x3 + (μ 28 0 x5)), vI x4, vI (x5 + 1), vI 0, vI (μ 28 0 x5)] [] μ Q))))))
    else
    ((0 ≤ (5 : Int) ∧ (5 : Int) < 1880) ∧ (zin ((μ 21 0 5) * x4) ∧ (zin (x2 + ((μ 21 0 5) * x4)) ∧ Q (some (vI (x2 + ((μ 21 0 5) * x4)))) μ)))))) :
    ZW f_X8_planOf 8 [vR 20 o0, vI x1, vI x2, vI x3, vI x4, vI x5, v6, v7] [] μ Q := mvc_at zcd zml (C := zc149) rfl 72 8 h
theorem vc_X8_bits_0 {μ : mzM} {Q : Option mzV → mzM → Prop} {x0 : Int} (h :
    ZW f_X8_bits 4 [vI x0, vI 0, vI 0] [] μ Q) :
    ZW f_X8_bits 0 [vI x0, none, none] [] μ Q := mvc_at zcd zml (C := zc150) rfl 24 0 h
theorem vc_X8_bits_4 {μ : mzM} {Q : Option mzV → mzM → Prop} {x0 x1 x2 : Int} (h :
    (if x2 < 10 then
    (zin (x1 + (zand (zshr x0 x2) 1)) ∧ (zin (x2 + 1) ∧ ZW f_X8_bits 4 [vI x0, vI (x1 + (zand (zshr x0 x2) 1)), vI (x2 + 1)] [] μ Q))
    else
    Q (some (vI x1)) μ)) :
    ZW f_X8_bits 4 [vI x0, vI x1, vI x2] [] μ Q := mvc_at zcd zml (C := zc150) rfl 24 4 h
theorem vc_X8_plans_0 {μ : mzM} {Q : Option mzV → mzM → Prop} {o0 : Int} (h :
    ZW f_X8_plans 2 [vR 20 o0, vI 0, none, none, none] [] μ Q) :
    ZW f_X8_plans 0 [vR 20 o0, none, none, none, none] [] μ Q := mvc_at zcd zml (C := zc151) rfl 92 0 h
theorem vc_X8_plans_2 {μ : mzM} {Q : Option mzV → mzM → Prop} {o0 x1 : Int} (h :
    ((0 ≤ (2 : Int) ∧ (2 : Int) < 1880) ∧ (if x1 < (μ 21 0 2) then
    ZI f_X8_codesAll [vR 20 o0, vI x1, vI (-1)] μ (fun r2 ν1 =>
      ((0 ≤ x1 ∧ x1 < 10) ∧ (if x1 = 0 then
      ((0 ≤ x1 ∧ x1 < 10) ∧ (zin (x1 + 1) ∧ ZW f_X8_plans 2 [vR 20 o0, vI (x1 + 1), none, none, none] [] (mup (mup ν1 27 0 x1 r2) 28 0 x1 0) Q))
      else
      (zin (x1 - 1) ∧ ZI f_X8_codesAll [vR 20 o0, vI x1, vI (x1 - 1)] (mup ν1 27 0 x1 r2) (fun r4 ν3 =>
        ((0 ≤ x1 ∧ x1 < 10) ∧ (zin (x1 + 1) ∧ ZW f_X8_plans 2 [vR 20 o0, vI (x1 + 1), none, none, none] [] (mup ν3 28 0 x1 r4) Q)))))))
    else
    ZI f_X8_planOf [vR 20 o0, vI 1] (mup μ 20 o0 16 1) (fun r6 ν5 =>
      ZW f_X8_plans 41 [vR 20 o0, vI r6, vI 3, none, none] [] ν5 Q)))) :
    ZW f_X8_plans 2 [vR 20 o0, vI x1, none, none, none] [] μ Q := mvc_at zcd zml (C := zc151) rfl 92 2 h
theorem vc_X8_plans_41 {μ : mzM} {Q : Option mzV → mzM → Prop} {o0 x1 x2 : Int} {v3 v4 : mzV} (h :
    ((0 ≤ (2 : Int) ∧ (2 : Int) < 1880) ∧ (if x2 < (zshl 1 (μ 21 0 2)) then
    ZI f_X8_planOf [vR 20 o0, vI x2] μ (fun r2 ν1 =>
      (if r2 < x1 then
      (zin (x2 + 2) ∧ ZW f_X8_plans 41 [vR 20 o0, vI r2, vI (x2 + 2), vI r2, vI 1] [] (mup ν1 20 o0 16 x2) Q)
      else
      (if r2 = x1 then
        ZI f_X8_bits [vI x2] ν1 (fun r4 ν3 =>
          ZI f_X8_bits [vI (ν3 20 o0 16)] ν3 (fun r6 ν5 =>
          (if r4 < r6 then
          (zin (x2 + 2) ∧ ZW f_X8_plans 41 [vR 20 o0, vI r2, vI (x2 + 2), vI r2, vI 1] [] (mup ν5 20 o0 16 x2) Q)
          else
          (zin (x2 + 2) ∧ ZW f_X8_plans 41 [vR 20 o0, vI x1, vI (x2 + 2), vI r2, vI 0] [] (mup ν5 20 o0 16 (ν5 20 o0 16)) Q))))
        else
        (zin (x2 + 2) ∧ ZW f_X8_plans 41 [vR 20 o0, vI x1, vI (x2 + 2), vI r2, vI 0] [] (mup ν1 20 o0 16 (ν1 20 o0 16)) Q))))
    else
    Q (some (vI x1)) μ))) :
    ZW f_X8_plans 41 [vR 20 o0, vI x1, vI x2, v3, v4] [] μ Q := mvc_at zcd zml (C := zc151) rfl 92 41 h
theorem vc_X8_recode_0 {μ : mzM} {Q : Option mzV → mzM → Prop} {o0 : Int} (h :
    ((0 ≤ (2 : Int) ∧ (2 : Int) < 1880) ∧ (if (μ 21 0 2) = 0 then
    Q (some (vI (-2))) μ
    else
    ZV f_X8_note [vR 20 o0] μ (fun ν1 =>
      ZI f_X8_plans [vR 20 o0] ν1 (fun r3 ν2 =>
      ZW f_X8_recode 14 [vR 20 o0, vI r3, vI 0, none, none] [] ν2 Q))))) :
    ZW f_X8_recode 0 [vR 20 o0, none, none, none, none] [] μ Q := mvc_at zcd zml (C := zc152) rfl 56 0 h
theorem vc_X8_recode_14 {μ : mzM} {Q : Option mzV → mzM → Prop} {o0 x1 x2 : Int} {v3 v4 : mzV} (h :
    ((0 ≤ (2 : Int) ∧ (2 : Int) < 1880) ∧ (if x2 < (μ 21 0 2) then
    (if (zand (zshr (μ 20 o0 16) x2) 1) = 1 then
      ZI f_X8_codesAll [vR 20 o0, vI x2, vI (-1)] μ (fun r2 ν1 =>
        (if r2 < 0 then
        ZV f_X8_records [vR 20 o0, vI x2, vI (-1)] ν1 (fun ν3 =>
          (zin (x2 + 1) ∧ ZW f_X8_recode 14 [vR 20 o0, vI x1, vI (x2 + 1), vI (-1), vI r2] [] ν3 Q))
        else
        ZV f_X8_records [vR 20 o0, vI x2, vI (-1)] ν1 (fun ν4 =>
          (zin (x2 + 1) ∧ ZW f_X8_recode 14 [vR 20 o0, vI x1, vI (x2 + 1), vI (-1), vI r2] [] ν4 Q))))
      else
      (zin (x2 - 1) ∧ ZI f_X8_codesAll [vR 20 o0, vI x2, vI (x2 - 1)] μ (fun r6 ν5 =>
        (if r6 < 0 then
        ZV f_X8_records [vR 20 o0, vI x2, vI (-1)] ν5 (fun ν7 =>
          (zin (x2 + 1) ∧ ZW f_X8_recode 14 [vR 20 o0, vI x1, vI (x2 + 1), vI (x2 - 1), vI r6] [] ν7 Q))
        else
        ZV f_X8_records [vR 20 o0, vI x2, vI (x2 - 1)] ν5 (fun ν8 =>
          (zin (x2 + 1) ∧ ZW f_X8_recode 14 [vR 20 o0, vI x1, vI (x2 + 1), vI (x2 - 1), vI r6] [] ν8 Q))))))
    else
    Q (some (vI x1)) μ))) :
    ZW f_X8_recode 14 [vR 20 o0, vI x1, vI x2, v3, v4] [] μ Q := mvc_at zcd zml (C := zc152) rfl 56 14 h
theorem vc_X8_planCost_0 {μ : mzM} {Q : Option mzV → mzM → Prop} {o0 : Int} (h :
    ((0 ≤ (2 : Int) ∧ (2 : Int) < 1880) ∧ (if (μ 21 0 2) = 0 then
    Q (some (vI (-9))) μ
    else
    ZI f_X8_plans [vR 20 o0] μ (fun r2 ν1 =>
      Q (some (vI r2)) ν1)))) :
    ZW f_X8_planCost 0 [vR 20 o0] [] μ Q := mvc_at zcd zml (C := zc153) rfl 15 0 h
theorem vc_X8_planKeys_0 {μ : mzM} {Q : Option mzV → mzM → Prop} {o0 : Int} (h :
    ((0 ≤ (2 : Int) ∧ (2 : Int) < 1880) ∧ (if (μ 21 0 2) = 0 then
    Q (some (vI (-9))) μ
    else
    ZI f_X8_plans [vR 20 o0] μ (fun r2 ν1 =>
      (if r2 < 0 then
      Q (some (vI (-9))) ν1
      else
      Q (some (vI (ν1 20 o0 16))) ν1))))) :
    ZW f_X8_planKeys 0 [vR 20 o0] [] μ Q := mvc_at zcd zml (C := zc154) rfl 20 0 h
theorem vc_X8_setLimits_0 {μ : mzM} {Q : Option mzV → mzM → Prop} {o0 x1 x2 x3 : Int} (h :
    ZI f_X8_in [vI x1, vI 0, vI 4] μ (fun r2 ν1 =>
    (if r2 = 0 then
    Q (some (vI (-1))) ν1
    else
    ZI f_X8_in [vI x2, vI 0, vI 9] ν1 (fun r4 ν3 =>
      (if r4 = 0 then
      Q (some (vI (-1))) ν3
      else
      ZI f_X8_in [vI x3, vI 0, vI 9] ν3 (fun r6 ν5 =>
        (if r6 = 0 then
        Q (some (vI (-1))) ν5
        else
        ZV f_X8_note [vR 20 o0] ν5 (fun ν7 =>
          ((0 ≤ (3 : Int) ∧ (3 : Int) < 1880) ∧ (if (ν7 21 0 3) = x1 then
          ((0 ≤ (4 : Int) ∧ (4 : Int) < 1880) ∧ (if (ν7 21 0 4) = x2 then
            ((0 ≤ (5 : Int) ∧ (5 : Int) < 1880) ∧ (if (ν7 21 0 5) = x3 then
              ((0 ≤ (3 : Int) ∧ (3 : Int) < 1880) ∧ ((0 ≤ (4 : Int) ∧ (4 : Int) < 1880) ∧ ((0 ≤ (5 : Int) ∧ (5 : Int) < 1880) ∧ Q (some (vI 0)) (mup (mup (mup ν7 21 0 3 x1) 21 0 4 x2) 21 0 5 x3))))
              else
              ((0 ≤ (3 : Int) ∧ (3 : Int) < 1880) ∧ ((0 ≤ (4 : Int) ∧ (4 : Int) < 1880) ∧ ((0 ≤ (5 : Int) ∧ (5 : Int) < 1880) ∧ Q (some (vI 1)) (mup (mup (mup ν7 21 0 3 x1) 21 0 4 x2) 21 0 5 x3))))))
            else
            ((0 ≤ (3 : Int) ∧ (3 : Int) < 1880) ∧ ((0 ≤ (4 : Int) ∧ (4 : Int) < 1880) ∧ ((0 ≤ (5 : Int) ∧ (5 : Int) < 1880) ∧ Q (some (vI 1)) (mup (mup (mup ν7 21 0 3 x1) 21 0 4 x2) 21 0 5 x3))))))
          else
          ((0 ≤ (3 : Int) ∧ (3 : Int) < 1880) ∧ ((0 ≤ (4 : Int) ∧ (4 : Int) < 1880) ∧ ((0 ≤ (5 : Int) ∧ (5 : Int) < 1880) ∧ Q (some (vI 1)) (mup (mup (mup ν7 21 0 3 x1) 21 0 4 x2) 21 0 5 x3)))))))))))))) :
    ZW f_X8_setLimits 0 [vR 20 o0, vI x1, vI x2, vI x3, none] [] μ Q := mvc_at zcd zml (C := zc155) rfl 67 0 h
theorem vc_X8_setLost_0 {μ : mzM} {Q : Option mzV → mzM → Prop} {o0 x1 x2 : Int} (h :
    ZI f_X8_isFrame [vR 20 o0, vI x1] μ (fun r2 ν1 =>
    (if r2 = 0 then
    Q (some (vI (-1))) ν1
    else
    ZI f_X8_in [vI x2, vI 0, vI 1] ν1 (fun r4 ν3 =>
      (if r4 = 0 then
      Q (some (vI (-1))) ν3
      else
      (zin (1600 + x1) ∧ ((0 ≤ (1600 + x1) ∧ (1600 + x1) < 1880) ∧ (if (ν3 21 0 (1600 + x1)) = x2 then
        Q (some (vI (-2))) ν3
        else
        ZV f_X8_note [vR 20 o0] ν3 (fun ν5 =>
          (zin (1600 + x1) ∧ ((0 ≤ (1600 + x1) ∧ (1600 + x1) < 1880) ∧ ZI f_X8_goods [vR 20 o0] (mup ν5 21 0 (1600 + x1) x2) (fun r7 ν6 =>
          Q (some (vI r7)) ν6)))))))))))) :
    ZW f_X8_setLost 0 [vR 20 o0, vI x1, vI x2] [] μ Q := mvc_at zcd zml (C := zc156) rfl 38 0 h
theorem vc_X8_codesOf_0 {μ : mzM} {Q : Option mzV → mzM → Prop} {o0 x1 x2 : Int} (h :
    ZW f_X8_codesOf 4 [vR 20 o0, vI x1, vI x2, vI 0, vI 0] [] μ Q) :
    ZW f_X8_codesOf 0 [vR 20 o0, vI x1, vI x2, none, none] [] μ Q := mvc_at zcd zml (C := zc157) rfl 32 0 h
theorem vc_X8_codesOf_4 {μ : mzM} {Q : Option mzV → mzM → Prop} {o0 x1 x2 x3 x4 : Int} (h :
    ZI f_X8_blocks [vR 20 o0] μ (fun r2 ν1 =>
    (if x4 < r2 then
    ZI f_X8_codeAt [vR 20 o0, vI x1, vI x4] ν1 (fun r4 ν3 =>
      ((0 ≤ r4 ∧ r4 < 1880) ∧ (if (ν3 21 0 r4) = x2 then
      (zin (x3 + 1) ∧ (zin (x4 + 1) ∧ ZW f_X8_codesOf 4 [vR 20 o0, vI x1, vI x2, vI (x3 + 1), vI (x4 + 1)] [] ν3 Q))
      else
      (zin (x3 + 0) ∧ (zin (x4 + 1) ∧ ZW f_X8_codesOf 4 [vR 20 o0, vI x1, vI x2, vI (x3 + 0), vI (x4 + 1)] [] ν3 Q)))))
    else
    Q (some (vI x3)) ν1))) :
    ZW f_X8_codesOf 4 [vR 20 o0, vI x1, vI x2, vI x3, vI x4] [] μ Q := mvc_at zcd zml (C := zc157) rfl 32 4 h
theorem vc_X8_frame_0 {μ : mzM} {Q : Option mzV → mzM → Prop} {o0 x1 x2 : Int} (h :
    ZI f_X8_isFrame [vR 20 o0, vI x1] μ (fun r2 ν1 =>
    (if r2 = 0 then
    Q (some (vI (-1))) ν1
    else
    ZI f_X8_in [vI x2, vI 0, vI 8] ν1 (fun r4 ν3 =>
      (if r4 = 0 then
      Q (some (vI (-1))) ν3
      else
      (if x2 = 0 then
        ZI f_X8_reference [vR 20 o0, vI x1] ν3 (fun r6 ν5 =>
          (if r6 = (-1) then
          Q (some (vI (-9))) ν5
          else
          ZI f_X8_reference [vR 20 o0, vI x1] ν5 (fun r8 ν7 =>
            Q (some (vI r8)) ν7)))
        else
        (if x2 = 1 then
        ZI f_X8_costOf [vR 20 o0, vI x1] ν3 (fun r10 ν9 =>
          Q (some (vI r10)) ν9)
        else
        (if x2 = 2 then
        ZI f_X8_seekOf [vR 20 o0, vI x1] ν3 (fun r12 ν11 =>
          Q (some (vI r12)) ν11)
        else
        (if x2 = 3 then
        ZI f_X8_depthOf [vR 20 o0, vI x1] ν3 (fun r14 ν13 =>
          Q (some (vI r14)) ν13)
        else
        (if x2 = 4 then
        ZI f_X8_isGood [vR 20 o0, vI x1] ν3 (fun r16 ν15 =>
          (if r16 = 0 then
          Q (some (vI 0)) ν15
          else
          Q (some (vI 1)) ν15))
        else
        (zin (x2 - 5) ∧ ZI f_X8_codesOf [vR 20 o0, vI x1, vI (x2 - 5)] ν3 (fun r18 ν17 =>
          Q (some (vI r18)) ν17)))))))))))) :
    ZW f_X8_frame 0 [vR 20 o0, vI x1, vI x2] [] μ Q := mvc_at zcd zml (C := zc158) rfl 56 0 h
theorem vc_X8_isBlock_0 {μ : mzM} {Q : Option mzV → mzM → Prop} {o0 x1 : Int} (h :
    ZI f_X8_blocks [vR 20 o0] μ (fun r2 ν1 =>
    (zin (r2 - 1) ∧ ZI f_X8_in [vI x1, vI 0, vI (r2 - 1)] ν1 (fun r4 ν3 =>
    Q (some (vI (r4 % 2))) ν3)))) :
    ZW f_X8_isBlock 0 [vR 20 o0, vI x1] [] μ Q := mvc_at zcd zml (C := zc159) rfl 13 0 h
theorem vc_X8_code_0 {μ : mzM} {Q : Option mzV → mzM → Prop} {o0 x1 x2 x3 : Int} (h :
    ZI f_X8_isFrame [vR 20 o0, vI x1] μ (fun r2 ν1 =>
    (if r2 = 0 then
    Q (some (vI (-1))) ν1
    else
    ZI f_X8_isBlock [vR 20 o0, vI x2] ν1 (fun r4 ν3 =>
      (if r4 = 0 then
      Q (some (vI (-1))) ν3
      else
      ZI f_X8_in [vI x3, vI 0, vI 3] ν3 (fun r6 ν5 =>
        (if r6 = 0 then
        Q (some (vI (-1))) ν5
        else
        ZI f_X8_codeAt [vR 20 o0, vI x1, vI x2] ν5 (fun r8 ν7 =>
          ((0 ≤ r8 ∧ r8 < 1880) ∧ (if x3 = 0 then
          Q (some (vI (ν7 21 0 r8))) ν7
          else
          (if x3 = 3 then
            (if (ν7 21 0 r8) < 2 then
              Q (some (vI (-9))) ν7
              else
              ZI f_X8_runsIn [vR 20 o0, vI x1, vI x2] ν7 (fun r10 ν9 =>
                Q (some (vI r10)) ν9))
            else
            (if (ν7 21 0 r8) = 1 then
              ZI f_X8_codeAt [vR 20 o0, vI x1, vI x2] ν7 (fun r12 ν11 =>
                (zin (r12 + x3) ∧ ((0 ≤ (r12 + x3) ∧ (r12 + x3) < 1880) ∧ Q (some (vI (ν11 21 0 (r12 + x3)))) ν11)))
              else
              Q (some (vI (-9))) ν7)))))))))))) :
    ZW f_X8_code 0 [vR 20 o0, vI x1, vI x2, vI x3, none] [] μ Q := mvc_at zcd zml (C := zc160) rfl 60 0 h
theorem vc_X8_run_0 {μ : mzM} {Q : Option mzV → mzM → Prop} {o0 x1 x2 x3 x4 : Int} (h :
    ZI f_X8_isFrame [vR 20 o0, vI x1] μ (fun r2 ν1 =>
    (if r2 = 0 then
    Q (some (vI (-1))) ν1
    else
    ZI f_X8_isBlock [vR 20 o0, vI x2] ν1 (fun r4 ν3 =>
      (if r4 = 0 then
      Q (some (vI (-1))) ν3
      else
      (if x3 < 0 then
        Q (some (vI (-1))) ν3
        else
        ZI f_X8_in [vI x4, vI 0, vI 1] ν3 (fun r6 ν5 =>
          (if r6 = 0 then
          Q (some (vI (-1))) ν5
          else
          ZI f_X8_codeAt [vR 20 o0, vI x1, vI x2] ν5 (fun r8 ν7 =>
            ((0 ≤ r8 ∧ r8 < 1880) ∧ ZI f_X8_runsIn [vR 20 o0, vI x1, vI x2] ν7 (fun r10 ν9 =>
            (if x3 < r10 then
            (if (ν7 21 0 r8) = 2 then
              ZI f_X8_reference [vR 20 o0, vI x1] ν9 (fun r12 ν11 =>
                ZW f_X8_run 50 [vR 20 o0, vI x1, vI x2, vI x3, vI x4, vI (ν7 21 0 r8), vI r12, vI 0, vI 0, vI 0, vI 0] [] ν11 Q)
              else
              ZW f_X8_run 50 [vR 20 o0, vI x1, vI x2, vI x3, vI x4, vI (ν7 21 0 r8), vI (-1), vI 0, vI 0, vI 0, vI 0] [] ν9 Q)
            else
            Q (some (vI (-9))) ν9)))))))))))) :
    ZW f_X8_run 0 [vR 20 o0, vI x1, vI x2, vI x3, vI x4, none, none, none, none, none, none] [] μ Q := mvc_at zcd zml (C := zc161) rfl 110 0 h
theorem vc_X8_run_50 {μ : mzM} {Q : Option mzV → mzM → Prop} {o0 x1 x2 x3 x4 x5 x6 x7 x8 x9 x10 : Int} (h :
    (if x10 < 16 then
    (if (0 : Int) < x10 then
      ZI f_X8_given [vR 20 o0, vI x1, vI x6, vI x2, vI x10] μ (fun r2 ν1 =>
        (zin (x10 - 1) ∧ ZI f_X8_given [vR 20 o0, vI x1, vI x6, vI x2, vI (x10 - 1)] ν1 (fun r4 ν3 =>
        (if r2 = r4 then
        (zin (x7 + 0) ∧ (if (x7 + 0) = x3 then
          (zin (x8 + 1) ∧ (if (x7 + 0) = x3 then
            ZI f_X8_given [vR 20 o0, vI x1, vI x6, vI x2, vI x10] ν3 (fun r6 ν5 =>
              (zin (x10 + 1) ∧ ZW f_X8_run 50 [vR 20 o0, vI x1, vI x2, vI x3, vI x4, vI x5, vI x6, vI (x7 + 0), vI (x8 + 1), vI r6, vI (x10 + 1)] [] ν5 Q))
            else
            (zin (x10 + 1) ∧ ZW f_X8_run 50 [vR 20 o0, vI x1, vI x2, vI x3, vI x4, vI x5, vI x6, vI (x7 + 0), vI (x8 + 1), vI x9, vI (x10 + 1)] [] ν3 Q)))
          else
          (zin (x8 + 0) ∧ (if (x7 + 0) = x3 then
            ZI f_X8_given [vR 20 o0, vI x1, vI x6, vI x2, vI x10] ν3 (fun r8 ν7 =>
              (zin (x10 + 1) ∧ ZW f_X8_run 50 [vR 20 o0, vI x1, vI x2, vI x3, vI x4, vI x5, vI x6, vI (x7 + 0), vI (x8 + 0), vI r8, vI (x10 + 1)] [] ν7 Q))
            else
            (zin (x10 + 1) ∧ ZW f_X8_run 50 [vR 20 o0, vI x1, vI x2, vI x3, vI x4, vI x5, vI x6, vI (x7 + 0), vI (x8 + 0), vI x9, vI (x10 + 1)] [] ν3 Q)))))
        else
        (zin (x7 + 1) ∧ (if (x7 + 1) = x3 then
          (zin (x8 + 1) ∧ (if (x7 + 1) = x3 then
            ZI f_X8_given [vR 20 o0, vI x1, vI x6, vI x2, vI x10] ν3 (fun r10 ν9 =>
              (zin (x10 + 1) ∧ ZW f_X8_run 50 [vR 20 o0, vI x1, vI x2, vI x3, vI x4, vI x5, vI x6, vI (x7 + 1), vI (x8 + 1), vI r10, vI (x10 + 1)] [] ν9 Q))
            else
            (zin (x10 + 1) ∧ ZW f_X8_run 50 [vR 20 o0, vI x1, vI x2, vI x3, vI x4, vI x5, vI x6, vI (x7 + 1), vI (x8 + 1), vI x9, vI (x10 + 1)] [] ν3 Q)))
          else
          (zin (x8 + 0) ∧ (if (x7 + 1) = x3 then
            ZI f_X8_given [vR 20 o0, vI x1, vI x6, vI x2, vI x10] ν3 (fun r12 ν11 =>
              (zin (x10 + 1) ∧ ZW f_X8_run 50 [vR 20 o0, vI x1, vI x2, vI x3, vI x4, vI x5, vI x6, vI (x7 + 1), vI (x8 + 0), vI r12, vI (x10 + 1)] [] ν11 Q))
            else
            (zin (x10 + 1) ∧ ZW f_X8_run 50 [vR 20 o0, vI x1, vI x2, vI x3, vI x4, vI x5, vI x6, vI (x7 + 1), vI (x8 + 0), vI x9, vI (x10 + 1)] [] ν3 Q)))))))))
      else
      (zin (x7 + 0) ∧ (if (x7 + 0) = x3 then
        (zin (x8 + 1) ∧ (if (x7 + 0) = x3 then
          ZI f_X8_given [vR 20 o0, vI x1, vI x6, vI x2, vI x10] μ (fun r14 ν13 =>
            (zin (x10 + 1) ∧ ZW f_X8_run 50 [vR 20 o0, vI x1, vI x2, vI x3, vI x4, vI x5, vI x6, vI (x7 + 0), vI (x8 + 1), vI r14, vI (x10 + 1)] [] ν13 Q))
          else
          (zin (x10 + 1) ∧ ZW f_X8_run 50 [vR 20 o0, vI x1, vI x2, vI x3, vI x4, vI x5, vI x6, vI (x7 + 0), vI (x8 + 1), vI x9, vI (x10 + 1)] [] μ Q)))
        else
        (zin (x8 + 0) ∧ (if (x7 + 0) = x3 then
          ZI f_X8_given [vR 20 o0, vI x1, vI x6, vI x2, vI x10] μ (fun r16 ν15 =>
            (zin (x10 + 1) ∧ ZW f_X8_run 50 [vR 20 o0, vI x1, vI x2, vI x3, vI x4, vI x5, vI x6, vI (x7 + 0), vI (x8 + 0), vI r16, vI (x10 + 1)] [] ν15 Q))
          else
          (zin (x10 + 1) ∧ ZW f_X8_run 50 [vR 20 o0, vI x1, vI x2, vI x3, vI x4, vI x5, vI x6, vI (x7 + 0), vI (x8 + 0), vI x9, vI (x10 + 1)] [] μ Q))))))
    else
    (if x4 = 0 then
      Q (some (vI x8)) μ
      else
      Q (some (vI x9)) μ))) :
    ZW f_X8_run 50 [vR 20 o0, vI x1, vI x2, vI x3, vI x4, vI x5, vI x6, vI x7, vI x8, vI x9, vI x10] [] μ Q := mvc_at zcd zml (C := zc161) rfl 110 50 h
theorem vc_X8_pixel_0 {μ : mzM} {Q : Option mzV → mzM → Prop} {o0 x1 x2 : Int} (h :
    ZI f_X8_isFrame [vR 20 o0, vI x1] μ (fun r2 ν1 =>
    (if r2 = 0 then
    Q (some (vI (-1))) ν1
    else
    ZI f_X8_isCell [vR 20 o0, vI x2] ν1 (fun r4 ν3 =>
      (if r4 = 0 then
      Q (some (vI (-1))) ν3
      else
      ZI f_X8_isGood [vR 20 o0, vI x1] ν3 (fun r6 ν5 =>
        (if r6 = 0 then
        Q (some (vI (-2))) ν5
        else
        ZI f_X8_value [vR 20 o0, vI x1, vI x2] ν5 (fun r8 ν7 =>
          Q (some (vI r8)) ν7)))))))) :
    ZW f_X8_pixel 0 [vR 20 o0, vI x1, vI x2] [] μ Q := mvc_at zcd zml (C := zc162) rfl 26 0 h
theorem vc_X8_count_0 {μ : mzM} {Q : Option mzV → mzM → Prop} {o0 x1 : Int} (h :
    (if x1 = 0 then
    ((0 ≤ x1 ∧ x1 < 1880) ∧ Q (some (vI (μ 21 0 x1))) μ)
    else
    (if x1 = 1 then
    ((0 ≤ x1 ∧ x1 < 1880) ∧ Q (some (vI (μ 21 0 x1))) μ)
    else
    (if x1 = 2 then
    ((0 ≤ x1 ∧ x1 < 1880) ∧ Q (some (vI (μ 21 0 x1))) μ)
    else
    (if x1 = 3 then
    ((0 ≤ x1 ∧ x1 < 1880) ∧ Q (some (vI (μ 21 0 x1))) μ)
    else
    (if x1 = 4 then
    ((0 ≤ x1 ∧ x1 < 1880) ∧ Q (some (vI (μ 21 0 x1))) μ)
    else
    (if x1 = 5 then
    ((0 ≤ x1 ∧ x1 < 1880) ∧ Q (some (vI (μ 21 0 x1))) μ)
    else
    (if x1 = 6 then
    ZW f_X8_count 11 [vR 20 o0, vI x1, vI 0, vI 0] [] μ Q
    else
    (if x1 = 7 then
    ZI f_X8_goods [vR 20 o0] μ (fun r2 ν1 =>
      Q (some (vI r2)) ν1)
    else
    (if x1 = 8 then
    Q (some (vI (μ 20 o0 4))) μ
    else
    (if x1 = 9 then
    Q (some (vI (μ 20 o0 2))) μ
    else
    Q (some (vI (-1))) μ))))))))))) :
    ZW f_X8_count 0 [vR 20 o0, vI x1, none, none] [] μ Q := mvc_at zcd zml (C := zc163) rfl 43 0 h
theorem vc_X8_count_11 {μ : mzM} {Q : Option mzV → mzM → Prop} {o0 x1 x2 x3 : Int} (h :
    ((0 ≤ (2 : Int) ∧ (2 : Int) < 1880) ∧ (if x3 < (μ 21 0 2) then
    ZI f_X8_costOf [vR 20 o0, vI x3] μ (fun r2 ν1 =>
      (zin (x2 + r2) ∧ (zin (x3 + 1) ∧ ZW f_X8_count 11 [vR 20 o0, vI x1, vI (x2 + r2), vI (x3 + 1)] [] ν1 Q)))
    else
    Q (some (vI x2)) μ))) :
    ZW f_X8_count 11 [vR 20 o0, vI x1, vI x2, vI x3] [] μ Q := mvc_at zcd zml (C := zc163) rfl 43 11 h
theorem vc_X8_costWith_0 {μ : mzM} {Q : Option mzV → mzM → Prop} {o0 x1 : Int} (h :
    ZI f_X8_isImage [vR 20 o0, vI x1] μ (fun r2 ν1 =>
    (if r2 = 0 then
    Q (some (vI (-1))) ν1
    else
    ZI f_X8_isKnown [vR 20 o0, vI x1] ν1 (fun r4 ν3 =>
      (if r4 = 0 then
      Q (some (vI (-2))) ν3
      else
      ZI f_X8_codesAll [vR 20 o0, vI (-1), vI x1] ν3 (fun r6 ν5 =>
        Q (some (vI r6)) ν5)))))) :
    ZW f_X8_costWith 0 [vR 20 o0, vI x1] [] μ Q := mvc_at zcd zml (C := zc164) rfl 22 0 h
theorem vc_X8_differing_0 {μ : mzM} {Q : Option mzV → mzM → Prop} {o0 x1 x2 : Int} (h :
    ZW f_X8_differing 4 [vR 20 o0, vI x1, vI x2, vI 0, vI 0] [] μ Q) :
    ZW f_X8_differing 0 [vR 20 o0, vI x1, vI x2, none, none] [] μ Q := mvc_at zcd zml (C := zc165) rfl 32 0 h
theorem vc_X8_differing_4 {μ : mzM} {Q : Option mzV → mzM → Prop} {o0 x1 x2 x3 x4 : Int} (h :
    ZI f_X8_cells [vR 20 o0] μ (fun r2 ν1 =>
    (if x4 < r2 then
    ZI f_X8_value [vR 20 o0, vI x1, vI x4] ν1 (fun r4 ν3 =>
      ZI f_X8_value [vR 20 o0, vI x2, vI x4] ν3 (fun r6 ν5 =>
      (if r4 = r6 then
      (zin (x3 + 0) ∧ (zin (x4 + 1) ∧ ZW f_X8_differing 4 [vR 20 o0, vI x1, vI x2, vI (x3 + 0), vI (x4 + 1)] [] ν5 Q))
      else
      (zin (x3 + 1) ∧ (zin (x4 + 1) ∧ ZW f_X8_differing 4 [vR 20 o0, vI x1, vI x2, vI (x3 + 1), vI (x4 + 1)] [] ν5 Q)))))
    else
    Q (some (vI x3)) ν1))) :
    ZW f_X8_differing 4 [vR 20 o0, vI x1, vI x2, vI x3, vI x4] [] μ Q := mvc_at zcd zml (C := zc165) rfl 32 4 h
theorem vc_X8_difference_0 {μ : mzM} {Q : Option mzV → mzM → Prop} {o0 x1 x2 : Int} (h :
    ZI f_X8_isImage [vR 20 o0, vI x1] μ (fun r2 ν1 =>
    (if r2 = 0 then
    Q (some (vI (-1))) ν1
    else
    ZI f_X8_isImage [vR 20 o0, vI x2] ν1 (fun r4 ν3 =>
      (if r4 = 0 then
      Q (some (vI (-1))) ν3
      else
      ZI f_X8_isKnown [vR 20 o0, vI x1] ν3 (fun r6 ν5 =>
        (if r6 = 0 then
        Q (some (vI (-2))) ν5
        else
        ZI f_X8_isKnown [vR 20 o0, vI x2] ν5 (fun r8 ν7 =>
          (if r8 = 0 then
          Q (some (vI (-2))) ν7
          else
          ZI f_X8_differing [vR 20 o0, vI x1, vI x2] ν7 (fun r10 ν9 =>
            Q (some (vI r10)) ν9)))))))))) :
    ZW f_X8_difference 0 [vR 20 o0, vI x1, vI x2] [] μ Q := mvc_at zcd zml (C := zc166) rfl 30 0 h
theorem vc_X8_areAlike_0 {μ : mzM} {Q : Option mzV → mzM → Prop} {o0 x1 x2 x3 x4 x5 x6 : Int} (h :
    ZW f_X8_areAlike 4 [vR 20 o0, vI x1, vI x2, vI x3, vI x4, vI x5, vI x6, vI 1, vI 0] [] μ Q) :
    ZW f_X8_areAlike 0 [vR 20 o0, vI x1, vI x2, vI x3, vI x4, vI x5, vI x6, none, none] [] μ Q := mvc_at zcd zml (C := zc167) rfl 53 0 h
theorem vc_X8_areAlike_4 {μ : mzM} {Q : Option mzV → mzM → Prop} {o0 x1 x2 x3 x4 x5 x6 x7 x8 : Int} (h :
    (if x8 < 16 then
    (if x7 = 0 then
      (zin (x8 + 1) ∧ ZW f_X8_areAlike 4 [vR 20 o0, vI x1, vI x2, vI x3, vI x4, vI x5, vI x6, vI 0, vI (x8 + 1)] [] μ Q)
      else
      ((4 : Int) ≠ 0 ∧ (zin (x2 + (Int.tmod x8 4)) ∧ (((4 : Int) ≠ 0 ∧ zin (Int.tdiv x8 4)) ∧ (zin (x3 + (Int.tdiv x8 4)) ∧ ZI f_X8_place [vR 20 o0, vI (x2 + (Int.tmod x8 4)), vI (x3 + (Int.tdiv x8 4))] μ (fun r2 ν1 =>
        ZI f_X8_value [vR 20 o0, vI x1, vI r2] ν1 (fun r4 ν3 =>
        ((4 : Int) ≠ 0 ∧ (zin (x5 + (Int.tmod x8 4)) ∧ (((4 : Int) ≠ 0 ∧ zin (Int.tdiv x8 4)) ∧ (zin (x6 + (Int.tdiv x8 4)) ∧ ZI f_X8_place [vR 20 o0, vI (x5 + (Int.tmod x8 4)), vI (x6 + (Int.tdiv x8 4))] ν3 (fun r6 ν5 =>
        ZI f_X8_value [vR 20 o0, vI x4, vI r6] ν5 (fun r8 ν7 =>
        (if r4 = r8 then
        (zin (x8 + 1) ∧ ZW f_X8_areAlike 4 [vR 20 o0, vI x1, vI x2, vI x3, vI x4, vI x5, vI x6, vI 1, vI (x8 + 1)] [] ν7 Q)
        else
        (zin (x8 + 1) ∧ ZW f_X8_areAlike 4 [vR 20 o0, vI x1, vI x2, vI x3, vI x4, vI x5, vI x6, vI 0, vI (x8 + 1)] [] ν7 Q)))))))))))))))
    else
    Q (some (vI (x7 % 2))) μ)) :
    ZW f_X8_areAlike 4 [vR 20 o0, vI x1, vI x2, vI x3, vI x4, vI x5, vI x6, vI x7, vI x8] [] μ Q := mvc_at zcd zml (C := zc167) rfl 53 4 h
theorem vc_X8_findBlock_0 {μ : mzM} {Q : Option mzV → mzM → Prop} {o0 x1 x2 : Int} (h :
    ZI f_X8_isFrame [vR 20 o0, vI x1] μ (fun r2 ν1 =>
    (if r2 = 0 then
    Q (some (vI (-1))) ν1
    else
    ZI f_X8_isBlock [vR 20 o0, vI x2] ν1 (fun r4 ν3 =>
      (if r4 = 0 then
      Q (some (vI (-1))) ν3
      else
      ZI f_X8_isGood [vR 20 o0, vI x1] ν3 (fun r6 ν5 =>
        (if r6 = 0 then
        Q (some (vI (-2))) ν5
        else
        ZW f_X8_findBlock 18 [vR 20 o0, vI x1, vI x2, vI 0, none] [] ν5 Q))))))) :
    ZW f_X8_findBlock 0 [vR 20 o0, vI x1, vI x2, none, none] [] μ Q := mvc_at zcd zml (C := zc168) rfl 66 0 h
theorem vc_X8_findBlock_18 {μ : mzM} {Q : Option mzV → mzM → Prop} {o0 x1 x2 x3 : Int} {v4 : mzV} (h :
    ((0 ≤ (1 : Int) ∧ (1 : Int) < 1880) ∧ (zin ((μ 21 0 1) - 4) ∧ (if ((μ 21 0 1) - 4) < x3 then
    Q (some (vI (-9))) μ
    else
    ZW f_X8_findBlock 28 [vR 20 o0, vI x1, vI x2, vI x3, vI 0] [] μ Q)))) :
    ZW f_X8_findBlock 18 [vR 20 o0, vI x1, vI x2, vI x3, v4] [] μ Q := mvc_at zcd zml (C := zc168) rfl 66 18 h
theorem vc_X8_findBlock_28 {μ : mzM} {Q : Option mzV → mzM → Prop} {o0 x1 x2 x3 x4 : Int} (h :
    ((0 ≤ (0 : Int) ∧ (0 : Int) < 1880) ∧ (zin ((μ 21 0 0) - 4) ∧ (if ((μ 21 0 0) - 4) < x4 then
    (zin (x3 + 1) ∧ ZW f_X8_findBlock 18 [vR 20 o0, vI x1, vI x2, vI (x3 + 1), vI x4] [] μ Q)
    else
    ZI f_X8_left [vR 20 o0, vI x2] μ (fun r2 ν1 =>
      ZI f_X8_top [vR 20 o0, vI x2] ν1 (fun r4 ν3 =>
      ZI f_X8_areAlike [vR 20 o0, vI (-1), vI r2, vI r4, vI x1, vI x4, vI x3] ν3 (fun r6 ν5 =>
      (if r6 = 0 then
      (zin (x4 + 1) ∧ ZW f_X8_findBlock 28 [vR 20 o0, vI x1, vI x2, vI x3, vI (x4 + 1)] [] ν5 Q)
      else
      (zin (100 * x4) ∧ (zin ((100 * x4) + x3) ∧ Q (some (vI ((100 * x4) + x3))) ν5)))))))))) :
    ZW f_X8_findBlock 28 [vR 20 o0, vI x1, vI x2, vI x3, vI x4] [] μ Q := mvc_at zcd zml (C := zc168) rfl 66 28 h
theorem vc_X8_falseMatches_0 {μ : mzM} {Q : Option mzV → mzM → Prop} {o0 x1 : Int} (h :
    ZI f_X8_isImage [vR 20 o0, vI x1] μ (fun r2 ν1 =>
    (if r2 = 0 then
    Q (some (vI (-1))) ν1
    else
    ZI f_X8_isKnown [vR 20 o0, vI x1] ν1 (fun r4 ν3 =>
      (if r4 = 0 then
      Q (some (vI (-2))) ν3
      else
      ((0 ≤ (0 : Int) ∧ (0 : Int) < 1880) ∧ (zin ((ν3 21 0 0) - 3) ∧ ((0 ≤ (1 : Int) ∧ (1 : Int) < 1880) ∧ (zin ((ν3 21 0 1) - 3) ∧ (zin (((ν3 21 0 0) - 3) * ((ν3 21 0 1) - 3)) ∧ ZW f_X8_falseMatches 32 [vR 20 o0, vI x1, vI ((ν3 21 0 0) - 3), vI (((ν3 21 0 0) - 3) * ((ν3 21 0 1) - 3)), vI 0, vI 0, none, none] [] ν3 Q)))))))))) :
    ZW f_X8_falseMatches 0 [vR 20 o0, vI x1, none, none, none, none, none, none] [] μ Q := mvc_at zcd zml (C := zc169) rfl 102 0 h
theorem vc_X8_falseMatches_32 {μ : mzM} {Q : Option mzV → mzM → Prop} {o0 x1 x2 x3 x4 x5 : Int} {v6 v7 : mzV} (h :
    (if x5 < x3 then
    (x2 ≠ 0 ∧ ((x2 ≠ 0 ∧ zin (Int.tdiv x5 x2)) ∧ ZI f_X8_digestOf [vR 20 o0, vI x1, vI (Int.tmod x5 x2), vI (Int.tdiv x5 x2)] μ (fun r2 ν1 =>
      ((0 ≤ x5 ∧ x5 < 81) ∧ ZW f_X8_falseMatches 50 [vR 20 o0, vI x1, vI x2, vI x3, vI x4, vI x5, vI 0, v7] [] (mup ν1 29 0 x5 r2) Q))))
    else
    Q (some (vI x4)) μ)) :
    ZW f_X8_falseMatches 32 [vR 20 o0, vI x1, vI x2, vI x3, vI x4, vI x5, v6, v7] [] μ Q := mvc_at zcd zml (C := zc169) rfl 102 32 h
theorem vc_X8_falseMatches_50 {μ : mzM} {Q : Option mzV → mzM → Prop} {o0 x1 x2 x3 x4 x5 x6 : Int} {v7 : mzV} (h :
    (if x6 < x5 then
    ((0 ≤ x6 ∧ x6 < 81) ∧ ((0 ≤ x5 ∧ x5 < 81) ∧ (if (μ 29 0 x6) = (μ 29 0 x5) then
      (x2 ≠ 0 ∧ ((x2 ≠ 0 ∧ zin (Int.tdiv x5 x2)) ∧ (x2 ≠ 0 ∧ ((x2 ≠ 0 ∧ zin (Int.tdiv x6 x2)) ∧ ZI f_X8_areAlike [vR 20 o0, vI x1, vI (Int.tmod x5 x2), vI (Int.tdiv x5 x2), vI x1, vI (Int.tmod x6 x2), vI (Int.tdiv x6 x2)] μ (fun r2 ν1 =>
        (if r2 = 0 then
        (zin (x4 + 1) ∧ (zin (x6 + 1) ∧ ZW f_X8_falseMatches 50 [vR 20 o0, vI x1, vI x2, vI x3, vI (x4 + 1), vI x5, vI (x6 + 1), vI 1] [] ν1 Q))
        else
        (zin (x4 + 0) ∧ (zin (x6 + 1) ∧ ZW f_X8_falseMatches 50 [vR 20 o0, vI x1, vI x2, vI x3, vI (x4 + 0), vI x5, vI (x6 + 1), vI 0] [] ν1 Q))))))))
      else
      (zin (x4 + 0) ∧ (zin (x6 + 1) ∧ ZW f_X8_falseMatches 50 [vR 20 o0, vI x1, vI x2, vI x3, vI (x4 + 0), vI x5, vI (x6 + 1), vI 0] [] μ Q)))))
    else
    (zin (x5 + 1) ∧ ZW f_X8_falseMatches 32 [vR 20 o0, vI x1, vI x2, vI x3, vI x4, vI (x5 + 1), vI x6, v7] [] μ Q))) :
    ZW f_X8_falseMatches 50 [vR 20 o0, vI x1, vI x2, vI x3, vI x4, vI x5, vI x6, v7] [] μ Q := mvc_at zcd zml (C := zc169) rfl 102 50 h
theorem vc_X8_greatestSeek_0 {μ : mzM} {Q : Option mzV → mzM → Prop} {o0 : Int} (h :
    ZW f_X8_greatestSeek 4 [vR 20 o0, vI (-9), vI 0] [] μ Q) :
    ZW f_X8_greatestSeek 0 [vR 20 o0, none, none] [] μ Q := mvc_at zcd zml (C := zc170) rfl 30 0 h
theorem vc_X8_greatestSeek_4 {μ : mzM} {Q : Option mzV → mzM → Prop} {o0 x1 x2 : Int} (h :
    ((0 ≤ (2 : Int) ∧ (2 : Int) < 1880) ∧ (if x2 < (μ 21 0 2) then
    ZI f_X8_seekOf [vR 20 o0, vI x2] μ (fun r2 ν1 =>
      (if x1 < r2 then
      ZI f_X8_seekOf [vR 20 o0, vI x2] ν1 (fun r4 ν3 =>
        (zin (x2 + 1) ∧ ZW f_X8_greatestSeek 4 [vR 20 o0, vI r4, vI (x2 + 1)] [] ν3 Q))
      else
      (zin (x2 + 1) ∧ ZW f_X8_greatestSeek 4 [vR 20 o0, vI x1, vI (x2 + 1)] [] ν1 Q)))
    else
    Q (some (vI x1)) μ))) :
    ZW f_X8_greatestSeek 4 [vR 20 o0, vI x1, vI x2] [] μ Q := mvc_at zcd zml (C := zc170) rfl 30 4 h
theorem vc_X8_isInChain_0 {μ : mzM} {Q : Option mzV → mzM → Prop} {o0 x1 x2 : Int} (h :
    ZW f_X8_isInChain 2 [vR 20 o0, vI x1, vI x2, vI x2] [] μ Q) :
    ZW f_X8_isInChain 0 [vR 20 o0, vI x1, vI x2, none] [] μ Q := mvc_at zcd zml (C := zc171) rfl 27 0 h
theorem vc_X8_isInChain_2 {μ : mzM} {Q : Option mzV → mzM → Prop} {o0 x1 x2 x3 : Int} (h :
    (if x3 = x1 then
    (if x3 = x1 then
      Q (some (vI 1)) μ
      else
      Q (some (vI 0)) μ)
    else
    ZI f_X8_reference [vR 20 o0, vI x3] μ (fun r2 ν1 =>
      (if r2 = (-1) then
      (if x3 = x1 then
        Q (some (vI 1)) ν1
        else
        Q (some (vI 0)) ν1)
      else
      ZI f_X8_reference [vR 20 o0, vI x3] ν1 (fun r4 ν3 =>
        ZW f_X8_isInChain 2 [vR 20 o0, vI x1, vI x2, vI r4] [] ν3 Q))))) :
    ZW f_X8_isInChain 2 [vR 20 o0, vI x1, vI x2, vI x3] [] μ Q := mvc_at zcd zml (C := zc171) rfl 27 2 h
theorem vc_X8_dependents_0 {μ : mzM} {Q : Option mzV → mzM → Prop} {o0 x1 : Int} (h :
    ZI f_X8_isFrame [vR 20 o0, vI x1] μ (fun r2 ν1 =>
    (if r2 = 0 then
    Q (some (vI (-1))) ν1
    else
    ZW f_X8_dependents 10 [vR 20 o0, vI x1, vI 0, vI 0] [] ν1 Q))) :
    ZW f_X8_dependents 0 [vR 20 o0, vI x1, none, none] [] μ Q := mvc_at zcd zml (C := zc172) rfl 36 0 h
theorem vc_X8_dependents_10 {μ : mzM} {Q : Option mzV → mzM → Prop} {o0 x1 x2 x3 : Int} (h :
    ((0 ≤ (2 : Int) ∧ (2 : Int) < 1880) ∧ (if x3 < (μ 21 0 2) then
    ZI f_X8_isInChain [vR 20 o0, vI x1, vI x3] μ (fun r2 ν1 =>
      (if r2 = 0 then
      (zin (x2 + 0) ∧ (zin (x3 + 1) ∧ ZW f_X8_dependents 10 [vR 20 o0, vI x1, vI (x2 + 0), vI (x3 + 1)] [] ν1 Q))
      else
      (zin (x2 + 1) ∧ (zin (x3 + 1) ∧ ZW f_X8_dependents 10 [vR 20 o0, vI x1, vI (x2 + 1), vI (x3 + 1)] [] ν1 Q))))
    else
    Q (some (vI x2)) μ))) :
    ZW f_X8_dependents 10 [vR 20 o0, vI x1, vI x2, vI x3] [] μ Q := mvc_at zcd zml (C := zc172) rfl 36 10 h
theorem vc_X8_patch_0 {μ : mzM} {Q : Option mzV → mzM → Prop} {o0 x1 : Int} (h :
    ZI f_X8_isFrame [vR 20 o0, vI x1] μ (fun r2 ν1 =>
    (if r2 = 0 then
    Q (some (vI (-1))) ν1
    else
    (zin (1600 + x1) ∧ ((0 ≤ (1600 + x1) ∧ (1600 + x1) < 1880) ∧ (if (ν1 21 0 (1600 + x1)) = 0 then
      Q (some (vI (-2))) ν1
      else
      ZW f_X8_patch 19 [vR 20 o0, vI x1, vI (-9), vI 0, none] [] ν1 Q)))))) :
    ZW f_X8_patch 0 [vR 20 o0, vI x1, none, none, none] [] μ Q := mvc_at zcd zml (C := zc173) rfl 60 0 h
theorem vc_X8_patch_19 {μ : mzM} {Q : Option mzV → mzM → Prop} {o0 x1 x2 x3 : Int} {v4 : mzV} (h :
    ((0 ≤ (2 : Int) ∧ (2 : Int) < 1880) ∧ (if x3 < (μ 21 0 2) then
    ZI f_X8_isGood [vR 20 o0, vI x3] μ (fun r2 ν1 =>
      (if r2 = 0 then
      (zin (x3 + 1) ∧ ZW f_X8_patch 19 [vR 20 o0, vI x1, vI x2, vI (x3 + 1), vI 0] [] ν1 Q)
      else
      (if x2 = (-9) then
        (zin (x3 + 1) ∧ ZW f_X8_patch 19 [vR 20 o0, vI x1, vI x3, vI (x3 + 1), vI 1] [] ν1 Q)
        else
        ZI f_X8_differing [vR 20 o0, vI x1, vI x3] ν1 (fun r4 ν3 =>
          ZI f_X8_differing [vR 20 o0, vI x1, vI x2] ν3 (fun r6 ν5 =>
          (if r4 < r6 then
          (zin (x3 + 1) ∧ ZW f_X8_patch 19 [vR 20 o0, vI x1, vI x3, vI (x3 + 1), vI 1] [] ν5 Q)
          else
          (zin (x3 + 1) ∧ ZW f_X8_patch 19 [vR 20 o0, vI x1, vI x2, vI (x3 + 1), vI 0] [] ν5 Q)))))))
    else
    Q (some (vI x2)) μ))) :
    ZW f_X8_patch 19 [vR 20 o0, vI x1, vI x2, vI x3, v4] [] μ Q := mvc_at zcd zml (C := zc173) rfl 60 19 h
theorem vc_J6_bitCount_0f7a4_0 {μ : mzM} {Q : Option mzV → mzM → Prop} {x0 : Int} (h :
    (zin (x0 - (zand (zushr x0 1) 1431655765)) ∧ (zin ((zand (x0 - (zand (zushr x0 1) 1431655765)) 858993459) + (zand (zushr (x0 - (zand (zushr x0 1) 1431655765)) 2) 858993459)) ∧ (zin (((zand (x0 - (zand (zushr x0 1) 1431655765)) 858993459) + (zand (zushr (x0 - (zand (zushr x0 1) 1431655765)) 2) 858993459)) + (zushr ((zand (x0 - (zand (zushr x0 1) 1431655765)) 858993459) + (zand (zushr (x0 - (zand (zushr x0 1) 1431655765)) 2) 858993459)) 4)) ∧ (zin ((zand (((zand (x0 - (zand (zushr x0 1) 1431655765)) 858993459) + (zand (zushr (x0 - (zand (zushr x0 1) 1431655765)) 2) 858993459)) + (zushr ((zand (x0 - (zand (zushr x0 1) 1431655765)) 858993459) + (zand (zushr (x0 - (zand (zushr x0 1) 1431655765)) 2) 858993459)) 4)) 252645135) + (zushr (zand (((zand (x0 - (zand (zushr x0 1) 1431655765)) 858993459) + (zand (zushr (x0 - (zand (zushr x0 1) 1431655765)) 2) 858993459)) + (zushr ((zand (x0 - (zand (zushr x0 1) 1431655765)) 858993459) + (zand (zushr (x0 - (zand (zushr x0 1) 1431655765)) 2) 858993459)) 4)) 252645135) 8)) ∧ (zin (((zand (((zand (x0 - (zand (zushr x0 1) 1431655765)) 858993459) + (zand (zushr (x0 - (zand (zushr x0 1) 1431655765)) 2) 858993459)) + (zushr ((zand (x0 - (zand (zushr x0 1) 1431655765)) 858993459) + (zand (zushr (x0 - (zand (zushr x0 1) 1431655765)) 2) 858993459)) 4)) 252645135) + (zushr (zand (((zand (x0 - (zand (zushr x0 1) 1431655765)) 858993459) + (zand (zushr (x0 - (zand (zushr x0 1) 1431655765)) 2) 858993459)) + (zushr ((zand (x0 - (zand (zushr x0 1) 1431655765)) 858993459) + (zand (zushr (x0 - (zand (zushr x0 1) 1431655765)) 2) 858993459)) 4)) 252645135) 8)) + (zushr ((zand (((zand (x0 - (zand (zushr x0 1) 1431655765)) 858993459) + (zand (zushr (x0 - (zand (zushr x0 1) 1431655765)) 2) 858993459)) + (zushr ((zand (x0 - (zand (zushr x0 1) 1431655765)) 858993459) + (zand (zushr (x0 - (zand (zushr x0 1) 1431655765)) 2) 858993459)) 4)) 252645135) + (zushr (zand (((zand (x0 - (zand (zushr x0 1) 1431655765)) 858993459) + (zand (zushr (x0 - (zand (zushr x0 1) 1431655765)) 2) 858993459)) + (zushr ((zand (x0 - (zand (zushr x0 1) 1431655765)) 858993459) + (zand (zushr (x0 - (zand (zushr x0 1) 1431655765)) 2) 858993459)) 4)) 252645135) 8)) 16)) ∧ Q (some (vI (zand (((zand (((zand (x0 - (zand (zushr x0 1) 1431655765)) 858993459) + (zand (zushr (x0 - (zand (zushr x0 1) 1431655765)) 2) 858993459)) + (zushr ((zand (x0 - (zand (zushr x0 1) 1431655765)) 858993459) + (zand (zushr (x0 - (zand (zushr x0 1) 1431655765)) 2) 858993459)) 4)) 252645135) + (zushr (zand (((zand (x0 - (zand (zushr x0 1) 1431655765)) 858993459) + (zand (zushr (x0 - (zand (zushr x0 1) 1431655765)) 2) 858993459)) + (zushr ((zand (x0 - (zand (zushr x0 1) 1431655765)) 858993459) + (zand (zushr (x0 - (zand (zushr x0 1) 1431655765)) 2) 858993459)) 4)) 252645135) 8)) + (zushr ((zand (((zand (x0 - (zand (zushr x0 1) 1431655765)) 858993459) + (zand (zushr (x0 - (zand (zushr x0 1) 1431655765)) 2) 858993459)) + (zushr ((zand (x0 - (zand (zushr x0 1) 1431655765)) 858993459) + (zand (zushr (x0 - (zand (zushr x0 1) 1431655765)) 2) 858993459)) 4)) 252645135) + (zushr (zand (((zand (x0 - (zand (zushr x0 1) 1431655765)) 858993459) + (zand (zushr (x0 - (zand (zushr x0 1) 1431655765)) 2) 858993459)) + (zushr ((zand (x0 - (zand (zushr x0 1) 1431655765)) 858993459) + (zand (zushr (x0 - (zand (zushr x0 1) 1431655765)) 2) 858993459)) 4)) 252645135) 8)) 16)) 63))) μ)))))) :
    ZW f_J6_bitCount_0f7a4 0 [vI x0] [] μ Q := mvc_at zcd zml (C := zc174) rfl 47 0 h
theorem vc_J9_floorMod_7cf53_0 {μ : mzM} {Q : Option mzV → mzM → Prop} {x0 x1 : Int} (h :
    (x1 ≠ 0 ∧ (if (zxor x0 x1) < 0 then
    (if (Int.tmod x0 x1) = 0 then
      Q (some (vI (Int.tmod x0 x1))) μ
      else
      (zin ((Int.tmod x0 x1) + x1) ∧ Q (some (vI ((Int.tmod x0 x1) + x1))) μ))
    else
    Q (some (vI (Int.tmod x0 x1))) μ))) :
    ZW f_J9_floorMod_7cf53 0 [vI x0, vI x1, none] [] μ Q := mvc_at zcd zml (C := zc175) rfl 21 0 h
theorem vc_J9_abs_0f7a4_0 {μ : mzM} {Q : Option mzV → mzM → Prop} {x0 : Int} (h :
    (if x0 < 0 then
    Q (some (vI (zw (-x0)))) μ
    else
    Q (some (vI x0)) μ)) :
    ZW f_J9_abs_0f7a4 0 [vI x0] [] μ Q := mvc_at zcd zml (C := zc176) rfl 12 0 h
theorem vc_J9_max_7cf53_0 {μ : mzM} {Q : Option mzV → mzM → Prop} {x0 x1 : Int} (h :
    (if x0 < x1 then
    Q (some (vI x1)) μ
    else
    Q (some (vI x0)) μ)) :
    ZW f_J9_max_7cf53 0 [vI x0, vI x1] [] μ Q := mvc_at zcd zml (C := zc177) rfl 12 0 h
theorem vc_J9_min_7cf53_0 {μ : mzM} {Q : Option mzV → mzM → Prop} {x0 x1 : Int} (h :
    (if x1 < x0 then
    Q (some (vI x1)) μ
    else
    Q (some (vI x0)) μ)) :
    ZW f_J9_min_7cf53 0 [vI x0, vI x1] [] μ Q := mvc_at zcd zml (C := zc178) rfl 12 0 h
theorem vc_J0_length_8abf5_0 {μ : mzM} {Q : Option mzV → mzM → Prop} {o0 : Int} (h :
    ZI f_J0_coder_7d493 [vR 30 o0] μ (fun r2 ν1 =>
    Q (some (vI (zshr (zlen 31 o0 μ) r2))) ν1)) :
    ZW f_J0_length_8abf5 0 [vR 30 o0] [] μ Q := mvc_at zcd zml (C := zc179) rfl 12 0 h
theorem vc_J0_charAt_5068e_0 {μ : mzM} {Q : Option mzV → mzM → Prop} {o0 x1 : Int} (h :
    ZI f_J0_isLatin1_aae02 [vR 30 o0] μ (fun r2 ν1 =>
    (if r2 = 0 then
    False
    else
    ZI f_J1_charAt_3b067 [vR 31 o0, vI x1] ν1 (fun r4 ν3 =>
      Q (some (vI (r4 % 65536))) ν3)))) :
    ZW f_J0_charAt_5068e 0 [vR 30 o0, vI x1] [] μ Q := mvc_at zcd zml (C := zc180) rfl 18 0 h
theorem vc_J0_coder_7d493_0 {μ : mzM} {Q : Option mzV → mzM → Prop} {o0 : Int} (h :
    Q (some (vI (zb 0))) μ) :
    ZW f_J0_coder_7d493 0 [vR 30 o0] [] μ Q := mvc_at zcd zml (C := zc181) rfl 12 0 h
theorem vc_J0_isLatin1_aae02_0 {μ : mzM} {Q : Option mzV → mzM → Prop} {o0 : Int} (h :
    Q (some (vI 1)) μ) :
    ZW f_J0_isLatin1_aae02 0 [vR 30 o0] [] μ Q := mvc_at zcd zml (C := zc182) rfl 14 0 h
theorem vc_J0_checkIndex_df160_0 {μ : mzM} {Q : Option mzV → mzM → Prop} {x0 x1 : Int} (h :
    ZI f_J3_checkIndex_8e157 [vI x0, vI x1, vR 98 0] μ (fun r2 ν1 =>
    Q none ν1)) :
    ZW f_J0_checkIndex_df160 0 [vI x0, vI x1] [] μ Q := mvc_at zcd zml (C := zc183) rfl 11 0 h
theorem vc_J1_charAt_3b067_0 {μ : mzM} {Q : Option mzV → mzM → Prop} {o0 x1 : Int} (h :
    ZV f_J0_checkIndex_df160 [vI x1, vI (zlen 31 o0 μ)] μ (fun ν1 =>
    ((0 ≤ x1 ∧ x1 < (zlen 31 o0 ν1)) ∧ Q (some (vI (((zand (zchr o0 x1) 255) % 65536) % 65536))) ν1))) :
    ZW f_J1_charAt_3b067 0 [vR 31 o0, vI x1] [] μ Q := mvc_at zcd zml (C := zc184) rfl 16 0 h
theorem vc_J3_checkIndex_8e157_0 {μ : mzM} {Q : Option mzV → mzM → Prop} {o2 x0 x1 : Int} (h :
    (if x0 < 0 then
    False
    else
    (if x0 < x1 then
      Q (some (vI x0)) μ
      else
      False))) :
    ZW f_J3_checkIndex_8e157 0 [vI x0, vI x1, vR 98 o2] [] μ Q := mvc_at zcd zml (C := zc185) rfl 17 0 h
theorem vc_L_law_8 {μ : mzM} {Q : Option mzV → mzM → Prop} {o0 o1 o2 : Int} (h :
    ZW f_L_law 10 [vR 32 o0, vR 0 o1, vR 20 o2, vI 0] [] μ Q) :
    ZW f_L_law 8 [vR 32 o0, vR 0 o1, vR 20 o2, none] [] μ Q := mvc_at zcd zml (C := zc186) rfl 584 8 h
theorem vc_L_law_10 {μ : mzM} {Q : Option mzV → mzM → Prop} {o0 o1 o2 x3 : Int} (h :
    (zin ((μ 33 0 1) - 5) ∧ (if ((μ 33 0 1) - 5) < x3 then
    Q (some (vI 1)) μ
    else
    ((0 ≤ x3 ∧ x3 < (μ 33 0 1)) ∧ (if (zand (μ 32 o0 x3) 31) = 0 then
      (zin (x3 + 1) ∧ ((0 ≤ (x3 + 1) ∧ (x3 + 1) < (μ 33 0 1)) ∧ (zin (x3 + 2) ∧ ((0 ≤ (x3 + 2) ∧ (x3 + 2) < (μ 33 0 1)) ∧ ZI f_X7_setSize [vR 0 o1, vI (μ 32 o0 (x3 + 1)), vI (μ 32 o0 (x3 + 2))] μ (fun r2 ν1 =>
        (zin (x3 + 1) ∧ ((0 ≤ (x3 + 1) ∧ (x3 + 1) < (ν1 33 0 1)) ∧ (zin (x3 + 2) ∧ ((0 ≤ (x3 + 2) ∧ (x3 + 2) < (ν1 33 0 1)) ∧ ZI f_X8_setSize [vR 20 o2, vI (ν1 32 o0 (x3 + 1)), vI (ν1 32 o0 (x3 + 2))] ν1 (fun r4 ν3 =>
        (if r2 = r4 then
        ZW f_L_law 575 [vR 32 o0, vR 0 o1, vR 20 o2, vI x3] [] ν3 Q
        else
        Q (some (vI 0)) ν3)))))))))))
      else
      (if (zand (μ 32 o0 x3) 31) = 1 then
      (zin (x3 + 1) ∧ ((0 ≤ (x3 + 1) ∧ (x3 + 1) < (μ 33 0 1)) ∧ (zin (x3 + 2) ∧ ((0 ≤ (x3 + 2) ∧ (x3 + 2) < (μ 33 0 1)) ∧ ZI f_X7_setCell [vR 0 o1, vI (μ 32 o0 (x3 + 1)), vI (μ 32 o0 (x3 + 2))] μ (fun r6 ν5 =>
        (zin (x3 + 1) ∧ ((0 ≤ (x3 + 1) ∧ (x3 + 1) < (ν5 33 0 1)) ∧ (zin (x3 + 2) ∧ ((0 ≤ (x3 + 2) ∧ (x3 + 2) < (ν5 33 0 1)) ∧ ZI f_X8_setCell [vR 20 o2, vI (ν5 32 o0 (x3 + 1)), vI (ν5 32 o0 (x3 + 2))] ν5 (fun r8 ν7 =>
        (if r6 = r8 then
        ZW f_L_law 575 [vR 32 o0, vR 0 o1, vR 20 o2, vI x3] [] ν7 Q
        else
        Q (some (vI 0)) ν7)))))))))))
      else
      (if (zand (μ 32 o0 x3) 31) = 2 then
      (zin (x3 + 1) ∧ ((0 ≤ (x3 + 1) ∧ (x3 + 1) < (μ 33 0 1)) ∧ ZI f_X7_cell [vR 0 o1, vI (μ 32 o0 (x3 + 1))] μ (fun r10 ν9 =>
        (zin (x3 + 1) ∧ ((0 ≤ (x3 + 1) ∧ (x3 + 1) < (ν9 33 0 1)) ∧ ZI f_X8_cell [vR 20 o2, vI (ν9 32 o0 (x3 + 1))] ν9 (fun r12 ν11 =>
        (if r10 = r12 then
        ZW f_L_law 575 [vR 32 o0, vR 0 o1, vR 20 o2, vI x3] [] ν11 Q
        else
        Q (some (vI 0)) ν11)))))))
      else
      (if (zand (μ 32 o0 x3) 31) = 3 then
      (zin (x3 + 1) ∧ ((0 ≤ (x3 + 1) ∧ (x3 + 1) < (μ 33 0 1)) ∧ ZI f_X7_appendCharacter [vR 0 o1, vI (μ 32 o0 (x3 + 1))] μ (fun r14 ν13 =>
        (zin (x3 + 1) ∧ ((0 ≤ (x3 + 1) ∧ (x3 + 1) < (ν13 33 0 1)) ∧ ZI f_X8_appendCharacter [vR 20 o2, vI (ν13 32 o0 (x3 + 1))] ν13 (fun r16 ν15 =>
        (if r14 = r16 then
        ZW f_L_law 575 [vR 32 o0, vR 0 o1, vR 20 o2, vI x3] [] ν15 Q
        else
        Q (some (vI 0)) ν15)))))))
      else
      (if (zand (μ 32 o0 x3) 31) = 4 then
      ZI f_X7_clearText [vR 0 o1] μ (fun r18 ν17 =>
        ZI f_X8_clearText [vR 20 o2] ν17 (fun r20 ν19 =>
        (if r18 = r20 then
        ZW f_L_law 575 [vR 32 o0, vR 0 o1, vR 20 o2, vI x3] [] ν19 Q
        else
        Q (some (vI 0)) ν19)))
      else
      (if (zand (μ 32 o0 x3) 31) = 5 then
      ZI f_X7_draw [vR 0 o1] μ (fun r22 ν21 =>
        ZI f_X8_draw [vR 20 o2] ν21 (fun r24 ν23 =>
        (if r22 = r24 then
        ZW f_L_law 575 [vR 32 o0, vR 0 o1, vR 20 o2, vI x3] [] ν23 Q
        else
        Q (some (vI 0)) ν23)))
      else
      (if (zand (μ 32 o0 x3) 31) = 6 then
      (zin (x3 + 1) ∧ ((0 ≤ (x3 + 1) ∧ (x3 + 1) < (μ 33 0 1)) ∧ (zin (x3 + 2) ∧ ((0 ≤ (x3 + 2) ∧ (x3 + 2) < (μ 33 0 1)) ∧ (zin (x3 + 3) ∧ ((0 ≤ (x3 + 3) ∧ (x3 + 3) < (μ 33 0 1)) ∧ ZI f_X7_digest [vR 0 o1, vI (μ 32 o0 (x3 + 1)), vI (μ 32 o0 (x3 + 2)), vI (μ 32 o0 (x3 + 3))] μ (fun r26 ν25 =>
        (zin (x3 + 1) ∧ ((0 ≤ (x3 + 1) ∧ (x3 + 1) < (ν25 33 0 1)) ∧ (zin (x3 + 2) ∧ ((0 ≤ (x3 + 2) ∧ (x3 + 2) < (ν25 33 0 1)) ∧ (zin (x3 + 3) ∧ ((0 ≤ (x3 + 3) ∧ (x3 + 3) < (ν25 33 0 1)) ∧ ZI f_X8_digest [vR 20 o2, vI (ν25 32 o0 (x3 + 1)), vI (ν25 32 o0 (x3 + 2)), vI (ν25 32 o0 (x3 + 3))] ν25 (fun r28 ν27 =>
        (if r26 = r28 then
        ZW f_L_law 575 [vR 32 o0, vR 0 o1, vR 20 o2, vI x3] [] ν27 Q
        else
        Q (some (vI 0)) ν27)))))))))))))))
      else
      (if (zand (μ 32 o0 x3) 31) = 7 then
      ZI f_X7_addKey [vR 0 o1] μ (fun r30 ν29 =>
        ZI f_X8_addKey [vR 20 o2] ν29 (fun r32 ν31 =>
        (if r30 = r32 then
        ZW f_L_law 575 [vR 32 o0, vR 0 o1, vR 20 o2, vI x3] [] ν31 Q
        else
        Q (some (vI 0)) ν31)))
      else
      (if (zand (μ 32 o0 x3) 31) = 8 then
      (zin (x3 + 1) ∧ ((0 ≤ (x3 + 1) ∧ (x3 + 1) < (μ 33 0 1)) ∧ ZI f_X7_addDelta [vR 0 o1, vI (μ 32 o0 (x3 + 1))] μ (fun r34 ν33 =>
        (zin (x3 + 1) ∧ ((0 ≤ (x3 + 1) ∧ (x3 + 1) < (ν33 33 0 1)) ∧ ZI f_X8_addDelta [vR 20 o2, vI (ν33 32 o0 (x3 + 1))] ν33 (fun r36 ν35 =>
        (if r34 = r36 then
        ZW f_L_law 575 [vR 32 o0, vR 0 o1, vR 20 o2, vI x3] [] ν35 Q
        else
        Q (some (vI 0)) ν35)))))))
      else
      (if (zand (μ 32 o0 x3) 31) = 9 then
      ZI f_X7_addChosen [vR 0 o1] μ (fun r38 ν37 =>
        ZI f_X8_addChosen [vR 20 o2] ν37 (fun r40 ν39 =>
        (if r38 = r40 then
        ZW f_L_law 575 [vR 32 o0, vR 0 o1, vR 20 o2, vI x3] [] ν39 Q
        else
        Q (some (vI 0)) ν39)))
      else
      (if (zand (μ 32 o0 x3) 31) = 10 then
      ZI f_X7_removeLast [vR 0 o1] μ (fun r42 ν41 =>
        ZI f_X8_removeLast [vR 20 o2] ν41 (fun r44 ν43 =>
        (if r42 = r44 then
        ZW f_L_law 575 [vR 32 o0, vR 0 o1, vR 20 o2, vI x3] [] ν43 Q
        else
        Q (some (vI 0)) ν43)))
      else
      (if (zand (μ 32 o0 x3) 31) = 11 then
      ZI f_X7_recode [vR 0 o1] μ (fun r46 ν45 =>
        ZI f_X8_recode [vR 20 o2] ν45 (fun r48 ν47 =>
        (if r46 = r48 then
        ZW f_L_law 575 [vR 32 o0, vR 0 o1, vR 20 o2, vI x3] [] ν47 Q
        else
        Q (some (vI 0)) ν47)))
      else
      (if (zand (μ 32 o0 x3) 31) = 12 then
      (zin (x3 + 1) ∧ ((0 ≤ (x3 + 1) ∧ (x3 + 1) < (μ 33 0 1)) ∧ (zin (x3 + 2) ∧ ((0 ≤ (x3 + 2) ∧ (x3 + 2) < (μ 33 0 1)) ∧ (zin (x3 + 3) ∧ ((0 ≤ (x3 + 3) ∧ (x3 + 3) < (μ 33 0 1)) ∧ ZI f_X7_setLimits [vR 0 o1, vI (μ 32 o0 (x3 + 1)), vI (μ 32 o0 (x3 + 2)), vI (μ 32 o0 (x3 + 3))] μ (fun r50 ν49 =>
        (zin (x3 + 1) ∧ ((0 ≤ (x3 + 1) ∧ (x3 + 1) < (ν49 33 0 1)) ∧ (zin (x3 + 2) ∧ ((0 ≤ (x3 + 2) ∧ (x3 + 2) < (ν49 33 0 1)) ∧ (zin (x3 + 3) ∧ ((0 ≤ (x3 + 3) ∧ (x3 + 3) < (ν49 33 0 1)) ∧ ZI f_X8_setLimits [vR 20 o2, vI (ν49 32 o0 (x3 + 1)), vI (ν49 32 o0 (x3 + 2)), vI (ν49 32 o0 (x3 + 3))] ν49 (fun r52 ν51 =>
        (if r50 = r52 then
        ZW f_L_law 575 [vR 32 o0, vR 0 o1, vR 20 o2, vI x3] [] ν51 Q
        else
        Q (some (vI 0)) ν51)))))))))))))))
      else
      (if (zand (μ 32 o0 x3) 31) = 13 then
      (zin (x3 + 1) ∧ ((0 ≤ (x3 + 1) ∧ (x3 + 1) < (μ 33 0 1)) ∧ (zin (x3 + 2) ∧ ((0 ≤ (x3 + 2) ∧ (x3 + 2) < (μ 33 0 1)) ∧ ZI f_X7_setLost [vR 0 o1, vI (μ 32 o0 (x3 + 1)), vI (μ 32 o0 (x3 + 2))] μ (fun r54 ν53 =>
        (zin (x3 + 1) ∧ ((0 ≤ (x3 + 1) ∧ (x3 + 1) < (ν53 33 0 1)) ∧ (zin (x3 + 2) ∧ ((0 ≤ (x3 + 2) ∧ (x3 + 2) < (ν53 33 0 1)) ∧ ZI f_X8_setLost [vR 20 o2, vI (ν53 32 o0 (x3 + 1)), vI (ν53 32 o0 (x3 + 2))] ν53 (fun r56 ν55 =>
        (if r54 = r56 then
        ZW f_L_law 575 [vR 32 o0, vR 0 o1, vR 20 o2, vI x3] [] ν55 Q
        else
        Q (some (vI 0)) ν55)))))))))))
      else
      (if (zand (μ 32 o0 x3) 31) = 14 then
      (zin (x3 + 1) ∧ ((0 ≤ (x3 + 1) ∧ (x3 + 1) < (μ 33 0 1)) ∧ (zin (x3 + 2) ∧ ((0 ≤ (x3 + 2) ∧ (x3 + 2) < (μ 33 0 1)) ∧ ZI f_X7_frame [vR 0 o1, vI (μ 32 o0 (x3 + 1)), vI (μ 32 o0 (x3 + 2))] μ (fun r58 ν57 =>
        (zin (x3 + 1) ∧ ((0 ≤ (x3 + 1) ∧ (x3 + 1) < (ν57 33 0 1)) ∧ (zin (x3 + 2) ∧ ((0 ≤ (x3 + 2) ∧ (x3 + 2) < (ν57 33 0 1)) ∧ ZI f_X8_frame [vR 20 o2, vI (ν57 32 o0 (x3 + 1)), vI (ν57 32 o0 (x3 + 2))] ν57 (fun r60 ν59 =>
        (if r58 = r60 then
        ZW f_L_law 575 [vR 32 o0, vR 0 o1, vR 20 o2, vI x3] [] ν59 Q
        else
        Q (some (vI 0)) ν59)))))))))))
      else
      (if (zand (μ 32 o0 x3) 31) = 15 then
      (zin (x3 + 1) ∧ ((0 ≤ (x3 + 1) ∧ (x3 + 1) < (μ 33 0 1)) ∧ (zin (x3 + 2) ∧ ((0 ≤ (x3 + 2) ∧ (x3 + 2) < (μ 33 0 1)) ∧ (zin (x3 + 3) ∧ ((0 ≤ (x3 + 3) ∧ (x3 + 3) < (μ 33 0 1)) ∧ ZI f_X7_code [vR 0 o1, vI (μ 32 o0 (x3 + 1)), vI (μ 32 o0 (x3 + 2)), vI (μ 32 o0 (x3 + 3))] μ (fun r62 ν61 =>
        (zin (x3 + 1) ∧ ((0 ≤ (x3 + 1) ∧ (x3 + 1) < (ν61 33 0 1)) ∧ (zin (x3 + 2) ∧ ((0 ≤ (x3 + 2) ∧ (x3 + 2) < (ν61 33 0 1)) ∧ (zin (x3 + 3) ∧ ((0 ≤ (x3 + 3) ∧ (x3 + 3) < (ν61 33 0 1)) ∧ ZI f_X8_code [vR 20 o2, vI (ν61 32 o0 (x3 + 1)), vI (ν61 32 o0 (x3 + 2)), vI (ν61 32 o0 (x3 + 3))] ν61 (fun r64 ν63 =>
        (if r62 = r64 then
        ZW f_L_law 575 [vR 32 o0, vR 0 o1, vR 20 o2, vI x3] [] ν63 Q
        else
        Q (some (vI 0)) ν63)))))))))))))))
      else
      (if (zand (μ 32 o0 x3) 31) = 16 then
      (zin (x3 + 1) ∧ ((0 ≤ (x3 + 1) ∧ (x3 + 1) < (μ 33 0 1)) ∧ (zin (x3 + 2) ∧ ((0 ≤ (x3 + 2) ∧ (x3 + 2) < (μ 33 0 1)) ∧ (zin (x3 + 3) ∧ ((0 ≤ (x3 + 3) ∧ (x3 + 3) < (μ 33 0 1)) ∧ (zin (x3 + 4) ∧ ((0 ≤ (x3 + 4) ∧ (x3 + 4) < (μ 33 0 1)) ∧ ZI f_X7_run [vR 0 o1, vI (μ 32 o0 (x3 + 1)), vI (μ 32 o0 (x3 + 2)), vI (μ 32 o0 (x3 + 3)), vI (μ 32 o0 (x3 + 4))] μ (fun r66 ν65 =>
        (zin (x3 + 1) ∧ ((0 ≤ (x3 + 1) ∧ (x3 + 1) < (ν65 33 0 1)) ∧ (zin (x3 + 2) ∧ ((0 ≤ (x3 + 2) ∧ (x3 + 2) < (ν65 33 0 1)) ∧ (zin (x3 + 3) ∧ ((0 ≤ (x3 + 3) ∧ (x3 + 3) < (ν65 33 0 1)) ∧ (zin (x3 + 4) ∧ ((0 ≤ (x3 + 4) ∧ (x3 + 4) < (ν65 33 0 1)) ∧ ZI f_X8_run [vR 20 o2, vI (ν65 32 o0 (x3 + 1)), vI (ν65 32 o0 (x3 + 2)), vI (ν65 32 o0 (x3 + 3)), vI (ν65 32 o0 (x3 + 4))] ν65 (fun r68 ν67 =>
        (if r66 = r68 then
        ZW f_L_law 575 [vR 32 o0, vR 0 o1, vR 20 o2, vI x3] [] ν67 Q
        else
        Q (some (vI 0)) ν67)))))))))))))))))))
      else
      (if (zand (μ 32 o0 x3) 31) = 17 then
      (zin (x3 + 1) ∧ ((0 ≤ (x3 + 1) ∧ (x3 + 1) < (μ 33 0 1)) ∧ (zin (x3 + 2) ∧ ((0 ≤ (x3 + 2) ∧ (x3 + 2) < (μ 33 0 1)) ∧ ZI f_X7_pixel [vR 0 o1, vI (μ 32 o0 (x3 + 1)), vI (μ 32 o0 (x3 + 2))] μ (fun r70 ν69 =>
        (zin (x3 + 1) ∧ ((0 ≤ (x3 + 1) ∧ (x3 + 1) < (ν69 33 0 1)) ∧ (zin (x3 + 2) ∧ ((0 ≤ (x3 + 2) ∧ (x3 + 2) < (ν69 33 0 1)) ∧ ZI f_X8_pixel [vR 20 o2, vI (ν69 32 o0 (x3 + 1)), vI (ν69 32 o0 (x3 + 2))] ν69 (fun r72 ν71 =>
        (if r70 = r72 then
        ZW f_L_law 575 [vR 32 o0, vR 0 o1, vR 20 o2, vI x3] [] ν71 Q
        else
        Q (some (vI 0)) ν71)))))))))))
      else
      (if (zand (μ 32 o0 x3) 31) = 18 then
      (zin (x3 + 1) ∧ ((0 ≤ (x3 + 1) ∧ (x3 + 1) < (μ 33 0 1)) ∧ ZI f_X7_count [vR 0 o1, vI (μ 32 o0 (x3 + 1))] μ (fun r74 ν73 =>
        (zin (x3 + 1) ∧ ((0 ≤ (x3 + 1) ∧ (x3 + 1) < (ν73 33 0 1)) ∧ ZI f_X8_count [vR 20 o2, vI (ν73 32 o0 (x3 + 1))] ν73 (fun r76 ν75 =>
        (if r74 = r76 then
        ZW f_L_law 575 [vR 32 o0, vR 0 o1, vR 20 o2, vI x3] [] ν75 Q
        else
        Q (some (vI 0)) ν75)))))))
      else
      (if (zand (μ 32 o0 x3) 31) = 19 then
      (zin (x3 + 1) ∧ ((0 ≤ (x3 + 1) ∧ (x3 + 1) < (μ 33 0 1)) ∧ ZI f_X7_costWith [vR 0 o1, vI (μ 32 o0 (x3 + 1))] μ (fun r78 ν77 =>
        (zin (x3 + 1) ∧ ((0 ≤ (x3 + 1) ∧ (x3 + 1) < (ν77 33 0 1)) ∧ ZI f_X8_costWith [vR 20 o2, vI (ν77 32 o0 (x3 + 1))] ν77 (fun r80 ν79 =>
        (if r78 = r80 then
        ZW f_L_law 575 [vR 32 o0, vR 0 o1, vR 20 o2, vI x3] [] ν79 Q
        else
        Q (some (vI 0)) ν79)))))))
      else
      (if (zand (μ 32 o0 x3) 31) = 20 then
      (zin (x3 + 1) ∧ ((0 ≤ (x3 + 1) ∧ (x3 + 1) < (μ 33 0 1)) ∧ (zin (x3 + 2) ∧ ((0 ≤ (x3 + 2) ∧ (x3 + 2) < (μ 33 0 1)) ∧ ZI f_X7_difference [vR 0 o1, vI (μ 32 o0 (x3 + 1)), vI (μ 32 o0 (x3 + 2))] μ (fun r82 ν81 =>
        (zin (x3 + 1) ∧ ((0 ≤ (x3 + 1) ∧ (x3 + 1) < (ν81 33 0 1)) ∧ (zin (x3 + 2) ∧ ((0 ≤ (x3 + 2) ∧ (x3 + 2) < (ν81 33 0 1)) ∧ ZI f_X8_difference [vR 20 o2, vI (ν81 32 o0 (x3 + 1)), vI (ν81 32 o0 (x3 + 2))] ν81 (fun r84 ν83 =>
        (if r82 = r84 then
        ZW f_L_law 575 [vR 32 o0, vR 0 o1, vR 20 o2, vI x3] [] ν83 Q
        else
        Q (some (vI 0)) ν83)))))))))))
      else
      (if (zand (μ 32 o0 x3) 31) = 21 then
      (zin (x3 + 1) ∧ ((0 ≤ (x3 + 1) ∧ (x3 + 1) < (μ 33 0 1)) ∧ (zin (x3 + 2) ∧ ((0 ≤ (x3 + 2) ∧ (x3 + 2) < (μ 33 0 1)) ∧ ZI f_X7_findBlock [vR 0 o1, vI (μ 32 o0 (x3 + 1)), vI (μ 32 o0 (x3 + 2))] μ (fun r86 ν85 =>
        (zin (x3 + 1) ∧ ((0 ≤ (x3 + 1) ∧ (x3 + 1) < (ν85 33 0 1)) ∧ (zin (x3 + 2) ∧ ((0 ≤ (x3 + 2) ∧ (x3 + 2) < (ν85 33 0 1)) ∧ ZI f_X8_findBlock [vR 20 o2, vI (ν85 32 o0 (x3 + 1)), vI (ν85 32 o0 (x3 + 2))] ν85 (fun r88 ν87 =>
        (if r86 = r88 then
        ZW f_L_law 575 [vR 32 o0, vR 0 o1, vR 20 o2, vI x3] [] ν87 Q
        else
        Q (some (vI 0)) ν87)))))))))))
      else
      (if (zand (μ 32 o0 x3) 31) = 22 then
      (zin (x3 + 1) ∧ ((0 ≤ (x3 + 1) ∧ (x3 + 1) < (μ 33 0 1)) ∧ ZI f_X7_falseMatches [vR 0 o1, vI (μ 32 o0 (x3 + 1))] μ (fun r90 ν89 =>
        (zin (x3 + 1) ∧ ((0 ≤ (x3 + 1) ∧ (x3 + 1) < (ν89 33 0 1)) ∧ ZI f_X8_falseMatches [vR 20 o2, vI (ν89 32 o0 (x3 + 1))] ν89 (fun r92 ν91 =>
        (if r90 = r92 then
        ZW f_L_law 575 [vR 32 o0, vR 0 o1, vR 20 o2, vI x3] [] ν91 Q
        else
        Q (some (vI 0)) ν91)))))))
      else
      (if (zand (μ 32 o0 x3) 31) = 23 then
      ZI f_X7_greatestSeek [vR 0 o1] μ (fun r94 ν93 =>
        ZI f_X8_greatestSeek [vR 20 o2] ν93 (fun r96 ν95 =>
        (if r94 = r96 then
        ZW f_L_law 575 [vR 32 o0, vR 0 o1, vR 20 o2, vI x3] [] ν95 Q
        else
        Q (some (vI 0)) ν95)))
      else
      (if (zand (μ 32 o0 x3) 31) = 24 then
      (zin (x3 + 1) ∧ ((0 ≤ (x3 + 1) ∧ (x3 + 1) < (μ 33 0 1)) ∧ ZI f_X7_dependents [vR 0 o1, vI (μ 32 o0 (x3 + 1))] μ (fun r98 ν97 =>
        (zin (x3 + 1) ∧ ((0 ≤ (x3 + 1) ∧ (x3 + 1) < (ν97 33 0 1)) ∧ ZI f_X8_dependents [vR 20 o2, vI (ν97 32 o0 (x3 + 1))] ν97 (fun r100 ν99 =>
        (if r98 = r100 then
        ZW f_L_law 575 [vR 32 o0, vR 0 o1, vR 20 o2, vI x3] [] ν99 Q
        else
        Q (some (vI 0)) ν99)))))))
      else
      (if (zand (μ 32 o0 x3) 31) = 25 then
      (zin (x3 + 1) ∧ ((0 ≤ (x3 + 1) ∧ (x3 + 1) < (μ 33 0 1)) ∧ ZI f_X7_patch [vR 0 o1, vI (μ 32 o0 (x3 + 1))] μ (fun r102 ν101 =>
        (zin (x3 + 1) ∧ ((0 ≤ (x3 + 1) ∧ (x3 + 1) < (ν101 33 0 1)) ∧ ZI f_X8_patch [vR 20 o2, vI (ν101 32 o0 (x3 + 1))] ν101 (fun r104 ν103 =>
        (if r102 = r104 then
        ZW f_L_law 575 [vR 32 o0, vR 0 o1, vR 20 o2, vI x3] [] ν103 Q
        else
        Q (some (vI 0)) ν103)))))))
      else
      (if (zand (μ 32 o0 x3) 31) = 26 then
      ZI f_X7_planCost [vR 0 o1] μ (fun r106 ν105 =>
        ZI f_X8_planCost [vR 20 o2] ν105 (fun r108 ν107 =>
        (if r106 = r108 then
        ZW f_L_law 575 [vR 32 o0, vR 0 o1, vR 20 o2, vI x3] [] ν107 Q
        else
        Q (some (vI 0)) ν107)))
      else
      (if (zand (μ 32 o0 x3) 31) = 27 then
      ZI f_X7_planKeys [vR 0 o1] μ (fun r110 ν109 =>
        ZI f_X8_planKeys [vR 20 o2] ν109 (fun r112 ν111 =>
        (if r110 = r112 then
        ZW f_L_law 575 [vR 32 o0, vR 0 o1, vR 20 o2, vI x3] [] ν111 Q
        else
        Q (some (vI 0)) ν111)))
      else
      (if (zand (μ 32 o0 x3) 31) = 28 then
      ZI f_X7_undo [vR 0 o1] μ (fun r114 ν113 =>
        ZI f_X8_undo [vR 20 o2] ν113 (fun r116 ν115 =>
        (if r114 = r116 then
        ZW f_L_law 575 [vR 32 o0, vR 0 o1, vR 20 o2, vI x3] [] ν115 Q
        else
        Q (some (vI 0)) ν115)))
      else
      ZW f_L_law 575 [vR 32 o0, vR 0 o1, vR 20 o2, vI x3] [] μ Q))))))))))))))))))))))))))))))))) :
    ZW f_L_law 10 [vR 32 o0, vR 0 o1, vR 20 o2, vI x3] [] μ Q := mvc_at zcd zml (C := zc186) rfl 584 10 h
theorem vc_L_law_575 {μ : mzM} {Q : Option mzV → mzM → Prop} {o0 o1 o2 x3 : Int} (h :
    (zin (x3 + 5) ∧ ZW f_L_law 10 [vR 32 o0, vR 0 o1, vR 20 o2, vI (x3 + 5)] [] μ Q)) :
    ZW f_L_law 575 [vR 32 o0, vR 0 o1, vR 20 o2, vI x3] [] μ Q := mvc_at zcd zml (C := zc186) rfl 584 575 h
end
