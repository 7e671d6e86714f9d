section
-- ===== PART A: goes FIRST, ahead of the names: the tables' words, and 'selects' of the private methods out of them =====
/-- a private method of a class that the tables say can be made, by its rows of tables_1 -/
def lw_okq (q : MethodName × Nat) : Prop := (q.1.cls ≠ "java/lang/invoke/MethodHandle" ∧ q.1.cls ≠ "java/lang/invoke/VarHandle") ∧ Cond.instantiable q.1.cls q.2 ∈ tables_1 ∧ Cond.privateMethod q.1 ∈ tables_1 ∧ Cond.instanceMethod q.1 ∈ tables_1
theorem lw_p0 : lw_okq (⟨"FrameDeltas", "save", "()V"⟩, 10) := ⟨⟨by decide +kernel, by decide +kernel⟩, List.mem_of_getElem? (i := 18) (by decide +kernel), List.mem_of_getElem? (i := 258) (by decide +kernel), List.mem_of_getElem? (i := 259) (by decide +kernel)⟩
theorem lw_p1 : lw_okq (⟨"FrameDeltas", "savedSlot", "(I)LFrameDeltas$State;"⟩, 10) := ⟨⟨by decide +kernel, by decide +kernel⟩, List.mem_of_getElem? (i := 18) (by decide +kernel), List.mem_of_getElem? (i := 262) (by decide +kernel), List.mem_of_getElem? (i := 263) (by decide +kernel)⟩
theorem lw_p2 : lw_okq (⟨"FrameDeltas$State", "take", "(LFrameDeltas$State;)V"⟩, 7) := ⟨⟨by decide +kernel, by decide +kernel⟩, List.mem_of_getElem? (i := 26) (by decide +kernel), List.mem_of_getElem? (i := 269) (by decide +kernel), List.mem_of_getElem? (i := 270) (by decide +kernel)⟩
theorem lw_p3 : lw_okq (⟨"FrameDeltas$Image", "take", "(LFrameDeltas$Image;)V"⟩, 3) := ⟨⟨by decide +kernel, by decide +kernel⟩, List.mem_of_getElem? (i := 32) (by decide +kernel), List.mem_of_getElem? (i := 273) (by decide +kernel), List.mem_of_getElem? (i := 274) (by decide +kernel)⟩
theorem lw_p4 : lw_okq (⟨"FrameDeltas$State", "frameAt", "(I)LFrameDeltas$Frame;"⟩, 7) := ⟨⟨by decide +kernel, by decide +kernel⟩, List.mem_of_getElem? (i := 26) (by decide +kernel), List.mem_of_getElem? (i := 280) (by decide +kernel), List.mem_of_getElem? (i := 281) (by decide +kernel)⟩
theorem lw_p5 : lw_okq (⟨"FrameDeltas$Frame", "take", "(LFrameDeltas$Frame;)V"⟩, 5) := ⟨⟨by decide +kernel, by decide +kernel⟩, List.mem_of_getElem? (i := 54) (by decide +kernel), List.mem_of_getElem? (i := 284) (by decide +kernel), List.mem_of_getElem? (i := 285) (by decide +kernel)⟩
theorem lw_p6 : lw_okq (⟨"FrameDeltas$Image", "reset", "(II)V"⟩, 3) := ⟨⟨by decide +kernel, by decide +kernel⟩, List.mem_of_getElem? (i := 32) (by decide +kernel), List.mem_of_getElem? (i := 290) (by decide +kernel), List.mem_of_getElem? (i := 291) (by decide +kernel)⟩
theorem lw_p7 : lw_okq (⟨"FrameDeltas$Image", "blocks", "()I"⟩, 3) := ⟨⟨by decide +kernel, by decide +kernel⟩, List.mem_of_getElem? (i := 32) (by decide +kernel), List.mem_of_getElem? (i := 294) (by decide +kernel), List.mem_of_getElem? (i := 295) (by decide +kernel)⟩
theorem lw_p8 : lw_okq (⟨"FrameDeltas$Image", "hasCell", "(I)Z"⟩, 3) := ⟨⟨by decide +kernel, by decide +kernel⟩, List.mem_of_getElem? (i := 32) (by decide +kernel), List.mem_of_getElem? (i := 302) (by decide +kernel), List.mem_of_getElem? (i := 303) (by decide +kernel)⟩
theorem lw_p9 : lw_okq (⟨"FrameDeltas$Image", "numbered", "(I)I"⟩, 3) := ⟨⟨by decide +kernel, by decide +kernel⟩, List.mem_of_getElem? (i := 32) (by decide +kernel), List.mem_of_getElem? (i := 306) (by decide +kernel), List.mem_of_getElem? (i := 307) (by decide +kernel)⟩
theorem lw_p10 : lw_okq (⟨"FrameDeltas$Image", "putNumbered", "(II)V"⟩, 3) := ⟨⟨by decide +kernel, by decide +kernel⟩, List.mem_of_getElem? (i := 32) (by decide +kernel), List.mem_of_getElem? (i := 310) (by decide +kernel), List.mem_of_getElem? (i := 311) (by decide +kernel)⟩
theorem lw_p11 : lw_okq (⟨"FrameDeltas$Script", "append", "(C)I"⟩, 8) := ⟨⟨by decide +kernel, by decide +kernel⟩, List.mem_of_getElem? (i := 124) (by decide +kernel), List.mem_of_getElem? (i := 322) (by decide +kernel), List.mem_of_getElem? (i := 323) (by decide +kernel)⟩
theorem lw_p12 : lw_okq (⟨"FrameDeltas$Script", "errorPosition", "(LFrameDeltas$State;)I"⟩, 8) := ⟨⟨by decide +kernel, by decide +kernel⟩, List.mem_of_getElem? (i := 124) (by decide +kernel), List.mem_of_getElem? (i := 334) (by decide +kernel), List.mem_of_getElem? (i := 335) (by decide +kernel)⟩
theorem lw_p13 : lw_okq (⟨"FrameDeltas$Script", "nextToken", "()V"⟩, 8) := ⟨⟨by decide +kernel, by decide +kernel⟩, List.mem_of_getElem? (i := 124) (by decide +kernel), List.mem_of_getElem? (i := 338) (by decide +kernel), List.mem_of_getElem? (i := 339) (by decide +kernel)⟩
theorem lw_p14 : lw_okq (⟨"FrameDeltas$Script", "signAt", "(I)C"⟩, 8) := ⟨⟨by decide +kernel, by decide +kernel⟩, List.mem_of_getElem? (i := 124) (by decide +kernel), List.mem_of_getElem? (i := 342) (by decide +kernel), List.mem_of_getElem? (i := 343) (by decide +kernel)⟩
theorem lw_p15 : lw_okq (⟨"FrameDeltas$Script", "readCommand", "(LFrameDeltas$State;)Z"⟩, 8) := ⟨⟨by decide +kernel, by decide +kernel⟩, List.mem_of_getElem? (i := 124) (by decide +kernel), List.mem_of_getElem? (i := 352) (by decide +kernel), List.mem_of_getElem? (i := 353) (by decide +kernel)⟩
def lw_privs_1 : List (MethodName × Nat) := [(⟨"FrameDeltas", "save", "()V"⟩, 10), (⟨"FrameDeltas", "savedSlot", "(I)LFrameDeltas$State;"⟩, 10), (⟨"FrameDeltas$State", "take", "(LFrameDeltas$State;)V"⟩, 7), (⟨"FrameDeltas$Image", "take", "(LFrameDeltas$Image;)V"⟩, 3), (⟨"FrameDeltas$State", "frameAt", "(I)LFrameDeltas$Frame;"⟩, 7), (⟨"FrameDeltas$Frame", "take", "(LFrameDeltas$Frame;)V"⟩, 5), (⟨"FrameDeltas$Image", "reset", "(II)V"⟩, 3), (⟨"FrameDeltas$Image", "blocks", "()I"⟩, 3), (⟨"FrameDeltas$Image", "hasCell", "(I)Z"⟩, 3), (⟨"FrameDeltas$Image", "numbered", "(I)I"⟩, 3), (⟨"FrameDeltas$Image", "putNumbered", "(II)V"⟩, 3), (⟨"FrameDeltas$Script", "append", "(C)I"⟩, 8), (⟨"FrameDeltas$Script", "errorPosition", "(LFrameDeltas$State;)I"⟩, 8), (⟨"FrameDeltas$Script", "nextToken", "()V"⟩, 8), (⟨"FrameDeltas$Script", "signAt", "(I)C"⟩, 8), (⟨"FrameDeltas$Script", "readCommand", "(LFrameDeltas$State;)Z"⟩, 8)]
theorem lw_r1 : ∀ q ∈ lw_privs_1, lw_okq q := List.forall_mem_cons.mpr ⟨lw_p0, List.forall_mem_cons.mpr ⟨lw_p1, List.forall_mem_cons.mpr ⟨lw_p2, List.forall_mem_cons.mpr ⟨lw_p3, List.forall_mem_cons.mpr ⟨lw_p4, List.forall_mem_cons.mpr ⟨lw_p5, List.forall_mem_cons.mpr ⟨lw_p6, List.forall_mem_cons.mpr ⟨lw_p7, List.forall_mem_cons.mpr ⟨lw_p8, List.forall_mem_cons.mpr ⟨lw_p9, List.forall_mem_cons.mpr ⟨lw_p10, List.forall_mem_cons.mpr ⟨lw_p11, List.forall_mem_cons.mpr ⟨lw_p12, List.forall_mem_cons.mpr ⟨lw_p13, List.forall_mem_cons.mpr ⟨lw_p14, List.forall_mem_cons.mpr ⟨lw_p15, fun _ h => absurd h List.not_mem_nil⟩⟩⟩⟩⟩⟩⟩⟩⟩⟩⟩⟩⟩⟩⟩⟩
theorem lw_p16 : lw_okq (⟨"FrameDeltas$Script", "commandOfToken", "()I"⟩, 8) := ⟨⟨by decide +kernel, by decide +kernel⟩, List.mem_of_getElem? (i := 124) (by decide +kernel), List.mem_of_getElem? (i := 356) (by decide +kernel), List.mem_of_getElem? (i := 357) (by decide +kernel)⟩
theorem lw_p17 : lw_okq (⟨"FrameDeltas$Script", "isToken", "(Ljava/lang/String;)Z"⟩, 8) := ⟨⟨by decide +kernel, by decide +kernel⟩, List.mem_of_getElem? (i := 124) (by decide +kernel), List.mem_of_getElem? (i := 368) (by decide +kernel), List.mem_of_getElem? (i := 369) (by decide +kernel)⟩
theorem lw_p18 : lw_okq (⟨"FrameDeltas$Script", "addToProgram", "(I)V"⟩, 8) := ⟨⟨by decide +kernel, by decide +kernel⟩, List.mem_of_getElem? (i := 124) (by decide +kernel), List.mem_of_getElem? (i := 420) (by decide +kernel), List.mem_of_getElem? (i := 421) (by decide +kernel)⟩
theorem lw_p19 : lw_okq (⟨"FrameDeltas$Script", "readNumber", "()Z"⟩, 8) := ⟨⟨by decide +kernel, by decide +kernel⟩, List.mem_of_getElem? (i := 124) (by decide +kernel), List.mem_of_getElem? (i := 432) (by decide +kernel), List.mem_of_getElem? (i := 433) (by decide +kernel)⟩
theorem lw_p20 : lw_okq (⟨"FrameDeltas$Script", "isAllowed", "(CLFrameDeltas$State;)Z"⟩, 8) := ⟨⟨by decide +kernel, by decide +kernel⟩, List.mem_of_getElem? (i := 124) (by decide +kernel), List.mem_of_getElem? (i := 436) (by decide +kernel), List.mem_of_getElem? (i := 437) (by decide +kernel)⟩
theorem lw_p21 : lw_okq (⟨"FrameDeltas$State", "isFrame", "(I)Z"⟩, 7) := ⟨⟨by decide +kernel, by decide +kernel⟩, List.mem_of_getElem? (i := 26) (by decide +kernel), List.mem_of_getElem? (i := 440) (by decide +kernel), List.mem_of_getElem? (i := 441) (by decide +kernel)⟩
theorem lw_p22 : lw_okq (⟨"FrameDeltas$State", "isReadable", "(I)Z"⟩, 7) := ⟨⟨by decide +kernel, by decide +kernel⟩, List.mem_of_getElem? (i := 26) (by decide +kernel), List.mem_of_getElem? (i := 444) (by decide +kernel), List.mem_of_getElem? (i := 445) (by decide +kernel)⟩
theorem lw_p23 : lw_okq (⟨"FrameDeltas$Script", "carryOut", "(LFrameDeltas$State;LFrameDeltas$Image;)I"⟩, 8) := ⟨⟨by decide +kernel, by decide +kernel⟩, List.mem_of_getElem? (i := 124) (by decide +kernel), List.mem_of_getElem? (i := 448) (by decide +kernel), List.mem_of_getElem? (i := 449) (by decide +kernel)⟩
theorem lw_p24 : lw_okq (⟨"FrameDeltas$Script", "programAt", "(I)I"⟩, 8) := ⟨⟨by decide +kernel, by decide +kernel⟩, List.mem_of_getElem? (i := 124) (by decide +kernel), List.mem_of_getElem? (i := 452) (by decide +kernel), List.mem_of_getElem? (i := 453) (by decide +kernel)⟩
theorem lw_p25 : lw_okq (⟨"FrameDeltas$Script", "apply", "(IILFrameDeltas$State;LFrameDeltas$Image;)V"⟩, 8) := ⟨⟨by decide +kernel, by decide +kernel⟩, List.mem_of_getElem? (i := 124) (by decide +kernel), List.mem_of_getElem? (i := 456) (by decide +kernel), List.mem_of_getElem? (i := 457) (by decide +kernel)⟩
theorem lw_p26 : lw_okq (⟨"FrameDeltas$Image", "fillBox", "(IIIII)V"⟩, 3) := ⟨⟨by decide +kernel, by decide +kernel⟩, List.mem_of_getElem? (i := 32) (by decide +kernel), List.mem_of_getElem? (i := 460) (by decide +kernel), List.mem_of_getElem? (i := 461) (by decide +kernel)⟩
theorem lw_p27 : lw_okq (⟨"FrameDeltas$Image", "takeShifted", "(LFrameDeltas$Image;II)V"⟩, 3) := ⟨⟨by decide +kernel, by decide +kernel⟩, List.mem_of_getElem? (i := 32) (by decide +kernel), List.mem_of_getElem? (i := 469) (by decide +kernel), List.mem_of_getElem? (i := 470) (by decide +kernel)⟩
theorem lw_p28 : lw_okq (⟨"FrameDeltas$Image", "at", "(II)I"⟩, 3) := ⟨⟨by decide +kernel, by decide +kernel⟩, List.mem_of_getElem? (i := 32) (by decide +kernel), List.mem_of_getElem? (i := 473) (by decide +kernel), List.mem_of_getElem? (i := 474) (by decide +kernel)⟩
theorem lw_p29 : lw_okq (⟨"FrameDeltas$Image", "swapValues", "(II)V"⟩, 3) := ⟨⟨by decide +kernel, by decide +kernel⟩, List.mem_of_getElem? (i := 32) (by decide +kernel), List.mem_of_getElem? (i := 477) (by decide +kernel), List.mem_of_getElem? (i := 478) (by decide +kernel)⟩
theorem lw_p30 : lw_okq (⟨"FrameDeltas$State", "imageOf", "(I)LFrameDeltas$Image;"⟩, 7) := ⟨⟨by decide +kernel, by decide +kernel⟩, List.mem_of_getElem? (i := 26) (by decide +kernel), List.mem_of_getElem? (i := 481) (by decide +kernel), List.mem_of_getElem? (i := 482) (by decide +kernel)⟩
theorem lw_p31 : lw_okq (⟨"FrameDeltas$State", "isImage", "(I)Z"⟩, 7) := ⟨⟨by decide +kernel, by decide +kernel⟩, List.mem_of_getElem? (i := 26) (by decide +kernel), List.mem_of_getElem? (i := 490) (by decide +kernel), List.mem_of_getElem? (i := 491) (by decide +kernel)⟩
def lw_privs_2 : List (MethodName × Nat) := [(⟨"FrameDeltas$Script", "commandOfToken", "()I"⟩, 8), (⟨"FrameDeltas$Script", "isToken", "(Ljava/lang/String;)Z"⟩, 8), (⟨"FrameDeltas$Script", "addToProgram", "(I)V"⟩, 8), (⟨"FrameDeltas$Script", "readNumber", "()Z"⟩, 8), (⟨"FrameDeltas$Script", "isAllowed", "(CLFrameDeltas$State;)Z"⟩, 8), (⟨"FrameDeltas$State", "isFrame", "(I)Z"⟩, 7), (⟨"FrameDeltas$State", "isReadable", "(I)Z"⟩, 7), (⟨"FrameDeltas$Script", "carryOut", "(LFrameDeltas$State;LFrameDeltas$Image;)I"⟩, 8), (⟨"FrameDeltas$Script", "programAt", "(I)I"⟩, 8), (⟨"FrameDeltas$Script", "apply", "(IILFrameDeltas$State;LFrameDeltas$Image;)V"⟩, 8), (⟨"FrameDeltas$Image", "fillBox", "(IIIII)V"⟩, 3), (⟨"FrameDeltas$Image", "takeShifted", "(LFrameDeltas$Image;II)V"⟩, 3), (⟨"FrameDeltas$Image", "at", "(II)I"⟩, 3), (⟨"FrameDeltas$Image", "swapValues", "(II)V"⟩, 3), (⟨"FrameDeltas$State", "imageOf", "(I)LFrameDeltas$Image;"⟩, 7), (⟨"FrameDeltas$State", "isImage", "(I)Z"⟩, 7)]
theorem lw_r2 : ∀ q ∈ lw_privs_2, lw_okq q := List.forall_mem_cons.mpr ⟨lw_p16, List.forall_mem_cons.mpr ⟨lw_p17, List.forall_mem_cons.mpr ⟨lw_p18, List.forall_mem_cons.mpr ⟨lw_p19, List.forall_mem_cons.mpr ⟨lw_p20, List.forall_mem_cons.mpr ⟨lw_p21, List.forall_mem_cons.mpr ⟨lw_p22, List.forall_mem_cons.mpr ⟨lw_p23, List.forall_mem_cons.mpr ⟨lw_p24, List.forall_mem_cons.mpr ⟨lw_p25, List.forall_mem_cons.mpr ⟨lw_p26, List.forall_mem_cons.mpr ⟨lw_p27, List.forall_mem_cons.mpr ⟨lw_p28, List.forall_mem_cons.mpr ⟨lw_p29, List.forall_mem_cons.mpr ⟨lw_p30, List.forall_mem_cons.mpr ⟨lw_p31, fun _ h => absurd h List.not_mem_nil⟩⟩⟩⟩⟩⟩⟩⟩⟩⟩⟩⟩⟩⟩⟩⟩
theorem lw_p32 : lw_okq (⟨"FrameDeltas$Image", "hasPart", "(II)Z"⟩, 3) := ⟨⟨by decide +kernel, by decide +kernel⟩, List.mem_of_getElem? (i := 32) (by decide +kernel), List.mem_of_getElem? (i := 495) (by decide +kernel), List.mem_of_getElem? (i := 496) (by decide +kernel)⟩
theorem lw_p33 : lw_okq (⟨"FrameDeltas$Image", "partDigest", "(II)I"⟩, 3) := ⟨⟨by decide +kernel, by decide +kernel⟩, List.mem_of_getElem? (i := 32) (by decide +kernel), List.mem_of_getElem? (i := 501) (by decide +kernel), List.mem_of_getElem? (i := 502) (by decide +kernel)⟩
theorem lw_p34 : lw_okq (⟨"FrameDeltas", "add", "(I)I"⟩, 10) := ⟨⟨by decide +kernel, by decide +kernel⟩, List.mem_of_getElem? (i := 18) (by decide +kernel), List.mem_of_getElem? (i := 509) (by decide +kernel), List.mem_of_getElem? (i := 510) (by decide +kernel)⟩
theorem lw_p35 : lw_okq (⟨"FrameDeltas$Coder", "encode", "(LFrameDeltas$Frame;LFrameDeltas$State;I)V"⟩, 4) := ⟨⟨by decide +kernel, by decide +kernel⟩, List.mem_of_getElem? (i := 157) (by decide +kernel), List.mem_of_getElem? (i := 515) (by decide +kernel), List.mem_of_getElem? (i := 516) (by decide +kernel)⟩
theorem lw_p36 : lw_okq (⟨"FrameDeltas$Coder", "encodeRaw", "(LFrameDeltas$Frame;I)I"⟩, 4) := ⟨⟨by decide +kernel, by decide +kernel⟩, List.mem_of_getElem? (i := 157) (by decide +kernel), List.mem_of_getElem? (i := 521) (by decide +kernel), List.mem_of_getElem? (i := 522) (by decide +kernel)⟩
theorem lw_p37 : lw_okq (⟨"FrameDeltas$RunList", "read", "(LFrameDeltas$Image;LFrameDeltas$Image;I)V"⟩, 3) := ⟨⟨by decide +kernel, by decide +kernel⟩, List.mem_of_getElem? (i := 163) (by decide +kernel), List.mem_of_getElem? (i := 525) (by decide +kernel), List.mem_of_getElem? (i := 526) (by decide +kernel)⟩
theorem lw_p38 : lw_okq (⟨"FrameDeltas$Image", "left", "(I)I"⟩, 3) := ⟨⟨by decide +kernel, by decide +kernel⟩, List.mem_of_getElem? (i := 32) (by decide +kernel), List.mem_of_getElem? (i := 529) (by decide +kernel), List.mem_of_getElem? (i := 530) (by decide +kernel)⟩
theorem lw_p39 : lw_okq (⟨"FrameDeltas$Image", "top", "(I)I"⟩, 3) := ⟨⟨by decide +kernel, by decide +kernel⟩, List.mem_of_getElem? (i := 32) (by decide +kernel), List.mem_of_getElem? (i := 536) (by decide +kernel), List.mem_of_getElem? (i := 537) (by decide +kernel)⟩
theorem lw_p40 : lw_okq (⟨"FrameDeltas$RunList", "addCell", "(I)V"⟩, 3) := ⟨⟨by decide +kernel, by decide +kernel⟩, List.mem_of_getElem? (i := 163) (by decide +kernel), List.mem_of_getElem? (i := 541) (by decide +kernel), List.mem_of_getElem? (i := 542) (by decide +kernel)⟩
theorem lw_p41 : lw_okq (⟨"FrameDeltas$Frame", "setCode", "(IIIII)V"⟩, 5) := ⟨⟨by decide +kernel, by decide +kernel⟩, List.mem_of_getElem? (i := 54) (by decide +kernel), List.mem_of_getElem? (i := 545) (by decide +kernel), List.mem_of_getElem? (i := 546) (by decide +kernel)⟩
theorem lw_p42 : lw_okq (⟨"FrameDeltas$Coder", "encodeWith", "(LFrameDeltas$Frame;ILFrameDeltas$Image;I)I"⟩, 4) := ⟨⟨by decide +kernel, by decide +kernel⟩, List.mem_of_getElem? (i := 157) (by decide +kernel), List.mem_of_getElem? (i := 549) (by decide +kernel), List.mem_of_getElem? (i := 550) (by decide +kernel)⟩
theorem lw_p43 : lw_okq (⟨"FrameDeltas$Image", "samePart", "(IILFrameDeltas$Image;II)Z"⟩, 3) := ⟨⟨by decide +kernel, by decide +kernel⟩, List.mem_of_getElem? (i := 32) (by decide +kernel), List.mem_of_getElem? (i := 555) (by decide +kernel), List.mem_of_getElem? (i := 556) (by decide +kernel)⟩
theorem lw_p44 : lw_okq (⟨"FrameDeltas$Coder", "findMove", "(LFrameDeltas$Image;IILFrameDeltas$Image;I)Z"⟩, 4) := ⟨⟨by decide +kernel, by decide +kernel⟩, List.mem_of_getElem? (i := 157) (by decide +kernel), List.mem_of_getElem? (i := 559) (by decide +kernel), List.mem_of_getElem? (i := 560) (by decide +kernel)⟩
theorem lw_p45 : lw_okq (⟨"FrameDeltas$State", "mayBeReference", "(I)Z"⟩, 7) := ⟨⟨by decide +kernel, by decide +kernel⟩, List.mem_of_getElem? (i := 26) (by decide +kernel), List.mem_of_getElem? (i := 573) (by decide +kernel), List.mem_of_getElem? (i := 574) (by decide +kernel)⟩
theorem lw_p46 : lw_okq (⟨"FrameDeltas$State", "depthOf", "(I)I"⟩, 7) := ⟨⟨by decide +kernel, by decide +kernel⟩, List.mem_of_getElem? (i := 26) (by decide +kernel), List.mem_of_getElem? (i := 578) (by decide +kernel), List.mem_of_getElem? (i := 579) (by decide +kernel)⟩
theorem lw_p47 : lw_okq (⟨"FrameDeltas", "chosenReference", "()I"⟩, 10) := ⟨⟨by decide +kernel, by decide +kernel⟩, List.mem_of_getElem? (i := 18) (by decide +kernel), List.mem_of_getElem? (i := 586) (by decide +kernel), List.mem_of_getElem? (i := 587) (by decide +kernel)⟩
def lw_privs_3 : List (MethodName × Nat) := [(⟨"FrameDeltas$Image", "hasPart", "(II)Z"⟩, 3), (⟨"FrameDeltas$Image", "partDigest", "(II)I"⟩, 3), (⟨"FrameDeltas", "add", "(I)I"⟩, 10), (⟨"FrameDeltas$Coder", "encode", "(LFrameDeltas$Frame;LFrameDeltas$State;I)V"⟩, 4), (⟨"FrameDeltas$Coder", "encodeRaw", "(LFrameDeltas$Frame;I)I"⟩, 4), (⟨"FrameDeltas$RunList", "read", "(LFrameDeltas$Image;LFrameDeltas$Image;I)V"⟩, 3), (⟨"FrameDeltas$Image", "left", "(I)I"⟩, 3), (⟨"FrameDeltas$Image", "top", "(I)I"⟩, 3), (⟨"FrameDeltas$RunList", "addCell", "(I)V"⟩, 3), (⟨"FrameDeltas$Frame", "setCode", "(IIIII)V"⟩, 5), (⟨"FrameDeltas$Coder", "encodeWith", "(LFrameDeltas$Frame;ILFrameDeltas$Image;I)I"⟩, 4), (⟨"FrameDeltas$Image", "samePart", "(IILFrameDeltas$Image;II)Z"⟩, 3), (⟨"FrameDeltas$Coder", "findMove", "(LFrameDeltas$Image;IILFrameDeltas$Image;I)Z"⟩, 4), (⟨"FrameDeltas$State", "mayBeReference", "(I)Z"⟩, 7), (⟨"FrameDeltas$State", "depthOf", "(I)I"⟩, 7), (⟨"FrameDeltas", "chosenReference", "()I"⟩, 10)]
theorem lw_r3 : ∀ q ∈ lw_privs_3, lw_okq q := List.forall_mem_cons.mpr ⟨lw_p32, List.forall_mem_cons.mpr ⟨lw_p33, List.forall_mem_cons.mpr ⟨lw_p34, List.forall_mem_cons.mpr ⟨lw_p35, List.forall_mem_cons.mpr ⟨lw_p36, List.forall_mem_cons.mpr ⟨lw_p37, List.forall_mem_cons.mpr ⟨lw_p38, List.forall_mem_cons.mpr ⟨lw_p39, List.forall_mem_cons.mpr ⟨lw_p40, List.forall_mem_cons.mpr ⟨lw_p41, List.forall_mem_cons.mpr ⟨lw_p42, List.forall_mem_cons.mpr ⟨lw_p43, List.forall_mem_cons.mpr ⟨lw_p44, List.forall_mem_cons.mpr ⟨lw_p45, List.forall_mem_cons.mpr ⟨lw_p46, List.forall_mem_cons.mpr ⟨lw_p47, fun _ h => absurd h List.not_mem_nil⟩⟩⟩⟩⟩⟩⟩⟩⟩⟩⟩⟩⟩⟩⟩⟩
theorem lw_p48 : lw_okq (⟨"FrameDeltas", "costOfCanvas", "(I)I"⟩, 10) := ⟨⟨by decide +kernel, by decide +kernel⟩, List.mem_of_getElem? (i := 18) (by decide +kernel), List.mem_of_getElem? (i := 590) (by decide +kernel), List.mem_of_getElem? (i := 591) (by decide +kernel)⟩
theorem lw_p49 : lw_okq (⟨"FrameDeltas$Planner", "plan", "(LFrameDeltas$State;LFrameDeltas$Coder;LFrameDeltas$Frame;)V"⟩, 4) := ⟨⟨by decide +kernel, by decide +kernel⟩, List.mem_of_getElem? (i := 195) (by decide +kernel), List.mem_of_getElem? (i := 603) (by decide +kernel), List.mem_of_getElem? (i := 604) (by decide +kernel)⟩
theorem lw_p50 : lw_okq (⟨"FrameDeltas$Planner", "measure", "(LFrameDeltas$State;LFrameDeltas$Coder;LFrameDeltas$Frame;I)V"⟩, 4) := ⟨⟨by decide +kernel, by decide +kernel⟩, List.mem_of_getElem? (i := 195) (by decide +kernel), List.mem_of_getElem? (i := 608) (by decide +kernel), List.mem_of_getElem? (i := 609) (by decide +kernel)⟩
theorem lw_p51 : lw_okq (⟨"FrameDeltas$Planner", "costOf", "(III)I"⟩, 4) := ⟨⟨by decide +kernel, by decide +kernel⟩, List.mem_of_getElem? (i := 195) (by decide +kernel), List.mem_of_getElem? (i := 615) (by decide +kernel), List.mem_of_getElem? (i := 616) (by decide +kernel)⟩
theorem lw_p52 : lw_okq (⟨"FrameDeltas$Planner", "referenceOf", "(I)I"⟩, 4) := ⟨⟨by decide +kernel, by decide +kernel⟩, List.mem_of_getElem? (i := 195) (by decide +kernel), List.mem_of_getElem? (i := 626) (by decide +kernel), List.mem_of_getElem? (i := 627) (by decide +kernel)⟩
theorem lw_p53 : lw_okq (⟨"FrameDeltas$State", "readableFrames", "()I"⟩, 7) := ⟨⟨by decide +kernel, by decide +kernel⟩, List.mem_of_getElem? (i := 26) (by decide +kernel), List.mem_of_getElem? (i := 638) (by decide +kernel), List.mem_of_getElem? (i := 639) (by decide +kernel)⟩
theorem lw_p54 : lw_okq (⟨"FrameDeltas$State", "seekCost", "(I)I"⟩, 7) := ⟨⟨by decide +kernel, by decide +kernel⟩, List.mem_of_getElem? (i := 26) (by decide +kernel), List.mem_of_getElem? (i := 646) (by decide +kernel), List.mem_of_getElem? (i := 647) (by decide +kernel)⟩
theorem lw_p55 : lw_okq (⟨"FrameDeltas$Frame", "codesOfKind", "(I)I"⟩, 5) := ⟨⟨by decide +kernel, by decide +kernel⟩, List.mem_of_getElem? (i := 54) (by decide +kernel), List.mem_of_getElem? (i := 650) (by decide +kernel), List.mem_of_getElem? (i := 651) (by decide +kernel)⟩
theorem lw_p56 : lw_okq (⟨"FrameDeltas$Frame", "codePart", "(II)I"⟩, 5) := ⟨⟨by decide +kernel, by decide +kernel⟩, List.mem_of_getElem? (i := 54) (by decide +kernel), List.mem_of_getElem? (i := 655) (by decide +kernel), List.mem_of_getElem? (i := 656) (by decide +kernel)⟩
theorem lw_p57 : lw_okq (⟨"FrameDeltas$Image", "hasBlock", "(I)Z"⟩, 3) := ⟨⟨by decide +kernel, by decide +kernel⟩, List.mem_of_getElem? (i := 32) (by decide +kernel), List.mem_of_getElem? (i := 663) (by decide +kernel), List.mem_of_getElem? (i := 664) (by decide +kernel)⟩
theorem lw_p58 : lw_okq (⟨"FrameDeltas$RunList", "lengthOf", "(I)I"⟩, 3) := ⟨⟨by decide +kernel, by decide +kernel⟩, List.mem_of_getElem? (i := 163) (by decide +kernel), List.mem_of_getElem? (i := 674) (by decide +kernel), List.mem_of_getElem? (i := 675) (by decide +kernel)⟩
theorem lw_p59 : lw_okq (⟨"FrameDeltas$RunList", "valueOf", "(I)I"⟩, 3) := ⟨⟨by decide +kernel, by decide +kernel⟩, List.mem_of_getElem? (i := 163) (by decide +kernel), List.mem_of_getElem? (i := 678) (by decide +kernel), List.mem_of_getElem? (i := 679) (by decide +kernel)⟩
theorem lw_p60 : lw_okq (⟨"FrameDeltas$State", "costOfRecords", "()I"⟩, 7) := ⟨⟨by decide +kernel, by decide +kernel⟩, List.mem_of_getElem? (i := 26) (by decide +kernel), List.mem_of_getElem? (i := 690) (by decide +kernel), List.mem_of_getElem? (i := 691) (by decide +kernel)⟩
theorem lw_p61 : lw_okq (⟨"FrameDeltas$Image", "cellsUnlike", "(LFrameDeltas$Image;)I"⟩, 3) := ⟨⟨by decide +kernel, by decide +kernel⟩, List.mem_of_getElem? (i := 32) (by decide +kernel), List.mem_of_getElem? (i := 702) (by decide +kernel), List.mem_of_getElem? (i := 703) (by decide +kernel)⟩
theorem lw_p62 : lw_okq (⟨"FrameDeltas", "falsePairs", "(LFrameDeltas$Image;)I"⟩, 10) := ⟨⟨by decide +kernel, by decide +kernel⟩, List.mem_of_getElem? (i := 18) (by decide +kernel), List.mem_of_getElem? (i := 718) (by decide +kernel), List.mem_of_getElem? (i := 719) (by decide +kernel)⟩
theorem lw_p63 : lw_okq (⟨"FrameDeltas$State", "chainHas", "(II)Z"⟩, 7) := ⟨⟨by decide +kernel, by decide +kernel⟩, List.mem_of_getElem? (i := 26) (by decide +kernel), List.mem_of_getElem? (i := 732) (by decide +kernel), List.mem_of_getElem? (i := 733) (by decide +kernel)⟩
def lw_privs_4 : List (MethodName × Nat) := [(⟨"FrameDeltas", "costOfCanvas", "(I)I"⟩, 10), (⟨"FrameDeltas$Planner", "plan", "(LFrameDeltas$State;LFrameDeltas$Coder;LFrameDeltas$Frame;)V"⟩, 4), (⟨"FrameDeltas$Planner", "measure", "(LFrameDeltas$State;LFrameDeltas$Coder;LFrameDeltas$Frame;I)V"⟩, 4), (⟨"FrameDeltas$Planner", "costOf", "(III)I"⟩, 4), (⟨"FrameDeltas$Planner", "referenceOf", "(I)I"⟩, 4), (⟨"FrameDeltas$State", "readableFrames", "()I"⟩, 7), (⟨"FrameDeltas$State", "seekCost", "(I)I"⟩, 7), (⟨"FrameDeltas$Frame", "codesOfKind", "(I)I"⟩, 5), (⟨"FrameDeltas$Frame", "codePart", "(II)I"⟩, 5), (⟨"FrameDeltas$Image", "hasBlock", "(I)Z"⟩, 3), (⟨"FrameDeltas$RunList", "lengthOf", "(I)I"⟩, 3), (⟨"FrameDeltas$RunList", "valueOf", "(I)I"⟩, 3), (⟨"FrameDeltas$State", "costOfRecords", "()I"⟩, 7), (⟨"FrameDeltas$Image", "cellsUnlike", "(LFrameDeltas$Image;)I"⟩, 3), (⟨"FrameDeltas", "falsePairs", "(LFrameDeltas$Image;)I"⟩, 10), (⟨"FrameDeltas$State", "chainHas", "(II)Z"⟩, 7)]
theorem lw_r4 : ∀ q ∈ lw_privs_4, lw_okq q := List.forall_mem_cons.mpr ⟨lw_p48, List.forall_mem_cons.mpr ⟨lw_p49, List.forall_mem_cons.mpr ⟨lw_p50, List.forall_mem_cons.mpr ⟨lw_p51, List.forall_mem_cons.mpr ⟨lw_p52, List.forall_mem_cons.mpr ⟨lw_p53, List.forall_mem_cons.mpr ⟨lw_p54, List.forall_mem_cons.mpr ⟨lw_p55, List.forall_mem_cons.mpr ⟨lw_p56, List.forall_mem_cons.mpr ⟨lw_p57, List.forall_mem_cons.mpr ⟨lw_p58, List.forall_mem_cons.mpr ⟨lw_p59, List.forall_mem_cons.mpr ⟨lw_p60, List.forall_mem_cons.mpr ⟨lw_p61, List.forall_mem_cons.mpr ⟨lw_p62, List.forall_mem_cons.mpr ⟨lw_p63, fun _ h => absurd h List.not_mem_nil⟩⟩⟩⟩⟩⟩⟩⟩⟩⟩⟩⟩⟩⟩⟩⟩
theorem lw_p64 : lw_okq (⟨"FrameDeltasModel", "note", "()V"⟩, 18) := ⟨⟨by decide +kernel, by decide +kernel⟩, List.mem_of_getElem? (i := 752) (by decide +kernel), List.mem_of_getElem? (i := 824) (by decide +kernel), List.mem_of_getElem? (i := 825) (by decide +kernel)⟩
theorem lw_p65 : lw_okq (⟨"FrameDeltasModel", "blocks", "()I"⟩, 18) := ⟨⟨by decide +kernel, by decide +kernel⟩, List.mem_of_getElem? (i := 752) (by decide +kernel), List.mem_of_getElem? (i := 828) (by decide +kernel), List.mem_of_getElem? (i := 829) (by decide +kernel)⟩
theorem lw_p66 : lw_okq (⟨"FrameDeltasModel", "cells", "()I"⟩, 18) := ⟨⟨by decide +kernel, by decide +kernel⟩, List.mem_of_getElem? (i := 752) (by decide +kernel), List.mem_of_getElem? (i := 832) (by decide +kernel), List.mem_of_getElem? (i := 833) (by decide +kernel)⟩
theorem lw_p67 : lw_okq (⟨"FrameDeltasModel", "isCell", "(I)Z"⟩, 18) := ⟨⟨by decide +kernel, by decide +kernel⟩, List.mem_of_getElem? (i := 752) (by decide +kernel), List.mem_of_getElem? (i := 840) (by decide +kernel), List.mem_of_getElem? (i := 841) (by decide +kernel)⟩
theorem lw_p68 : lw_okq (⟨"FrameDeltasModel", "readsToken", "()V"⟩, 18) := ⟨⟨by decide +kernel, by decide +kernel⟩, List.mem_of_getElem? (i := 752) (by decide +kernel), List.mem_of_getElem? (i := 860) (by decide +kernel), List.mem_of_getElem? (i := 861) (by decide +kernel)⟩
theorem lw_p69 : lw_okq (⟨"FrameDeltasModel", "here", "()I"⟩, 18) := ⟨⟨by decide +kernel, by decide +kernel⟩, List.mem_of_getElem? (i := 752) (by decide +kernel), List.mem_of_getElem? (i := 864) (by decide +kernel), List.mem_of_getElem? (i := 865) (by decide +kernel)⟩
theorem lw_p70 : lw_okq (⟨"FrameDeltasModel", "readsCommand", "()V"⟩, 18) := ⟨⟨by decide +kernel, by decide +kernel⟩, List.mem_of_getElem? (i := 752) (by decide +kernel), List.mem_of_getElem? (i := 874) (by decide +kernel), List.mem_of_getElem? (i := 875) (by decide +kernel)⟩
theorem lw_p71 : lw_okq (⟨"FrameDeltasModel", "takes", "(Z)V"⟩, 18) := ⟨⟨by decide +kernel, by decide +kernel⟩, List.mem_of_getElem? (i := 752) (by decide +kernel), List.mem_of_getElem? (i := 883) (by decide +kernel), List.mem_of_getElem? (i := 884) (by decide +kernel)⟩
theorem lw_p72 : lw_okq (⟨"FrameDeltasModel", "takesNumber", "(II)I"⟩, 18) := ⟨⟨by decide +kernel, by decide +kernel⟩, List.mem_of_getElem? (i := 752) (by decide +kernel), List.mem_of_getElem? (i := 887) (by decide +kernel), List.mem_of_getElem? (i := 888) (by decide +kernel)⟩
theorem lw_p73 : lw_okq (⟨"FrameDeltasModel", "fillsBox", "(IIIII)V"⟩, 18) := ⟨⟨by decide +kernel, by decide +kernel⟩, List.mem_of_getElem? (i := 752) (by decide +kernel), List.mem_of_getElem? (i := 891) (by decide +kernel), List.mem_of_getElem? (i := 892) (by decide +kernel)⟩
theorem lw_p74 : lw_okq (⟨"FrameDeltasModel", "shifts", "(II)V"⟩, 18) := ⟨⟨by decide +kernel, by decide +kernel⟩, List.mem_of_getElem? (i := 752) (by decide +kernel), List.mem_of_getElem? (i := 895) (by decide +kernel), List.mem_of_getElem? (i := 896) (by decide +kernel)⟩
theorem lw_p75 : lw_okq (⟨"FrameDeltasModel", "keeps", "()V"⟩, 18) := ⟨⟨by decide +kernel, by decide +kernel⟩, List.mem_of_getElem? (i := 752) (by decide +kernel), List.mem_of_getElem? (i := 899) (by decide +kernel), List.mem_of_getElem? (i := 900) (by decide +kernel)⟩
theorem lw_p76 : lw_okq (⟨"FrameDeltasModel", "place", "(II)I"⟩, 18) := ⟨⟨by decide +kernel, by decide +kernel⟩, List.mem_of_getElem? (i := 752) (by decide +kernel), List.mem_of_getElem? (i := 903) (by decide +kernel), List.mem_of_getElem? (i := 904) (by decide +kernel)⟩
theorem lw_p77 : lw_okq (⟨"FrameDeltasModel", "isFrame", "(I)Z"⟩, 18) := ⟨⟨by decide +kernel, by decide +kernel⟩, List.mem_of_getElem? (i := 752) (by decide +kernel), List.mem_of_getElem? (i := 907) (by decide +kernel), List.mem_of_getElem? (i := 908) (by decide +kernel)⟩
theorem lw_p78 : lw_okq (⟨"FrameDeltasModel", "isGood", "(I)Z"⟩, 18) := ⟨⟨by decide +kernel, by decide +kernel⟩, List.mem_of_getElem? (i := 752) (by decide +kernel), List.mem_of_getElem? (i := 911) (by decide +kernel), List.mem_of_getElem? (i := 912) (by decide +kernel)⟩
theorem lw_p79 : lw_okq (⟨"FrameDeltasModel", "reference", "(I)I"⟩, 18) := ⟨⟨by decide +kernel, by decide +kernel⟩, List.mem_of_getElem? (i := 752) (by decide +kernel), List.mem_of_getElem? (i := 915) (by decide +kernel), List.mem_of_getElem? (i := 916) (by decide +kernel)⟩
def lw_privs_5 : List (MethodName × Nat) := [(⟨"FrameDeltasModel", "note", "()V"⟩, 18), (⟨"FrameDeltasModel", "blocks", "()I"⟩, 18), (⟨"FrameDeltasModel", "cells", "()I"⟩, 18), (⟨"FrameDeltasModel", "isCell", "(I)Z"⟩, 18), (⟨"FrameDeltasModel", "readsToken", "()V"⟩, 18), (⟨"FrameDeltasModel", "here", "()I"⟩, 18), (⟨"FrameDeltasModel", "readsCommand", "()V"⟩, 18), (⟨"FrameDeltasModel", "takes", "(Z)V"⟩, 18), (⟨"FrameDeltasModel", "takesNumber", "(II)I"⟩, 18), (⟨"FrameDeltasModel", "fillsBox", "(IIIII)V"⟩, 18), (⟨"FrameDeltasModel", "shifts", "(II)V"⟩, 18), (⟨"FrameDeltasModel", "keeps", "()V"⟩, 18), (⟨"FrameDeltasModel", "place", "(II)I"⟩, 18), (⟨"FrameDeltasModel", "isFrame", "(I)Z"⟩, 18), (⟨"FrameDeltasModel", "isGood", "(I)Z"⟩, 18), (⟨"FrameDeltasModel", "reference", "(I)I"⟩, 18)]
theorem lw_r5 : ∀ q ∈ lw_privs_5, lw_okq q := List.forall_mem_cons.mpr ⟨lw_p64, List.forall_mem_cons.mpr ⟨lw_p65, List.forall_mem_cons.mpr ⟨lw_p66, List.forall_mem_cons.mpr ⟨lw_p67, List.forall_mem_cons.mpr ⟨lw_p68, List.forall_mem_cons.mpr ⟨lw_p69, List.forall_mem_cons.mpr ⟨lw_p70, List.forall_mem_cons.mpr ⟨lw_p71, List.forall_mem_cons.mpr ⟨lw_p72, List.forall_mem_cons.mpr ⟨lw_p73, List.forall_mem_cons.mpr ⟨lw_p74, List.forall_mem_cons.mpr ⟨lw_p75, List.forall_mem_cons.mpr ⟨lw_p76, List.forall_mem_cons.mpr ⟨lw_p77, List.forall_mem_cons.mpr ⟨lw_p78, List.forall_mem_cons.mpr ⟨lw_p79, fun _ h => absurd h List.not_mem_nil⟩⟩⟩⟩⟩⟩⟩⟩⟩⟩⟩⟩⟩⟩⟩⟩
theorem lw_p80 : lw_okq (⟨"FrameDeltasModel", "value", "(II)I"⟩, 18) := ⟨⟨by decide +kernel, by decide +kernel⟩, List.mem_of_getElem? (i := 752) (by decide +kernel), List.mem_of_getElem? (i := 919) (by decide +kernel), List.mem_of_getElem? (i := 920) (by decide +kernel)⟩
theorem lw_p81 : lw_okq (⟨"FrameDeltasModel", "exchanges", "()V"⟩, 18) := ⟨⟨by decide +kernel, by decide +kernel⟩, List.mem_of_getElem? (i := 752) (by decide +kernel), List.mem_of_getElem? (i := 923) (by decide +kernel), List.mem_of_getElem? (i := 924) (by decide +kernel)⟩
theorem lw_p82 : lw_okq (⟨"FrameDeltasModel", "isImage", "(I)Z"⟩, 18) := ⟨⟨by decide +kernel, by decide +kernel⟩, List.mem_of_getElem? (i := 752) (by decide +kernel), List.mem_of_getElem? (i := 931) (by decide +kernel), List.mem_of_getElem? (i := 932) (by decide +kernel)⟩
theorem lw_p83 : lw_okq (⟨"FrameDeltasModel", "isKnown", "(I)Z"⟩, 18) := ⟨⟨by decide +kernel, by decide +kernel⟩, List.mem_of_getElem? (i := 752) (by decide +kernel), List.mem_of_getElem? (i := 935) (by decide +kernel), List.mem_of_getElem? (i := 936) (by decide +kernel)⟩
theorem lw_p84 : lw_okq (⟨"FrameDeltasModel", "digestOf", "(III)I"⟩, 18) := ⟨⟨by decide +kernel, by decide +kernel⟩, List.mem_of_getElem? (i := 752) (by decide +kernel), List.mem_of_getElem? (i := 939) (by decide +kernel), List.mem_of_getElem? (i := 940) (by decide +kernel)⟩
theorem lw_p85 : lw_okq (⟨"FrameDeltasModel", "adds", "(I)I"⟩, 18) := ⟨⟨by decide +kernel, by decide +kernel⟩, List.mem_of_getElem? (i := 752) (by decide +kernel), List.mem_of_getElem? (i := 947) (by decide +kernel), List.mem_of_getElem? (i := 948) (by decide +kernel)⟩
theorem lw_p86 : lw_okq (⟨"FrameDeltasModel", "codesAll", "(II)I"⟩, 18) := ⟨⟨by decide +kernel, by decide +kernel⟩, List.mem_of_getElem? (i := 752) (by decide +kernel), List.mem_of_getElem? (i := 951) (by decide +kernel), List.mem_of_getElem? (i := 952) (by decide +kernel)⟩
theorem lw_p87 : lw_okq (⟨"FrameDeltasModel", "codes", "(III)I"⟩, 18) := ⟨⟨by decide +kernel, by decide +kernel⟩, List.mem_of_getElem? (i := 752) (by decide +kernel), List.mem_of_getElem? (i := 955) (by decide +kernel), List.mem_of_getElem? (i := 956) (by decide +kernel)⟩
theorem lw_p88 : lw_okq (⟨"FrameDeltasModel", "runsOf", "(III)I"⟩, 18) := ⟨⟨by decide +kernel, by decide +kernel⟩, List.mem_of_getElem? (i := 752) (by decide +kernel), List.mem_of_getElem? (i := 959) (by decide +kernel), List.mem_of_getElem? (i := 960) (by decide +kernel)⟩
theorem lw_p89 : lw_okq (⟨"FrameDeltasModel", "given", "(IIII)I"⟩, 18) := ⟨⟨by decide +kernel, by decide +kernel⟩, List.mem_of_getElem? (i := 752) (by decide +kernel), List.mem_of_getElem? (i := 963) (by decide +kernel), List.mem_of_getElem? (i := 964) (by decide +kernel)⟩
theorem lw_p90 : lw_okq (⟨"FrameDeltasModel", "left", "(I)I"⟩, 18) := ⟨⟨by decide +kernel, by decide +kernel⟩, List.mem_of_getElem? (i := 752) (by decide +kernel), List.mem_of_getElem? (i := 967) (by decide +kernel), List.mem_of_getElem? (i := 968) (by decide +kernel)⟩
theorem lw_p91 : lw_okq (⟨"FrameDeltasModel", "top", "(I)I"⟩, 18) := ⟨⟨by decide +kernel, by decide +kernel⟩, List.mem_of_getElem? (i := 752) (by decide +kernel), List.mem_of_getElem? (i := 971) (by decide +kernel), List.mem_of_getElem? (i := 972) (by decide +kernel)⟩
theorem lw_p92 : lw_okq (⟨"FrameDeltasModel", "isLike", "(IIIII)Z"⟩, 18) := ⟨⟨by decide +kernel, by decide +kernel⟩, List.mem_of_getElem? (i := 752) (by decide +kernel), List.mem_of_getElem? (i := 975) (by decide +kernel), List.mem_of_getElem? (i := 976) (by decide +kernel)⟩
theorem lw_p93 : lw_okq (⟨"FrameDeltasModel", "finds", "(III)Z"⟩, 18) := ⟨⟨by decide +kernel, by decide +kernel⟩, List.mem_of_getElem? (i := 752) (by decide +kernel), List.mem_of_getElem? (i := 979) (by decide +kernel), List.mem_of_getElem? (i := 980) (by decide +kernel)⟩
theorem lw_p94 : lw_okq (⟨"FrameDeltasModel", "records", "(II)V"⟩, 18) := ⟨⟨by decide +kernel, by decide +kernel⟩, List.mem_of_getElem? (i := 752) (by decide +kernel), List.mem_of_getElem? (i := 986) (by decide +kernel), List.mem_of_getElem? (i := 987) (by decide +kernel)⟩
theorem lw_p95 : lw_okq (⟨"FrameDeltasModel", "depthOf", "(I)I"⟩, 18) := ⟨⟨by decide +kernel, by decide +kernel⟩, List.mem_of_getElem? (i := 752) (by decide +kernel), List.mem_of_getElem? (i := 994) (by decide +kernel), List.mem_of_getElem? (i := 995) (by decide +kernel)⟩
def lw_privs_6 : List (MethodName × Nat) := [(⟨"FrameDeltasModel", "value", "(II)I"⟩, 18), (⟨"FrameDeltasModel", "exchanges", "()V"⟩, 18), (⟨"FrameDeltasModel", "isImage", "(I)Z"⟩, 18), (⟨"FrameDeltasModel", "isKnown", "(I)Z"⟩, 18), (⟨"FrameDeltasModel", "digestOf", "(III)I"⟩, 18), (⟨"FrameDeltasModel", "adds", "(I)I"⟩, 18), (⟨"FrameDeltasModel", "codesAll", "(II)I"⟩, 18), (⟨"FrameDeltasModel", "codes", "(III)I"⟩, 18), (⟨"FrameDeltasModel", "runsOf", "(III)I"⟩, 18), (⟨"FrameDeltasModel", "given", "(IIII)I"⟩, 18), (⟨"FrameDeltasModel", "left", "(I)I"⟩, 18), (⟨"FrameDeltasModel", "top", "(I)I"⟩, 18), (⟨"FrameDeltasModel", "isLike", "(IIIII)Z"⟩, 18), (⟨"FrameDeltasModel", "finds", "(III)Z"⟩, 18), (⟨"FrameDeltasModel", "records", "(II)V"⟩, 18), (⟨"FrameDeltasModel", "depthOf", "(I)I"⟩, 18)]
theorem lw_r6 : ∀ q ∈ lw_privs_6, lw_okq q := List.forall_mem_cons.mpr ⟨lw_p80, List.forall_mem_cons.mpr ⟨lw_p81, List.forall_mem_cons.mpr ⟨lw_p82, List.forall_mem_cons.mpr ⟨lw_p83, List.forall_mem_cons.mpr ⟨lw_p84, List.forall_mem_cons.mpr ⟨lw_p85, List.forall_mem_cons.mpr ⟨lw_p86, List.forall_mem_cons.mpr ⟨lw_p87, List.forall_mem_cons.mpr ⟨lw_p88, List.forall_mem_cons.mpr ⟨lw_p89, List.forall_mem_cons.mpr ⟨lw_p90, List.forall_mem_cons.mpr ⟨lw_p91, List.forall_mem_cons.mpr ⟨lw_p92, List.forall_mem_cons.mpr ⟨lw_p93, List.forall_mem_cons.mpr ⟨lw_p94, List.forall_mem_cons.mpr ⟨lw_p95, fun _ h => absurd h List.not_mem_nil⟩⟩⟩⟩⟩⟩⟩⟩⟩⟩⟩⟩⟩⟩⟩⟩
theorem lw_p96 : lw_okq (⟨"FrameDeltasModel", "plans", "()I"⟩, 18) := ⟨⟨by decide +kernel, by decide +kernel⟩, List.mem_of_getElem? (i := 752) (by decide +kernel), List.mem_of_getElem? (i := 1010) (by decide +kernel), List.mem_of_getElem? (i := 1011) (by decide +kernel)⟩
theorem lw_p97 : lw_okq (⟨"FrameDeltasModel", "planOf", "(I)I"⟩, 18) := ⟨⟨by decide +kernel, by decide +kernel⟩, List.mem_of_getElem? (i := 752) (by decide +kernel), List.mem_of_getElem? (i := 1014) (by decide +kernel), List.mem_of_getElem? (i := 1015) (by decide +kernel)⟩
theorem lw_p98 : lw_okq (⟨"FrameDeltasModel", "goods", "()I"⟩, 18) := ⟨⟨by decide +kernel, by decide +kernel⟩, List.mem_of_getElem? (i := 752) (by decide +kernel), List.mem_of_getElem? (i := 1037) (by decide +kernel), List.mem_of_getElem? (i := 1038) (by decide +kernel)⟩
theorem lw_p99 : lw_okq (⟨"FrameDeltasModel", "costOf", "(I)I"⟩, 18) := ⟨⟨by decide +kernel, by decide +kernel⟩, List.mem_of_getElem? (i := 752) (by decide +kernel), List.mem_of_getElem? (i := 1045) (by decide +kernel), List.mem_of_getElem? (i := 1046) (by decide +kernel)⟩
theorem lw_p100 : lw_okq (⟨"FrameDeltasModel", "codeAt", "(II)I"⟩, 18) := ⟨⟨by decide +kernel, by decide +kernel⟩, List.mem_of_getElem? (i := 752) (by decide +kernel), List.mem_of_getElem? (i := 1049) (by decide +kernel), List.mem_of_getElem? (i := 1050) (by decide +kernel)⟩
theorem lw_p101 : lw_okq (⟨"FrameDeltasModel", "runsIn", "(II)I"⟩, 18) := ⟨⟨by decide +kernel, by decide +kernel⟩, List.mem_of_getElem? (i := 752) (by decide +kernel), List.mem_of_getElem? (i := 1053) (by decide +kernel), List.mem_of_getElem? (i := 1054) (by decide +kernel)⟩
theorem lw_p102 : lw_okq (⟨"FrameDeltasModel", "seekOf", "(I)I"⟩, 18) := ⟨⟨by decide +kernel, by decide +kernel⟩, List.mem_of_getElem? (i := 752) (by decide +kernel), List.mem_of_getElem? (i := 1057) (by decide +kernel), List.mem_of_getElem? (i := 1058) (by decide +kernel)⟩
theorem lw_p103 : lw_okq (⟨"FrameDeltasModel", "codesOf", "(II)I"⟩, 18) := ⟨⟨by decide +kernel, by decide +kernel⟩, List.mem_of_getElem? (i := 752) (by decide +kernel), List.mem_of_getElem? (i := 1061) (by decide +kernel), List.mem_of_getElem? (i := 1062) (by decide +kernel)⟩
theorem lw_p104 : lw_okq (⟨"FrameDeltasModel", "isBlock", "(I)Z"⟩, 18) := ⟨⟨by decide +kernel, by decide +kernel⟩, List.mem_of_getElem? (i := 752) (by decide +kernel), List.mem_of_getElem? (i := 1069) (by decide +kernel), List.mem_of_getElem? (i := 1070) (by decide +kernel)⟩
theorem lw_p105 : lw_okq (⟨"FrameDeltasModel", "differing", "(II)I"⟩, 18) := ⟨⟨by decide +kernel, by decide +kernel⟩, List.mem_of_getElem? (i := 752) (by decide +kernel), List.mem_of_getElem? (i := 1093) (by decide +kernel), List.mem_of_getElem? (i := 1094) (by decide +kernel)⟩
theorem lw_p106 : lw_okq (⟨"FrameDeltasModel", "areAlike", "(IIIIII)Z"⟩, 18) := ⟨⟨by decide +kernel, by decide +kernel⟩, List.mem_of_getElem? (i := 752) (by decide +kernel), List.mem_of_getElem? (i := 1101) (by decide +kernel), List.mem_of_getElem? (i := 1102) (by decide +kernel)⟩
theorem lw_p107 : lw_okq (⟨"FrameDeltasModel", "isInChain", "(II)Z"⟩, 18) := ⟨⟨by decide +kernel, by decide +kernel⟩, List.mem_of_getElem? (i := 752) (by decide +kernel), List.mem_of_getElem? (i := 1117) (by decide +kernel), List.mem_of_getElem? (i := 1118) (by decide +kernel)⟩
def lw_privs_7 : List (MethodName × Nat) := [(⟨"FrameDeltasModel", "plans", "()I"⟩, 18), (⟨"FrameDeltasModel", "planOf", "(I)I"⟩, 18), (⟨"FrameDeltasModel", "goods", "()I"⟩, 18), (⟨"FrameDeltasModel", "costOf", "(I)I"⟩, 18), (⟨"FrameDeltasModel", "codeAt", "(II)I"⟩, 18), (⟨"FrameDeltasModel", "runsIn", "(II)I"⟩, 18), (⟨"FrameDeltasModel", "seekOf", "(I)I"⟩, 18), (⟨"FrameDeltasModel", "codesOf", "(II)I"⟩, 18), (⟨"FrameDeltasModel", "isBlock", "(I)Z"⟩, 18), (⟨"FrameDeltasModel", "differing", "(II)I"⟩, 18), (⟨"FrameDeltasModel", "areAlike", "(IIIIII)Z"⟩, 18), (⟨"FrameDeltasModel", "isInChain", "(II)Z"⟩, 18)]
theorem lw_r7 : ∀ q ∈ lw_privs_7, lw_okq q := List.forall_mem_cons.mpr ⟨lw_p96, List.forall_mem_cons.mpr ⟨lw_p97, List.forall_mem_cons.mpr ⟨lw_p98, List.forall_mem_cons.mpr ⟨lw_p99, List.forall_mem_cons.mpr ⟨lw_p100, List.forall_mem_cons.mpr ⟨lw_p101, List.forall_mem_cons.mpr ⟨lw_p102, List.forall_mem_cons.mpr ⟨lw_p103, List.forall_mem_cons.mpr ⟨lw_p104, List.forall_mem_cons.mpr ⟨lw_p105, List.forall_mem_cons.mpr ⟨lw_p106, List.forall_mem_cons.mpr ⟨lw_p107, fun _ h => absurd h List.not_mem_nil⟩⟩⟩⟩⟩⟩⟩⟩⟩⟩⟩⟩
def lw_privs : List (MethodName × Nat) := lw_privs_1 ++ (lw_privs_2 ++ (lw_privs_3 ++ (lw_privs_4 ++ (lw_privs_5 ++ (lw_privs_6 ++ (lw_privs_7))))))
def lw_tbl : List Cond := k2_sels lw_privs ++ tables_1
theorem lw_privs_ok : ∀ q ∈ lw_privs, lw_okq q := by
  show ∀ q ∈ lw_privs_1 ++ (lw_privs_2 ++ (lw_privs_3 ++ (lw_privs_4 ++ (lw_privs_5 ++ (lw_privs_6 ++ (lw_privs_7)))))), lw_okq q
  exact List.forall_mem_append.mpr ⟨lw_r1, List.forall_mem_append.mpr ⟨lw_r2, List.forall_mem_append.mpr ⟨lw_r3, List.forall_mem_append.mpr ⟨lw_r4, List.forall_mem_append.mpr ⟨lw_r5, List.forall_mem_append.mpr ⟨lw_r6, lw_r7⟩⟩⟩⟩⟩⟩
end
section
def zTs : List Cond := lw_tbl.filter goodWord
theorem zTs_t {w : Cond} (h : w ∈ tables_1) (g : goodWord w = true) : w ∈ zTs := List.mem_filter.mpr ⟨List.mem_append_right _ h, g⟩
def zisN (w : Cond) : Bool := match w with | .fieldLinkNest _ _ _ _ _ _ => true | .methodLinkNest _ _ _ _ => true | _ => false
def zNs : List Cond := tables_1.filter zisN
theorem zNs_t {w : Cond} (h : w ∈ tables_1) (g : zisN w = true) : w ∈ zNs := List.mem_filter.mpr ⟨h, g⟩
theorem zTs_l {w : Cond} (h : w ∈ lw_tbl) (g : goodWord w = true) : w ∈ zTs := List.mem_filter.mpr ⟨h, g⟩
theorem zl_1 : Cond.initialized "FrameDeltas" ∈ zTs := zTs_t (List.mem_of_getElem? (i := 1) (by decide +kernel)) (by decide +kernel)
theorem zl_2 : Cond.initialized "FrameDeltas$State" ∈ zTs := zTs_t (List.mem_of_getElem? (i := 2) (by decide +kernel)) (by decide +kernel)
theorem zl_3 : Cond.initialized "FrameDeltas$Image" ∈ zTs := zTs_t (List.mem_of_getElem? (i := 3) (by decide +kernel)) (by decide +kernel)
theorem zl_4 : Cond.initialized "FrameDeltas$Frame" ∈ zTs := zTs_t (List.mem_of_getElem? (i := 4) (by decide +kernel)) (by decide +kernel)
theorem zl_5 : Cond.initialized "FrameDeltas$Script" ∈ zTs := zTs_t (List.mem_of_getElem? (i := 5) (by decide +kernel)) (by decide +kernel)
theorem zl_6 : Cond.initialized "FrameDeltas$Coder" ∈ zTs := zTs_t (List.mem_of_getElem? (i := 6) (by decide +kernel)) (by decide +kernel)
theorem zl_7 : Cond.initialized "FrameDeltas$RunList" ∈ zTs := zTs_t (List.mem_of_getElem? (i := 7) (by decide +kernel)) (by decide +kernel)
theorem zl_8 : Cond.initialized "FrameDeltas$Planner" ∈ zTs := zTs_t (List.mem_of_getElem? (i := 8) (by decide +kernel)) (by decide +kernel)
theorem zl_9 : Cond.initialized "FrameDeltasModel" ∈ zTs := zTs_t (List.mem_of_getElem? (i := 9) (by decide +kernel)) (by decide +kernel)
theorem zl_10 : Cond.initialized "java/lang/Math" ∈ zTs := zTs_t (List.mem_of_getElem? (i := 10) (by decide +kernel)) (by decide +kernel)
theorem zl_11 : Cond.initialized "java/lang/System" ∈ zTs := zTs_t (List.mem_of_getElem? (i := 11) (by decide +kernel)) (by decide +kernel)
theorem zl_12 : Cond.initialized "java/lang/String" ∈ zTs := zTs_t (List.mem_of_getElem? (i := 12) (by decide +kernel)) (by decide +kernel)
theorem zl_13 : Cond.initialized "java/lang/StringLatin1" ∈ zTs := zTs_t (List.mem_of_getElem? (i := 13) (by decide +kernel)) (by decide +kernel)
theorem zl_14 : Cond.initialized "jdk/internal/util/Preconditions" ∈ zTs := zTs_t (List.mem_of_getElem? (i := 14) (by decide +kernel)) (by decide +kernel)
theorem zl_16 : Cond.initialized "java/lang/Integer" ∈ zTs := zTs_t (List.mem_of_getElem? (i := 16) (by decide +kernel)) (by decide +kernel)
theorem zl_37 : Cond.fieldLink "FrameDeltas$Image" 9 "FrameDeltas$Image" "cells" "[I" ∈ zTs := zTs_t (List.mem_of_getElem? (i := 37) (by decide +kernel)) (by decide +kernel)
theorem zl_38 : Cond.fieldLink "FrameDeltas$Image" 15 "FrameDeltas$Image" "width" "I" ∈ zTs := zTs_t (List.mem_of_getElem? (i := 38) (by decide +kernel)) (by decide +kernel)
theorem zl_39 : Cond.fieldLinkNest "FrameDeltas$Script" 131 "FrameDeltas$Image" "width" "I" "FrameDeltas" ∈ zNs := zNs_t (List.mem_of_getElem? (i := 39) (by decide +kernel)) (by rfl)
theorem zl_40 : Cond.fieldLinkNest "FrameDeltas" 217 "FrameDeltas$Image" "width" "I" "FrameDeltas" ∈ zNs := zNs_t (List.mem_of_getElem? (i := 40) (by decide +kernel)) (by rfl)
theorem zl_41 : Cond.fieldLink "FrameDeltas$Image" 19 "FrameDeltas$Image" "height" "I" ∈ zTs := zTs_t (List.mem_of_getElem? (i := 41) (by decide +kernel)) (by decide +kernel)
theorem zl_42 : Cond.fieldLinkNest "FrameDeltas$Script" 136 "FrameDeltas$Image" "height" "I" "FrameDeltas" ∈ zNs := zNs_t (List.mem_of_getElem? (i := 42) (by decide +kernel)) (by rfl)
theorem zl_43 : Cond.fieldLinkNest "FrameDeltas" 220 "FrameDeltas$Image" "height" "I" "FrameDeltas" ∈ zNs := zNs_t (List.mem_of_getElem? (i := 43) (by decide +kernel)) (by rfl)
theorem zl_61 : Cond.fieldLink "FrameDeltas$Frame" 12 "FrameDeltas$Frame" "image" "LFrameDeltas$Image;" ∈ zTs := zTs_t (List.mem_of_getElem? (i := 61) (by decide +kernel)) (by decide +kernel)
theorem zl_62 : Cond.fieldLinkNest "FrameDeltas$Coder" 46 "FrameDeltas$Frame" "image" "LFrameDeltas$Image;" "FrameDeltas" ∈ zNs := zNs_t (List.mem_of_getElem? (i := 62) (by decide +kernel)) (by rfl)
theorem zl_63 : Cond.fieldLinkNest "FrameDeltas$Planner" 53 "FrameDeltas$Frame" "image" "LFrameDeltas$Image;" "FrameDeltas" ∈ zNs := zNs_t (List.mem_of_getElem? (i := 63) (by decide +kernel)) (by rfl)
theorem zl_64 : Cond.fieldLinkNest "FrameDeltas$State" 57 "FrameDeltas$Frame" "image" "LFrameDeltas$Image;" "FrameDeltas" ∈ zNs := zNs_t (List.mem_of_getElem? (i := 64) (by decide +kernel)) (by rfl)
theorem zl_65 : Cond.fieldLinkNest "FrameDeltas" 195 "FrameDeltas$Frame" "image" "LFrameDeltas$Image;" "FrameDeltas" ∈ zNs := zNs_t (List.mem_of_getElem? (i := 65) (by decide +kernel)) (by rfl)
theorem zl_66 : Cond.fieldLink "FrameDeltas$Frame" 18 "FrameDeltas$Frame" "codes" "[I" ∈ zTs := zTs_t (List.mem_of_getElem? (i := 66) (by decide +kernel)) (by decide +kernel)
theorem zl_67 : Cond.fieldLink "FrameDeltas$Frame" 22 "FrameDeltas$Frame" "reference" "I" ∈ zTs := zTs_t (List.mem_of_getElem? (i := 67) (by decide +kernel)) (by decide +kernel)
theorem zl_68 : Cond.fieldLinkNest "FrameDeltas$Coder" 34 "FrameDeltas$Frame" "reference" "I" "FrameDeltas" ∈ zNs := zNs_t (List.mem_of_getElem? (i := 68) (by decide +kernel)) (by rfl)
theorem zl_69 : Cond.fieldLinkNest "FrameDeltas$State" 64 "FrameDeltas$Frame" "reference" "I" "FrameDeltas" ∈ zNs := zNs_t (List.mem_of_getElem? (i := 69) (by decide +kernel)) (by rfl)
theorem zl_70 : Cond.fieldLinkNest "FrameDeltas" 176 "FrameDeltas$Frame" "reference" "I" "FrameDeltas" ∈ zNs := zNs_t (List.mem_of_getElem? (i := 70) (by decide +kernel)) (by rfl)
theorem zl_71 : Cond.fieldLink "FrameDeltas$Frame" 26 "FrameDeltas$Frame" "cost" "I" ∈ zTs := zTs_t (List.mem_of_getElem? (i := 71) (by decide +kernel)) (by decide +kernel)
theorem zl_72 : Cond.fieldLinkNest "FrameDeltas$Coder" 43 "FrameDeltas$Frame" "cost" "I" "FrameDeltas" ∈ zNs := zNs_t (List.mem_of_getElem? (i := 72) (by decide +kernel)) (by rfl)
theorem zl_73 : Cond.fieldLinkNest "FrameDeltas$Planner" 75 "FrameDeltas$Frame" "cost" "I" "FrameDeltas" ∈ zNs := zNs_t (List.mem_of_getElem? (i := 73) (by decide +kernel)) (by rfl)
theorem zl_74 : Cond.fieldLinkNest "FrameDeltas$State" 74 "FrameDeltas$Frame" "cost" "I" "FrameDeltas" ∈ zNs := zNs_t (List.mem_of_getElem? (i := 74) (by decide +kernel)) (by rfl)
theorem zl_75 : Cond.fieldLinkNest "FrameDeltas" 179 "FrameDeltas$Frame" "cost" "I" "FrameDeltas" ∈ zNs := zNs_t (List.mem_of_getElem? (i := 75) (by decide +kernel)) (by rfl)
theorem zl_76 : Cond.fieldLink "FrameDeltas$Frame" 29 "FrameDeltas$Frame" "lost" "Z" ∈ zTs := zTs_t (List.mem_of_getElem? (i := 76) (by decide +kernel)) (by decide +kernel)
theorem zl_77 : Cond.fieldLinkNest "FrameDeltas$Coder" 39 "FrameDeltas$Frame" "lost" "Z" "FrameDeltas" ∈ zNs := zNs_t (List.mem_of_getElem? (i := 77) (by decide +kernel)) (by rfl)
theorem zl_78 : Cond.fieldLinkNest "FrameDeltas$State" 60 "FrameDeltas$Frame" "lost" "Z" "FrameDeltas" ∈ zNs := zNs_t (List.mem_of_getElem? (i := 78) (by decide +kernel)) (by rfl)
theorem zl_79 : Cond.fieldLinkNest "FrameDeltas" 169 "FrameDeltas$Frame" "lost" "Z" "FrameDeltas" ∈ zNs := zNs_t (List.mem_of_getElem? (i := 79) (by decide +kernel)) (by rfl)
theorem zl_91 : Cond.fieldLink "FrameDeltas$State" 12 "FrameDeltas$State" "canvas" "LFrameDeltas$Image;" ∈ zTs := zTs_t (List.mem_of_getElem? (i := 91) (by decide +kernel)) (by decide +kernel)
theorem zl_92 : Cond.fieldLinkNest "FrameDeltas" 76 "FrameDeltas$State" "canvas" "LFrameDeltas$Image;" "FrameDeltas" ∈ zNs := zNs_t (List.mem_of_getElem? (i := 92) (by decide +kernel)) (by rfl)
theorem zl_93 : Cond.fieldLinkNest "FrameDeltas$Script" 127 "FrameDeltas$State" "canvas" "LFrameDeltas$Image;" "FrameDeltas" ∈ zNs := zNs_t (List.mem_of_getElem? (i := 93) (by decide +kernel)) (by rfl)
theorem zl_94 : Cond.fieldLink "FrameDeltas$State" 20 "FrameDeltas$State" "frames" "[LFrameDeltas$Frame;" ∈ zTs := zTs_t (List.mem_of_getElem? (i := 94) (by decide +kernel)) (by decide +kernel)
theorem zl_95 : Cond.fieldLink "FrameDeltas$State" 25 "FrameDeltas$State" "nowhere" "LFrameDeltas$Frame;" ∈ zTs := zTs_t (List.mem_of_getElem? (i := 95) (by decide +kernel)) (by decide +kernel)
theorem zl_96 : Cond.fieldLink "FrameDeltas$State" 29 "FrameDeltas$State" "frameCount" "I" ∈ zTs := zTs_t (List.mem_of_getElem? (i := 96) (by decide +kernel)) (by decide +kernel)
theorem zl_97 : Cond.fieldLinkNest "FrameDeltas$Planner" 25 "FrameDeltas$State" "frameCount" "I" "FrameDeltas" ∈ zNs := zNs_t (List.mem_of_getElem? (i := 97) (by decide +kernel)) (by rfl)
theorem zl_98 : Cond.fieldLinkNest "FrameDeltas" 73 "FrameDeltas$State" "frameCount" "I" "FrameDeltas" ∈ zNs := zNs_t (List.mem_of_getElem? (i := 98) (by decide +kernel)) (by rfl)
theorem zl_99 : Cond.fieldLink "FrameDeltas$State" 33 "FrameDeltas$State" "range" "I" ∈ zTs := zTs_t (List.mem_of_getElem? (i := 99) (by decide +kernel)) (by decide +kernel)
theorem zl_100 : Cond.fieldLinkNest "FrameDeltas$Coder" 60 "FrameDeltas$State" "range" "I" "FrameDeltas" ∈ zNs := zNs_t (List.mem_of_getElem? (i := 100) (by decide +kernel)) (by rfl)
theorem zl_101 : Cond.fieldLinkNest "FrameDeltas" 160 "FrameDeltas$State" "range" "I" "FrameDeltas" ∈ zNs := zNs_t (List.mem_of_getElem? (i := 101) (by decide +kernel)) (by rfl)
theorem zl_102 : Cond.fieldLink "FrameDeltas$State" 36 "FrameDeltas$State" "depthLimit" "I" ∈ zTs := zTs_t (List.mem_of_getElem? (i := 102) (by decide +kernel)) (by decide +kernel)
theorem zl_103 : Cond.fieldLinkNest "FrameDeltas" 163 "FrameDeltas$State" "depthLimit" "I" "FrameDeltas" ∈ zNs := zNs_t (List.mem_of_getElem? (i := 103) (by decide +kernel)) (by rfl)
theorem zl_104 : Cond.fieldLink "FrameDeltas$State" 39 "FrameDeltas$State" "rate" "I" ∈ zTs := zTs_t (List.mem_of_getElem? (i := 104) (by decide +kernel)) (by decide +kernel)
theorem zl_105 : Cond.fieldLinkNest "FrameDeltas$Planner" 40 "FrameDeltas$State" "rate" "I" "FrameDeltas" ∈ zNs := zNs_t (List.mem_of_getElem? (i := 105) (by decide +kernel)) (by rfl)
theorem zl_106 : Cond.fieldLinkNest "FrameDeltas" 166 "FrameDeltas$State" "rate" "I" "FrameDeltas" ∈ zNs := zNs_t (List.mem_of_getElem? (i := 106) (by decide +kernel)) (by rfl)
theorem zl_129 : Cond.fieldLink "FrameDeltas$Script" 9 "FrameDeltas$Script" "text" "[C" ∈ zTs := zTs_t (List.mem_of_getElem? (i := 129) (by decide +kernel)) (by decide +kernel)
theorem zl_130 : Cond.fieldLink "FrameDeltas$Script" 15 "FrameDeltas$Script" "length" "I" ∈ zTs := zTs_t (List.mem_of_getElem? (i := 130) (by decide +kernel)) (by decide +kernel)
theorem zl_131 : Cond.fieldLinkNest "FrameDeltas" 97 "FrameDeltas$Script" "length" "I" "FrameDeltas" ∈ zNs := zNs_t (List.mem_of_getElem? (i := 131) (by decide +kernel)) (by rfl)
theorem zl_132 : Cond.fieldLink "FrameDeltas$Script" 19 "FrameDeltas$Script" "kind" "I" ∈ zTs := zTs_t (List.mem_of_getElem? (i := 132) (by decide +kernel)) (by decide +kernel)
theorem zl_133 : Cond.fieldLink "FrameDeltas$Script" 22 "FrameDeltas$Script" "start" "I" ∈ zTs := zTs_t (List.mem_of_getElem? (i := 133) (by decide +kernel)) (by decide +kernel)
theorem zl_134 : Cond.fieldLink "FrameDeltas$Script" 25 "FrameDeltas$Script" "behind" "I" ∈ zTs := zTs_t (List.mem_of_getElem? (i := 134) (by decide +kernel)) (by decide +kernel)
theorem zl_135 : Cond.fieldLink "FrameDeltas$Script" 28 "FrameDeltas$Script" "number" "I" ∈ zTs := zTs_t (List.mem_of_getElem? (i := 135) (by decide +kernel)) (by decide +kernel)
theorem zl_136 : Cond.fieldLink "FrameDeltas$Script" 31 "FrameDeltas$Script" "program" "[I" ∈ zTs := zTs_t (List.mem_of_getElem? (i := 136) (by decide +kernel)) (by decide +kernel)
theorem zl_137 : Cond.fieldLink "FrameDeltas$Script" 35 "FrameDeltas$Script" "programLength" "I" ∈ zTs := zTs_t (List.mem_of_getElem? (i := 137) (by decide +kernel)) (by decide +kernel)
theorem zl_168 : Cond.fieldLink "FrameDeltas$RunList" 9 "FrameDeltas$RunList" "lengths" "[I" ∈ zTs := zTs_t (List.mem_of_getElem? (i := 168) (by decide +kernel)) (by decide +kernel)
theorem zl_169 : Cond.fieldLink "FrameDeltas$RunList" 15 "FrameDeltas$RunList" "values" "[I" ∈ zTs := zTs_t (List.mem_of_getElem? (i := 169) (by decide +kernel)) (by decide +kernel)
theorem zl_170 : Cond.fieldLink "FrameDeltas$RunList" 18 "FrameDeltas$RunList" "size" "I" ∈ zTs := zTs_t (List.mem_of_getElem? (i := 170) (by decide +kernel)) (by decide +kernel)
theorem zl_171 : Cond.fieldLinkNest "FrameDeltas$Coder" 71 "FrameDeltas$RunList" "size" "I" "FrameDeltas" ∈ zNs := zNs_t (List.mem_of_getElem? (i := 171) (by decide +kernel)) (by rfl)
theorem zl_172 : Cond.fieldLinkNest "FrameDeltas" 208 "FrameDeltas$RunList" "size" "I" "FrameDeltas" ∈ zNs := zNs_t (List.mem_of_getElem? (i := 172) (by decide +kernel)) (by rfl)
theorem zl_180 : Cond.fieldLink "FrameDeltas$Coder" 12 "FrameDeltas$Coder" "raw" "LFrameDeltas$RunList;" ∈ zTs := zTs_t (List.mem_of_getElem? (i := 180) (by decide +kernel)) (by decide +kernel)
theorem zl_181 : Cond.fieldLinkNest "FrameDeltas" 198 "FrameDeltas$Coder" "raw" "LFrameDeltas$RunList;" "FrameDeltas" ∈ zNs := zNs_t (List.mem_of_getElem? (i := 181) (by decide +kernel)) (by rfl)
theorem zl_182 : Cond.fieldLink "FrameDeltas$Coder" 18 "FrameDeltas$Coder" "delta" "LFrameDeltas$RunList;" ∈ zTs := zTs_t (List.mem_of_getElem? (i := 182) (by decide +kernel)) (by decide +kernel)
theorem zl_183 : Cond.fieldLink "FrameDeltas$Coder" 21 "FrameDeltas$Coder" "dx" "I" ∈ zTs := zTs_t (List.mem_of_getElem? (i := 183) (by decide +kernel)) (by decide +kernel)
theorem zl_184 : Cond.fieldLink "FrameDeltas$Coder" 25 "FrameDeltas$Coder" "dy" "I" ∈ zTs := zTs_t (List.mem_of_getElem? (i := 184) (by decide +kernel)) (by decide +kernel)
theorem zl_200 : Cond.fieldLink "FrameDeltas$Planner" 9 "FrameDeltas$Planner" "keyCosts" "[I" ∈ zTs := zTs_t (List.mem_of_getElem? (i := 200) (by decide +kernel)) (by decide +kernel)
theorem zl_201 : Cond.fieldLink "FrameDeltas$Planner" 15 "FrameDeltas$Planner" "deltaCosts" "[I" ∈ zTs := zTs_t (List.mem_of_getElem? (i := 201) (by decide +kernel)) (by decide +kernel)
theorem zl_202 : Cond.fieldLink "FrameDeltas$Planner" 18 "FrameDeltas$Planner" "cost" "I" ∈ zTs := zTs_t (List.mem_of_getElem? (i := 202) (by decide +kernel)) (by decide +kernel)
theorem zl_203 : Cond.fieldLinkNest "FrameDeltas" 157 "FrameDeltas$Planner" "cost" "I" "FrameDeltas" ∈ zNs := zNs_t (List.mem_of_getElem? (i := 203) (by decide +kernel)) (by rfl)
theorem zl_204 : Cond.fieldLink "FrameDeltas$Planner" 22 "FrameDeltas$Planner" "keys" "I" ∈ zTs := zTs_t (List.mem_of_getElem? (i := 204) (by decide +kernel)) (by decide +kernel)
theorem zl_205 : Cond.fieldLinkNest "FrameDeltas" 254 "FrameDeltas$Planner" "keys" "I" "FrameDeltas" ∈ zNs := zNs_t (List.mem_of_getElem? (i := 205) (by decide +kernel)) (by rfl)
theorem zl_219 : Cond.fieldLink "FrameDeltas" 10 "FrameDeltas" "state" "LFrameDeltas$State;" ∈ zTs := zTs_t (List.mem_of_getElem? (i := 219) (by decide +kernel)) (by decide +kernel)
theorem zl_220 : Cond.fieldLink "FrameDeltas" 16 "FrameDeltas" "saved" "[LFrameDeltas$State;" ∈ zTs := zTs_t (List.mem_of_getElem? (i := 220) (by decide +kernel)) (by decide +kernel)
theorem zl_221 : Cond.fieldLink "FrameDeltas" 20 "FrameDeltas" "oldestSaved" "I" ∈ zTs := zTs_t (List.mem_of_getElem? (i := 221) (by decide +kernel)) (by decide +kernel)
theorem zl_222 : Cond.fieldLink "FrameDeltas" 24 "FrameDeltas" "savedStates" "I" ∈ zTs := zTs_t (List.mem_of_getElem? (i := 222) (by decide +kernel)) (by decide +kernel)
theorem zl_223 : Cond.fieldLink "FrameDeltas" 30 "FrameDeltas" "script" "LFrameDeltas$Script;" ∈ zTs := zTs_t (List.mem_of_getElem? (i := 223) (by decide +kernel)) (by decide +kernel)
theorem zl_224 : Cond.fieldLink "FrameDeltas" 37 "FrameDeltas" "coder" "LFrameDeltas$Coder;" ∈ zTs := zTs_t (List.mem_of_getElem? (i := 224) (by decide +kernel)) (by decide +kernel)
theorem zl_225 : Cond.fieldLink "FrameDeltas" 44 "FrameDeltas" "planner" "LFrameDeltas$Planner;" ∈ zTs := zTs_t (List.mem_of_getElem? (i := 225) (by decide +kernel)) (by decide +kernel)
theorem zl_226 : Cond.fieldLink "FrameDeltas" 51 "FrameDeltas" "trial" "LFrameDeltas$Frame;" ∈ zTs := zTs_t (List.mem_of_getElem? (i := 226) (by decide +kernel)) (by decide +kernel)
theorem zl_227 : Cond.fieldLink "FrameDeltas" 58 "FrameDeltas" "spare" "LFrameDeltas$Image;" ∈ zTs := zTs_t (List.mem_of_getElem? (i := 227) (by decide +kernel)) (by decide +kernel)
theorem zl_228 : Cond.fieldLink "FrameDeltas" 62 "FrameDeltas" "digests" "[I" ∈ zTs := zTs_t (List.mem_of_getElem? (i := 228) (by decide +kernel)) (by decide +kernel)
theorem zl_250 : Cond.methodLink "FrameDeltasLaw" 13 ⟨"FrameDeltas", "setSize", "(II)I"⟩ ∈ zTs := zTs_t (List.mem_of_getElem? (i := 250) (by decide +kernel)) (by decide +kernel)
theorem zl_251 : Cond.instanceMethod ⟨"FrameDeltas", "setSize", "(II)I"⟩ ∈ zTs := zTs_t (List.mem_of_getElem? (i := 251) (by decide +kernel)) (by decide +kernel)
theorem zl_252 : Cond.selects "FrameDeltas" ⟨"FrameDeltas", "setSize", "(II)I"⟩ ⟨"FrameDeltas", "setSize", "(II)I"⟩ ∈ zTs := zTs_t (List.mem_of_getElem? (i := 252) (by decide +kernel)) (by decide +kernel)
theorem zl_253 : Cond.code ⟨"FrameDeltas", "setSize", "(II)I"⟩ prog_1_method_2_code 3 (Option.some Jvm.ClassFile.FieldType.int) ∈ zTs := zTs_t (List.mem_of_getElem? (i := 253) (by decide +kernel)) (by decide +kernel)
theorem zl_254 : Cond.methodLink "FrameDeltas" 66 ⟨"FrameDeltas", "isSize", "(I)Z"⟩ ∈ zTs := zTs_t (List.mem_of_getElem? (i := 254) (by decide +kernel)) (by decide +kernel)
theorem zl_255 : Cond.static ⟨"FrameDeltas", "isSize", "(I)Z"⟩ ∈ zTs := zTs_t (List.mem_of_getElem? (i := 255) (by decide +kernel)) (by decide +kernel)
theorem zl_256 : Cond.code ⟨"FrameDeltas", "isSize", "(I)Z"⟩ prog_1_method_31_code 1 (Option.some Jvm.ClassFile.FieldType.boolean) ∈ zTs := zTs_t (List.mem_of_getElem? (i := 256) (by decide +kernel)) (by decide +kernel)
theorem zl_257 : Cond.methodLink "FrameDeltas" 70 ⟨"FrameDeltas", "save", "()V"⟩ ∈ zTs := zTs_t (List.mem_of_getElem? (i := 257) (by decide +kernel)) (by decide +kernel)
theorem zl_259 : Cond.instanceMethod ⟨"FrameDeltas", "save", "()V"⟩ ∈ zTs := zTs_t (List.mem_of_getElem? (i := 259) (by decide +kernel)) (by decide +kernel)
theorem zl_260 : Cond.code ⟨"FrameDeltas", "save", "()V"⟩ prog_1_method_32_code 1 (Option.none : Option Jvm.ClassFile.FieldType) ∈ zTs := zTs_t (List.mem_of_getElem? (i := 260) (by decide +kernel)) (by decide +kernel)
theorem zl_261 : Cond.methodLink "FrameDeltas" 257 ⟨"FrameDeltas", "savedSlot", "(I)LFrameDeltas$State;"⟩ ∈ zTs := zTs_t (List.mem_of_getElem? (i := 261) (by decide +kernel)) (by decide +kernel)
theorem zl_263 : Cond.instanceMethod ⟨"FrameDeltas", "savedSlot", "(I)LFrameDeltas$State;"⟩ ∈ zTs := zTs_t (List.mem_of_getElem? (i := 263) (by decide +kernel)) (by decide +kernel)
theorem zl_264 : Cond.code ⟨"FrameDeltas", "savedSlot", "(I)LFrameDeltas$State;"⟩ prog_1_method_33_code 2 (Option.some (Jvm.ClassFile.FieldType.object "FrameDeltas$State")) ∈ zTs := zTs_t (List.mem_of_getElem? (i := 264) (by decide +kernel)) (by decide +kernel)
theorem zl_265 : Cond.methodLink "FrameDeltas" 265 ⟨"java/lang/Math", "floorMod", "(II)I"⟩ ∈ zTs := zTs_t (List.mem_of_getElem? (i := 265) (by decide +kernel)) (by decide +kernel)
theorem zl_266 : Cond.static ⟨"java/lang/Math", "floorMod", "(II)I"⟩ ∈ zTs := zTs_t (List.mem_of_getElem? (i := 266) (by decide +kernel)) (by decide +kernel)
theorem zl_267 : Cond.code ⟨"java/lang/Math", "floorMod", "(II)I"⟩ prog_12_method_50_code 3 (Option.some Jvm.ClassFile.FieldType.int) ∈ zTs := zTs_t (List.mem_of_getElem? (i := 267) (by decide +kernel)) (by decide +kernel)
theorem zl_268 : Cond.methodLinkNest "FrameDeltas" 261 ⟨"FrameDeltas$State", "take", "(LFrameDeltas$State;)V"⟩ "FrameDeltas" ∈ zNs := zNs_t (List.mem_of_getElem? (i := 268) (by decide +kernel)) (by rfl)
theorem zl_270 : Cond.instanceMethod ⟨"FrameDeltas$State", "take", "(LFrameDeltas$State;)V"⟩ ∈ zTs := zTs_t (List.mem_of_getElem? (i := 270) (by decide +kernel)) (by decide +kernel)
theorem zl_271 : Cond.code ⟨"FrameDeltas$State", "take", "(LFrameDeltas$State;)V"⟩ prog_8_method_2_code 3 (Option.none : Option Jvm.ClassFile.FieldType) ∈ zTs := zTs_t (List.mem_of_getElem? (i := 271) (by decide +kernel)) (by decide +kernel)
theorem zl_272 : Cond.methodLinkNest "FrameDeltas$State" 42 ⟨"FrameDeltas$Image", "take", "(LFrameDeltas$Image;)V"⟩ "FrameDeltas" ∈ zNs := zNs_t (List.mem_of_getElem? (i := 272) (by decide +kernel)) (by rfl)
theorem zl_274 : Cond.instanceMethod ⟨"FrameDeltas$Image", "take", "(LFrameDeltas$Image;)V"⟩ ∈ zTs := zTs_t (List.mem_of_getElem? (i := 274) (by decide +kernel)) (by decide +kernel)
theorem zl_275 : Cond.code ⟨"FrameDeltas$Image", "take", "(LFrameDeltas$Image;)V"⟩ prog_4_method_3_code 2 (Option.none : Option Jvm.ClassFile.FieldType) ∈ zTs := zTs_t (List.mem_of_getElem? (i := 275) (by decide +kernel)) (by decide +kernel)
theorem zl_276 : Cond.methodLink "FrameDeltas$Image" 22 ⟨"java/lang/System", "arraycopy", "(Ljava/lang/Object;ILjava/lang/Object;II)V"⟩ ∈ zTs := zTs_t (List.mem_of_getElem? (i := 276) (by decide +kernel)) (by decide +kernel)
theorem zl_277 : Cond.static ⟨"java/lang/System", "arraycopy", "(Ljava/lang/Object;ILjava/lang/Object;II)V"⟩ ∈ zTs := zTs_t (List.mem_of_getElem? (i := 277) (by decide +kernel)) (by decide +kernel)
theorem zl_278 : Cond.native ⟨"java/lang/System", "arraycopy", "(Ljava/lang/Object;ILjava/lang/Object;II)V"⟩ ∈ zTs := zTs_t (List.mem_of_getElem? (i := 278) (by decide +kernel)) (by decide +kernel)
theorem zl_279 : Cond.methodLink "FrameDeltas$State" 46 ⟨"FrameDeltas$State", "frameAt", "(I)LFrameDeltas$Frame;"⟩ ∈ zTs := zTs_t (List.mem_of_getElem? (i := 279) (by decide +kernel)) (by decide +kernel)
theorem zl_281 : Cond.instanceMethod ⟨"FrameDeltas$State", "frameAt", "(I)LFrameDeltas$Frame;"⟩ ∈ zTs := zTs_t (List.mem_of_getElem? (i := 281) (by decide +kernel)) (by decide +kernel)
theorem zl_282 : Cond.code ⟨"FrameDeltas$State", "frameAt", "(I)LFrameDeltas$Frame;"⟩ prog_8_method_3_code 2 (Option.some (Jvm.ClassFile.FieldType.object "FrameDeltas$Frame")) ∈ zTs := zTs_t (List.mem_of_getElem? (i := 282) (by decide +kernel)) (by decide +kernel)
theorem zl_283 : Cond.methodLinkNest "FrameDeltas$State" 50 ⟨"FrameDeltas$Frame", "take", "(LFrameDeltas$Frame;)V"⟩ "FrameDeltas" ∈ zNs := zNs_t (List.mem_of_getElem? (i := 283) (by decide +kernel)) (by rfl)
theorem zl_285 : Cond.instanceMethod ⟨"FrameDeltas$Frame", "take", "(LFrameDeltas$Frame;)V"⟩ ∈ zTs := zTs_t (List.mem_of_getElem? (i := 285) (by decide +kernel)) (by decide +kernel)
theorem zl_286 : Cond.code ⟨"FrameDeltas$Frame", "take", "(LFrameDeltas$Frame;)V"⟩ prog_3_method_2_code 2 (Option.none : Option Jvm.ClassFile.FieldType) ∈ zTs := zTs_t (List.mem_of_getElem? (i := 286) (by decide +kernel)) (by decide +kernel)
theorem zl_287 : Cond.methodLinkNest "FrameDeltas$Frame" 33 ⟨"FrameDeltas$Image", "take", "(LFrameDeltas$Image;)V"⟩ "FrameDeltas" ∈ zNs := zNs_t (List.mem_of_getElem? (i := 287) (by decide +kernel)) (by rfl)
theorem zl_288 : Cond.methodLink "FrameDeltas$Frame" 37 ⟨"java/lang/System", "arraycopy", "(Ljava/lang/Object;ILjava/lang/Object;II)V"⟩ ∈ zTs := zTs_t (List.mem_of_getElem? (i := 288) (by decide +kernel)) (by decide +kernel)
theorem zl_289 : Cond.methodLinkNest "FrameDeltas" 79 ⟨"FrameDeltas$Image", "reset", "(II)V"⟩ "FrameDeltas" ∈ zNs := zNs_t (List.mem_of_getElem? (i := 289) (by decide +kernel)) (by rfl)
theorem zl_291 : Cond.instanceMethod ⟨"FrameDeltas$Image", "reset", "(II)V"⟩ ∈ zTs := zTs_t (List.mem_of_getElem? (i := 291) (by decide +kernel)) (by decide +kernel)
theorem zl_292 : Cond.code ⟨"FrameDeltas$Image", "reset", "(II)V"⟩ prog_4_method_2_code 4 (Option.none : Option Jvm.ClassFile.FieldType) ∈ zTs := zTs_t (List.mem_of_getElem? (i := 292) (by decide +kernel)) (by decide +kernel)
theorem zl_293 : Cond.methodLinkNest "FrameDeltas" 83 ⟨"FrameDeltas$Image", "blocks", "()I"⟩ "FrameDeltas" ∈ zNs := zNs_t (List.mem_of_getElem? (i := 293) (by decide +kernel)) (by rfl)
theorem zl_295 : Cond.instanceMethod ⟨"FrameDeltas$Image", "blocks", "()I"⟩ ∈ zTs := zTs_t (List.mem_of_getElem? (i := 295) (by decide +kernel)) (by decide +kernel)
theorem zl_296 : Cond.code ⟨"FrameDeltas$Image", "blocks", "()I"⟩ prog_4_method_8_code 1 (Option.some Jvm.ClassFile.FieldType.int) ∈ zTs := zTs_t (List.mem_of_getElem? (i := 296) (by decide +kernel)) (by decide +kernel)
theorem zl_297 : Cond.methodLink "FrameDeltasLaw" 18 ⟨"FrameDeltas", "setCell", "(II)I"⟩ ∈ zTs := zTs_t (List.mem_of_getElem? (i := 297) (by decide +kernel)) (by decide +kernel)
theorem zl_298 : Cond.instanceMethod ⟨"FrameDeltas", "setCell", "(II)I"⟩ ∈ zTs := zTs_t (List.mem_of_getElem? (i := 298) (by decide +kernel)) (by decide +kernel)
theorem zl_299 : Cond.selects "FrameDeltas" ⟨"FrameDeltas", "setCell", "(II)I"⟩ ⟨"FrameDeltas", "setCell", "(II)I"⟩ ∈ zTs := zTs_t (List.mem_of_getElem? (i := 299) (by decide +kernel)) (by decide +kernel)
theorem zl_300 : Cond.code ⟨"FrameDeltas", "setCell", "(II)I"⟩ prog_1_method_3_code 4 (Option.some Jvm.ClassFile.FieldType.int) ∈ zTs := zTs_t (List.mem_of_getElem? (i := 300) (by decide +kernel)) (by decide +kernel)
theorem zl_301 : Cond.methodLinkNest "FrameDeltas" 87 ⟨"FrameDeltas$Image", "hasCell", "(I)Z"⟩ "FrameDeltas" ∈ zNs := zNs_t (List.mem_of_getElem? (i := 301) (by decide +kernel)) (by rfl)
theorem zl_303 : Cond.instanceMethod ⟨"FrameDeltas$Image", "hasCell", "(I)Z"⟩ ∈ zTs := zTs_t (List.mem_of_getElem? (i := 303) (by decide +kernel)) (by decide +kernel)
theorem zl_304 : Cond.code ⟨"FrameDeltas$Image", "hasCell", "(I)Z"⟩ prog_4_method_4_code 2 (Option.some Jvm.ClassFile.FieldType.boolean) ∈ zTs := zTs_t (List.mem_of_getElem? (i := 304) (by decide +kernel)) (by decide +kernel)
theorem zl_305 : Cond.methodLinkNest "FrameDeltas" 90 ⟨"FrameDeltas$Image", "numbered", "(I)I"⟩ "FrameDeltas" ∈ zNs := zNs_t (List.mem_of_getElem? (i := 305) (by decide +kernel)) (by rfl)
theorem zl_307 : Cond.instanceMethod ⟨"FrameDeltas$Image", "numbered", "(I)I"⟩ ∈ zTs := zTs_t (List.mem_of_getElem? (i := 307) (by decide +kernel)) (by decide +kernel)
theorem zl_308 : Cond.code ⟨"FrameDeltas$Image", "numbered", "(I)I"⟩ prog_4_method_5_code 2 (Option.some Jvm.ClassFile.FieldType.int) ∈ zTs := zTs_t (List.mem_of_getElem? (i := 308) (by decide +kernel)) (by decide +kernel)
theorem zl_309 : Cond.methodLinkNest "FrameDeltas" 94 ⟨"FrameDeltas$Image", "putNumbered", "(II)V"⟩ "FrameDeltas" ∈ zNs := zNs_t (List.mem_of_getElem? (i := 309) (by decide +kernel)) (by rfl)
theorem zl_311 : Cond.instanceMethod ⟨"FrameDeltas$Image", "putNumbered", "(II)V"⟩ ∈ zTs := zTs_t (List.mem_of_getElem? (i := 311) (by decide +kernel)) (by decide +kernel)
theorem zl_312 : Cond.code ⟨"FrameDeltas$Image", "putNumbered", "(II)V"⟩ prog_4_method_6_code 3 (Option.none : Option Jvm.ClassFile.FieldType) ∈ zTs := zTs_t (List.mem_of_getElem? (i := 312) (by decide +kernel)) (by decide +kernel)
theorem zl_313 : Cond.methodLink "FrameDeltasLaw" 22 ⟨"FrameDeltas", "cell", "(I)I"⟩ ∈ zTs := zTs_t (List.mem_of_getElem? (i := 313) (by decide +kernel)) (by decide +kernel)
theorem zl_314 : Cond.instanceMethod ⟨"FrameDeltas", "cell", "(I)I"⟩ ∈ zTs := zTs_t (List.mem_of_getElem? (i := 314) (by decide +kernel)) (by decide +kernel)
theorem zl_315 : Cond.selects "FrameDeltas" ⟨"FrameDeltas", "cell", "(I)I"⟩ ⟨"FrameDeltas", "cell", "(I)I"⟩ ∈ zTs := zTs_t (List.mem_of_getElem? (i := 315) (by decide +kernel)) (by decide +kernel)
theorem zl_316 : Cond.code ⟨"FrameDeltas", "cell", "(I)I"⟩ prog_1_method_4_code 2 (Option.some Jvm.ClassFile.FieldType.int) ∈ zTs := zTs_t (List.mem_of_getElem? (i := 316) (by decide +kernel)) (by decide +kernel)
theorem zl_317 : Cond.methodLink "FrameDeltasLaw" 27 ⟨"FrameDeltas", "appendCharacter", "(I)I"⟩ ∈ zTs := zTs_t (List.mem_of_getElem? (i := 317) (by decide +kernel)) (by decide +kernel)
theorem zl_318 : Cond.instanceMethod ⟨"FrameDeltas", "appendCharacter", "(I)I"⟩ ∈ zTs := zTs_t (List.mem_of_getElem? (i := 318) (by decide +kernel)) (by decide +kernel)
theorem zl_319 : Cond.selects "FrameDeltas" ⟨"FrameDeltas", "appendCharacter", "(I)I"⟩ ⟨"FrameDeltas", "appendCharacter", "(I)I"⟩ ∈ zTs := zTs_t (List.mem_of_getElem? (i := 319) (by decide +kernel)) (by decide +kernel)
theorem zl_320 : Cond.code ⟨"FrameDeltas", "appendCharacter", "(I)I"⟩ prog_1_method_5_code 2 (Option.some Jvm.ClassFile.FieldType.int) ∈ zTs := zTs_t (List.mem_of_getElem? (i := 320) (by decide +kernel)) (by decide +kernel)
theorem zl_321 : Cond.methodLinkNest "FrameDeltas" 100 ⟨"FrameDeltas$Script", "append", "(C)I"⟩ "FrameDeltas" ∈ zNs := zNs_t (List.mem_of_getElem? (i := 321) (by decide +kernel)) (by rfl)
theorem zl_323 : Cond.instanceMethod ⟨"FrameDeltas$Script", "append", "(C)I"⟩ ∈ zTs := zTs_t (List.mem_of_getElem? (i := 323) (by decide +kernel)) (by decide +kernel)
theorem zl_324 : Cond.code ⟨"FrameDeltas$Script", "append", "(C)I"⟩ prog_7_method_2_code 2 (Option.some Jvm.ClassFile.FieldType.int) ∈ zTs := zTs_t (List.mem_of_getElem? (i := 324) (by decide +kernel)) (by decide +kernel)
theorem zl_325 : Cond.methodLink "FrameDeltasLaw" 31 ⟨"FrameDeltas", "clearText", "()I"⟩ ∈ zTs := zTs_t (List.mem_of_getElem? (i := 325) (by decide +kernel)) (by decide +kernel)
theorem zl_326 : Cond.instanceMethod ⟨"FrameDeltas", "clearText", "()I"⟩ ∈ zTs := zTs_t (List.mem_of_getElem? (i := 326) (by decide +kernel)) (by decide +kernel)
theorem zl_327 : Cond.selects "FrameDeltas" ⟨"FrameDeltas", "clearText", "()I"⟩ ⟨"FrameDeltas", "clearText", "()I"⟩ ∈ zTs := zTs_t (List.mem_of_getElem? (i := 327) (by decide +kernel)) (by decide +kernel)
theorem zl_328 : Cond.code ⟨"FrameDeltas", "clearText", "()I"⟩ prog_1_method_6_code 2 (Option.some Jvm.ClassFile.FieldType.int) ∈ zTs := zTs_t (List.mem_of_getElem? (i := 328) (by decide +kernel)) (by decide +kernel)
theorem zl_329 : Cond.methodLink "FrameDeltasLaw" 36 ⟨"FrameDeltas", "draw", "()I"⟩ ∈ zTs := zTs_t (List.mem_of_getElem? (i := 329) (by decide +kernel)) (by decide +kernel)
theorem zl_330 : Cond.instanceMethod ⟨"FrameDeltas", "draw", "()I"⟩ ∈ zTs := zTs_t (List.mem_of_getElem? (i := 330) (by decide +kernel)) (by decide +kernel)
theorem zl_331 : Cond.selects "FrameDeltas" ⟨"FrameDeltas", "draw", "()I"⟩ ⟨"FrameDeltas", "draw", "()I"⟩ ∈ zTs := zTs_t (List.mem_of_getElem? (i := 331) (by decide +kernel)) (by decide +kernel)
theorem zl_332 : Cond.code ⟨"FrameDeltas", "draw", "()I"⟩ prog_1_method_7_code 3 (Option.some Jvm.ClassFile.FieldType.int) ∈ zTs := zTs_t (List.mem_of_getElem? (i := 332) (by decide +kernel)) (by decide +kernel)
theorem zl_333 : Cond.methodLinkNest "FrameDeltas" 104 ⟨"FrameDeltas$Script", "errorPosition", "(LFrameDeltas$State;)I"⟩ "FrameDeltas" ∈ zNs := zNs_t (List.mem_of_getElem? (i := 333) (by decide +kernel)) (by rfl)
theorem zl_335 : Cond.instanceMethod ⟨"FrameDeltas$Script", "errorPosition", "(LFrameDeltas$State;)I"⟩ ∈ zTs := zTs_t (List.mem_of_getElem? (i := 335) (by decide +kernel)) (by decide +kernel)
theorem zl_336 : Cond.code ⟨"FrameDeltas$Script", "errorPosition", "(LFrameDeltas$State;)I"⟩ prog_7_method_5_code 3 (Option.some Jvm.ClassFile.FieldType.int) ∈ zTs := zTs_t (List.mem_of_getElem? (i := 336) (by decide +kernel)) (by decide +kernel)
theorem zl_337 : Cond.methodLink "FrameDeltas$Script" 58 ⟨"FrameDeltas$Script", "nextToken", "()V"⟩ ∈ zTs := zTs_t (List.mem_of_getElem? (i := 337) (by decide +kernel)) (by decide +kernel)
theorem zl_339 : Cond.instanceMethod ⟨"FrameDeltas$Script", "nextToken", "()V"⟩ ∈ zTs := zTs_t (List.mem_of_getElem? (i := 339) (by decide +kernel)) (by decide +kernel)
theorem zl_340 : Cond.code ⟨"FrameDeltas$Script", "nextToken", "()V"⟩ prog_7_method_8_code 2 (Option.none : Option Jvm.ClassFile.FieldType) ∈ zTs := zTs_t (List.mem_of_getElem? (i := 340) (by decide +kernel)) (by decide +kernel)
theorem zl_341 : Cond.methodLink "FrameDeltas$Script" 93 ⟨"FrameDeltas$Script", "signAt", "(I)C"⟩ ∈ zTs := zTs_t (List.mem_of_getElem? (i := 341) (by decide +kernel)) (by decide +kernel)
theorem zl_343 : Cond.instanceMethod ⟨"FrameDeltas$Script", "signAt", "(I)C"⟩ ∈ zTs := zTs_t (List.mem_of_getElem? (i := 343) (by decide +kernel)) (by decide +kernel)
theorem zl_344 : Cond.code ⟨"FrameDeltas$Script", "signAt", "(I)C"⟩ prog_7_method_9_code 2 (Option.some Jvm.ClassFile.FieldType.char) ∈ zTs := zTs_t (List.mem_of_getElem? (i := 344) (by decide +kernel)) (by decide +kernel)
theorem zl_345 : Cond.methodLink "FrameDeltas$Script" 96 ⟨"FrameDeltas$Script", "isLetter", "(C)Z"⟩ ∈ zTs := zTs_t (List.mem_of_getElem? (i := 345) (by decide +kernel)) (by decide +kernel)
theorem zl_346 : Cond.static ⟨"FrameDeltas$Script", "isLetter", "(C)Z"⟩ ∈ zTs := zTs_t (List.mem_of_getElem? (i := 346) (by decide +kernel)) (by decide +kernel)
theorem zl_347 : Cond.code ⟨"FrameDeltas$Script", "isLetter", "(C)Z"⟩ prog_7_method_10_code 1 (Option.some Jvm.ClassFile.FieldType.boolean) ∈ zTs := zTs_t (List.mem_of_getElem? (i := 347) (by decide +kernel)) (by decide +kernel)
theorem zl_348 : Cond.methodLink "FrameDeltas$Script" 100 ⟨"FrameDeltas$Script", "isDigit", "(C)Z"⟩ ∈ zTs := zTs_t (List.mem_of_getElem? (i := 348) (by decide +kernel)) (by decide +kernel)
theorem zl_349 : Cond.static ⟨"FrameDeltas$Script", "isDigit", "(C)Z"⟩ ∈ zTs := zTs_t (List.mem_of_getElem? (i := 349) (by decide +kernel)) (by decide +kernel)
theorem zl_350 : Cond.code ⟨"FrameDeltas$Script", "isDigit", "(C)Z"⟩ prog_7_method_11_code 1 (Option.some Jvm.ClassFile.FieldType.boolean) ∈ zTs := zTs_t (List.mem_of_getElem? (i := 350) (by decide +kernel)) (by decide +kernel)
theorem zl_351 : Cond.methodLink "FrameDeltas$Script" 61 ⟨"FrameDeltas$Script", "readCommand", "(LFrameDeltas$State;)Z"⟩ ∈ zTs := zTs_t (List.mem_of_getElem? (i := 351) (by decide +kernel)) (by decide +kernel)
theorem zl_353 : Cond.instanceMethod ⟨"FrameDeltas$Script", "readCommand", "(LFrameDeltas$State;)Z"⟩ ∈ zTs := zTs_t (List.mem_of_getElem? (i := 353) (by decide +kernel)) (by decide +kernel)
theorem zl_354 : Cond.code ⟨"FrameDeltas$Script", "readCommand", "(LFrameDeltas$State;)Z"⟩ prog_7_method_6_code 5 (Option.some Jvm.ClassFile.FieldType.boolean) ∈ zTs := zTs_t (List.mem_of_getElem? (i := 354) (by decide +kernel)) (by decide +kernel)
theorem zl_355 : Cond.methodLink "FrameDeltas$Script" 65 ⟨"FrameDeltas$Script", "commandOfToken", "()I"⟩ ∈ zTs := zTs_t (List.mem_of_getElem? (i := 355) (by decide +kernel)) (by decide +kernel)
theorem zl_357 : Cond.instanceMethod ⟨"FrameDeltas$Script", "commandOfToken", "()I"⟩ ∈ zTs := zTs_t (List.mem_of_getElem? (i := 357) (by decide +kernel)) (by decide +kernel)
theorem zl_358 : Cond.code ⟨"FrameDeltas$Script", "commandOfToken", "()I"⟩ prog_7_method_12_code 2 (Option.some Jvm.ClassFile.FieldType.int) ∈ zTs := zTs_t (List.mem_of_getElem? (i := 358) (by decide +kernel)) (by decide +kernel)
theorem zl_359 : Cond.methodLink "FrameDeltas$Script" 103 ⟨"FrameDeltas$Script", "wordOf", "(I)Ljava/lang/String;"⟩ ∈ zTs := zTs_t (List.mem_of_getElem? (i := 359) (by decide +kernel)) (by decide +kernel)
theorem zl_360 : Cond.static ⟨"FrameDeltas$Script", "wordOf", "(I)Ljava/lang/String;"⟩ ∈ zTs := zTs_t (List.mem_of_getElem? (i := 360) (by decide +kernel)) (by decide +kernel)
theorem zl_361 : Cond.code ⟨"FrameDeltas$Script", "wordOf", "(I)Ljava/lang/String;"⟩ prog_7_method_3_code 1 (Option.some (Jvm.ClassFile.FieldType.object "java/lang/String")) ∈ zTs := zTs_t (List.mem_of_getElem? (i := 361) (by decide +kernel)) (by decide +kernel)
theorem zl_367 : Cond.methodLink "FrameDeltas$Script" 106 ⟨"FrameDeltas$Script", "isToken", "(Ljava/lang/String;)Z"⟩ ∈ zTs := zTs_t (List.mem_of_getElem? (i := 367) (by decide +kernel)) (by decide +kernel)
theorem zl_369 : Cond.instanceMethod ⟨"FrameDeltas$Script", "isToken", "(Ljava/lang/String;)Z"⟩ ∈ zTs := zTs_t (List.mem_of_getElem? (i := 369) (by decide +kernel)) (by decide +kernel)
theorem zl_370 : Cond.code ⟨"FrameDeltas$Script", "isToken", "(Ljava/lang/String;)Z"⟩ prog_7_method_13_code 3 (Option.some Jvm.ClassFile.FieldType.boolean) ∈ zTs := zTs_t (List.mem_of_getElem? (i := 370) (by decide +kernel)) (by decide +kernel)
theorem zl_371 : Cond.methodLink "FrameDeltas$Script" 77 ⟨"java/lang/String", "length", "()I"⟩ ∈ zTs := zTs_t (List.mem_of_getElem? (i := 371) (by decide +kernel)) (by decide +kernel)
theorem zl_372 : Cond.instanceMethod ⟨"java/lang/String", "length", "()I"⟩ ∈ zTs := zTs_t (List.mem_of_getElem? (i := 372) (by decide +kernel)) (by decide +kernel)
theorem zl_373 : Cond.selects "java/lang/String" ⟨"java/lang/String", "length", "()I"⟩ ⟨"java/lang/String", "length", "()I"⟩ ∈ zTs := zTs_t (List.mem_of_getElem? (i := 373) (by decide +kernel)) (by decide +kernel)
theorem zl_374 : Cond.code ⟨"java/lang/String", "length", "()I"⟩ prog_13_method_54_code 1 (Option.some Jvm.ClassFile.FieldType.int) ∈ zTs := zTs_t (List.mem_of_getElem? (i := 374) (by decide +kernel)) (by decide +kernel)
theorem zl_375 : Cond.methodLink "java/lang/String" 335 ⟨"java/lang/String", "coder", "()B"⟩ ∈ zTs := zTs_t (List.mem_of_getElem? (i := 375) (by decide +kernel)) (by decide +kernel)
theorem zl_376 : Cond.instanceMethod ⟨"java/lang/String", "coder", "()B"⟩ ∈ zTs := zTs_t (List.mem_of_getElem? (i := 376) (by decide +kernel)) (by decide +kernel)
theorem zl_377 : Cond.selects "java/lang/String" ⟨"java/lang/String", "coder", "()B"⟩ ⟨"java/lang/String", "coder", "()B"⟩ ∈ zTs := zTs_t (List.mem_of_getElem? (i := 377) (by decide +kernel)) (by decide +kernel)
theorem zl_378 : Cond.code ⟨"java/lang/String", "coder", "()B"⟩ prog_13_method_152_code 1 (Option.some Jvm.ClassFile.FieldType.byte) ∈ zTs := zTs_t (List.mem_of_getElem? (i := 378) (by decide +kernel)) (by decide +kernel)
theorem zl_379 : Cond.fieldLink "java/lang/String" 38 "java/lang/String" "COMPACT_STRINGS" "Z" ∈ zTs := zTs_t (List.mem_of_getElem? (i := 379) (by decide +kernel)) (by decide +kernel)
theorem zl_381 : Cond.methodLink "FrameDeltas$Script" 85 ⟨"java/lang/String", "charAt", "(I)C"⟩ ∈ zTs := zTs_t (List.mem_of_getElem? (i := 381) (by decide +kernel)) (by decide +kernel)
theorem zl_382 : Cond.instanceMethod ⟨"java/lang/String", "charAt", "(I)C"⟩ ∈ zTs := zTs_t (List.mem_of_getElem? (i := 382) (by decide +kernel)) (by decide +kernel)
theorem zl_383 : Cond.selects "java/lang/String" ⟨"java/lang/String", "charAt", "(I)C"⟩ ⟨"java/lang/String", "charAt", "(I)C"⟩ ∈ zTs := zTs_t (List.mem_of_getElem? (i := 383) (by decide +kernel)) (by decide +kernel)
theorem zl_384 : Cond.code ⟨"java/lang/String", "charAt", "(I)C"⟩ prog_13_method_56_code 2 (Option.some Jvm.ClassFile.FieldType.char) ∈ zTs := zTs_t (List.mem_of_getElem? (i := 384) (by decide +kernel)) (by decide +kernel)
theorem zl_385 : Cond.methodLink "java/lang/String" 492 ⟨"java/lang/String", "isLatin1", "()Z"⟩ ∈ zTs := zTs_t (List.mem_of_getElem? (i := 385) (by decide +kernel)) (by decide +kernel)
theorem zl_386 : Cond.instanceMethod ⟨"java/lang/String", "isLatin1", "()Z"⟩ ∈ zTs := zTs_t (List.mem_of_getElem? (i := 386) (by decide +kernel)) (by decide +kernel)
theorem zl_387 : Cond.selects "java/lang/String" ⟨"java/lang/String", "isLatin1", "()Z"⟩ ⟨"java/lang/String", "isLatin1", "()Z"⟩ ∈ zTs := zTs_t (List.mem_of_getElem? (i := 387) (by decide +kernel)) (by decide +kernel)
theorem zl_388 : Cond.code ⟨"java/lang/String", "isLatin1", "()Z"⟩ prog_13_method_154_code 1 (Option.some Jvm.ClassFile.FieldType.boolean) ∈ zTs := zTs_t (List.mem_of_getElem? (i := 388) (by decide +kernel)) (by decide +kernel)
theorem zl_389 : Cond.methodLink "java/lang/String" 495 ⟨"java/lang/StringLatin1", "charAt", "([BI)C"⟩ ∈ zTs := zTs_t (List.mem_of_getElem? (i := 389) (by decide +kernel)) (by decide +kernel)
theorem zl_390 : Cond.static ⟨"java/lang/StringLatin1", "charAt", "([BI)C"⟩ ∈ zTs := zTs_t (List.mem_of_getElem? (i := 390) (by decide +kernel)) (by decide +kernel)
theorem zl_391 : Cond.code ⟨"java/lang/StringLatin1", "charAt", "([BI)C"⟩ prog_14_method_2_code 2 (Option.some Jvm.ClassFile.FieldType.char) ∈ zTs := zTs_t (List.mem_of_getElem? (i := 391) (by decide +kernel)) (by decide +kernel)
theorem zl_392 : Cond.methodLink "java/lang/StringLatin1" 9 ⟨"java/lang/String", "checkIndex", "(II)V"⟩ ∈ zTs := zTs_t (List.mem_of_getElem? (i := 392) (by decide +kernel)) (by decide +kernel)
theorem zl_393 : Cond.static ⟨"java/lang/String", "checkIndex", "(II)V"⟩ ∈ zTs := zTs_t (List.mem_of_getElem? (i := 393) (by decide +kernel)) (by decide +kernel)
theorem zl_394 : Cond.code ⟨"java/lang/String", "checkIndex", "(II)V"⟩ prog_13_method_155_code 2 (Option.none : Option Jvm.ClassFile.FieldType) ∈ zTs := zTs_t (List.mem_of_getElem? (i := 394) (by decide +kernel)) (by decide +kernel)
theorem zl_395 : Cond.fieldLink "java/lang/String" 1053 "jdk/internal/util/Preconditions" "SIOOBE_FORMATTER" "Ljava/util/function/BiFunction;" ∈ zTs := zTs_t (List.mem_of_getElem? (i := 395) (by decide +kernel)) (by decide +kernel)
theorem zl_397 : Cond.methodLink "java/lang/String" 1059 ⟨"jdk/internal/util/Preconditions", "checkIndex", "(IILjava/util/function/BiFunction;)I"⟩ ∈ zTs := zTs_t (List.mem_of_getElem? (i := 397) (by decide +kernel)) (by decide +kernel)
theorem zl_398 : Cond.static ⟨"jdk/internal/util/Preconditions", "checkIndex", "(IILjava/util/function/BiFunction;)I"⟩ ∈ zTs := zTs_t (List.mem_of_getElem? (i := 398) (by decide +kernel)) (by decide +kernel)
theorem zl_399 : Cond.code ⟨"jdk/internal/util/Preconditions", "checkIndex", "(IILjava/util/function/BiFunction;)I"⟩ prog_17_method_11_code 3 (Option.some Jvm.ClassFile.FieldType.int) ∈ zTs := zTs_t (List.mem_of_getElem? (i := 399) (by decide +kernel)) (by decide +kernel)
theorem zl_419 : Cond.methodLink "FrameDeltas$Script" 69 ⟨"FrameDeltas$Script", "addToProgram", "(I)V"⟩ ∈ zTs := zTs_t (List.mem_of_getElem? (i := 419) (by decide +kernel)) (by decide +kernel)
theorem zl_421 : Cond.instanceMethod ⟨"FrameDeltas$Script", "addToProgram", "(I)V"⟩ ∈ zTs := zTs_t (List.mem_of_getElem? (i := 421) (by decide +kernel)) (by decide +kernel)
theorem zl_422 : Cond.code ⟨"FrameDeltas$Script", "addToProgram", "(I)V"⟩ prog_7_method_7_code 2 (Option.none : Option Jvm.ClassFile.FieldType) ∈ zTs := zTs_t (List.mem_of_getElem? (i := 422) (by decide +kernel)) (by decide +kernel)
theorem zl_423 : Cond.methodLink "FrameDeltas$Script" 73 ⟨"FrameDeltas$Script", "argumentsOf", "(I)Ljava/lang/String;"⟩ ∈ zTs := zTs_t (List.mem_of_getElem? (i := 423) (by decide +kernel)) (by decide +kernel)
theorem zl_424 : Cond.static ⟨"FrameDeltas$Script", "argumentsOf", "(I)Ljava/lang/String;"⟩ ∈ zTs := zTs_t (List.mem_of_getElem? (i := 424) (by decide +kernel)) (by decide +kernel)
theorem zl_425 : Cond.code ⟨"FrameDeltas$Script", "argumentsOf", "(I)Ljava/lang/String;"⟩ prog_7_method_4_code 1 (Option.some (Jvm.ClassFile.FieldType.object "java/lang/String")) ∈ zTs := zTs_t (List.mem_of_getElem? (i := 425) (by decide +kernel)) (by decide +kernel)
theorem zl_431 : Cond.methodLink "FrameDeltas$Script" 81 ⟨"FrameDeltas$Script", "readNumber", "()Z"⟩ ∈ zTs := zTs_t (List.mem_of_getElem? (i := 431) (by decide +kernel)) (by decide +kernel)
theorem zl_433 : Cond.instanceMethod ⟨"FrameDeltas$Script", "readNumber", "()Z"⟩ ∈ zTs := zTs_t (List.mem_of_getElem? (i := 433) (by decide +kernel)) (by decide +kernel)
theorem zl_434 : Cond.code ⟨"FrameDeltas$Script", "readNumber", "()Z"⟩ prog_7_method_14_code 3 (Option.some Jvm.ClassFile.FieldType.boolean) ∈ zTs := zTs_t (List.mem_of_getElem? (i := 434) (by decide +kernel)) (by decide +kernel)
theorem zl_435 : Cond.methodLink "FrameDeltas$Script" 89 ⟨"FrameDeltas$Script", "isAllowed", "(CLFrameDeltas$State;)Z"⟩ ∈ zTs := zTs_t (List.mem_of_getElem? (i := 435) (by decide +kernel)) (by decide +kernel)
theorem zl_437 : Cond.instanceMethod ⟨"FrameDeltas$Script", "isAllowed", "(CLFrameDeltas$State;)Z"⟩ ∈ zTs := zTs_t (List.mem_of_getElem? (i := 437) (by decide +kernel)) (by decide +kernel)
theorem zl_438 : Cond.code ⟨"FrameDeltas$Script", "isAllowed", "(CLFrameDeltas$State;)Z"⟩ prog_7_method_15_code 3 (Option.some Jvm.ClassFile.FieldType.boolean) ∈ zTs := zTs_t (List.mem_of_getElem? (i := 438) (by decide +kernel)) (by decide +kernel)
theorem zl_439 : Cond.methodLinkNest "FrameDeltas$Script" 110 ⟨"FrameDeltas$State", "isFrame", "(I)Z"⟩ "FrameDeltas" ∈ zNs := zNs_t (List.mem_of_getElem? (i := 439) (by decide +kernel)) (by rfl)
theorem zl_441 : Cond.instanceMethod ⟨"FrameDeltas$State", "isFrame", "(I)Z"⟩ ∈ zTs := zTs_t (List.mem_of_getElem? (i := 441) (by decide +kernel)) (by decide +kernel)
theorem zl_442 : Cond.code ⟨"FrameDeltas$State", "isFrame", "(I)Z"⟩ prog_8_method_4_code 2 (Option.some Jvm.ClassFile.FieldType.boolean) ∈ zTs := zTs_t (List.mem_of_getElem? (i := 442) (by decide +kernel)) (by decide +kernel)
theorem zl_443 : Cond.methodLinkNest "FrameDeltas$Script" 116 ⟨"FrameDeltas$State", "isReadable", "(I)Z"⟩ "FrameDeltas" ∈ zNs := zNs_t (List.mem_of_getElem? (i := 443) (by decide +kernel)) (by rfl)
theorem zl_445 : Cond.instanceMethod ⟨"FrameDeltas$State", "isReadable", "(I)Z"⟩ ∈ zTs := zTs_t (List.mem_of_getElem? (i := 445) (by decide +kernel)) (by decide +kernel)
theorem zl_446 : Cond.code ⟨"FrameDeltas$State", "isReadable", "(I)Z"⟩ prog_8_method_7_code 4 (Option.some Jvm.ClassFile.FieldType.boolean) ∈ zTs := zTs_t (List.mem_of_getElem? (i := 446) (by decide +kernel)) (by decide +kernel)
theorem zl_447 : Cond.methodLinkNest "FrameDeltas" 108 ⟨"FrameDeltas$Script", "carryOut", "(LFrameDeltas$State;LFrameDeltas$Image;)I"⟩ "FrameDeltas" ∈ zNs := zNs_t (List.mem_of_getElem? (i := 447) (by decide +kernel)) (by rfl)
theorem zl_449 : Cond.instanceMethod ⟨"FrameDeltas$Script", "carryOut", "(LFrameDeltas$State;LFrameDeltas$Image;)I"⟩ ∈ zTs := zTs_t (List.mem_of_getElem? (i := 449) (by decide +kernel)) (by decide +kernel)
theorem zl_450 : Cond.code ⟨"FrameDeltas$Script", "carryOut", "(LFrameDeltas$State;LFrameDeltas$Image;)I"⟩ prog_7_method_16_code 6 (Option.some Jvm.ClassFile.FieldType.int) ∈ zTs := zTs_t (List.mem_of_getElem? (i := 450) (by decide +kernel)) (by decide +kernel)
theorem zl_451 : Cond.methodLink "FrameDeltas$Script" 119 ⟨"FrameDeltas$Script", "programAt", "(I)I"⟩ ∈ zTs := zTs_t (List.mem_of_getElem? (i := 451) (by decide +kernel)) (by decide +kernel)
theorem zl_453 : Cond.instanceMethod ⟨"FrameDeltas$Script", "programAt", "(I)I"⟩ ∈ zTs := zTs_t (List.mem_of_getElem? (i := 453) (by decide +kernel)) (by decide +kernel)
theorem zl_454 : Cond.code ⟨"FrameDeltas$Script", "programAt", "(I)I"⟩ prog_7_method_17_code 2 (Option.some Jvm.ClassFile.FieldType.int) ∈ zTs := zTs_t (List.mem_of_getElem? (i := 454) (by decide +kernel)) (by decide +kernel)
theorem zl_455 : Cond.methodLink "FrameDeltas$Script" 123 ⟨"FrameDeltas$Script", "apply", "(IILFrameDeltas$State;LFrameDeltas$Image;)V"⟩ ∈ zTs := zTs_t (List.mem_of_getElem? (i := 455) (by decide +kernel)) (by decide +kernel)
theorem zl_457 : Cond.instanceMethod ⟨"FrameDeltas$Script", "apply", "(IILFrameDeltas$State;LFrameDeltas$Image;)V"⟩ ∈ zTs := zTs_t (List.mem_of_getElem? (i := 457) (by decide +kernel)) (by decide +kernel)
theorem zl_458 : Cond.code ⟨"FrameDeltas$Script", "apply", "(IILFrameDeltas$State;LFrameDeltas$Image;)V"⟩ prog_7_method_18_code 8 (Option.none : Option Jvm.ClassFile.FieldType) ∈ zTs := zTs_t (List.mem_of_getElem? (i := 458) (by decide +kernel)) (by decide +kernel)
theorem zl_459 : Cond.methodLinkNest "FrameDeltas$Script" 139 ⟨"FrameDeltas$Image", "fillBox", "(IIIII)V"⟩ "FrameDeltas" ∈ zNs := zNs_t (List.mem_of_getElem? (i := 459) (by decide +kernel)) (by rfl)
theorem zl_461 : Cond.instanceMethod ⟨"FrameDeltas$Image", "fillBox", "(IIIII)V"⟩ ∈ zTs := zTs_t (List.mem_of_getElem? (i := 461) (by decide +kernel)) (by decide +kernel)
theorem zl_462 : Cond.code ⟨"FrameDeltas$Image", "fillBox", "(IIIII)V"⟩ prog_4_method_16_code 8 (Option.none : Option Jvm.ClassFile.FieldType) ∈ zTs := zTs_t (List.mem_of_getElem? (i := 462) (by decide +kernel)) (by decide +kernel)
theorem zl_463 : Cond.methodLink "FrameDeltas$Image" 45 ⟨"java/lang/Math", "min", "(II)I"⟩ ∈ zTs := zTs_t (List.mem_of_getElem? (i := 463) (by decide +kernel)) (by decide +kernel)
theorem zl_464 : Cond.static ⟨"java/lang/Math", "min", "(II)I"⟩ ∈ zTs := zTs_t (List.mem_of_getElem? (i := 464) (by decide +kernel)) (by decide +kernel)
theorem zl_465 : Cond.code ⟨"java/lang/Math", "min", "(II)I"⟩ prog_12_method_69_code 2 (Option.some Jvm.ClassFile.FieldType.int) ∈ zTs := zTs_t (List.mem_of_getElem? (i := 465) (by decide +kernel)) (by decide +kernel)
theorem zl_466 : Cond.methodLink "FrameDeltas$Image" 48 ⟨"FrameDeltas$Image", "putNumbered", "(II)V"⟩ ∈ zTs := zTs_t (List.mem_of_getElem? (i := 466) (by decide +kernel)) (by decide +kernel)
theorem zl_467 : Cond.methodLinkNest "FrameDeltas$Script" 143 ⟨"FrameDeltas$Image", "take", "(LFrameDeltas$Image;)V"⟩ "FrameDeltas" ∈ zNs := zNs_t (List.mem_of_getElem? (i := 467) (by decide +kernel)) (by rfl)
theorem zl_468 : Cond.methodLinkNest "FrameDeltas$Script" 147 ⟨"FrameDeltas$Image", "takeShifted", "(LFrameDeltas$Image;II)V"⟩ "FrameDeltas" ∈ zNs := zNs_t (List.mem_of_getElem? (i := 468) (by decide +kernel)) (by rfl)
theorem zl_470 : Cond.instanceMethod ⟨"FrameDeltas$Image", "takeShifted", "(LFrameDeltas$Image;II)V"⟩ ∈ zTs := zTs_t (List.mem_of_getElem? (i := 470) (by decide +kernel)) (by decide +kernel)
theorem zl_471 : Cond.code ⟨"FrameDeltas$Image", "takeShifted", "(LFrameDeltas$Image;II)V"⟩ prog_4_method_17_code 6 (Option.none : Option Jvm.ClassFile.FieldType) ∈ zTs := zTs_t (List.mem_of_getElem? (i := 471) (by decide +kernel)) (by decide +kernel)
theorem zl_472 : Cond.methodLink "FrameDeltas$Image" 38 ⟨"FrameDeltas$Image", "at", "(II)I"⟩ ∈ zTs := zTs_t (List.mem_of_getElem? (i := 472) (by decide +kernel)) (by decide +kernel)
theorem zl_474 : Cond.instanceMethod ⟨"FrameDeltas$Image", "at", "(II)I"⟩ ∈ zTs := zTs_t (List.mem_of_getElem? (i := 474) (by decide +kernel)) (by decide +kernel)
theorem zl_475 : Cond.code ⟨"FrameDeltas$Image", "at", "(II)I"⟩ prog_4_method_7_code 4 (Option.some Jvm.ClassFile.FieldType.int) ∈ zTs := zTs_t (List.mem_of_getElem? (i := 475) (by decide +kernel)) (by decide +kernel)
theorem zl_476 : Cond.methodLinkNest "FrameDeltas$Script" 151 ⟨"FrameDeltas$Image", "swapValues", "(II)V"⟩ "FrameDeltas" ∈ zNs := zNs_t (List.mem_of_getElem? (i := 476) (by decide +kernel)) (by rfl)
theorem zl_478 : Cond.instanceMethod ⟨"FrameDeltas$Image", "swapValues", "(II)V"⟩ ∈ zTs := zTs_t (List.mem_of_getElem? (i := 478) (by decide +kernel)) (by decide +kernel)
theorem zl_479 : Cond.code ⟨"FrameDeltas$Image", "swapValues", "(II)V"⟩ prog_4_method_18_code 4 (Option.none : Option Jvm.ClassFile.FieldType) ∈ zTs := zTs_t (List.mem_of_getElem? (i := 479) (by decide +kernel)) (by decide +kernel)
theorem zl_480 : Cond.methodLinkNest "FrameDeltas$Script" 155 ⟨"FrameDeltas$State", "imageOf", "(I)LFrameDeltas$Image;"⟩ "FrameDeltas" ∈ zNs := zNs_t (List.mem_of_getElem? (i := 480) (by decide +kernel)) (by rfl)
theorem zl_482 : Cond.instanceMethod ⟨"FrameDeltas$State", "imageOf", "(I)LFrameDeltas$Image;"⟩ ∈ zTs := zTs_t (List.mem_of_getElem? (i := 482) (by decide +kernel)) (by decide +kernel)
theorem zl_483 : Cond.code ⟨"FrameDeltas$State", "imageOf", "(I)LFrameDeltas$Image;"⟩ prog_8_method_6_code 2 (Option.some (Jvm.ClassFile.FieldType.object "FrameDeltas$Image")) ∈ zTs := zTs_t (List.mem_of_getElem? (i := 483) (by decide +kernel)) (by decide +kernel)
theorem zl_485 : Cond.methodLink "FrameDeltasLaw" 40 ⟨"FrameDeltas", "digest", "(III)I"⟩ ∈ zTs := zTs_t (List.mem_of_getElem? (i := 485) (by decide +kernel)) (by decide +kernel)
theorem zl_486 : Cond.instanceMethod ⟨"FrameDeltas", "digest", "(III)I"⟩ ∈ zTs := zTs_t (List.mem_of_getElem? (i := 486) (by decide +kernel)) (by decide +kernel)
theorem zl_487 : Cond.selects "FrameDeltas" ⟨"FrameDeltas", "digest", "(III)I"⟩ ⟨"FrameDeltas", "digest", "(III)I"⟩ ∈ zTs := zTs_t (List.mem_of_getElem? (i := 487) (by decide +kernel)) (by decide +kernel)
theorem zl_488 : Cond.code ⟨"FrameDeltas", "digest", "(III)I"⟩ prog_1_method_8_code 4 (Option.some Jvm.ClassFile.FieldType.int) ∈ zTs := zTs_t (List.mem_of_getElem? (i := 488) (by decide +kernel)) (by decide +kernel)
theorem zl_489 : Cond.methodLinkNest "FrameDeltas" 112 ⟨"FrameDeltas$State", "isImage", "(I)Z"⟩ "FrameDeltas" ∈ zNs := zNs_t (List.mem_of_getElem? (i := 489) (by decide +kernel)) (by rfl)
theorem zl_491 : Cond.instanceMethod ⟨"FrameDeltas$State", "isImage", "(I)Z"⟩ ∈ zTs := zTs_t (List.mem_of_getElem? (i := 491) (by decide +kernel)) (by decide +kernel)
theorem zl_492 : Cond.code ⟨"FrameDeltas$State", "isImage", "(I)Z"⟩ prog_8_method_5_code 2 (Option.some Jvm.ClassFile.FieldType.boolean) ∈ zTs := zTs_t (List.mem_of_getElem? (i := 492) (by decide +kernel)) (by decide +kernel)
theorem zl_493 : Cond.methodLink "FrameDeltas$State" 53 ⟨"FrameDeltas$State", "isFrame", "(I)Z"⟩ ∈ zTs := zTs_t (List.mem_of_getElem? (i := 493) (by decide +kernel)) (by decide +kernel)
theorem zl_494 : Cond.methodLinkNest "FrameDeltas" 115 ⟨"FrameDeltas$Image", "hasPart", "(II)Z"⟩ "FrameDeltas" ∈ zNs := zNs_t (List.mem_of_getElem? (i := 494) (by decide +kernel)) (by rfl)
theorem zl_496 : Cond.instanceMethod ⟨"FrameDeltas$Image", "hasPart", "(II)Z"⟩ ∈ zTs := zTs_t (List.mem_of_getElem? (i := 496) (by decide +kernel)) (by decide +kernel)
theorem zl_497 : Cond.code ⟨"FrameDeltas$Image", "hasPart", "(II)Z"⟩ prog_4_method_12_code 3 (Option.some Jvm.ClassFile.FieldType.boolean) ∈ zTs := zTs_t (List.mem_of_getElem? (i := 497) (by decide +kernel)) (by decide +kernel)
theorem zl_498 : Cond.methodLinkNest "FrameDeltas" 119 ⟨"FrameDeltas$State", "isReadable", "(I)Z"⟩ "FrameDeltas" ∈ zNs := zNs_t (List.mem_of_getElem? (i := 498) (by decide +kernel)) (by rfl)
theorem zl_499 : Cond.methodLinkNest "FrameDeltas" 122 ⟨"FrameDeltas$State", "imageOf", "(I)LFrameDeltas$Image;"⟩ "FrameDeltas" ∈ zNs := zNs_t (List.mem_of_getElem? (i := 499) (by decide +kernel)) (by rfl)
theorem zl_500 : Cond.methodLinkNest "FrameDeltas" 126 ⟨"FrameDeltas$Image", "partDigest", "(II)I"⟩ "FrameDeltas" ∈ zNs := zNs_t (List.mem_of_getElem? (i := 500) (by decide +kernel)) (by rfl)
theorem zl_502 : Cond.instanceMethod ⟨"FrameDeltas$Image", "partDigest", "(II)I"⟩ ∈ zTs := zTs_t (List.mem_of_getElem? (i := 502) (by decide +kernel)) (by decide +kernel)
theorem zl_503 : Cond.code ⟨"FrameDeltas$Image", "partDigest", "(II)I"⟩ prog_4_method_13_code 5 (Option.some Jvm.ClassFile.FieldType.int) ∈ zTs := zTs_t (List.mem_of_getElem? (i := 503) (by decide +kernel)) (by decide +kernel)
theorem zl_504 : Cond.methodLink "FrameDeltasLaw" 45 ⟨"FrameDeltas", "addKey", "()I"⟩ ∈ zTs := zTs_t (List.mem_of_getElem? (i := 504) (by decide +kernel)) (by decide +kernel)
theorem zl_505 : Cond.instanceMethod ⟨"FrameDeltas", "addKey", "()I"⟩ ∈ zTs := zTs_t (List.mem_of_getElem? (i := 505) (by decide +kernel)) (by decide +kernel)
theorem zl_506 : Cond.selects "FrameDeltas" ⟨"FrameDeltas", "addKey", "()I"⟩ ⟨"FrameDeltas", "addKey", "()I"⟩ ∈ zTs := zTs_t (List.mem_of_getElem? (i := 506) (by decide +kernel)) (by decide +kernel)
theorem zl_507 : Cond.code ⟨"FrameDeltas", "addKey", "()I"⟩ prog_1_method_9_code 1 (Option.some Jvm.ClassFile.FieldType.int) ∈ zTs := zTs_t (List.mem_of_getElem? (i := 507) (by decide +kernel)) (by decide +kernel)
theorem zl_508 : Cond.methodLink "FrameDeltas" 130 ⟨"FrameDeltas", "add", "(I)I"⟩ ∈ zTs := zTs_t (List.mem_of_getElem? (i := 508) (by decide +kernel)) (by decide +kernel)
theorem zl_510 : Cond.instanceMethod ⟨"FrameDeltas", "add", "(I)I"⟩ ∈ zTs := zTs_t (List.mem_of_getElem? (i := 510) (by decide +kernel)) (by decide +kernel)
theorem zl_511 : Cond.code ⟨"FrameDeltas", "add", "(I)I"⟩ prog_1_method_34_code 3 (Option.some Jvm.ClassFile.FieldType.int) ∈ zTs := zTs_t (List.mem_of_getElem? (i := 511) (by decide +kernel)) (by decide +kernel)
theorem zl_512 : Cond.methodLinkNest "FrameDeltas" 146 ⟨"FrameDeltas$State", "frameAt", "(I)LFrameDeltas$Frame;"⟩ "FrameDeltas" ∈ zNs := zNs_t (List.mem_of_getElem? (i := 512) (by decide +kernel)) (by rfl)
theorem zl_513 : Cond.methodLinkNest "FrameDeltas" 268 ⟨"FrameDeltas$Image", "take", "(LFrameDeltas$Image;)V"⟩ "FrameDeltas" ∈ zNs := zNs_t (List.mem_of_getElem? (i := 513) (by decide +kernel)) (by rfl)
theorem zl_514 : Cond.methodLinkNest "FrameDeltas" 153 ⟨"FrameDeltas$Coder", "encode", "(LFrameDeltas$Frame;LFrameDeltas$State;I)V"⟩ "FrameDeltas" ∈ zNs := zNs_t (List.mem_of_getElem? (i := 514) (by decide +kernel)) (by rfl)
theorem zl_516 : Cond.instanceMethod ⟨"FrameDeltas$Coder", "encode", "(LFrameDeltas$Frame;LFrameDeltas$State;I)V"⟩ ∈ zTs := zTs_t (List.mem_of_getElem? (i := 516) (by decide +kernel)) (by decide +kernel)
theorem zl_517 : Cond.code ⟨"FrameDeltas$Coder", "encode", "(LFrameDeltas$Frame;LFrameDeltas$State;I)V"⟩ prog_2_method_2_code 6 (Option.none : Option Jvm.ClassFile.FieldType) ∈ zTs := zTs_t (List.mem_of_getElem? (i := 517) (by decide +kernel)) (by decide +kernel)
theorem zl_518 : Cond.methodLinkNest "FrameDeltas$Coder" 28 ⟨"FrameDeltas$State", "imageOf", "(I)LFrameDeltas$Image;"⟩ "FrameDeltas" ∈ zNs := zNs_t (List.mem_of_getElem? (i := 518) (by decide +kernel)) (by rfl)
theorem zl_519 : Cond.methodLinkNest "FrameDeltas$Coder" 50 ⟨"FrameDeltas$Image", "blocks", "()I"⟩ "FrameDeltas" ∈ zNs := zNs_t (List.mem_of_getElem? (i := 519) (by decide +kernel)) (by rfl)
theorem zl_520 : Cond.methodLink "FrameDeltas$Coder" 56 ⟨"FrameDeltas$Coder", "encodeRaw", "(LFrameDeltas$Frame;I)I"⟩ ∈ zTs := zTs_t (List.mem_of_getElem? (i := 520) (by decide +kernel)) (by decide +kernel)
theorem zl_522 : Cond.instanceMethod ⟨"FrameDeltas$Coder", "encodeRaw", "(LFrameDeltas$Frame;I)I"⟩ ∈ zTs := zTs_t (List.mem_of_getElem? (i := 522) (by decide +kernel)) (by decide +kernel)
theorem zl_523 : Cond.code ⟨"FrameDeltas$Coder", "encodeRaw", "(LFrameDeltas$Frame;I)I"⟩ prog_2_method_3_code 3 (Option.some Jvm.ClassFile.FieldType.int) ∈ zTs := zTs_t (List.mem_of_getElem? (i := 523) (by decide +kernel)) (by decide +kernel)
theorem zl_524 : Cond.methodLinkNest "FrameDeltas$Coder" 67 ⟨"FrameDeltas$RunList", "read", "(LFrameDeltas$Image;LFrameDeltas$Image;I)V"⟩ "FrameDeltas" ∈ zNs := zNs_t (List.mem_of_getElem? (i := 524) (by decide +kernel)) (by rfl)
theorem zl_526 : Cond.instanceMethod ⟨"FrameDeltas$RunList", "read", "(LFrameDeltas$Image;LFrameDeltas$Image;I)V"⟩ ∈ zTs := zTs_t (List.mem_of_getElem? (i := 526) (by decide +kernel)) (by decide +kernel)
theorem zl_527 : Cond.code ⟨"FrameDeltas$RunList", "read", "(LFrameDeltas$Image;LFrameDeltas$Image;I)V"⟩ prog_6_method_2_code 10 (Option.none : Option Jvm.ClassFile.FieldType) ∈ zTs := zTs_t (List.mem_of_getElem? (i := 527) (by decide +kernel)) (by decide +kernel)
theorem zl_528 : Cond.methodLinkNest "FrameDeltas$RunList" 22 ⟨"FrameDeltas$Image", "left", "(I)I"⟩ "FrameDeltas" ∈ zNs := zNs_t (List.mem_of_getElem? (i := 528) (by decide +kernel)) (by rfl)
theorem zl_530 : Cond.instanceMethod ⟨"FrameDeltas$Image", "left", "(I)I"⟩ ∈ zTs := zTs_t (List.mem_of_getElem? (i := 530) (by decide +kernel)) (by decide +kernel)
theorem zl_531 : Cond.code ⟨"FrameDeltas$Image", "left", "(I)I"⟩ prog_4_method_10_code 2 (Option.some Jvm.ClassFile.FieldType.int) ∈ zTs := zTs_t (List.mem_of_getElem? (i := 531) (by decide +kernel)) (by decide +kernel)
theorem zl_532 : Cond.methodLink "FrameDeltas$Image" 32 ⟨"java/lang/Math", "max", "(II)I"⟩ ∈ zTs := zTs_t (List.mem_of_getElem? (i := 532) (by decide +kernel)) (by decide +kernel)
theorem zl_533 : Cond.static ⟨"java/lang/Math", "max", "(II)I"⟩ ∈ zTs := zTs_t (List.mem_of_getElem? (i := 533) (by decide +kernel)) (by decide +kernel)
theorem zl_534 : Cond.code ⟨"java/lang/Math", "max", "(II)I"⟩ prog_12_method_65_code 2 (Option.some Jvm.ClassFile.FieldType.int) ∈ zTs := zTs_t (List.mem_of_getElem? (i := 534) (by decide +kernel)) (by decide +kernel)
theorem zl_535 : Cond.methodLinkNest "FrameDeltas$RunList" 28 ⟨"FrameDeltas$Image", "top", "(I)I"⟩ "FrameDeltas" ∈ zNs := zNs_t (List.mem_of_getElem? (i := 535) (by decide +kernel)) (by rfl)
theorem zl_537 : Cond.instanceMethod ⟨"FrameDeltas$Image", "top", "(I)I"⟩ ∈ zTs := zTs_t (List.mem_of_getElem? (i := 537) (by decide +kernel)) (by decide +kernel)
theorem zl_538 : Cond.code ⟨"FrameDeltas$Image", "top", "(I)I"⟩ prog_4_method_11_code 2 (Option.some Jvm.ClassFile.FieldType.int) ∈ zTs := zTs_t (List.mem_of_getElem? (i := 538) (by decide +kernel)) (by decide +kernel)
theorem zl_539 : Cond.methodLinkNest "FrameDeltas$RunList" 31 ⟨"FrameDeltas$Image", "at", "(II)I"⟩ "FrameDeltas" ∈ zNs := zNs_t (List.mem_of_getElem? (i := 539) (by decide +kernel)) (by rfl)
theorem zl_540 : Cond.methodLink "FrameDeltas$RunList" 35 ⟨"FrameDeltas$RunList", "addCell", "(I)V"⟩ ∈ zTs := zTs_t (List.mem_of_getElem? (i := 540) (by decide +kernel)) (by decide +kernel)
theorem zl_542 : Cond.instanceMethod ⟨"FrameDeltas$RunList", "addCell", "(I)V"⟩ ∈ zTs := zTs_t (List.mem_of_getElem? (i := 542) (by decide +kernel)) (by decide +kernel)
theorem zl_543 : Cond.code ⟨"FrameDeltas$RunList", "addCell", "(I)V"⟩ prog_6_method_3_code 4 (Option.none : Option Jvm.ClassFile.FieldType) ∈ zTs := zTs_t (List.mem_of_getElem? (i := 543) (by decide +kernel)) (by decide +kernel)
theorem zl_544 : Cond.methodLinkNest "FrameDeltas$Coder" 74 ⟨"FrameDeltas$Frame", "setCode", "(IIIII)V"⟩ "FrameDeltas" ∈ zNs := zNs_t (List.mem_of_getElem? (i := 544) (by decide +kernel)) (by rfl)
theorem zl_546 : Cond.instanceMethod ⟨"FrameDeltas$Frame", "setCode", "(IIIII)V"⟩ ∈ zTs := zTs_t (List.mem_of_getElem? (i := 546) (by decide +kernel)) (by decide +kernel)
theorem zl_547 : Cond.code ⟨"FrameDeltas$Frame", "setCode", "(IIIII)V"⟩ prog_3_method_4_code 7 (Option.none : Option Jvm.ClassFile.FieldType) ∈ zTs := zTs_t (List.mem_of_getElem? (i := 547) (by decide +kernel)) (by decide +kernel)
theorem zl_548 : Cond.methodLink "FrameDeltas$Coder" 63 ⟨"FrameDeltas$Coder", "encodeWith", "(LFrameDeltas$Frame;ILFrameDeltas$Image;I)I"⟩ ∈ zTs := zTs_t (List.mem_of_getElem? (i := 548) (by decide +kernel)) (by decide +kernel)
theorem zl_550 : Cond.instanceMethod ⟨"FrameDeltas$Coder", "encodeWith", "(LFrameDeltas$Frame;ILFrameDeltas$Image;I)I"⟩ ∈ zTs := zTs_t (List.mem_of_getElem? (i := 550) (by decide +kernel)) (by decide +kernel)
theorem zl_551 : Cond.code ⟨"FrameDeltas$Coder", "encodeWith", "(LFrameDeltas$Frame;ILFrameDeltas$Image;I)I"⟩ prog_2_method_4_code 7 (Option.some Jvm.ClassFile.FieldType.int) ∈ zTs := zTs_t (List.mem_of_getElem? (i := 551) (by decide +kernel)) (by decide +kernel)
theorem zl_552 : Cond.methodLinkNest "FrameDeltas$Coder" 78 ⟨"FrameDeltas$Image", "left", "(I)I"⟩ "FrameDeltas" ∈ zNs := zNs_t (List.mem_of_getElem? (i := 552) (by decide +kernel)) (by rfl)
theorem zl_553 : Cond.methodLinkNest "FrameDeltas$Coder" 82 ⟨"FrameDeltas$Image", "top", "(I)I"⟩ "FrameDeltas" ∈ zNs := zNs_t (List.mem_of_getElem? (i := 553) (by decide +kernel)) (by rfl)
theorem zl_554 : Cond.methodLinkNest "FrameDeltas$Coder" 85 ⟨"FrameDeltas$Image", "samePart", "(IILFrameDeltas$Image;II)Z"⟩ "FrameDeltas" ∈ zNs := zNs_t (List.mem_of_getElem? (i := 554) (by decide +kernel)) (by rfl)
theorem zl_556 : Cond.instanceMethod ⟨"FrameDeltas$Image", "samePart", "(IILFrameDeltas$Image;II)Z"⟩ ∈ zTs := zTs_t (List.mem_of_getElem? (i := 556) (by decide +kernel)) (by decide +kernel)
theorem zl_557 : Cond.code ⟨"FrameDeltas$Image", "samePart", "(IILFrameDeltas$Image;II)Z"⟩ prog_4_method_14_code 9 (Option.some Jvm.ClassFile.FieldType.boolean) ∈ zTs := zTs_t (List.mem_of_getElem? (i := 557) (by decide +kernel)) (by decide +kernel)
theorem zl_558 : Cond.methodLink "FrameDeltas$Coder" 89 ⟨"FrameDeltas$Coder", "findMove", "(LFrameDeltas$Image;IILFrameDeltas$Image;I)Z"⟩ ∈ zTs := zTs_t (List.mem_of_getElem? (i := 558) (by decide +kernel)) (by decide +kernel)
theorem zl_560 : Cond.instanceMethod ⟨"FrameDeltas$Coder", "findMove", "(LFrameDeltas$Image;IILFrameDeltas$Image;I)Z"⟩ ∈ zTs := zTs_t (List.mem_of_getElem? (i := 560) (by decide +kernel)) (by decide +kernel)
theorem zl_561 : Cond.code ⟨"FrameDeltas$Coder", "findMove", "(LFrameDeltas$Image;IILFrameDeltas$Image;I)Z"⟩ prog_2_method_5_code 10 (Option.some Jvm.ClassFile.FieldType.boolean) ∈ zTs := zTs_t (List.mem_of_getElem? (i := 561) (by decide +kernel)) (by decide +kernel)
theorem zl_562 : Cond.methodLink "FrameDeltas$Coder" 93 ⟨"java/lang/Math", "abs", "(I)I"⟩ ∈ zTs := zTs_t (List.mem_of_getElem? (i := 562) (by decide +kernel)) (by decide +kernel)
theorem zl_563 : Cond.static ⟨"java/lang/Math", "abs", "(I)I"⟩ ∈ zTs := zTs_t (List.mem_of_getElem? (i := 563) (by decide +kernel)) (by decide +kernel)
theorem zl_564 : Cond.code ⟨"java/lang/Math", "abs", "(I)I"⟩ prog_12_method_59_code 1 (Option.some Jvm.ClassFile.FieldType.int) ∈ zTs := zTs_t (List.mem_of_getElem? (i := 564) (by decide +kernel)) (by decide +kernel)
theorem zl_565 : Cond.methodLinkNest "FrameDeltas$Coder" 98 ⟨"FrameDeltas$Image", "hasPart", "(II)Z"⟩ "FrameDeltas" ∈ zNs := zNs_t (List.mem_of_getElem? (i := 565) (by decide +kernel)) (by rfl)
theorem zl_566 : Cond.methodLink "FrameDeltas$Coder" 102 ⟨"java/lang/Math", "max", "(II)I"⟩ ∈ zTs := zTs_t (List.mem_of_getElem? (i := 566) (by decide +kernel)) (by decide +kernel)
theorem zl_567 : Cond.methodLink "FrameDeltasLaw" 49 ⟨"FrameDeltas", "addDelta", "(I)I"⟩ ∈ zTs := zTs_t (List.mem_of_getElem? (i := 567) (by decide +kernel)) (by decide +kernel)
theorem zl_568 : Cond.instanceMethod ⟨"FrameDeltas", "addDelta", "(I)I"⟩ ∈ zTs := zTs_t (List.mem_of_getElem? (i := 568) (by decide +kernel)) (by decide +kernel)
theorem zl_569 : Cond.selects "FrameDeltas" ⟨"FrameDeltas", "addDelta", "(I)I"⟩ ⟨"FrameDeltas", "addDelta", "(I)I"⟩ ∈ zTs := zTs_t (List.mem_of_getElem? (i := 569) (by decide +kernel)) (by decide +kernel)
theorem zl_570 : Cond.code ⟨"FrameDeltas", "addDelta", "(I)I"⟩ prog_1_method_10_code 2 (Option.some Jvm.ClassFile.FieldType.int) ∈ zTs := zTs_t (List.mem_of_getElem? (i := 570) (by decide +kernel)) (by decide +kernel)
theorem zl_571 : Cond.methodLinkNest "FrameDeltas" 133 ⟨"FrameDeltas$State", "isFrame", "(I)Z"⟩ "FrameDeltas" ∈ zNs := zNs_t (List.mem_of_getElem? (i := 571) (by decide +kernel)) (by rfl)
theorem zl_572 : Cond.methodLinkNest "FrameDeltas" 136 ⟨"FrameDeltas$State", "mayBeReference", "(I)Z"⟩ "FrameDeltas" ∈ zNs := zNs_t (List.mem_of_getElem? (i := 572) (by decide +kernel)) (by rfl)
theorem zl_574 : Cond.instanceMethod ⟨"FrameDeltas$State", "mayBeReference", "(I)Z"⟩ ∈ zTs := zTs_t (List.mem_of_getElem? (i := 574) (by decide +kernel)) (by decide +kernel)
theorem zl_575 : Cond.code ⟨"FrameDeltas$State", "mayBeReference", "(I)Z"⟩ prog_8_method_8_code 2 (Option.some Jvm.ClassFile.FieldType.boolean) ∈ zTs := zTs_t (List.mem_of_getElem? (i := 575) (by decide +kernel)) (by decide +kernel)
theorem zl_576 : Cond.methodLink "FrameDeltas$State" 67 ⟨"FrameDeltas$State", "isReadable", "(I)Z"⟩ ∈ zTs := zTs_t (List.mem_of_getElem? (i := 576) (by decide +kernel)) (by decide +kernel)
theorem zl_577 : Cond.methodLink "FrameDeltas$State" 70 ⟨"FrameDeltas$State", "depthOf", "(I)I"⟩ ∈ zTs := zTs_t (List.mem_of_getElem? (i := 577) (by decide +kernel)) (by decide +kernel)
theorem zl_579 : Cond.instanceMethod ⟨"FrameDeltas$State", "depthOf", "(I)I"⟩ ∈ zTs := zTs_t (List.mem_of_getElem? (i := 579) (by decide +kernel)) (by decide +kernel)
theorem zl_580 : Cond.code ⟨"FrameDeltas$State", "depthOf", "(I)I"⟩ prog_8_method_9_code 5 (Option.some Jvm.ClassFile.FieldType.int) ∈ zTs := zTs_t (List.mem_of_getElem? (i := 580) (by decide +kernel)) (by decide +kernel)
theorem zl_581 : Cond.methodLink "FrameDeltasLaw" 53 ⟨"FrameDeltas", "addChosen", "()I"⟩ ∈ zTs := zTs_t (List.mem_of_getElem? (i := 581) (by decide +kernel)) (by decide +kernel)
theorem zl_582 : Cond.instanceMethod ⟨"FrameDeltas", "addChosen", "()I"⟩ ∈ zTs := zTs_t (List.mem_of_getElem? (i := 582) (by decide +kernel)) (by decide +kernel)
theorem zl_583 : Cond.selects "FrameDeltas" ⟨"FrameDeltas", "addChosen", "()I"⟩ ⟨"FrameDeltas", "addChosen", "()I"⟩ ∈ zTs := zTs_t (List.mem_of_getElem? (i := 583) (by decide +kernel)) (by decide +kernel)
theorem zl_584 : Cond.code ⟨"FrameDeltas", "addChosen", "()I"⟩ prog_1_method_11_code 1 (Option.some Jvm.ClassFile.FieldType.int) ∈ zTs := zTs_t (List.mem_of_getElem? (i := 584) (by decide +kernel)) (by decide +kernel)
theorem zl_585 : Cond.methodLink "FrameDeltas" 139 ⟨"FrameDeltas", "chosenReference", "()I"⟩ ∈ zTs := zTs_t (List.mem_of_getElem? (i := 585) (by decide +kernel)) (by decide +kernel)
theorem zl_587 : Cond.instanceMethod ⟨"FrameDeltas", "chosenReference", "()I"⟩ ∈ zTs := zTs_t (List.mem_of_getElem? (i := 587) (by decide +kernel)) (by decide +kernel)
theorem zl_588 : Cond.code ⟨"FrameDeltas", "chosenReference", "()I"⟩ prog_1_method_36_code 7 (Option.some Jvm.ClassFile.FieldType.int) ∈ zTs := zTs_t (List.mem_of_getElem? (i := 588) (by decide +kernel)) (by decide +kernel)
theorem zl_589 : Cond.methodLink "FrameDeltas" 226 ⟨"FrameDeltas", "costOfCanvas", "(I)I"⟩ ∈ zTs := zTs_t (List.mem_of_getElem? (i := 589) (by decide +kernel)) (by decide +kernel)
theorem zl_591 : Cond.instanceMethod ⟨"FrameDeltas", "costOfCanvas", "(I)I"⟩ ∈ zTs := zTs_t (List.mem_of_getElem? (i := 591) (by decide +kernel)) (by decide +kernel)
theorem zl_592 : Cond.code ⟨"FrameDeltas", "costOfCanvas", "(I)I"⟩ prog_1_method_35_code 2 (Option.some Jvm.ClassFile.FieldType.int) ∈ zTs := zTs_t (List.mem_of_getElem? (i := 592) (by decide +kernel)) (by decide +kernel)
theorem zl_593 : Cond.methodLinkNest "FrameDeltas" 183 ⟨"FrameDeltas$State", "depthOf", "(I)I"⟩ "FrameDeltas" ∈ zNs := zNs_t (List.mem_of_getElem? (i := 593) (by decide +kernel)) (by rfl)
theorem zl_594 : Cond.methodLink "FrameDeltasLaw" 57 ⟨"FrameDeltas", "removeLast", "()I"⟩ ∈ zTs := zTs_t (List.mem_of_getElem? (i := 594) (by decide +kernel)) (by decide +kernel)
theorem zl_595 : Cond.instanceMethod ⟨"FrameDeltas", "removeLast", "()I"⟩ ∈ zTs := zTs_t (List.mem_of_getElem? (i := 595) (by decide +kernel)) (by decide +kernel)
theorem zl_596 : Cond.selects "FrameDeltas" ⟨"FrameDeltas", "removeLast", "()I"⟩ ⟨"FrameDeltas", "removeLast", "()I"⟩ ∈ zTs := zTs_t (List.mem_of_getElem? (i := 596) (by decide +kernel)) (by decide +kernel)
theorem zl_597 : Cond.code ⟨"FrameDeltas", "removeLast", "()I"⟩ prog_1_method_12_code 1 (Option.some Jvm.ClassFile.FieldType.int) ∈ zTs := zTs_t (List.mem_of_getElem? (i := 597) (by decide +kernel)) (by decide +kernel)
theorem zl_598 : Cond.methodLink "FrameDeltasLaw" 61 ⟨"FrameDeltas", "recode", "()I"⟩ ∈ zTs := zTs_t (List.mem_of_getElem? (i := 598) (by decide +kernel)) (by decide +kernel)
theorem zl_599 : Cond.instanceMethod ⟨"FrameDeltas", "recode", "()I"⟩ ∈ zTs := zTs_t (List.mem_of_getElem? (i := 599) (by decide +kernel)) (by decide +kernel)
theorem zl_600 : Cond.selects "FrameDeltas" ⟨"FrameDeltas", "recode", "()I"⟩ ⟨"FrameDeltas", "recode", "()I"⟩ ∈ zTs := zTs_t (List.mem_of_getElem? (i := 600) (by decide +kernel)) (by decide +kernel)
theorem zl_601 : Cond.code ⟨"FrameDeltas", "recode", "()I"⟩ prog_1_method_13_code 2 (Option.some Jvm.ClassFile.FieldType.int) ∈ zTs := zTs_t (List.mem_of_getElem? (i := 601) (by decide +kernel)) (by decide +kernel)
theorem zl_602 : Cond.methodLinkNest "FrameDeltas" 142 ⟨"FrameDeltas$Planner", "plan", "(LFrameDeltas$State;LFrameDeltas$Coder;LFrameDeltas$Frame;)V"⟩ "FrameDeltas" ∈ zNs := zNs_t (List.mem_of_getElem? (i := 602) (by decide +kernel)) (by rfl)
theorem zl_604 : Cond.instanceMethod ⟨"FrameDeltas$Planner", "plan", "(LFrameDeltas$State;LFrameDeltas$Coder;LFrameDeltas$Frame;)V"⟩ ∈ zTs := zTs_t (List.mem_of_getElem? (i := 604) (by decide +kernel)) (by decide +kernel)
theorem zl_605 : Cond.code ⟨"FrameDeltas$Planner", "plan", "(LFrameDeltas$State;LFrameDeltas$Coder;LFrameDeltas$Frame;)V"⟩ prog_5_method_2_code 8 (Option.none : Option Jvm.ClassFile.FieldType) ∈ zTs := zTs_t (List.mem_of_getElem? (i := 605) (by decide +kernel)) (by decide +kernel)
theorem zl_606 : Cond.methodLink "FrameDeltas$Planner" 30 ⟨"java/lang/Math", "min", "(II)I"⟩ ∈ zTs := zTs_t (List.mem_of_getElem? (i := 606) (by decide +kernel)) (by decide +kernel)
theorem zl_607 : Cond.methodLink "FrameDeltas$Planner" 36 ⟨"FrameDeltas$Planner", "measure", "(LFrameDeltas$State;LFrameDeltas$Coder;LFrameDeltas$Frame;I)V"⟩ ∈ zTs := zTs_t (List.mem_of_getElem? (i := 607) (by decide +kernel)) (by decide +kernel)
theorem zl_609 : Cond.instanceMethod ⟨"FrameDeltas$Planner", "measure", "(LFrameDeltas$State;LFrameDeltas$Coder;LFrameDeltas$Frame;I)V"⟩ ∈ zTs := zTs_t (List.mem_of_getElem? (i := 609) (by decide +kernel)) (by decide +kernel)
theorem zl_610 : Cond.code ⟨"FrameDeltas$Planner", "measure", "(LFrameDeltas$State;LFrameDeltas$Coder;LFrameDeltas$Frame;I)V"⟩ prog_5_method_3_code 6 (Option.none : Option Jvm.ClassFile.FieldType) ∈ zTs := zTs_t (List.mem_of_getElem? (i := 610) (by decide +kernel)) (by decide +kernel)
theorem zl_611 : Cond.methodLinkNest "FrameDeltas$Planner" 59 ⟨"FrameDeltas$State", "imageOf", "(I)LFrameDeltas$Image;"⟩ "FrameDeltas" ∈ zNs := zNs_t (List.mem_of_getElem? (i := 611) (by decide +kernel)) (by rfl)
theorem zl_612 : Cond.methodLinkNest "FrameDeltas$Planner" 63 ⟨"FrameDeltas$Image", "take", "(LFrameDeltas$Image;)V"⟩ "FrameDeltas" ∈ zNs := zNs_t (List.mem_of_getElem? (i := 612) (by decide +kernel)) (by rfl)
theorem zl_613 : Cond.methodLinkNest "FrameDeltas$Planner" 69 ⟨"FrameDeltas$Coder", "encode", "(LFrameDeltas$Frame;LFrameDeltas$State;I)V"⟩ "FrameDeltas" ∈ zNs := zNs_t (List.mem_of_getElem? (i := 613) (by decide +kernel)) (by rfl)
theorem zl_614 : Cond.methodLink "FrameDeltas$Planner" 43 ⟨"FrameDeltas$Planner", "costOf", "(III)I"⟩ ∈ zTs := zTs_t (List.mem_of_getElem? (i := 614) (by decide +kernel)) (by decide +kernel)
theorem zl_616 : Cond.instanceMethod ⟨"FrameDeltas$Planner", "costOf", "(III)I"⟩ ∈ zTs := zTs_t (List.mem_of_getElem? (i := 616) (by decide +kernel)) (by decide +kernel)
theorem zl_617 : Cond.code ⟨"FrameDeltas$Planner", "costOf", "(III)I"⟩ prog_5_method_4_code 10 (Option.some Jvm.ClassFile.FieldType.int) ∈ zTs := zTs_t (List.mem_of_getElem? (i := 617) (by decide +kernel)) (by decide +kernel)
theorem zl_618 : Cond.methodLink "FrameDeltas$Planner" 76 ⟨"java/lang/Math", "max", "(II)I"⟩ ∈ zTs := zTs_t (List.mem_of_getElem? (i := 618) (by decide +kernel)) (by decide +kernel)
theorem zl_619 : Cond.methodLink "FrameDeltas$Planner" 47 ⟨"java/lang/Integer", "bitCount", "(I)I"⟩ ∈ zTs := zTs_t (List.mem_of_getElem? (i := 619) (by decide +kernel)) (by decide +kernel)
theorem zl_620 : Cond.static ⟨"java/lang/Integer", "bitCount", "(I)I"⟩ ∈ zTs := zTs_t (List.mem_of_getElem? (i := 620) (by decide +kernel)) (by decide +kernel)
theorem zl_621 : Cond.code ⟨"java/lang/Integer", "bitCount", "(I)I"⟩ prog_11_method_49_code 1 (Option.some Jvm.ClassFile.FieldType.int) ∈ zTs := zTs_t (List.mem_of_getElem? (i := 621) (by decide +kernel)) (by decide +kernel)
theorem zl_622 : Cond.constant "java/lang/Integer" 265 (1431655765 : Int32) ∈ zTs := zTs_t (List.mem_of_getElem? (i := 622) (by decide +kernel)) (by decide +kernel)
theorem zl_623 : Cond.constant "java/lang/Integer" 266 (858993459 : Int32) ∈ zTs := zTs_t (List.mem_of_getElem? (i := 623) (by decide +kernel)) (by decide +kernel)
theorem zl_624 : Cond.constant "java/lang/Integer" 267 (252645135 : Int32) ∈ zTs := zTs_t (List.mem_of_getElem? (i := 624) (by decide +kernel)) (by decide +kernel)
theorem zl_625 : Cond.methodLinkNest "FrameDeltas" 150 ⟨"FrameDeltas$Planner", "referenceOf", "(I)I"⟩ "FrameDeltas" ∈ zNs := zNs_t (List.mem_of_getElem? (i := 625) (by decide +kernel)) (by rfl)
theorem zl_627 : Cond.instanceMethod ⟨"FrameDeltas$Planner", "referenceOf", "(I)I"⟩ ∈ zTs := zTs_t (List.mem_of_getElem? (i := 627) (by decide +kernel)) (by decide +kernel)
theorem zl_628 : Cond.code ⟨"FrameDeltas$Planner", "referenceOf", "(I)I"⟩ prog_5_method_5_code 2 (Option.some Jvm.ClassFile.FieldType.int) ∈ zTs := zTs_t (List.mem_of_getElem? (i := 628) (by decide +kernel)) (by decide +kernel)
theorem zl_629 : Cond.methodLink "FrameDeltasLaw" 65 ⟨"FrameDeltas", "setLimits", "(III)I"⟩ ∈ zTs := zTs_t (List.mem_of_getElem? (i := 629) (by decide +kernel)) (by decide +kernel)
theorem zl_630 : Cond.instanceMethod ⟨"FrameDeltas", "setLimits", "(III)I"⟩ ∈ zTs := zTs_t (List.mem_of_getElem? (i := 630) (by decide +kernel)) (by decide +kernel)
theorem zl_631 : Cond.selects "FrameDeltas" ⟨"FrameDeltas", "setLimits", "(III)I"⟩ ⟨"FrameDeltas", "setLimits", "(III)I"⟩ ∈ zTs := zTs_t (List.mem_of_getElem? (i := 631) (by decide +kernel)) (by decide +kernel)
theorem zl_632 : Cond.code ⟨"FrameDeltas", "setLimits", "(III)I"⟩ prog_1_method_14_code 5 (Option.some Jvm.ClassFile.FieldType.int) ∈ zTs := zTs_t (List.mem_of_getElem? (i := 632) (by decide +kernel)) (by decide +kernel)
theorem zl_633 : Cond.methodLink "FrameDeltasLaw" 69 ⟨"FrameDeltas", "setLost", "(II)I"⟩ ∈ zTs := zTs_t (List.mem_of_getElem? (i := 633) (by decide +kernel)) (by decide +kernel)
theorem zl_634 : Cond.instanceMethod ⟨"FrameDeltas", "setLost", "(II)I"⟩ ∈ zTs := zTs_t (List.mem_of_getElem? (i := 634) (by decide +kernel)) (by decide +kernel)
theorem zl_635 : Cond.selects "FrameDeltas" ⟨"FrameDeltas", "setLost", "(II)I"⟩ ⟨"FrameDeltas", "setLost", "(II)I"⟩ ∈ zTs := zTs_t (List.mem_of_getElem? (i := 635) (by decide +kernel)) (by decide +kernel)
theorem zl_636 : Cond.code ⟨"FrameDeltas", "setLost", "(II)I"⟩ prog_1_method_15_code 4 (Option.some Jvm.ClassFile.FieldType.int) ∈ zTs := zTs_t (List.mem_of_getElem? (i := 636) (by decide +kernel)) (by decide +kernel)
theorem zl_637 : Cond.methodLinkNest "FrameDeltas" 173 ⟨"FrameDeltas$State", "readableFrames", "()I"⟩ "FrameDeltas" ∈ zNs := zNs_t (List.mem_of_getElem? (i := 637) (by decide +kernel)) (by rfl)
theorem zl_639 : Cond.instanceMethod ⟨"FrameDeltas$State", "readableFrames", "()I"⟩ ∈ zTs := zTs_t (List.mem_of_getElem? (i := 639) (by decide +kernel)) (by decide +kernel)
theorem zl_640 : Cond.code ⟨"FrameDeltas$State", "readableFrames", "()I"⟩ prog_8_method_12_code 3 (Option.some Jvm.ClassFile.FieldType.int) ∈ zTs := zTs_t (List.mem_of_getElem? (i := 640) (by decide +kernel)) (by decide +kernel)
theorem zl_641 : Cond.methodLink "FrameDeltasLaw" 73 ⟨"FrameDeltas", "frame", "(II)I"⟩ ∈ zTs := zTs_t (List.mem_of_getElem? (i := 641) (by decide +kernel)) (by decide +kernel)
theorem zl_642 : Cond.instanceMethod ⟨"FrameDeltas", "frame", "(II)I"⟩ ∈ zTs := zTs_t (List.mem_of_getElem? (i := 642) (by decide +kernel)) (by decide +kernel)
theorem zl_643 : Cond.selects "FrameDeltas" ⟨"FrameDeltas", "frame", "(II)I"⟩ ⟨"FrameDeltas", "frame", "(II)I"⟩ ∈ zTs := zTs_t (List.mem_of_getElem? (i := 643) (by decide +kernel)) (by decide +kernel)
theorem zl_644 : Cond.code ⟨"FrameDeltas", "frame", "(II)I"⟩ prog_1_method_16_code 4 (Option.some Jvm.ClassFile.FieldType.int) ∈ zTs := zTs_t (List.mem_of_getElem? (i := 644) (by decide +kernel)) (by decide +kernel)
theorem zl_645 : Cond.methodLinkNest "FrameDeltas" 180 ⟨"FrameDeltas$State", "seekCost", "(I)I"⟩ "FrameDeltas" ∈ zNs := zNs_t (List.mem_of_getElem? (i := 645) (by decide +kernel)) (by rfl)
theorem zl_647 : Cond.instanceMethod ⟨"FrameDeltas$State", "seekCost", "(I)I"⟩ ∈ zTs := zTs_t (List.mem_of_getElem? (i := 647) (by decide +kernel)) (by decide +kernel)
theorem zl_648 : Cond.code ⟨"FrameDeltas$State", "seekCost", "(I)I"⟩ prog_8_method_10_code 5 (Option.some Jvm.ClassFile.FieldType.int) ∈ zTs := zTs_t (List.mem_of_getElem? (i := 648) (by decide +kernel)) (by decide +kernel)
theorem zl_649 : Cond.methodLinkNest "FrameDeltas" 186 ⟨"FrameDeltas$Frame", "codesOfKind", "(I)I"⟩ "FrameDeltas" ∈ zNs := zNs_t (List.mem_of_getElem? (i := 649) (by decide +kernel)) (by rfl)
theorem zl_651 : Cond.instanceMethod ⟨"FrameDeltas$Frame", "codesOfKind", "(I)I"⟩ ∈ zTs := zTs_t (List.mem_of_getElem? (i := 651) (by decide +kernel)) (by decide +kernel)
theorem zl_652 : Cond.code ⟨"FrameDeltas$Frame", "codesOfKind", "(I)I"⟩ prog_3_method_5_code 4 (Option.some Jvm.ClassFile.FieldType.int) ∈ zTs := zTs_t (List.mem_of_getElem? (i := 652) (by decide +kernel)) (by decide +kernel)
theorem zl_653 : Cond.methodLinkNest "FrameDeltas$Frame" 43 ⟨"FrameDeltas$Image", "blocks", "()I"⟩ "FrameDeltas" ∈ zNs := zNs_t (List.mem_of_getElem? (i := 653) (by decide +kernel)) (by rfl)
theorem zl_654 : Cond.methodLink "FrameDeltas$Frame" 47 ⟨"FrameDeltas$Frame", "codePart", "(II)I"⟩ ∈ zTs := zTs_t (List.mem_of_getElem? (i := 654) (by decide +kernel)) (by decide +kernel)
theorem zl_656 : Cond.instanceMethod ⟨"FrameDeltas$Frame", "codePart", "(II)I"⟩ ∈ zTs := zTs_t (List.mem_of_getElem? (i := 656) (by decide +kernel)) (by decide +kernel)
theorem zl_657 : Cond.code ⟨"FrameDeltas$Frame", "codePart", "(II)I"⟩ prog_3_method_3_code 4 (Option.some Jvm.ClassFile.FieldType.int) ∈ zTs := zTs_t (List.mem_of_getElem? (i := 657) (by decide +kernel)) (by decide +kernel)
theorem zl_658 : Cond.methodLink "FrameDeltasLaw" 77 ⟨"FrameDeltas", "code", "(III)I"⟩ ∈ zTs := zTs_t (List.mem_of_getElem? (i := 658) (by decide +kernel)) (by decide +kernel)
theorem zl_659 : Cond.instanceMethod ⟨"FrameDeltas", "code", "(III)I"⟩ ∈ zTs := zTs_t (List.mem_of_getElem? (i := 659) (by decide +kernel)) (by decide +kernel)
theorem zl_660 : Cond.selects "FrameDeltas" ⟨"FrameDeltas", "code", "(III)I"⟩ ⟨"FrameDeltas", "code", "(III)I"⟩ ∈ zTs := zTs_t (List.mem_of_getElem? (i := 660) (by decide +kernel)) (by decide +kernel)
theorem zl_661 : Cond.code ⟨"FrameDeltas", "code", "(III)I"⟩ prog_1_method_17_code 6 (Option.some Jvm.ClassFile.FieldType.int) ∈ zTs := zTs_t (List.mem_of_getElem? (i := 661) (by decide +kernel)) (by decide +kernel)
theorem zl_662 : Cond.methodLinkNest "FrameDeltas" 189 ⟨"FrameDeltas$Image", "hasBlock", "(I)Z"⟩ "FrameDeltas" ∈ zNs := zNs_t (List.mem_of_getElem? (i := 662) (by decide +kernel)) (by rfl)
theorem zl_664 : Cond.instanceMethod ⟨"FrameDeltas$Image", "hasBlock", "(I)Z"⟩ ∈ zTs := zTs_t (List.mem_of_getElem? (i := 664) (by decide +kernel)) (by decide +kernel)
theorem zl_665 : Cond.code ⟨"FrameDeltas$Image", "hasBlock", "(I)Z"⟩ prog_4_method_9_code 2 (Option.some Jvm.ClassFile.FieldType.boolean) ∈ zTs := zTs_t (List.mem_of_getElem? (i := 665) (by decide +kernel)) (by decide +kernel)
theorem zl_666 : Cond.methodLink "FrameDeltas$Image" 28 ⟨"FrameDeltas$Image", "blocks", "()I"⟩ ∈ zTs := zTs_t (List.mem_of_getElem? (i := 666) (by decide +kernel)) (by decide +kernel)
theorem zl_667 : Cond.methodLinkNest "FrameDeltas" 192 ⟨"FrameDeltas$Frame", "codePart", "(II)I"⟩ "FrameDeltas" ∈ zNs := zNs_t (List.mem_of_getElem? (i := 667) (by decide +kernel)) (by rfl)
theorem zl_668 : Cond.methodLink "FrameDeltasLaw" 81 ⟨"FrameDeltas", "run", "(IIII)I"⟩ ∈ zTs := zTs_t (List.mem_of_getElem? (i := 668) (by decide +kernel)) (by decide +kernel)
theorem zl_669 : Cond.instanceMethod ⟨"FrameDeltas", "run", "(IIII)I"⟩ ∈ zTs := zTs_t (List.mem_of_getElem? (i := 669) (by decide +kernel)) (by decide +kernel)
theorem zl_670 : Cond.selects "FrameDeltas" ⟨"FrameDeltas", "run", "(IIII)I"⟩ ⟨"FrameDeltas", "run", "(IIII)I"⟩ ∈ zTs := zTs_t (List.mem_of_getElem? (i := 670) (by decide +kernel)) (by decide +kernel)
theorem zl_671 : Cond.code ⟨"FrameDeltas", "run", "(IIII)I"⟩ prog_1_method_18_code 9 (Option.some Jvm.ClassFile.FieldType.int) ∈ zTs := zTs_t (List.mem_of_getElem? (i := 671) (by decide +kernel)) (by decide +kernel)
theorem zl_672 : Cond.methodLinkNest "FrameDeltas" 202 ⟨"FrameDeltas$RunList", "read", "(LFrameDeltas$Image;LFrameDeltas$Image;I)V"⟩ "FrameDeltas" ∈ zNs := zNs_t (List.mem_of_getElem? (i := 672) (by decide +kernel)) (by rfl)
theorem zl_673 : Cond.methodLinkNest "FrameDeltas" 211 ⟨"FrameDeltas$RunList", "lengthOf", "(I)I"⟩ "FrameDeltas" ∈ zNs := zNs_t (List.mem_of_getElem? (i := 673) (by decide +kernel)) (by rfl)
theorem zl_675 : Cond.instanceMethod ⟨"FrameDeltas$RunList", "lengthOf", "(I)I"⟩ ∈ zTs := zTs_t (List.mem_of_getElem? (i := 675) (by decide +kernel)) (by decide +kernel)
theorem zl_676 : Cond.code ⟨"FrameDeltas$RunList", "lengthOf", "(I)I"⟩ prog_6_method_4_code 2 (Option.some Jvm.ClassFile.FieldType.int) ∈ zTs := zTs_t (List.mem_of_getElem? (i := 676) (by decide +kernel)) (by decide +kernel)
theorem zl_677 : Cond.methodLinkNest "FrameDeltas" 214 ⟨"FrameDeltas$RunList", "valueOf", "(I)I"⟩ "FrameDeltas" ∈ zNs := zNs_t (List.mem_of_getElem? (i := 677) (by decide +kernel)) (by rfl)
theorem zl_679 : Cond.instanceMethod ⟨"FrameDeltas$RunList", "valueOf", "(I)I"⟩ ∈ zTs := zTs_t (List.mem_of_getElem? (i := 679) (by decide +kernel)) (by decide +kernel)
theorem zl_680 : Cond.code ⟨"FrameDeltas$RunList", "valueOf", "(I)I"⟩ prog_6_method_5_code 2 (Option.some Jvm.ClassFile.FieldType.int) ∈ zTs := zTs_t (List.mem_of_getElem? (i := 680) (by decide +kernel)) (by decide +kernel)
theorem zl_681 : Cond.methodLink "FrameDeltasLaw" 86 ⟨"FrameDeltas", "pixel", "(II)I"⟩ ∈ zTs := zTs_t (List.mem_of_getElem? (i := 681) (by decide +kernel)) (by decide +kernel)
theorem zl_682 : Cond.instanceMethod ⟨"FrameDeltas", "pixel", "(II)I"⟩ ∈ zTs := zTs_t (List.mem_of_getElem? (i := 682) (by decide +kernel)) (by decide +kernel)
theorem zl_683 : Cond.selects "FrameDeltas" ⟨"FrameDeltas", "pixel", "(II)I"⟩ ⟨"FrameDeltas", "pixel", "(II)I"⟩ ∈ zTs := zTs_t (List.mem_of_getElem? (i := 683) (by decide +kernel)) (by decide +kernel)
theorem zl_684 : Cond.code ⟨"FrameDeltas", "pixel", "(II)I"⟩ prog_1_method_19_code 3 (Option.some Jvm.ClassFile.FieldType.int) ∈ zTs := zTs_t (List.mem_of_getElem? (i := 684) (by decide +kernel)) (by decide +kernel)
theorem zl_685 : Cond.methodLink "FrameDeltasLaw" 90 ⟨"FrameDeltas", "count", "(I)I"⟩ ∈ zTs := zTs_t (List.mem_of_getElem? (i := 685) (by decide +kernel)) (by decide +kernel)
theorem zl_686 : Cond.instanceMethod ⟨"FrameDeltas", "count", "(I)I"⟩ ∈ zTs := zTs_t (List.mem_of_getElem? (i := 686) (by decide +kernel)) (by decide +kernel)
theorem zl_687 : Cond.selects "FrameDeltas" ⟨"FrameDeltas", "count", "(I)I"⟩ ⟨"FrameDeltas", "count", "(I)I"⟩ ∈ zTs := zTs_t (List.mem_of_getElem? (i := 687) (by decide +kernel)) (by decide +kernel)
theorem zl_688 : Cond.code ⟨"FrameDeltas", "count", "(I)I"⟩ prog_1_method_20_code 2 (Option.some Jvm.ClassFile.FieldType.int) ∈ zTs := zTs_t (List.mem_of_getElem? (i := 688) (by decide +kernel)) (by decide +kernel)
theorem zl_689 : Cond.methodLinkNest "FrameDeltas" 223 ⟨"FrameDeltas$State", "costOfRecords", "()I"⟩ "FrameDeltas" ∈ zNs := zNs_t (List.mem_of_getElem? (i := 689) (by decide +kernel)) (by rfl)
theorem zl_691 : Cond.instanceMethod ⟨"FrameDeltas$State", "costOfRecords", "()I"⟩ ∈ zTs := zTs_t (List.mem_of_getElem? (i := 691) (by decide +kernel)) (by decide +kernel)
theorem zl_692 : Cond.code ⟨"FrameDeltas$State", "costOfRecords", "()I"⟩ prog_8_method_13_code 3 (Option.some Jvm.ClassFile.FieldType.int) ∈ zTs := zTs_t (List.mem_of_getElem? (i := 692) (by decide +kernel)) (by decide +kernel)
theorem zl_693 : Cond.methodLink "FrameDeltasLaw" 94 ⟨"FrameDeltas", "costWith", "(I)I"⟩ ∈ zTs := zTs_t (List.mem_of_getElem? (i := 693) (by decide +kernel)) (by decide +kernel)
theorem zl_694 : Cond.instanceMethod ⟨"FrameDeltas", "costWith", "(I)I"⟩ ∈ zTs := zTs_t (List.mem_of_getElem? (i := 694) (by decide +kernel)) (by decide +kernel)
theorem zl_695 : Cond.selects "FrameDeltas" ⟨"FrameDeltas", "costWith", "(I)I"⟩ ⟨"FrameDeltas", "costWith", "(I)I"⟩ ∈ zTs := zTs_t (List.mem_of_getElem? (i := 695) (by decide +kernel)) (by decide +kernel)
theorem zl_696 : Cond.code ⟨"FrameDeltas", "costWith", "(I)I"⟩ prog_1_method_21_code 2 (Option.some Jvm.ClassFile.FieldType.int) ∈ zTs := zTs_t (List.mem_of_getElem? (i := 696) (by decide +kernel)) (by decide +kernel)
theorem zl_697 : Cond.methodLink "FrameDeltasLaw" 98 ⟨"FrameDeltas", "difference", "(II)I"⟩ ∈ zTs := zTs_t (List.mem_of_getElem? (i := 697) (by decide +kernel)) (by decide +kernel)
theorem zl_698 : Cond.instanceMethod ⟨"FrameDeltas", "difference", "(II)I"⟩ ∈ zTs := zTs_t (List.mem_of_getElem? (i := 698) (by decide +kernel)) (by decide +kernel)
theorem zl_699 : Cond.selects "FrameDeltas" ⟨"FrameDeltas", "difference", "(II)I"⟩ ⟨"FrameDeltas", "difference", "(II)I"⟩ ∈ zTs := zTs_t (List.mem_of_getElem? (i := 699) (by decide +kernel)) (by decide +kernel)
theorem zl_700 : Cond.code ⟨"FrameDeltas", "difference", "(II)I"⟩ prog_1_method_22_code 3 (Option.some Jvm.ClassFile.FieldType.int) ∈ zTs := zTs_t (List.mem_of_getElem? (i := 700) (by decide +kernel)) (by decide +kernel)
theorem zl_701 : Cond.methodLinkNest "FrameDeltas" 229 ⟨"FrameDeltas$Image", "cellsUnlike", "(LFrameDeltas$Image;)I"⟩ "FrameDeltas" ∈ zNs := zNs_t (List.mem_of_getElem? (i := 701) (by decide +kernel)) (by rfl)
theorem zl_703 : Cond.instanceMethod ⟨"FrameDeltas$Image", "cellsUnlike", "(LFrameDeltas$Image;)I"⟩ ∈ zTs := zTs_t (List.mem_of_getElem? (i := 703) (by decide +kernel)) (by decide +kernel)
theorem zl_704 : Cond.code ⟨"FrameDeltas$Image", "cellsUnlike", "(LFrameDeltas$Image;)I"⟩ prog_4_method_15_code 4 (Option.some Jvm.ClassFile.FieldType.int) ∈ zTs := zTs_t (List.mem_of_getElem? (i := 704) (by decide +kernel)) (by decide +kernel)
theorem zl_705 : Cond.methodLink "FrameDeltas$Image" 41 ⟨"FrameDeltas$Image", "numbered", "(I)I"⟩ ∈ zTs := zTs_t (List.mem_of_getElem? (i := 705) (by decide +kernel)) (by decide +kernel)
theorem zl_706 : Cond.methodLink "FrameDeltasLaw" 102 ⟨"FrameDeltas", "findBlock", "(II)I"⟩ ∈ zTs := zTs_t (List.mem_of_getElem? (i := 706) (by decide +kernel)) (by decide +kernel)
theorem zl_707 : Cond.instanceMethod ⟨"FrameDeltas", "findBlock", "(II)I"⟩ ∈ zTs := zTs_t (List.mem_of_getElem? (i := 707) (by decide +kernel)) (by decide +kernel)
theorem zl_708 : Cond.selects "FrameDeltas" ⟨"FrameDeltas", "findBlock", "(II)I"⟩ ⟨"FrameDeltas", "findBlock", "(II)I"⟩ ∈ zTs := zTs_t (List.mem_of_getElem? (i := 708) (by decide +kernel)) (by decide +kernel)
theorem zl_709 : Cond.code ⟨"FrameDeltas", "findBlock", "(II)I"⟩ prog_1_method_23_code 8 (Option.some Jvm.ClassFile.FieldType.int) ∈ zTs := zTs_t (List.mem_of_getElem? (i := 709) (by decide +kernel)) (by decide +kernel)
theorem zl_710 : Cond.methodLinkNest "FrameDeltas" 233 ⟨"FrameDeltas$Image", "left", "(I)I"⟩ "FrameDeltas" ∈ zNs := zNs_t (List.mem_of_getElem? (i := 710) (by decide +kernel)) (by rfl)
theorem zl_711 : Cond.methodLinkNest "FrameDeltas" 236 ⟨"FrameDeltas$Image", "top", "(I)I"⟩ "FrameDeltas" ∈ zNs := zNs_t (List.mem_of_getElem? (i := 711) (by decide +kernel)) (by rfl)
theorem zl_712 : Cond.methodLinkNest "FrameDeltas" 239 ⟨"FrameDeltas$Image", "samePart", "(IILFrameDeltas$Image;II)Z"⟩ "FrameDeltas" ∈ zNs := zNs_t (List.mem_of_getElem? (i := 712) (by decide +kernel)) (by rfl)
theorem zl_713 : Cond.methodLink "FrameDeltasLaw" 106 ⟨"FrameDeltas", "falseMatches", "(I)I"⟩ ∈ zTs := zTs_t (List.mem_of_getElem? (i := 713) (by decide +kernel)) (by decide +kernel)
theorem zl_714 : Cond.instanceMethod ⟨"FrameDeltas", "falseMatches", "(I)I"⟩ ∈ zTs := zTs_t (List.mem_of_getElem? (i := 714) (by decide +kernel)) (by decide +kernel)
theorem zl_715 : Cond.selects "FrameDeltas" ⟨"FrameDeltas", "falseMatches", "(I)I"⟩ ⟨"FrameDeltas", "falseMatches", "(I)I"⟩ ∈ zTs := zTs_t (List.mem_of_getElem? (i := 715) (by decide +kernel)) (by decide +kernel)
theorem zl_716 : Cond.code ⟨"FrameDeltas", "falseMatches", "(I)I"⟩ prog_1_method_24_code 2 (Option.some Jvm.ClassFile.FieldType.int) ∈ zTs := zTs_t (List.mem_of_getElem? (i := 716) (by decide +kernel)) (by decide +kernel)
theorem zl_717 : Cond.methodLink "FrameDeltas" 243 ⟨"FrameDeltas", "falsePairs", "(LFrameDeltas$Image;)I"⟩ ∈ zTs := zTs_t (List.mem_of_getElem? (i := 717) (by decide +kernel)) (by decide +kernel)
theorem zl_719 : Cond.instanceMethod ⟨"FrameDeltas", "falsePairs", "(LFrameDeltas$Image;)I"⟩ ∈ zTs := zTs_t (List.mem_of_getElem? (i := 719) (by decide +kernel)) (by decide +kernel)
theorem zl_720 : Cond.code ⟨"FrameDeltas", "falsePairs", "(LFrameDeltas$Image;)I"⟩ prog_1_method_37_code 7 (Option.some Jvm.ClassFile.FieldType.int) ∈ zTs := zTs_t (List.mem_of_getElem? (i := 720) (by decide +kernel)) (by decide +kernel)
theorem zl_721 : Cond.methodLink "FrameDeltas" 271 ⟨"java/lang/Math", "min", "(II)I"⟩ ∈ zTs := zTs_t (List.mem_of_getElem? (i := 721) (by decide +kernel)) (by decide +kernel)
theorem zl_722 : Cond.methodLink "FrameDeltasLaw" 110 ⟨"FrameDeltas", "greatestSeek", "()I"⟩ ∈ zTs := zTs_t (List.mem_of_getElem? (i := 722) (by decide +kernel)) (by decide +kernel)
theorem zl_723 : Cond.instanceMethod ⟨"FrameDeltas", "greatestSeek", "()I"⟩ ∈ zTs := zTs_t (List.mem_of_getElem? (i := 723) (by decide +kernel)) (by decide +kernel)
theorem zl_724 : Cond.selects "FrameDeltas" ⟨"FrameDeltas", "greatestSeek", "()I"⟩ ⟨"FrameDeltas", "greatestSeek", "()I"⟩ ∈ zTs := zTs_t (List.mem_of_getElem? (i := 724) (by decide +kernel)) (by decide +kernel)
theorem zl_725 : Cond.code ⟨"FrameDeltas", "greatestSeek", "()I"⟩ prog_1_method_25_code 3 (Option.some Jvm.ClassFile.FieldType.int) ∈ zTs := zTs_t (List.mem_of_getElem? (i := 725) (by decide +kernel)) (by decide +kernel)
theorem zl_726 : Cond.methodLink "FrameDeltas" 246 ⟨"java/lang/Math", "max", "(II)I"⟩ ∈ zTs := zTs_t (List.mem_of_getElem? (i := 726) (by decide +kernel)) (by decide +kernel)
theorem zl_727 : Cond.methodLink "FrameDeltasLaw" 114 ⟨"FrameDeltas", "dependents", "(I)I"⟩ ∈ zTs := zTs_t (List.mem_of_getElem? (i := 727) (by decide +kernel)) (by decide +kernel)
theorem zl_728 : Cond.instanceMethod ⟨"FrameDeltas", "dependents", "(I)I"⟩ ∈ zTs := zTs_t (List.mem_of_getElem? (i := 728) (by decide +kernel)) (by decide +kernel)
theorem zl_729 : Cond.selects "FrameDeltas" ⟨"FrameDeltas", "dependents", "(I)I"⟩ ⟨"FrameDeltas", "dependents", "(I)I"⟩ ∈ zTs := zTs_t (List.mem_of_getElem? (i := 729) (by decide +kernel)) (by decide +kernel)
theorem zl_730 : Cond.code ⟨"FrameDeltas", "dependents", "(I)I"⟩ prog_1_method_26_code 4 (Option.some Jvm.ClassFile.FieldType.int) ∈ zTs := zTs_t (List.mem_of_getElem? (i := 730) (by decide +kernel)) (by decide +kernel)
theorem zl_731 : Cond.methodLinkNest "FrameDeltas" 251 ⟨"FrameDeltas$State", "chainHas", "(II)Z"⟩ "FrameDeltas" ∈ zNs := zNs_t (List.mem_of_getElem? (i := 731) (by decide +kernel)) (by rfl)
theorem zl_733 : Cond.instanceMethod ⟨"FrameDeltas$State", "chainHas", "(II)Z"⟩ ∈ zTs := zTs_t (List.mem_of_getElem? (i := 733) (by decide +kernel)) (by decide +kernel)
theorem zl_734 : Cond.code ⟨"FrameDeltas$State", "chainHas", "(II)Z"⟩ prog_8_method_11_code 5 (Option.some Jvm.ClassFile.FieldType.boolean) ∈ zTs := zTs_t (List.mem_of_getElem? (i := 734) (by decide +kernel)) (by decide +kernel)
theorem zl_735 : Cond.methodLink "FrameDeltasLaw" 118 ⟨"FrameDeltas", "patch", "(I)I"⟩ ∈ zTs := zTs_t (List.mem_of_getElem? (i := 735) (by decide +kernel)) (by decide +kernel)
theorem zl_736 : Cond.instanceMethod ⟨"FrameDeltas", "patch", "(I)I"⟩ ∈ zTs := zTs_t (List.mem_of_getElem? (i := 736) (by decide +kernel)) (by decide +kernel)
theorem zl_737 : Cond.selects "FrameDeltas" ⟨"FrameDeltas", "patch", "(I)I"⟩ ⟨"FrameDeltas", "patch", "(I)I"⟩ ∈ zTs := zTs_t (List.mem_of_getElem? (i := 737) (by decide +kernel)) (by decide +kernel)
theorem zl_738 : Cond.code ⟨"FrameDeltas", "patch", "(I)I"⟩ prog_1_method_27_code 7 (Option.some Jvm.ClassFile.FieldType.int) ∈ zTs := zTs_t (List.mem_of_getElem? (i := 738) (by decide +kernel)) (by decide +kernel)
theorem zl_739 : Cond.methodLink "FrameDeltasLaw" 122 ⟨"FrameDeltas", "planCost", "()I"⟩ ∈ zTs := zTs_t (List.mem_of_getElem? (i := 739) (by decide +kernel)) (by decide +kernel)
theorem zl_740 : Cond.instanceMethod ⟨"FrameDeltas", "planCost", "()I"⟩ ∈ zTs := zTs_t (List.mem_of_getElem? (i := 740) (by decide +kernel)) (by decide +kernel)
theorem zl_741 : Cond.selects "FrameDeltas" ⟨"FrameDeltas", "planCost", "()I"⟩ ⟨"FrameDeltas", "planCost", "()I"⟩ ∈ zTs := zTs_t (List.mem_of_getElem? (i := 741) (by decide +kernel)) (by decide +kernel)
theorem zl_742 : Cond.code ⟨"FrameDeltas", "planCost", "()I"⟩ prog_1_method_28_code 1 (Option.some Jvm.ClassFile.FieldType.int) ∈ zTs := zTs_t (List.mem_of_getElem? (i := 742) (by decide +kernel)) (by decide +kernel)
theorem zl_743 : Cond.methodLink "FrameDeltasLaw" 126 ⟨"FrameDeltas", "planKeys", "()I"⟩ ∈ zTs := zTs_t (List.mem_of_getElem? (i := 743) (by decide +kernel)) (by decide +kernel)
theorem zl_744 : Cond.instanceMethod ⟨"FrameDeltas", "planKeys", "()I"⟩ ∈ zTs := zTs_t (List.mem_of_getElem? (i := 744) (by decide +kernel)) (by decide +kernel)
theorem zl_745 : Cond.selects "FrameDeltas" ⟨"FrameDeltas", "planKeys", "()I"⟩ ⟨"FrameDeltas", "planKeys", "()I"⟩ ∈ zTs := zTs_t (List.mem_of_getElem? (i := 745) (by decide +kernel)) (by decide +kernel)
theorem zl_746 : Cond.code ⟨"FrameDeltas", "planKeys", "()I"⟩ prog_1_method_29_code 1 (Option.some Jvm.ClassFile.FieldType.int) ∈ zTs := zTs_t (List.mem_of_getElem? (i := 746) (by decide +kernel)) (by decide +kernel)
theorem zl_747 : Cond.methodLink "FrameDeltasLaw" 130 ⟨"FrameDeltas", "undo", "()I"⟩ ∈ zTs := zTs_t (List.mem_of_getElem? (i := 747) (by decide +kernel)) (by decide +kernel)
theorem zl_748 : Cond.instanceMethod ⟨"FrameDeltas", "undo", "()I"⟩ ∈ zTs := zTs_t (List.mem_of_getElem? (i := 748) (by decide +kernel)) (by decide +kernel)
theorem zl_749 : Cond.selects "FrameDeltas" ⟨"FrameDeltas", "undo", "()I"⟩ ⟨"FrameDeltas", "undo", "()I"⟩ ∈ zTs := zTs_t (List.mem_of_getElem? (i := 749) (by decide +kernel)) (by decide +kernel)
theorem zl_750 : Cond.code ⟨"FrameDeltas", "undo", "()I"⟩ prog_1_method_30_code 1 (Option.some Jvm.ClassFile.FieldType.int) ∈ zTs := zTs_t (List.mem_of_getElem? (i := 750) (by decide +kernel)) (by decide +kernel)
theorem zl_757 : Cond.fieldLink "FrameDeltasModel" 7 "FrameDeltasModel" "s" "[I" ∈ zTs := zTs_t (List.mem_of_getElem? (i := 757) (by decide +kernel)) (by decide +kernel)
theorem zl_758 : Cond.fieldLink "FrameDeltasModel" 13 "FrameDeltasModel" "past" "[I" ∈ zTs := zTs_t (List.mem_of_getElem? (i := 758) (by decide +kernel)) (by decide +kernel)
theorem zl_759 : Cond.fieldLink "FrameDeltasModel" 38 "FrameDeltasModel" "pasts" "I" ∈ zTs := zTs_t (List.mem_of_getElem? (i := 759) (by decide +kernel)) (by decide +kernel)
theorem zl_760 : Cond.fieldLink "FrameDeltasModel" 16 "FrameDeltasModel" "text" "[B" ∈ zTs := zTs_t (List.mem_of_getElem? (i := 760) (by decide +kernel)) (by decide +kernel)
theorem zl_761 : Cond.fieldLink "FrameDeltasModel" 67 "FrameDeltasModel" "typed" "I" ∈ zTs := zTs_t (List.mem_of_getElem? (i := 761) (by decide +kernel)) (by decide +kernel)
theorem zl_762 : Cond.fieldLink "FrameDeltasModel" 70 "FrameDeltasModel" "next" "I" ∈ zTs := zTs_t (List.mem_of_getElem? (i := 762) (by decide +kernel)) (by decide +kernel)
theorem zl_763 : Cond.fieldLink "FrameDeltasModel" 76 "FrameDeltasModel" "begin" "I" ∈ zTs := zTs_t (List.mem_of_getElem? (i := 763) (by decide +kernel)) (by decide +kernel)
theorem zl_764 : Cond.fieldLink "FrameDeltasModel" 87 "FrameDeltasModel" "kind" "I" ∈ zTs := zTs_t (List.mem_of_getElem? (i := 764) (by decide +kernel)) (by decide +kernel)
theorem zl_765 : Cond.fieldLink "FrameDeltasModel" 79 "FrameDeltasModel" "told" "J" ∈ zTs := zTs_t (List.mem_of_getElem? (i := 765) (by decide +kernel)) (by decide +kernel)
theorem zl_766 : Cond.fieldLink "FrameDeltasModel" 83 "FrameDeltasModel" "isMinus" "Z" ∈ zTs := zTs_t (List.mem_of_getElem? (i := 766) (by decide +kernel)) (by decide +kernel)
theorem zl_767 : Cond.fieldLink "FrameDeltasModel" 102 "FrameDeltasModel" "isWrong" "Z" ∈ zTs := zTs_t (List.mem_of_getElem? (i := 767) (by decide +kernel)) (by decide +kernel)
theorem zl_768 : Cond.fieldLink "FrameDeltasModel" 20 "FrameDeltasModel" "kept" "[I" ∈ zTs := zTs_t (List.mem_of_getElem? (i := 768) (by decide +kernel)) (by decide +kernel)
theorem zl_769 : Cond.fieldLink "FrameDeltasModel" 23 "FrameDeltasModel" "before" "[I" ∈ zTs := zTs_t (List.mem_of_getElem? (i := 769) (by decide +kernel)) (by decide +kernel)
theorem zl_770 : Cond.fieldLink "FrameDeltasModel" 26 "FrameDeltasModel" "made" "[I" ∈ zTs := zTs_t (List.mem_of_getElem? (i := 770) (by decide +kernel)) (by decide +kernel)
theorem zl_771 : Cond.fieldLink "FrameDeltasModel" 29 "FrameDeltasModel" "keyCost" "[I" ∈ zTs := zTs_t (List.mem_of_getElem? (i := 771) (by decide +kernel)) (by decide +kernel)
theorem zl_772 : Cond.fieldLink "FrameDeltasModel" 32 "FrameDeltasModel" "nextCost" "[I" ∈ zTs := zTs_t (List.mem_of_getElem? (i := 772) (by decide +kernel)) (by decide +kernel)
theorem zl_773 : Cond.fieldLink "FrameDeltasModel" 209 "FrameDeltasModel" "bestKeys" "I" ∈ zTs := zTs_t (List.mem_of_getElem? (i := 773) (by decide +kernel)) (by decide +kernel)
theorem zl_774 : Cond.fieldLink "FrameDeltasModel" 35 "FrameDeltasModel" "digests" "[I" ∈ zTs := zTs_t (List.mem_of_getElem? (i := 774) (by decide +kernel)) (by decide +kernel)
theorem zl_812 : Cond.methodLink "FrameDeltasLaw" 133 ⟨"FrameDeltasModel", "undo", "()I"⟩ ∈ zTs := zTs_t (List.mem_of_getElem? (i := 812) (by decide +kernel)) (by decide +kernel)
theorem zl_813 : Cond.instanceMethod ⟨"FrameDeltasModel", "undo", "()I"⟩ ∈ zTs := zTs_t (List.mem_of_getElem? (i := 813) (by decide +kernel)) (by decide +kernel)
theorem zl_814 : Cond.selects "FrameDeltasModel" ⟨"FrameDeltasModel", "undo", "()I"⟩ ⟨"FrameDeltasModel", "undo", "()I"⟩ ∈ zTs := zTs_t (List.mem_of_getElem? (i := 814) (by decide +kernel)) (by decide +kernel)
theorem zl_815 : Cond.code ⟨"FrameDeltasModel", "undo", "()I"⟩ prog_10_method_5_code 2 (Option.some Jvm.ClassFile.FieldType.int) ∈ zTs := zTs_t (List.mem_of_getElem? (i := 815) (by decide +kernel)) (by decide +kernel)
theorem zl_816 : Cond.methodLink "FrameDeltasLaw" 17 ⟨"FrameDeltasModel", "setSize", "(II)I"⟩ ∈ zTs := zTs_t (List.mem_of_getElem? (i := 816) (by decide +kernel)) (by decide +kernel)
theorem zl_817 : Cond.instanceMethod ⟨"FrameDeltasModel", "setSize", "(II)I"⟩ ∈ zTs := zTs_t (List.mem_of_getElem? (i := 817) (by decide +kernel)) (by decide +kernel)
theorem zl_818 : Cond.selects "FrameDeltasModel" ⟨"FrameDeltasModel", "setSize", "(II)I"⟩ ⟨"FrameDeltasModel", "setSize", "(II)I"⟩ ∈ zTs := zTs_t (List.mem_of_getElem? (i := 818) (by decide +kernel)) (by decide +kernel)
theorem zl_819 : Cond.code ⟨"FrameDeltasModel", "setSize", "(II)I"⟩ prog_10_method_14_code 4 (Option.some Jvm.ClassFile.FieldType.int) ∈ zTs := zTs_t (List.mem_of_getElem? (i := 819) (by decide +kernel)) (by decide +kernel)
theorem zl_820 : Cond.methodLink "FrameDeltasModel" 46 ⟨"FrameDeltasModel", "in", "(III)Z"⟩ ∈ zTs := zTs_t (List.mem_of_getElem? (i := 820) (by decide +kernel)) (by decide +kernel)
theorem zl_821 : Cond.static ⟨"FrameDeltasModel", "in", "(III)Z"⟩ ∈ zTs := zTs_t (List.mem_of_getElem? (i := 821) (by decide +kernel)) (by decide +kernel)
theorem zl_822 : Cond.code ⟨"FrameDeltasModel", "in", "(III)Z"⟩ prog_10_method_3_code 3 (Option.some Jvm.ClassFile.FieldType.boolean) ∈ zTs := zTs_t (List.mem_of_getElem? (i := 822) (by decide +kernel)) (by decide +kernel)
theorem zl_823 : Cond.methodLink "FrameDeltasModel" 58 ⟨"FrameDeltasModel", "note", "()V"⟩ ∈ zTs := zTs_t (List.mem_of_getElem? (i := 823) (by decide +kernel)) (by decide +kernel)
theorem zl_825 : Cond.instanceMethod ⟨"FrameDeltasModel", "note", "()V"⟩ ∈ zTs := zTs_t (List.mem_of_getElem? (i := 825) (by decide +kernel)) (by decide +kernel)
theorem zl_826 : Cond.code ⟨"FrameDeltasModel", "note", "()V"⟩ prog_10_method_4_code 2 (Option.none : Option Jvm.ClassFile.FieldType) ∈ zTs := zTs_t (List.mem_of_getElem? (i := 826) (by decide +kernel)) (by decide +kernel)
theorem zl_827 : Cond.methodLink "FrameDeltasModel" 61 ⟨"FrameDeltasModel", "blocks", "()I"⟩ ∈ zTs := zTs_t (List.mem_of_getElem? (i := 827) (by decide +kernel)) (by decide +kernel)
theorem zl_829 : Cond.instanceMethod ⟨"FrameDeltasModel", "blocks", "()I"⟩ ∈ zTs := zTs_t (List.mem_of_getElem? (i := 829) (by decide +kernel)) (by decide +kernel)
theorem zl_830 : Cond.code ⟨"FrameDeltasModel", "blocks", "()I"⟩ prog_10_method_7_code 1 (Option.some Jvm.ClassFile.FieldType.int) ∈ zTs := zTs_t (List.mem_of_getElem? (i := 830) (by decide +kernel)) (by decide +kernel)
theorem zl_831 : Cond.methodLink "FrameDeltasModel" 42 ⟨"FrameDeltasModel", "cells", "()I"⟩ ∈ zTs := zTs_t (List.mem_of_getElem? (i := 831) (by decide +kernel)) (by decide +kernel)
theorem zl_833 : Cond.instanceMethod ⟨"FrameDeltasModel", "cells", "()I"⟩ ∈ zTs := zTs_t (List.mem_of_getElem? (i := 833) (by decide +kernel)) (by decide +kernel)
theorem zl_834 : Cond.code ⟨"FrameDeltasModel", "cells", "()I"⟩ prog_10_method_6_code 1 (Option.some Jvm.ClassFile.FieldType.int) ∈ zTs := zTs_t (List.mem_of_getElem? (i := 834) (by decide +kernel)) (by decide +kernel)
theorem zl_835 : Cond.methodLink "FrameDeltasLaw" 21 ⟨"FrameDeltasModel", "setCell", "(II)I"⟩ ∈ zTs := zTs_t (List.mem_of_getElem? (i := 835) (by decide +kernel)) (by decide +kernel)
theorem zl_836 : Cond.instanceMethod ⟨"FrameDeltasModel", "setCell", "(II)I"⟩ ∈ zTs := zTs_t (List.mem_of_getElem? (i := 836) (by decide +kernel)) (by decide +kernel)
theorem zl_837 : Cond.selects "FrameDeltasModel" ⟨"FrameDeltasModel", "setCell", "(II)I"⟩ ⟨"FrameDeltasModel", "setCell", "(II)I"⟩ ∈ zTs := zTs_t (List.mem_of_getElem? (i := 837) (by decide +kernel)) (by decide +kernel)
theorem zl_838 : Cond.code ⟨"FrameDeltasModel", "setCell", "(II)I"⟩ prog_10_method_16_code 4 (Option.some Jvm.ClassFile.FieldType.int) ∈ zTs := zTs_t (List.mem_of_getElem? (i := 838) (by decide +kernel)) (by decide +kernel)
theorem zl_839 : Cond.methodLink "FrameDeltasModel" 64 ⟨"FrameDeltasModel", "isCell", "(I)Z"⟩ ∈ zTs := zTs_t (List.mem_of_getElem? (i := 839) (by decide +kernel)) (by decide +kernel)
theorem zl_841 : Cond.instanceMethod ⟨"FrameDeltasModel", "isCell", "(I)Z"⟩ ∈ zTs := zTs_t (List.mem_of_getElem? (i := 841) (by decide +kernel)) (by decide +kernel)
theorem zl_842 : Cond.code ⟨"FrameDeltasModel", "isCell", "(I)Z"⟩ prog_10_method_15_code 2 (Option.some Jvm.ClassFile.FieldType.boolean) ∈ zTs := zTs_t (List.mem_of_getElem? (i := 842) (by decide +kernel)) (by decide +kernel)
theorem zl_843 : Cond.methodLink "FrameDeltasLaw" 26 ⟨"FrameDeltasModel", "cell", "(I)I"⟩ ∈ zTs := zTs_t (List.mem_of_getElem? (i := 843) (by decide +kernel)) (by decide +kernel)
theorem zl_844 : Cond.instanceMethod ⟨"FrameDeltasModel", "cell", "(I)I"⟩ ∈ zTs := zTs_t (List.mem_of_getElem? (i := 844) (by decide +kernel)) (by decide +kernel)
theorem zl_845 : Cond.selects "FrameDeltasModel" ⟨"FrameDeltasModel", "cell", "(I)I"⟩ ⟨"FrameDeltasModel", "cell", "(I)I"⟩ ∈ zTs := zTs_t (List.mem_of_getElem? (i := 845) (by decide +kernel)) (by decide +kernel)
theorem zl_846 : Cond.code ⟨"FrameDeltasModel", "cell", "(I)I"⟩ prog_10_method_17_code 2 (Option.some Jvm.ClassFile.FieldType.int) ∈ zTs := zTs_t (List.mem_of_getElem? (i := 846) (by decide +kernel)) (by decide +kernel)
theorem zl_847 : Cond.methodLink "FrameDeltasLaw" 30 ⟨"FrameDeltasModel", "appendCharacter", "(I)I"⟩ ∈ zTs := zTs_t (List.mem_of_getElem? (i := 847) (by decide +kernel)) (by decide +kernel)
theorem zl_848 : Cond.instanceMethod ⟨"FrameDeltasModel", "appendCharacter", "(I)I"⟩ ∈ zTs := zTs_t (List.mem_of_getElem? (i := 848) (by decide +kernel)) (by decide +kernel)
theorem zl_849 : Cond.selects "FrameDeltasModel" ⟨"FrameDeltasModel", "appendCharacter", "(I)I"⟩ ⟨"FrameDeltasModel", "appendCharacter", "(I)I"⟩ ∈ zTs := zTs_t (List.mem_of_getElem? (i := 849) (by decide +kernel)) (by decide +kernel)
theorem zl_850 : Cond.code ⟨"FrameDeltasModel", "appendCharacter", "(I)I"⟩ prog_10_method_18_code 2 (Option.some Jvm.ClassFile.FieldType.int) ∈ zTs := zTs_t (List.mem_of_getElem? (i := 850) (by decide +kernel)) (by decide +kernel)
theorem zl_851 : Cond.methodLink "FrameDeltasLaw" 35 ⟨"FrameDeltasModel", "clearText", "()I"⟩ ∈ zTs := zTs_t (List.mem_of_getElem? (i := 851) (by decide +kernel)) (by decide +kernel)
theorem zl_852 : Cond.instanceMethod ⟨"FrameDeltasModel", "clearText", "()I"⟩ ∈ zTs := zTs_t (List.mem_of_getElem? (i := 852) (by decide +kernel)) (by decide +kernel)
theorem zl_853 : Cond.selects "FrameDeltasModel" ⟨"FrameDeltasModel", "clearText", "()I"⟩ ⟨"FrameDeltasModel", "clearText", "()I"⟩ ∈ zTs := zTs_t (List.mem_of_getElem? (i := 853) (by decide +kernel)) (by decide +kernel)
theorem zl_854 : Cond.code ⟨"FrameDeltasModel", "clearText", "()I"⟩ prog_10_method_19_code 2 (Option.some Jvm.ClassFile.FieldType.int) ∈ zTs := zTs_t (List.mem_of_getElem? (i := 854) (by decide +kernel)) (by decide +kernel)
theorem zl_855 : Cond.methodLink "FrameDeltasLaw" 39 ⟨"FrameDeltasModel", "draw", "()I"⟩ ∈ zTs := zTs_t (List.mem_of_getElem? (i := 855) (by decide +kernel)) (by decide +kernel)
theorem zl_856 : Cond.instanceMethod ⟨"FrameDeltasModel", "draw", "()I"⟩ ∈ zTs := zTs_t (List.mem_of_getElem? (i := 856) (by decide +kernel)) (by decide +kernel)
theorem zl_857 : Cond.selects "FrameDeltasModel" ⟨"FrameDeltasModel", "draw", "()I"⟩ ⟨"FrameDeltasModel", "draw", "()I"⟩ ∈ zTs := zTs_t (List.mem_of_getElem? (i := 857) (by decide +kernel)) (by decide +kernel)
theorem zl_858 : Cond.code ⟨"FrameDeltasModel", "draw", "()I"⟩ prog_10_method_30_code 2 (Option.some Jvm.ClassFile.FieldType.int) ∈ zTs := zTs_t (List.mem_of_getElem? (i := 858) (by decide +kernel)) (by decide +kernel)
theorem zl_859 : Cond.methodLink "FrameDeltasModel" 105 ⟨"FrameDeltasModel", "readsToken", "()V"⟩ ∈ zTs := zTs_t (List.mem_of_getElem? (i := 859) (by decide +kernel)) (by decide +kernel)
theorem zl_861 : Cond.instanceMethod ⟨"FrameDeltasModel", "readsToken", "()V"⟩ ∈ zTs := zTs_t (List.mem_of_getElem? (i := 861) (by decide +kernel)) (by decide +kernel)
theorem zl_862 : Cond.code ⟨"FrameDeltasModel", "readsToken", "()V"⟩ prog_10_method_21_code 2 (Option.none : Option Jvm.ClassFile.FieldType) ∈ zTs := zTs_t (List.mem_of_getElem? (i := 862) (by decide +kernel)) (by decide +kernel)
theorem zl_863 : Cond.methodLink "FrameDeltasModel" 73 ⟨"FrameDeltasModel", "here", "()I"⟩ ∈ zTs := zTs_t (List.mem_of_getElem? (i := 863) (by decide +kernel)) (by decide +kernel)
theorem zl_865 : Cond.instanceMethod ⟨"FrameDeltasModel", "here", "()I"⟩ ∈ zTs := zTs_t (List.mem_of_getElem? (i := 865) (by decide +kernel)) (by decide +kernel)
theorem zl_866 : Cond.code ⟨"FrameDeltasModel", "here", "()I"⟩ prog_10_method_20_code 1 (Option.some Jvm.ClassFile.FieldType.int) ∈ zTs := zTs_t (List.mem_of_getElem? (i := 866) (by decide +kernel)) (by decide +kernel)
theorem zl_867 : Cond.constantLong "FrameDeltasModel" 90 (27 : Int64) ∈ zTs := zTs_t (List.mem_of_getElem? (i := 867) (by decide +kernel)) (by decide +kernel)
theorem zl_868 : Cond.constantLong "FrameDeltasModel" 92 (97 : Int64) ∈ zTs := zTs_t (List.mem_of_getElem? (i := 868) (by decide +kernel)) (by decide +kernel)
theorem zl_869 : Cond.constantLong "FrameDeltasModel" 94 (-1 : Int64) ∈ zTs := zTs_t (List.mem_of_getElem? (i := 869) (by decide +kernel)) (by decide +kernel)
theorem zl_870 : Cond.constantLong "FrameDeltasModel" 96 (1000 : Int64) ∈ zTs := zTs_t (List.mem_of_getElem? (i := 870) (by decide +kernel)) (by decide +kernel)
theorem zl_871 : Cond.constantLong "FrameDeltasModel" 98 (10 : Int64) ∈ zTs := zTs_t (List.mem_of_getElem? (i := 871) (by decide +kernel)) (by decide +kernel)
theorem zl_872 : Cond.constantLong "FrameDeltasModel" 100 (48 : Int64) ∈ zTs := zTs_t (List.mem_of_getElem? (i := 872) (by decide +kernel)) (by decide +kernel)
theorem zl_873 : Cond.methodLink "FrameDeltasModel" 146 ⟨"FrameDeltasModel", "readsCommand", "()V"⟩ ∈ zTs := zTs_t (List.mem_of_getElem? (i := 873) (by decide +kernel)) (by decide +kernel)
theorem zl_875 : Cond.instanceMethod ⟨"FrameDeltasModel", "readsCommand", "()V"⟩ ∈ zTs := zTs_t (List.mem_of_getElem? (i := 875) (by decide +kernel)) (by decide +kernel)
theorem zl_876 : Cond.code ⟨"FrameDeltasModel", "readsCommand", "()V"⟩ prog_10_method_28_code 11 (Option.none : Option Jvm.ClassFile.FieldType) ∈ zTs := zTs_t (List.mem_of_getElem? (i := 876) (by decide +kernel)) (by decide +kernel)
theorem zl_877 : Cond.constantLong "FrameDeltasModel" 119 (124995 : Int64) ∈ zTs := zTs_t (List.mem_of_getElem? (i := 877) (by decide +kernel)) (by decide +kernel)
theorem zl_878 : Cond.constantLong "FrameDeltasModel" 121 (1887 : Int64) ∈ zTs := zTs_t (List.mem_of_getElem? (i := 878) (by decide +kernel)) (by decide +kernel)
theorem zl_879 : Cond.constantLong "FrameDeltasModel" 123 (10261586 : Int64) ∈ zTs := zTs_t (List.mem_of_getElem? (i := 879) (by decide +kernel)) (by decide +kernel)
theorem zl_880 : Cond.constantLong "FrameDeltasModel" 125 (390787 : Int64) ∈ zTs := zTs_t (List.mem_of_getElem? (i := 880) (by decide +kernel)) (by decide +kernel)
theorem zl_881 : Cond.constantLong "FrameDeltasModel" 127 (3544025 : Int64) ∈ zTs := zTs_t (List.mem_of_getElem? (i := 881) (by decide +kernel)) (by decide +kernel)
theorem zl_882 : Cond.methodLink "FrameDeltasModel" 108 ⟨"FrameDeltasModel", "takes", "(Z)V"⟩ ∈ zTs := zTs_t (List.mem_of_getElem? (i := 882) (by decide +kernel)) (by decide +kernel)
theorem zl_884 : Cond.instanceMethod ⟨"FrameDeltasModel", "takes", "(Z)V"⟩ ∈ zTs := zTs_t (List.mem_of_getElem? (i := 884) (by decide +kernel)) (by decide +kernel)
theorem zl_885 : Cond.code ⟨"FrameDeltasModel", "takes", "(Z)V"⟩ prog_10_method_22_code 2 (Option.none : Option Jvm.ClassFile.FieldType) ∈ zTs := zTs_t (List.mem_of_getElem? (i := 885) (by decide +kernel)) (by decide +kernel)
theorem zl_886 : Cond.methodLink "FrameDeltasModel" 129 ⟨"FrameDeltasModel", "takesNumber", "(II)I"⟩ ∈ zTs := zTs_t (List.mem_of_getElem? (i := 886) (by decide +kernel)) (by decide +kernel)
theorem zl_888 : Cond.instanceMethod ⟨"FrameDeltasModel", "takesNumber", "(II)I"⟩ ∈ zTs := zTs_t (List.mem_of_getElem? (i := 888) (by decide +kernel)) (by decide +kernel)
theorem zl_889 : Cond.code ⟨"FrameDeltasModel", "takesNumber", "(II)I"⟩ prog_10_method_23_code 5 (Option.some Jvm.ClassFile.FieldType.int) ∈ zTs := zTs_t (List.mem_of_getElem? (i := 889) (by decide +kernel)) (by decide +kernel)
theorem zl_890 : Cond.methodLink "FrameDeltasModel" 132 ⟨"FrameDeltasModel", "fillsBox", "(IIIII)V"⟩ ∈ zTs := zTs_t (List.mem_of_getElem? (i := 890) (by decide +kernel)) (by decide +kernel)
theorem zl_892 : Cond.instanceMethod ⟨"FrameDeltasModel", "fillsBox", "(IIIII)V"⟩ ∈ zTs := zTs_t (List.mem_of_getElem? (i := 892) (by decide +kernel)) (by decide +kernel)
theorem zl_893 : Cond.code ⟨"FrameDeltasModel", "fillsBox", "(IIIII)V"⟩ prog_10_method_26_code 9 (Option.none : Option Jvm.ClassFile.FieldType) ∈ zTs := zTs_t (List.mem_of_getElem? (i := 893) (by decide +kernel)) (by decide +kernel)
theorem zl_894 : Cond.methodLink "FrameDeltasModel" 136 ⟨"FrameDeltasModel", "shifts", "(II)V"⟩ ∈ zTs := zTs_t (List.mem_of_getElem? (i := 894) (by decide +kernel)) (by decide +kernel)
theorem zl_896 : Cond.instanceMethod ⟨"FrameDeltasModel", "shifts", "(II)V"⟩ ∈ zTs := zTs_t (List.mem_of_getElem? (i := 896) (by decide +kernel)) (by decide +kernel)
theorem zl_897 : Cond.code ⟨"FrameDeltasModel", "shifts", "(II)V"⟩ prog_10_method_27_code 6 (Option.none : Option Jvm.ClassFile.FieldType) ∈ zTs := zTs_t (List.mem_of_getElem? (i := 897) (by decide +kernel)) (by decide +kernel)
theorem zl_898 : Cond.methodLink "FrameDeltasModel" 112 ⟨"FrameDeltasModel", "keeps", "()V"⟩ ∈ zTs := zTs_t (List.mem_of_getElem? (i := 898) (by decide +kernel)) (by decide +kernel)
theorem zl_900 : Cond.instanceMethod ⟨"FrameDeltasModel", "keeps", "()V"⟩ ∈ zTs := zTs_t (List.mem_of_getElem? (i := 900) (by decide +kernel)) (by decide +kernel)
theorem zl_901 : Cond.code ⟨"FrameDeltasModel", "keeps", "()V"⟩ prog_10_method_25_code 2 (Option.none : Option Jvm.ClassFile.FieldType) ∈ zTs := zTs_t (List.mem_of_getElem? (i := 901) (by decide +kernel)) (by decide +kernel)
theorem zl_902 : Cond.methodLink "FrameDeltasModel" 115 ⟨"FrameDeltasModel", "place", "(II)I"⟩ ∈ zTs := zTs_t (List.mem_of_getElem? (i := 902) (by decide +kernel)) (by decide +kernel)
theorem zl_904 : Cond.instanceMethod ⟨"FrameDeltasModel", "place", "(II)I"⟩ ∈ zTs := zTs_t (List.mem_of_getElem? (i := 904) (by decide +kernel)) (by decide +kernel)
theorem zl_905 : Cond.code ⟨"FrameDeltasModel", "place", "(II)I"⟩ prog_10_method_24_code 3 (Option.some Jvm.ClassFile.FieldType.int) ∈ zTs := zTs_t (List.mem_of_getElem? (i := 905) (by decide +kernel)) (by decide +kernel)
theorem zl_906 : Cond.methodLink "FrameDeltasModel" 140 ⟨"FrameDeltasModel", "isFrame", "(I)Z"⟩ ∈ zTs := zTs_t (List.mem_of_getElem? (i := 906) (by decide +kernel)) (by decide +kernel)
theorem zl_908 : Cond.instanceMethod ⟨"FrameDeltasModel", "isFrame", "(I)Z"⟩ ∈ zTs := zTs_t (List.mem_of_getElem? (i := 908) (by decide +kernel)) (by decide +kernel)
theorem zl_909 : Cond.code ⟨"FrameDeltasModel", "isFrame", "(I)Z"⟩ prog_10_method_8_code 2 (Option.some Jvm.ClassFile.FieldType.boolean) ∈ zTs := zTs_t (List.mem_of_getElem? (i := 909) (by decide +kernel)) (by decide +kernel)
theorem zl_910 : Cond.methodLink "FrameDeltasModel" 54 ⟨"FrameDeltasModel", "isGood", "(I)Z"⟩ ∈ zTs := zTs_t (List.mem_of_getElem? (i := 910) (by decide +kernel)) (by decide +kernel)
theorem zl_912 : Cond.instanceMethod ⟨"FrameDeltasModel", "isGood", "(I)Z"⟩ ∈ zTs := zTs_t (List.mem_of_getElem? (i := 912) (by decide +kernel)) (by decide +kernel)
theorem zl_913 : Cond.code ⟨"FrameDeltasModel", "isGood", "(I)Z"⟩ prog_10_method_12_code 4 (Option.some Jvm.ClassFile.FieldType.boolean) ∈ zTs := zTs_t (List.mem_of_getElem? (i := 913) (by decide +kernel)) (by decide +kernel)
theorem zl_914 : Cond.methodLink "FrameDeltasModel" 50 ⟨"FrameDeltasModel", "reference", "(I)I"⟩ ∈ zTs := zTs_t (List.mem_of_getElem? (i := 914) (by decide +kernel)) (by decide +kernel)
theorem zl_916 : Cond.instanceMethod ⟨"FrameDeltasModel", "reference", "(I)I"⟩ ∈ zTs := zTs_t (List.mem_of_getElem? (i := 916) (by decide +kernel)) (by decide +kernel)
theorem zl_917 : Cond.code ⟨"FrameDeltasModel", "reference", "(I)I"⟩ prog_10_method_10_code 2 (Option.some Jvm.ClassFile.FieldType.int) ∈ zTs := zTs_t (List.mem_of_getElem? (i := 917) (by decide +kernel)) (by decide +kernel)
theorem zl_918 : Cond.methodLink "FrameDeltasModel" 143 ⟨"FrameDeltasModel", "value", "(II)I"⟩ ∈ zTs := zTs_t (List.mem_of_getElem? (i := 918) (by decide +kernel)) (by decide +kernel)
theorem zl_920 : Cond.instanceMethod ⟨"FrameDeltasModel", "value", "(II)I"⟩ ∈ zTs := zTs_t (List.mem_of_getElem? (i := 920) (by decide +kernel)) (by decide +kernel)
theorem zl_921 : Cond.code ⟨"FrameDeltasModel", "value", "(II)I"⟩ prog_10_method_9_code 3 (Option.some Jvm.ClassFile.FieldType.int) ∈ zTs := zTs_t (List.mem_of_getElem? (i := 921) (by decide +kernel)) (by decide +kernel)
theorem zl_922 : Cond.methodLink "FrameDeltasModel" 149 ⟨"FrameDeltasModel", "exchanges", "()V"⟩ ∈ zTs := zTs_t (List.mem_of_getElem? (i := 922) (by decide +kernel)) (by decide +kernel)
theorem zl_924 : Cond.instanceMethod ⟨"FrameDeltasModel", "exchanges", "()V"⟩ ∈ zTs := zTs_t (List.mem_of_getElem? (i := 924) (by decide +kernel)) (by decide +kernel)
theorem zl_925 : Cond.code ⟨"FrameDeltasModel", "exchanges", "()V"⟩ prog_10_method_29_code 3 (Option.none : Option Jvm.ClassFile.FieldType) ∈ zTs := zTs_t (List.mem_of_getElem? (i := 925) (by decide +kernel)) (by decide +kernel)
theorem zl_926 : Cond.methodLink "FrameDeltasLaw" 44 ⟨"FrameDeltasModel", "digest", "(III)I"⟩ ∈ zTs := zTs_t (List.mem_of_getElem? (i := 926) (by decide +kernel)) (by decide +kernel)
theorem zl_927 : Cond.instanceMethod ⟨"FrameDeltasModel", "digest", "(III)I"⟩ ∈ zTs := zTs_t (List.mem_of_getElem? (i := 927) (by decide +kernel)) (by decide +kernel)
theorem zl_928 : Cond.selects "FrameDeltasModel" ⟨"FrameDeltasModel", "digest", "(III)I"⟩ ⟨"FrameDeltasModel", "digest", "(III)I"⟩ ∈ zTs := zTs_t (List.mem_of_getElem? (i := 928) (by decide +kernel)) (by decide +kernel)
theorem zl_929 : Cond.code ⟨"FrameDeltasModel", "digest", "(III)I"⟩ prog_10_method_34_code 4 (Option.some Jvm.ClassFile.FieldType.int) ∈ zTs := zTs_t (List.mem_of_getElem? (i := 929) (by decide +kernel)) (by decide +kernel)
theorem zl_930 : Cond.methodLink "FrameDeltasModel" 152 ⟨"FrameDeltasModel", "isImage", "(I)Z"⟩ ∈ zTs := zTs_t (List.mem_of_getElem? (i := 930) (by decide +kernel)) (by decide +kernel)
theorem zl_932 : Cond.instanceMethod ⟨"FrameDeltasModel", "isImage", "(I)Z"⟩ ∈ zTs := zTs_t (List.mem_of_getElem? (i := 932) (by decide +kernel)) (by decide +kernel)
theorem zl_933 : Cond.code ⟨"FrameDeltasModel", "isImage", "(I)Z"⟩ prog_10_method_31_code 2 (Option.some Jvm.ClassFile.FieldType.boolean) ∈ zTs := zTs_t (List.mem_of_getElem? (i := 933) (by decide +kernel)) (by decide +kernel)
theorem zl_934 : Cond.methodLink "FrameDeltasModel" 155 ⟨"FrameDeltasModel", "isKnown", "(I)Z"⟩ ∈ zTs := zTs_t (List.mem_of_getElem? (i := 934) (by decide +kernel)) (by decide +kernel)
theorem zl_936 : Cond.instanceMethod ⟨"FrameDeltasModel", "isKnown", "(I)Z"⟩ ∈ zTs := zTs_t (List.mem_of_getElem? (i := 936) (by decide +kernel)) (by decide +kernel)
theorem zl_937 : Cond.code ⟨"FrameDeltasModel", "isKnown", "(I)Z"⟩ prog_10_method_32_code 2 (Option.some Jvm.ClassFile.FieldType.boolean) ∈ zTs := zTs_t (List.mem_of_getElem? (i := 937) (by decide +kernel)) (by decide +kernel)
theorem zl_938 : Cond.methodLink "FrameDeltasModel" 158 ⟨"FrameDeltasModel", "digestOf", "(III)I"⟩ ∈ zTs := zTs_t (List.mem_of_getElem? (i := 938) (by decide +kernel)) (by decide +kernel)
theorem zl_940 : Cond.instanceMethod ⟨"FrameDeltasModel", "digestOf", "(III)I"⟩ ∈ zTs := zTs_t (List.mem_of_getElem? (i := 940) (by decide +kernel)) (by decide +kernel)
theorem zl_941 : Cond.code ⟨"FrameDeltasModel", "digestOf", "(III)I"⟩ prog_10_method_33_code 6 (Option.some Jvm.ClassFile.FieldType.int) ∈ zTs := zTs_t (List.mem_of_getElem? (i := 941) (by decide +kernel)) (by decide +kernel)
theorem zl_942 : Cond.methodLink "FrameDeltasLaw" 48 ⟨"FrameDeltasModel", "addKey", "()I"⟩ ∈ zTs := zTs_t (List.mem_of_getElem? (i := 942) (by decide +kernel)) (by decide +kernel)
theorem zl_943 : Cond.instanceMethod ⟨"FrameDeltasModel", "addKey", "()I"⟩ ∈ zTs := zTs_t (List.mem_of_getElem? (i := 943) (by decide +kernel)) (by decide +kernel)
theorem zl_944 : Cond.selects "FrameDeltasModel" ⟨"FrameDeltasModel", "addKey", "()I"⟩ ⟨"FrameDeltasModel", "addKey", "()I"⟩ ∈ zTs := zTs_t (List.mem_of_getElem? (i := 944) (by decide +kernel)) (by decide +kernel)
theorem zl_945 : Cond.code ⟨"FrameDeltasModel", "addKey", "()I"⟩ prog_10_method_50_code 1 (Option.some Jvm.ClassFile.FieldType.int) ∈ zTs := zTs_t (List.mem_of_getElem? (i := 945) (by decide +kernel)) (by decide +kernel)
theorem zl_946 : Cond.methodLink "FrameDeltasModel" 203 ⟨"FrameDeltasModel", "adds", "(I)I"⟩ ∈ zTs := zTs_t (List.mem_of_getElem? (i := 946) (by decide +kernel)) (by decide +kernel)
theorem zl_948 : Cond.instanceMethod ⟨"FrameDeltasModel", "adds", "(I)I"⟩ ∈ zTs := zTs_t (List.mem_of_getElem? (i := 948) (by decide +kernel)) (by decide +kernel)
theorem zl_949 : Cond.code ⟨"FrameDeltasModel", "adds", "(I)I"⟩ prog_10_method_49_code 5 (Option.some Jvm.ClassFile.FieldType.int) ∈ zTs := zTs_t (List.mem_of_getElem? (i := 949) (by decide +kernel)) (by decide +kernel)
theorem zl_950 : Cond.methodLink "FrameDeltasModel" 197 ⟨"FrameDeltasModel", "codesAll", "(II)I"⟩ ∈ zTs := zTs_t (List.mem_of_getElem? (i := 950) (by decide +kernel)) (by decide +kernel)
theorem zl_952 : Cond.instanceMethod ⟨"FrameDeltasModel", "codesAll", "(II)I"⟩ ∈ zTs := zTs_t (List.mem_of_getElem? (i := 952) (by decide +kernel)) (by decide +kernel)
theorem zl_953 : Cond.code ⟨"FrameDeltasModel", "codesAll", "(II)I"⟩ prog_10_method_43_code 5 (Option.some Jvm.ClassFile.FieldType.int) ∈ zTs := zTs_t (List.mem_of_getElem? (i := 953) (by decide +kernel)) (by decide +kernel)
theorem zl_954 : Cond.methodLink "FrameDeltasModel" 185 ⟨"FrameDeltasModel", "codes", "(III)I"⟩ ∈ zTs := zTs_t (List.mem_of_getElem? (i := 954) (by decide +kernel)) (by decide +kernel)
theorem zl_956 : Cond.instanceMethod ⟨"FrameDeltasModel", "codes", "(III)I"⟩ ∈ zTs := zTs_t (List.mem_of_getElem? (i := 956) (by decide +kernel)) (by decide +kernel)
theorem zl_957 : Cond.code ⟨"FrameDeltasModel", "codes", "(III)I"⟩ prog_10_method_42_code 6 (Option.some Jvm.ClassFile.FieldType.int) ∈ zTs := zTs_t (List.mem_of_getElem? (i := 957) (by decide +kernel)) (by decide +kernel)
theorem zl_958 : Cond.methodLink "FrameDeltasModel" 179 ⟨"FrameDeltasModel", "runsOf", "(III)I"⟩ ∈ zTs := zTs_t (List.mem_of_getElem? (i := 958) (by decide +kernel)) (by decide +kernel)
theorem zl_960 : Cond.instanceMethod ⟨"FrameDeltasModel", "runsOf", "(III)I"⟩ ∈ zTs := zTs_t (List.mem_of_getElem? (i := 960) (by decide +kernel)) (by decide +kernel)
theorem zl_961 : Cond.code ⟨"FrameDeltasModel", "runsOf", "(III)I"⟩ prog_10_method_38_code 6 (Option.some Jvm.ClassFile.FieldType.int) ∈ zTs := zTs_t (List.mem_of_getElem? (i := 961) (by decide +kernel)) (by decide +kernel)
theorem zl_962 : Cond.methodLink "FrameDeltasModel" 168 ⟨"FrameDeltasModel", "given", "(IIII)I"⟩ ∈ zTs := zTs_t (List.mem_of_getElem? (i := 962) (by decide +kernel)) (by decide +kernel)
theorem zl_964 : Cond.instanceMethod ⟨"FrameDeltasModel", "given", "(IIII)I"⟩ ∈ zTs := zTs_t (List.mem_of_getElem? (i := 964) (by decide +kernel)) (by decide +kernel)
theorem zl_965 : Cond.code ⟨"FrameDeltasModel", "given", "(IIII)I"⟩ prog_10_method_37_code 6 (Option.some Jvm.ClassFile.FieldType.int) ∈ zTs := zTs_t (List.mem_of_getElem? (i := 965) (by decide +kernel)) (by decide +kernel)
theorem zl_966 : Cond.methodLink "FrameDeltasModel" 162 ⟨"FrameDeltasModel", "left", "(I)I"⟩ ∈ zTs := zTs_t (List.mem_of_getElem? (i := 966) (by decide +kernel)) (by decide +kernel)
theorem zl_968 : Cond.instanceMethod ⟨"FrameDeltasModel", "left", "(I)I"⟩ ∈ zTs := zTs_t (List.mem_of_getElem? (i := 968) (by decide +kernel)) (by decide +kernel)
theorem zl_969 : Cond.code ⟨"FrameDeltasModel", "left", "(I)I"⟩ prog_10_method_35_code 2 (Option.some Jvm.ClassFile.FieldType.int) ∈ zTs := zTs_t (List.mem_of_getElem? (i := 969) (by decide +kernel)) (by decide +kernel)
theorem zl_970 : Cond.methodLink "FrameDeltasModel" 165 ⟨"FrameDeltasModel", "top", "(I)I"⟩ ∈ zTs := zTs_t (List.mem_of_getElem? (i := 970) (by decide +kernel)) (by decide +kernel)
theorem zl_972 : Cond.instanceMethod ⟨"FrameDeltasModel", "top", "(I)I"⟩ ∈ zTs := zTs_t (List.mem_of_getElem? (i := 972) (by decide +kernel)) (by decide +kernel)
theorem zl_973 : Cond.code ⟨"FrameDeltasModel", "top", "(I)I"⟩ prog_10_method_36_code 2 (Option.some Jvm.ClassFile.FieldType.int) ∈ zTs := zTs_t (List.mem_of_getElem? (i := 973) (by decide +kernel)) (by decide +kernel)
theorem zl_974 : Cond.methodLink "FrameDeltasModel" 175 ⟨"FrameDeltasModel", "isLike", "(IIIII)Z"⟩ ∈ zTs := zTs_t (List.mem_of_getElem? (i := 974) (by decide +kernel)) (by decide +kernel)
theorem zl_976 : Cond.instanceMethod ⟨"FrameDeltasModel", "isLike", "(IIIII)Z"⟩ ∈ zTs := zTs_t (List.mem_of_getElem? (i := 976) (by decide +kernel)) (by decide +kernel)
theorem zl_977 : Cond.code ⟨"FrameDeltasModel", "isLike", "(IIIII)Z"⟩ prog_10_method_39_code 10 (Option.some Jvm.ClassFile.FieldType.boolean) ∈ zTs := zTs_t (List.mem_of_getElem? (i := 977) (by decide +kernel)) (by decide +kernel)
theorem zl_978 : Cond.methodLink "FrameDeltasModel" 182 ⟨"FrameDeltasModel", "finds", "(III)Z"⟩ ∈ zTs := zTs_t (List.mem_of_getElem? (i := 978) (by decide +kernel)) (by decide +kernel)
theorem zl_980 : Cond.instanceMethod ⟨"FrameDeltasModel", "finds", "(III)Z"⟩ ∈ zTs := zTs_t (List.mem_of_getElem? (i := 980) (by decide +kernel)) (by decide +kernel)
theorem zl_981 : Cond.code ⟨"FrameDeltasModel", "finds", "(III)Z"⟩ prog_10_method_41_code 10 (Option.some Jvm.ClassFile.FieldType.boolean) ∈ zTs := zTs_t (List.mem_of_getElem? (i := 981) (by decide +kernel)) (by decide +kernel)
theorem zl_982 : Cond.methodLink "FrameDeltasModel" 172 ⟨"FrameDeltasModel", "size", "(I)I"⟩ ∈ zTs := zTs_t (List.mem_of_getElem? (i := 982) (by decide +kernel)) (by decide +kernel)
theorem zl_983 : Cond.static ⟨"FrameDeltasModel", "size", "(I)I"⟩ ∈ zTs := zTs_t (List.mem_of_getElem? (i := 983) (by decide +kernel)) (by decide +kernel)
theorem zl_984 : Cond.code ⟨"FrameDeltasModel", "size", "(I)I"⟩ prog_10_method_40_code 1 (Option.some Jvm.ClassFile.FieldType.int) ∈ zTs := zTs_t (List.mem_of_getElem? (i := 984) (by decide +kernel)) (by decide +kernel)
theorem zl_985 : Cond.methodLink "FrameDeltasModel" 200 ⟨"FrameDeltasModel", "records", "(II)V"⟩ ∈ zTs := zTs_t (List.mem_of_getElem? (i := 985) (by decide +kernel)) (by decide +kernel)
theorem zl_987 : Cond.instanceMethod ⟨"FrameDeltasModel", "records", "(II)V"⟩ ∈ zTs := zTs_t (List.mem_of_getElem? (i := 987) (by decide +kernel)) (by decide +kernel)
theorem zl_988 : Cond.code ⟨"FrameDeltasModel", "records", "(II)V"⟩ prog_10_method_48_code 4 (Option.none : Option Jvm.ClassFile.FieldType) ∈ zTs := zTs_t (List.mem_of_getElem? (i := 988) (by decide +kernel)) (by decide +kernel)
theorem zl_989 : Cond.methodLink "FrameDeltasLaw" 52 ⟨"FrameDeltasModel", "addDelta", "(I)I"⟩ ∈ zTs := zTs_t (List.mem_of_getElem? (i := 989) (by decide +kernel)) (by decide +kernel)
theorem zl_990 : Cond.instanceMethod ⟨"FrameDeltasModel", "addDelta", "(I)I"⟩ ∈ zTs := zTs_t (List.mem_of_getElem? (i := 990) (by decide +kernel)) (by decide +kernel)
theorem zl_991 : Cond.selects "FrameDeltasModel" ⟨"FrameDeltasModel", "addDelta", "(I)I"⟩ ⟨"FrameDeltasModel", "addDelta", "(I)I"⟩ ∈ zTs := zTs_t (List.mem_of_getElem? (i := 991) (by decide +kernel)) (by decide +kernel)
theorem zl_992 : Cond.code ⟨"FrameDeltasModel", "addDelta", "(I)I"⟩ prog_10_method_51_code 2 (Option.some Jvm.ClassFile.FieldType.int) ∈ zTs := zTs_t (List.mem_of_getElem? (i := 992) (by decide +kernel)) (by decide +kernel)
theorem zl_993 : Cond.methodLink "FrameDeltasModel" 206 ⟨"FrameDeltasModel", "depthOf", "(I)I"⟩ ∈ zTs := zTs_t (List.mem_of_getElem? (i := 993) (by decide +kernel)) (by decide +kernel)
theorem zl_995 : Cond.instanceMethod ⟨"FrameDeltasModel", "depthOf", "(I)I"⟩ ∈ zTs := zTs_t (List.mem_of_getElem? (i := 995) (by decide +kernel)) (by decide +kernel)
theorem zl_996 : Cond.code ⟨"FrameDeltasModel", "depthOf", "(I)I"⟩ prog_10_method_11_code 4 (Option.some Jvm.ClassFile.FieldType.int) ∈ zTs := zTs_t (List.mem_of_getElem? (i := 996) (by decide +kernel)) (by decide +kernel)
theorem zl_997 : Cond.methodLink "FrameDeltasLaw" 56 ⟨"FrameDeltasModel", "addChosen", "()I"⟩ ∈ zTs := zTs_t (List.mem_of_getElem? (i := 997) (by decide +kernel)) (by decide +kernel)
theorem zl_998 : Cond.instanceMethod ⟨"FrameDeltasModel", "addChosen", "()I"⟩ ∈ zTs := zTs_t (List.mem_of_getElem? (i := 998) (by decide +kernel)) (by decide +kernel)
theorem zl_999 : Cond.selects "FrameDeltasModel" ⟨"FrameDeltasModel", "addChosen", "()I"⟩ ⟨"FrameDeltasModel", "addChosen", "()I"⟩ ∈ zTs := zTs_t (List.mem_of_getElem? (i := 999) (by decide +kernel)) (by decide +kernel)
theorem zl_1000 : Cond.code ⟨"FrameDeltasModel", "addChosen", "()I"⟩ prog_10_method_52_code 8 (Option.some Jvm.ClassFile.FieldType.int) ∈ zTs := zTs_t (List.mem_of_getElem? (i := 1000) (by decide +kernel)) (by decide +kernel)
theorem zl_1001 : Cond.methodLink "FrameDeltasLaw" 60 ⟨"FrameDeltasModel", "removeLast", "()I"⟩ ∈ zTs := zTs_t (List.mem_of_getElem? (i := 1001) (by decide +kernel)) (by decide +kernel)
theorem zl_1002 : Cond.instanceMethod ⟨"FrameDeltasModel", "removeLast", "()I"⟩ ∈ zTs := zTs_t (List.mem_of_getElem? (i := 1002) (by decide +kernel)) (by decide +kernel)
theorem zl_1003 : Cond.selects "FrameDeltasModel" ⟨"FrameDeltasModel", "removeLast", "()I"⟩ ⟨"FrameDeltasModel", "removeLast", "()I"⟩ ∈ zTs := zTs_t (List.mem_of_getElem? (i := 1003) (by decide +kernel)) (by decide +kernel)
theorem zl_1004 : Cond.code ⟨"FrameDeltasModel", "removeLast", "()I"⟩ prog_10_method_53_code 1 (Option.some Jvm.ClassFile.FieldType.int) ∈ zTs := zTs_t (List.mem_of_getElem? (i := 1004) (by decide +kernel)) (by decide +kernel)
theorem zl_1005 : Cond.methodLink "FrameDeltasLaw" 64 ⟨"FrameDeltasModel", "recode", "()I"⟩ ∈ zTs := zTs_t (List.mem_of_getElem? (i := 1005) (by decide +kernel)) (by decide +kernel)
theorem zl_1006 : Cond.instanceMethod ⟨"FrameDeltasModel", "recode", "()I"⟩ ∈ zTs := zTs_t (List.mem_of_getElem? (i := 1006) (by decide +kernel)) (by decide +kernel)
theorem zl_1007 : Cond.selects "FrameDeltasModel" ⟨"FrameDeltasModel", "recode", "()I"⟩ ⟨"FrameDeltasModel", "recode", "()I"⟩ ∈ zTs := zTs_t (List.mem_of_getElem? (i := 1007) (by decide +kernel)) (by decide +kernel)
theorem zl_1008 : Cond.code ⟨"FrameDeltasModel", "recode", "()I"⟩ prog_10_method_57_code 5 (Option.some Jvm.ClassFile.FieldType.int) ∈ zTs := zTs_t (List.mem_of_getElem? (i := 1008) (by decide +kernel)) (by decide +kernel)
theorem zl_1009 : Cond.methodLink "FrameDeltasModel" 218 ⟨"FrameDeltasModel", "plans", "()I"⟩ ∈ zTs := zTs_t (List.mem_of_getElem? (i := 1009) (by decide +kernel)) (by decide +kernel)
theorem zl_1011 : Cond.instanceMethod ⟨"FrameDeltasModel", "plans", "()I"⟩ ∈ zTs := zTs_t (List.mem_of_getElem? (i := 1011) (by decide +kernel)) (by decide +kernel)
theorem zl_1012 : Cond.code ⟨"FrameDeltasModel", "plans", "()I"⟩ prog_10_method_56_code 5 (Option.some Jvm.ClassFile.FieldType.int) ∈ zTs := zTs_t (List.mem_of_getElem? (i := 1012) (by decide +kernel)) (by decide +kernel)
theorem zl_1013 : Cond.methodLink "FrameDeltasModel" 212 ⟨"FrameDeltasModel", "planOf", "(I)I"⟩ ∈ zTs := zTs_t (List.mem_of_getElem? (i := 1013) (by decide +kernel)) (by decide +kernel)
theorem zl_1015 : Cond.instanceMethod ⟨"FrameDeltasModel", "planOf", "(I)I"⟩ ∈ zTs := zTs_t (List.mem_of_getElem? (i := 1015) (by decide +kernel)) (by decide +kernel)
theorem zl_1016 : Cond.code ⟨"FrameDeltasModel", "planOf", "(I)I"⟩ prog_10_method_54_code 8 (Option.some Jvm.ClassFile.FieldType.int) ∈ zTs := zTs_t (List.mem_of_getElem? (i := 1016) (by decide +kernel)) (by decide +kernel)
theorem zl_1017 : Cond.methodLink "FrameDeltasModel" 215 ⟨"FrameDeltasModel", "bits", "(I)I"⟩ ∈ zTs := zTs_t (List.mem_of_getElem? (i := 1017) (by decide +kernel)) (by decide +kernel)
theorem zl_1018 : Cond.static ⟨"FrameDeltasModel", "bits", "(I)I"⟩ ∈ zTs := zTs_t (List.mem_of_getElem? (i := 1018) (by decide +kernel)) (by decide +kernel)
theorem zl_1019 : Cond.code ⟨"FrameDeltasModel", "bits", "(I)I"⟩ prog_10_method_55_code 3 (Option.some Jvm.ClassFile.FieldType.int) ∈ zTs := zTs_t (List.mem_of_getElem? (i := 1019) (by decide +kernel)) (by decide +kernel)
theorem zl_1020 : Cond.methodLink "FrameDeltasLaw" 125 ⟨"FrameDeltasModel", "planCost", "()I"⟩ ∈ zTs := zTs_t (List.mem_of_getElem? (i := 1020) (by decide +kernel)) (by decide +kernel)
theorem zl_1021 : Cond.instanceMethod ⟨"FrameDeltasModel", "planCost", "()I"⟩ ∈ zTs := zTs_t (List.mem_of_getElem? (i := 1021) (by decide +kernel)) (by decide +kernel)
theorem zl_1022 : Cond.selects "FrameDeltasModel" ⟨"FrameDeltasModel", "planCost", "()I"⟩ ⟨"FrameDeltasModel", "planCost", "()I"⟩ ∈ zTs := zTs_t (List.mem_of_getElem? (i := 1022) (by decide +kernel)) (by decide +kernel)
theorem zl_1023 : Cond.code ⟨"FrameDeltasModel", "planCost", "()I"⟩ prog_10_method_58_code 1 (Option.some Jvm.ClassFile.FieldType.int) ∈ zTs := zTs_t (List.mem_of_getElem? (i := 1023) (by decide +kernel)) (by decide +kernel)
theorem zl_1024 : Cond.methodLink "FrameDeltasLaw" 129 ⟨"FrameDeltasModel", "planKeys", "()I"⟩ ∈ zTs := zTs_t (List.mem_of_getElem? (i := 1024) (by decide +kernel)) (by decide +kernel)
theorem zl_1025 : Cond.instanceMethod ⟨"FrameDeltasModel", "planKeys", "()I"⟩ ∈ zTs := zTs_t (List.mem_of_getElem? (i := 1025) (by decide +kernel)) (by decide +kernel)
theorem zl_1026 : Cond.selects "FrameDeltasModel" ⟨"FrameDeltasModel", "planKeys", "()I"⟩ ⟨"FrameDeltasModel", "planKeys", "()I"⟩ ∈ zTs := zTs_t (List.mem_of_getElem? (i := 1026) (by decide +kernel)) (by decide +kernel)
theorem zl_1027 : Cond.code ⟨"FrameDeltasModel", "planKeys", "()I"⟩ prog_10_method_59_code 1 (Option.some Jvm.ClassFile.FieldType.int) ∈ zTs := zTs_t (List.mem_of_getElem? (i := 1027) (by decide +kernel)) (by decide +kernel)
theorem zl_1028 : Cond.methodLink "FrameDeltasLaw" 68 ⟨"FrameDeltasModel", "setLimits", "(III)I"⟩ ∈ zTs := zTs_t (List.mem_of_getElem? (i := 1028) (by decide +kernel)) (by decide +kernel)
theorem zl_1029 : Cond.instanceMethod ⟨"FrameDeltasModel", "setLimits", "(III)I"⟩ ∈ zTs := zTs_t (List.mem_of_getElem? (i := 1029) (by decide +kernel)) (by decide +kernel)
theorem zl_1030 : Cond.selects "FrameDeltasModel" ⟨"FrameDeltasModel", "setLimits", "(III)I"⟩ ⟨"FrameDeltasModel", "setLimits", "(III)I"⟩ ∈ zTs := zTs_t (List.mem_of_getElem? (i := 1030) (by decide +kernel)) (by decide +kernel)
theorem zl_1031 : Cond.code ⟨"FrameDeltasModel", "setLimits", "(III)I"⟩ prog_10_method_60_code 5 (Option.some Jvm.ClassFile.FieldType.int) ∈ zTs := zTs_t (List.mem_of_getElem? (i := 1031) (by decide +kernel)) (by decide +kernel)
theorem zl_1032 : Cond.methodLink "FrameDeltasLaw" 72 ⟨"FrameDeltasModel", "setLost", "(II)I"⟩ ∈ zTs := zTs_t (List.mem_of_getElem? (i := 1032) (by decide +kernel)) (by decide +kernel)
theorem zl_1033 : Cond.instanceMethod ⟨"FrameDeltasModel", "setLost", "(II)I"⟩ ∈ zTs := zTs_t (List.mem_of_getElem? (i := 1033) (by decide +kernel)) (by decide +kernel)
theorem zl_1034 : Cond.selects "FrameDeltasModel" ⟨"FrameDeltasModel", "setLost", "(II)I"⟩ ⟨"FrameDeltasModel", "setLost", "(II)I"⟩ ∈ zTs := zTs_t (List.mem_of_getElem? (i := 1034) (by decide +kernel)) (by decide +kernel)
theorem zl_1035 : Cond.code ⟨"FrameDeltasModel", "setLost", "(II)I"⟩ prog_10_method_61_code 3 (Option.some Jvm.ClassFile.FieldType.int) ∈ zTs := zTs_t (List.mem_of_getElem? (i := 1035) (by decide +kernel)) (by decide +kernel)
theorem zl_1036 : Cond.methodLink "FrameDeltasModel" 221 ⟨"FrameDeltasModel", "goods", "()I"⟩ ∈ zTs := zTs_t (List.mem_of_getElem? (i := 1036) (by decide +kernel)) (by decide +kernel)
theorem zl_1038 : Cond.instanceMethod ⟨"FrameDeltasModel", "goods", "()I"⟩ ∈ zTs := zTs_t (List.mem_of_getElem? (i := 1038) (by decide +kernel)) (by decide +kernel)
theorem zl_1039 : Cond.code ⟨"FrameDeltasModel", "goods", "()I"⟩ prog_10_method_13_code 3 (Option.some Jvm.ClassFile.FieldType.int) ∈ zTs := zTs_t (List.mem_of_getElem? (i := 1039) (by decide +kernel)) (by decide +kernel)
theorem zl_1040 : Cond.methodLink "FrameDeltasLaw" 76 ⟨"FrameDeltasModel", "frame", "(II)I"⟩ ∈ zTs := zTs_t (List.mem_of_getElem? (i := 1040) (by decide +kernel)) (by decide +kernel)
theorem zl_1041 : Cond.instanceMethod ⟨"FrameDeltasModel", "frame", "(II)I"⟩ ∈ zTs := zTs_t (List.mem_of_getElem? (i := 1041) (by decide +kernel)) (by decide +kernel)
theorem zl_1042 : Cond.selects "FrameDeltasModel" ⟨"FrameDeltasModel", "frame", "(II)I"⟩ ⟨"FrameDeltasModel", "frame", "(II)I"⟩ ∈ zTs := zTs_t (List.mem_of_getElem? (i := 1042) (by decide +kernel)) (by decide +kernel)
theorem zl_1043 : Cond.code ⟨"FrameDeltasModel", "frame", "(II)I"⟩ prog_10_method_63_code 3 (Option.some Jvm.ClassFile.FieldType.int) ∈ zTs := zTs_t (List.mem_of_getElem? (i := 1043) (by decide +kernel)) (by decide +kernel)
theorem zl_1044 : Cond.methodLink "FrameDeltasModel" 194 ⟨"FrameDeltasModel", "costOf", "(I)I"⟩ ∈ zTs := zTs_t (List.mem_of_getElem? (i := 1044) (by decide +kernel)) (by decide +kernel)
theorem zl_1046 : Cond.instanceMethod ⟨"FrameDeltasModel", "costOf", "(I)I"⟩ ∈ zTs := zTs_t (List.mem_of_getElem? (i := 1046) (by decide +kernel)) (by decide +kernel)
theorem zl_1047 : Cond.code ⟨"FrameDeltasModel", "costOf", "(I)I"⟩ prog_10_method_46_code 5 (Option.some Jvm.ClassFile.FieldType.int) ∈ zTs := zTs_t (List.mem_of_getElem? (i := 1047) (by decide +kernel)) (by decide +kernel)
theorem zl_1048 : Cond.methodLink "FrameDeltasModel" 188 ⟨"FrameDeltasModel", "codeAt", "(II)I"⟩ ∈ zTs := zTs_t (List.mem_of_getElem? (i := 1048) (by decide +kernel)) (by decide +kernel)
theorem zl_1050 : Cond.instanceMethod ⟨"FrameDeltasModel", "codeAt", "(II)I"⟩ ∈ zTs := zTs_t (List.mem_of_getElem? (i := 1050) (by decide +kernel)) (by decide +kernel)
theorem zl_1051 : Cond.code ⟨"FrameDeltasModel", "codeAt", "(II)I"⟩ prog_10_method_44_code 3 (Option.some Jvm.ClassFile.FieldType.int) ∈ zTs := zTs_t (List.mem_of_getElem? (i := 1051) (by decide +kernel)) (by decide +kernel)
theorem zl_1052 : Cond.methodLink "FrameDeltasModel" 191 ⟨"FrameDeltasModel", "runsIn", "(II)I"⟩ ∈ zTs := zTs_t (List.mem_of_getElem? (i := 1052) (by decide +kernel)) (by decide +kernel)
theorem zl_1054 : Cond.instanceMethod ⟨"FrameDeltasModel", "runsIn", "(II)I"⟩ ∈ zTs := zTs_t (List.mem_of_getElem? (i := 1054) (by decide +kernel)) (by decide +kernel)
theorem zl_1055 : Cond.code ⟨"FrameDeltasModel", "runsIn", "(II)I"⟩ prog_10_method_45_code 4 (Option.some Jvm.ClassFile.FieldType.int) ∈ zTs := zTs_t (List.mem_of_getElem? (i := 1055) (by decide +kernel)) (by decide +kernel)
theorem zl_1056 : Cond.methodLink "FrameDeltasModel" 224 ⟨"FrameDeltasModel", "seekOf", "(I)I"⟩ ∈ zTs := zTs_t (List.mem_of_getElem? (i := 1056) (by decide +kernel)) (by decide +kernel)
theorem zl_1058 : Cond.instanceMethod ⟨"FrameDeltasModel", "seekOf", "(I)I"⟩ ∈ zTs := zTs_t (List.mem_of_getElem? (i := 1058) (by decide +kernel)) (by decide +kernel)
theorem zl_1059 : Cond.code ⟨"FrameDeltasModel", "seekOf", "(I)I"⟩ prog_10_method_47_code 4 (Option.some Jvm.ClassFile.FieldType.int) ∈ zTs := zTs_t (List.mem_of_getElem? (i := 1059) (by decide +kernel)) (by decide +kernel)
theorem zl_1060 : Cond.methodLink "FrameDeltasModel" 227 ⟨"FrameDeltasModel", "codesOf", "(II)I"⟩ ∈ zTs := zTs_t (List.mem_of_getElem? (i := 1060) (by decide +kernel)) (by decide +kernel)
theorem zl_1062 : Cond.instanceMethod ⟨"FrameDeltasModel", "codesOf", "(II)I"⟩ ∈ zTs := zTs_t (List.mem_of_getElem? (i := 1062) (by decide +kernel)) (by decide +kernel)
theorem zl_1063 : Cond.code ⟨"FrameDeltasModel", "codesOf", "(II)I"⟩ prog_10_method_62_code 5 (Option.some Jvm.ClassFile.FieldType.int) ∈ zTs := zTs_t (List.mem_of_getElem? (i := 1063) (by decide +kernel)) (by decide +kernel)
theorem zl_1064 : Cond.methodLink "FrameDeltasLaw" 80 ⟨"FrameDeltasModel", "code", "(III)I"⟩ ∈ zTs := zTs_t (List.mem_of_getElem? (i := 1064) (by decide +kernel)) (by decide +kernel)
theorem zl_1065 : Cond.instanceMethod ⟨"FrameDeltasModel", "code", "(III)I"⟩ ∈ zTs := zTs_t (List.mem_of_getElem? (i := 1065) (by decide +kernel)) (by decide +kernel)
theorem zl_1066 : Cond.selects "FrameDeltasModel" ⟨"FrameDeltasModel", "code", "(III)I"⟩ ⟨"FrameDeltasModel", "code", "(III)I"⟩ ∈ zTs := zTs_t (List.mem_of_getElem? (i := 1066) (by decide +kernel)) (by decide +kernel)
theorem zl_1067 : Cond.code ⟨"FrameDeltasModel", "code", "(III)I"⟩ prog_10_method_65_code 5 (Option.some Jvm.ClassFile.FieldType.int) ∈ zTs := zTs_t (List.mem_of_getElem? (i := 1067) (by decide +kernel)) (by decide +kernel)
theorem zl_1068 : Cond.methodLink "FrameDeltasModel" 230 ⟨"FrameDeltasModel", "isBlock", "(I)Z"⟩ ∈ zTs := zTs_t (List.mem_of_getElem? (i := 1068) (by decide +kernel)) (by decide +kernel)
theorem zl_1070 : Cond.instanceMethod ⟨"FrameDeltasModel", "isBlock", "(I)Z"⟩ ∈ zTs := zTs_t (List.mem_of_getElem? (i := 1070) (by decide +kernel)) (by decide +kernel)
theorem zl_1071 : Cond.code ⟨"FrameDeltasModel", "isBlock", "(I)Z"⟩ prog_10_method_64_code 2 (Option.some Jvm.ClassFile.FieldType.boolean) ∈ zTs := zTs_t (List.mem_of_getElem? (i := 1071) (by decide +kernel)) (by decide +kernel)
theorem zl_1072 : Cond.methodLink "FrameDeltasLaw" 85 ⟨"FrameDeltasModel", "run", "(IIII)I"⟩ ∈ zTs := zTs_t (List.mem_of_getElem? (i := 1072) (by decide +kernel)) (by decide +kernel)
theorem zl_1073 : Cond.instanceMethod ⟨"FrameDeltasModel", "run", "(IIII)I"⟩ ∈ zTs := zTs_t (List.mem_of_getElem? (i := 1073) (by decide +kernel)) (by decide +kernel)
theorem zl_1074 : Cond.selects "FrameDeltasModel" ⟨"FrameDeltasModel", "run", "(IIII)I"⟩ ⟨"FrameDeltasModel", "run", "(IIII)I"⟩ ∈ zTs := zTs_t (List.mem_of_getElem? (i := 1074) (by decide +kernel)) (by decide +kernel)
theorem zl_1075 : Cond.code ⟨"FrameDeltasModel", "run", "(IIII)I"⟩ prog_10_method_66_code 11 (Option.some Jvm.ClassFile.FieldType.int) ∈ zTs := zTs_t (List.mem_of_getElem? (i := 1075) (by decide +kernel)) (by decide +kernel)
theorem zl_1076 : Cond.methodLink "FrameDeltasLaw" 89 ⟨"FrameDeltasModel", "pixel", "(II)I"⟩ ∈ zTs := zTs_t (List.mem_of_getElem? (i := 1076) (by decide +kernel)) (by decide +kernel)
theorem zl_1077 : Cond.instanceMethod ⟨"FrameDeltasModel", "pixel", "(II)I"⟩ ∈ zTs := zTs_t (List.mem_of_getElem? (i := 1077) (by decide +kernel)) (by decide +kernel)
theorem zl_1078 : Cond.selects "FrameDeltasModel" ⟨"FrameDeltasModel", "pixel", "(II)I"⟩ ⟨"FrameDeltasModel", "pixel", "(II)I"⟩ ∈ zTs := zTs_t (List.mem_of_getElem? (i := 1078) (by decide +kernel)) (by decide +kernel)
theorem zl_1079 : Cond.code ⟨"FrameDeltasModel", "pixel", "(II)I"⟩ prog_10_method_67_code 3 (Option.some Jvm.ClassFile.FieldType.int) ∈ zTs := zTs_t (List.mem_of_getElem? (i := 1079) (by decide +kernel)) (by decide +kernel)
theorem zl_1080 : Cond.methodLink "FrameDeltasLaw" 93 ⟨"FrameDeltasModel", "count", "(I)I"⟩ ∈ zTs := zTs_t (List.mem_of_getElem? (i := 1080) (by decide +kernel)) (by decide +kernel)
theorem zl_1081 : Cond.instanceMethod ⟨"FrameDeltasModel", "count", "(I)I"⟩ ∈ zTs := zTs_t (List.mem_of_getElem? (i := 1081) (by decide +kernel)) (by decide +kernel)
theorem zl_1082 : Cond.selects "FrameDeltasModel" ⟨"FrameDeltasModel", "count", "(I)I"⟩ ⟨"FrameDeltasModel", "count", "(I)I"⟩ ∈ zTs := zTs_t (List.mem_of_getElem? (i := 1082) (by decide +kernel)) (by decide +kernel)
theorem zl_1083 : Cond.code ⟨"FrameDeltasModel", "count", "(I)I"⟩ prog_10_method_68_code 4 (Option.some Jvm.ClassFile.FieldType.int) ∈ zTs := zTs_t (List.mem_of_getElem? (i := 1083) (by decide +kernel)) (by decide +kernel)
theorem zl_1084 : Cond.methodLink "FrameDeltasLaw" 97 ⟨"FrameDeltasModel", "costWith", "(I)I"⟩ ∈ zTs := zTs_t (List.mem_of_getElem? (i := 1084) (by decide +kernel)) (by decide +kernel)
theorem zl_1085 : Cond.instanceMethod ⟨"FrameDeltasModel", "costWith", "(I)I"⟩ ∈ zTs := zTs_t (List.mem_of_getElem? (i := 1085) (by decide +kernel)) (by decide +kernel)
theorem zl_1086 : Cond.selects "FrameDeltasModel" ⟨"FrameDeltasModel", "costWith", "(I)I"⟩ ⟨"FrameDeltasModel", "costWith", "(I)I"⟩ ∈ zTs := zTs_t (List.mem_of_getElem? (i := 1086) (by decide +kernel)) (by decide +kernel)
theorem zl_1087 : Cond.code ⟨"FrameDeltasModel", "costWith", "(I)I"⟩ prog_10_method_69_code 2 (Option.some Jvm.ClassFile.FieldType.int) ∈ zTs := zTs_t (List.mem_of_getElem? (i := 1087) (by decide +kernel)) (by decide +kernel)
theorem zl_1088 : Cond.methodLink "FrameDeltasLaw" 101 ⟨"FrameDeltasModel", "difference", "(II)I"⟩ ∈ zTs := zTs_t (List.mem_of_getElem? (i := 1088) (by decide +kernel)) (by decide +kernel)
theorem zl_1089 : Cond.instanceMethod ⟨"FrameDeltasModel", "difference", "(II)I"⟩ ∈ zTs := zTs_t (List.mem_of_getElem? (i := 1089) (by decide +kernel)) (by decide +kernel)
theorem zl_1090 : Cond.selects "FrameDeltasModel" ⟨"FrameDeltasModel", "difference", "(II)I"⟩ ⟨"FrameDeltasModel", "difference", "(II)I"⟩ ∈ zTs := zTs_t (List.mem_of_getElem? (i := 1090) (by decide +kernel)) (by decide +kernel)
theorem zl_1091 : Cond.code ⟨"FrameDeltasModel", "difference", "(II)I"⟩ prog_10_method_71_code 3 (Option.some Jvm.ClassFile.FieldType.int) ∈ zTs := zTs_t (List.mem_of_getElem? (i := 1091) (by decide +kernel)) (by decide +kernel)
theorem zl_1092 : Cond.methodLink "FrameDeltasModel" 233 ⟨"FrameDeltasModel", "differing", "(II)I"⟩ ∈ zTs := zTs_t (List.mem_of_getElem? (i := 1092) (by decide +kernel)) (by decide +kernel)
theorem zl_1094 : Cond.instanceMethod ⟨"FrameDeltasModel", "differing", "(II)I"⟩ ∈ zTs := zTs_t (List.mem_of_getElem? (i := 1094) (by decide +kernel)) (by decide +kernel)
theorem zl_1095 : Cond.code ⟨"FrameDeltasModel", "differing", "(II)I"⟩ prog_10_method_70_code 5 (Option.some Jvm.ClassFile.FieldType.int) ∈ zTs := zTs_t (List.mem_of_getElem? (i := 1095) (by decide +kernel)) (by decide +kernel)
theorem zl_1096 : Cond.methodLink "FrameDeltasLaw" 105 ⟨"FrameDeltasModel", "findBlock", "(II)I"⟩ ∈ zTs := zTs_t (List.mem_of_getElem? (i := 1096) (by decide +kernel)) (by decide +kernel)
theorem zl_1097 : Cond.instanceMethod ⟨"FrameDeltasModel", "findBlock", "(II)I"⟩ ∈ zTs := zTs_t (List.mem_of_getElem? (i := 1097) (by decide +kernel)) (by decide +kernel)
theorem zl_1098 : Cond.selects "FrameDeltasModel" ⟨"FrameDeltasModel", "findBlock", "(II)I"⟩ ⟨"FrameDeltasModel", "findBlock", "(II)I"⟩ ∈ zTs := zTs_t (List.mem_of_getElem? (i := 1098) (by decide +kernel)) (by decide +kernel)
theorem zl_1099 : Cond.code ⟨"FrameDeltasModel", "findBlock", "(II)I"⟩ prog_10_method_73_code 5 (Option.some Jvm.ClassFile.FieldType.int) ∈ zTs := zTs_t (List.mem_of_getElem? (i := 1099) (by decide +kernel)) (by decide +kernel)
theorem zl_1100 : Cond.methodLink "FrameDeltasModel" 236 ⟨"FrameDeltasModel", "areAlike", "(IIIIII)Z"⟩ ∈ zTs := zTs_t (List.mem_of_getElem? (i := 1100) (by decide +kernel)) (by decide +kernel)
theorem zl_1102 : Cond.instanceMethod ⟨"FrameDeltasModel", "areAlike", "(IIIIII)Z"⟩ ∈ zTs := zTs_t (List.mem_of_getElem? (i := 1102) (by decide +kernel)) (by decide +kernel)
theorem zl_1103 : Cond.code ⟨"FrameDeltasModel", "areAlike", "(IIIIII)Z"⟩ prog_10_method_72_code 9 (Option.some Jvm.ClassFile.FieldType.boolean) ∈ zTs := zTs_t (List.mem_of_getElem? (i := 1103) (by decide +kernel)) (by decide +kernel)
theorem zl_1104 : Cond.methodLink "FrameDeltasLaw" 109 ⟨"FrameDeltasModel", "falseMatches", "(I)I"⟩ ∈ zTs := zTs_t (List.mem_of_getElem? (i := 1104) (by decide +kernel)) (by decide +kernel)
theorem zl_1105 : Cond.instanceMethod ⟨"FrameDeltasModel", "falseMatches", "(I)I"⟩ ∈ zTs := zTs_t (List.mem_of_getElem? (i := 1105) (by decide +kernel)) (by decide +kernel)
theorem zl_1106 : Cond.selects "FrameDeltasModel" ⟨"FrameDeltasModel", "falseMatches", "(I)I"⟩ ⟨"FrameDeltasModel", "falseMatches", "(I)I"⟩ ∈ zTs := zTs_t (List.mem_of_getElem? (i := 1106) (by decide +kernel)) (by decide +kernel)
theorem zl_1107 : Cond.code ⟨"FrameDeltasModel", "falseMatches", "(I)I"⟩ prog_10_method_74_code 8 (Option.some Jvm.ClassFile.FieldType.int) ∈ zTs := zTs_t (List.mem_of_getElem? (i := 1107) (by decide +kernel)) (by decide +kernel)
theorem zl_1108 : Cond.methodLink "FrameDeltasLaw" 113 ⟨"FrameDeltasModel", "greatestSeek", "()I"⟩ ∈ zTs := zTs_t (List.mem_of_getElem? (i := 1108) (by decide +kernel)) (by decide +kernel)
theorem zl_1109 : Cond.instanceMethod ⟨"FrameDeltasModel", "greatestSeek", "()I"⟩ ∈ zTs := zTs_t (List.mem_of_getElem? (i := 1109) (by decide +kernel)) (by decide +kernel)
theorem zl_1110 : Cond.selects "FrameDeltasModel" ⟨"FrameDeltasModel", "greatestSeek", "()I"⟩ ⟨"FrameDeltasModel", "greatestSeek", "()I"⟩ ∈ zTs := zTs_t (List.mem_of_getElem? (i := 1110) (by decide +kernel)) (by decide +kernel)
theorem zl_1111 : Cond.code ⟨"FrameDeltasModel", "greatestSeek", "()I"⟩ prog_10_method_75_code 3 (Option.some Jvm.ClassFile.FieldType.int) ∈ zTs := zTs_t (List.mem_of_getElem? (i := 1111) (by decide +kernel)) (by decide +kernel)
theorem zl_1112 : Cond.methodLink "FrameDeltasLaw" 117 ⟨"FrameDeltasModel", "dependents", "(I)I"⟩ ∈ zTs := zTs_t (List.mem_of_getElem? (i := 1112) (by decide +kernel)) (by decide +kernel)
theorem zl_1113 : Cond.instanceMethod ⟨"FrameDeltasModel", "dependents", "(I)I"⟩ ∈ zTs := zTs_t (List.mem_of_getElem? (i := 1113) (by decide +kernel)) (by decide +kernel)
theorem zl_1114 : Cond.selects "FrameDeltasModel" ⟨"FrameDeltasModel", "dependents", "(I)I"⟩ ⟨"FrameDeltasModel", "dependents", "(I)I"⟩ ∈ zTs := zTs_t (List.mem_of_getElem? (i := 1114) (by decide +kernel)) (by decide +kernel)
theorem zl_1115 : Cond.code ⟨"FrameDeltasModel", "dependents", "(I)I"⟩ prog_10_method_77_code 4 (Option.some Jvm.ClassFile.FieldType.int) ∈ zTs := zTs_t (List.mem_of_getElem? (i := 1115) (by decide +kernel)) (by decide +kernel)
theorem zl_1116 : Cond.methodLink "FrameDeltasModel" 240 ⟨"FrameDeltasModel", "isInChain", "(II)Z"⟩ ∈ zTs := zTs_t (List.mem_of_getElem? (i := 1116) (by decide +kernel)) (by decide +kernel)
theorem zl_1118 : Cond.instanceMethod ⟨"FrameDeltasModel", "isInChain", "(II)Z"⟩ ∈ zTs := zTs_t (List.mem_of_getElem? (i := 1118) (by decide +kernel)) (by decide +kernel)
theorem zl_1119 : Cond.code ⟨"FrameDeltasModel", "isInChain", "(II)Z"⟩ prog_10_method_76_code 4 (Option.some Jvm.ClassFile.FieldType.boolean) ∈ zTs := zTs_t (List.mem_of_getElem? (i := 1119) (by decide +kernel)) (by decide +kernel)
theorem zl_1120 : Cond.methodLink "FrameDeltasLaw" 121 ⟨"FrameDeltasModel", "patch", "(I)I"⟩ ∈ zTs := zTs_t (List.mem_of_getElem? (i := 1120) (by decide +kernel)) (by decide +kernel)
theorem zl_1121 : Cond.instanceMethod ⟨"FrameDeltasModel", "patch", "(I)I"⟩ ∈ zTs := zTs_t (List.mem_of_getElem? (i := 1121) (by decide +kernel)) (by decide +kernel)
theorem zl_1122 : Cond.selects "FrameDeltasModel" ⟨"FrameDeltasModel", "patch", "(I)I"⟩ ⟨"FrameDeltasModel", "patch", "(I)I"⟩ ∈ zTs := zTs_t (List.mem_of_getElem? (i := 1122) (by decide +kernel)) (by decide +kernel)
theorem zl_1123 : Cond.code ⟨"FrameDeltasModel", "patch", "(I)I"⟩ prog_10_method_78_code 5 (Option.some Jvm.ClassFile.FieldType.int) ∈ zTs := zTs_t (List.mem_of_getElem? (i := 1123) (by decide +kernel)) (by decide +kernel)
theorem zl_1124 : Cond.fieldLink "java/lang/String" 9 "java/lang/String" "value" "[B" ∈ zTs := zTs_t (List.mem_of_getElem? (i := 1124) (by decide +kernel)) (by decide +kernel)
theorem zl_1125 : Cond.fieldLink "java/lang/String" 15 "java/lang/String" "coder" "B" ∈ zTs := zTs_t (List.mem_of_getElem? (i := 1125) (by decide +kernel)) (by decide +kernel)
theorem zs_0 : Cond.selects "FrameDeltas" ⟨"FrameDeltas", "save", "()V"⟩ ⟨"FrameDeltas", "save", "()V"⟩ ∈ zTs := zTs_l (List.mem_of_getElem? (i := 0) (by decide +kernel)) (by decide +kernel)
theorem zs_1 : Cond.selects "FrameDeltas" ⟨"FrameDeltas", "savedSlot", "(I)LFrameDeltas$State;"⟩ ⟨"FrameDeltas", "savedSlot", "(I)LFrameDeltas$State;"⟩ ∈ zTs := zTs_l (List.mem_of_getElem? (i := 1) (by decide +kernel)) (by decide +kernel)
theorem zs_2 : Cond.selects "FrameDeltas$State" ⟨"FrameDeltas$State", "take", "(LFrameDeltas$State;)V"⟩ ⟨"FrameDeltas$State", "take", "(LFrameDeltas$State;)V"⟩ ∈ zTs := zTs_l (List.mem_of_getElem? (i := 2) (by decide +kernel)) (by decide +kernel)
theorem zs_3 : Cond.selects "FrameDeltas$Image" ⟨"FrameDeltas$Image", "take", "(LFrameDeltas$Image;)V"⟩ ⟨"FrameDeltas$Image", "take", "(LFrameDeltas$Image;)V"⟩ ∈ zTs := zTs_l (List.mem_of_getElem? (i := 3) (by decide +kernel)) (by decide +kernel)
theorem zs_4 : Cond.selects "FrameDeltas$State" ⟨"FrameDeltas$State", "frameAt", "(I)LFrameDeltas$Frame;"⟩ ⟨"FrameDeltas$State", "frameAt", "(I)LFrameDeltas$Frame;"⟩ ∈ zTs := zTs_l (List.mem_of_getElem? (i := 4) (by decide +kernel)) (by decide +kernel)
theorem zs_5 : Cond.selects "FrameDeltas$Frame" ⟨"FrameDeltas$Frame", "take", "(LFrameDeltas$Frame;)V"⟩ ⟨"FrameDeltas$Frame", "take", "(LFrameDeltas$Frame;)V"⟩ ∈ zTs := zTs_l (List.mem_of_getElem? (i := 5) (by decide +kernel)) (by decide +kernel)
theorem zs_6 : Cond.selects "FrameDeltas$Image" ⟨"FrameDeltas$Image", "reset", "(II)V"⟩ ⟨"FrameDeltas$Image", "reset", "(II)V"⟩ ∈ zTs := zTs_l (List.mem_of_getElem? (i := 6) (by decide +kernel)) (by decide +kernel)
theorem zs_7 : Cond.selects "FrameDeltas$Image" ⟨"FrameDeltas$Image", "blocks", "()I"⟩ ⟨"FrameDeltas$Image", "blocks", "()I"⟩ ∈ zTs := zTs_l (List.mem_of_getElem? (i := 7) (by decide +kernel)) (by decide +kernel)
theorem zs_8 : Cond.selects "FrameDeltas$Image" ⟨"FrameDeltas$Image", "hasCell", "(I)Z"⟩ ⟨"FrameDeltas$Image", "hasCell", "(I)Z"⟩ ∈ zTs := zTs_l (List.mem_of_getElem? (i := 8) (by decide +kernel)) (by decide +kernel)
theorem zs_9 : Cond.selects "FrameDeltas$Image" ⟨"FrameDeltas$Image", "numbered", "(I)I"⟩ ⟨"FrameDeltas$Image", "numbered", "(I)I"⟩ ∈ zTs := zTs_l (List.mem_of_getElem? (i := 9) (by decide +kernel)) (by decide +kernel)
theorem zs_10 : Cond.selects "FrameDeltas$Image" ⟨"FrameDeltas$Image", "putNumbered", "(II)V"⟩ ⟨"FrameDeltas$Image", "putNumbered", "(II)V"⟩ ∈ zTs := zTs_l (List.mem_of_getElem? (i := 10) (by decide +kernel)) (by decide +kernel)
theorem zs_11 : Cond.selects "FrameDeltas$Script" ⟨"FrameDeltas$Script", "append", "(C)I"⟩ ⟨"FrameDeltas$Script", "append", "(C)I"⟩ ∈ zTs := zTs_l (List.mem_of_getElem? (i := 11) (by decide +kernel)) (by decide +kernel)
theorem zs_12 : Cond.selects "FrameDeltas$Script" ⟨"FrameDeltas$Script", "errorPosition", "(LFrameDeltas$State;)I"⟩ ⟨"FrameDeltas$Script", "errorPosition", "(LFrameDeltas$State;)I"⟩ ∈ zTs := zTs_l (List.mem_of_getElem? (i := 12) (by decide +kernel)) (by decide +kernel)
theorem zs_13 : Cond.selects "FrameDeltas$Script" ⟨"FrameDeltas$Script", "nextToken", "()V"⟩ ⟨"FrameDeltas$Script", "nextToken", "()V"⟩ ∈ zTs := zTs_l (List.mem_of_getElem? (i := 13) (by decide +kernel)) (by decide +kernel)
theorem zs_14 : Cond.selects "FrameDeltas$Script" ⟨"FrameDeltas$Script", "signAt", "(I)C"⟩ ⟨"FrameDeltas$Script", "signAt", "(I)C"⟩ ∈ zTs := zTs_l (List.mem_of_getElem? (i := 14) (by decide +kernel)) (by decide +kernel)
theorem zs_15 : Cond.selects "FrameDeltas$Script" ⟨"FrameDeltas$Script", "readCommand", "(LFrameDeltas$State;)Z"⟩ ⟨"FrameDeltas$Script", "readCommand", "(LFrameDeltas$State;)Z"⟩ ∈ zTs := zTs_l (List.mem_of_getElem? (i := 15) (by decide +kernel)) (by decide +kernel)
theorem zs_16 : Cond.selects "FrameDeltas$Script" ⟨"FrameDeltas$Script", "commandOfToken", "()I"⟩ ⟨"FrameDeltas$Script", "commandOfToken", "()I"⟩ ∈ zTs := zTs_l (List.mem_of_getElem? (i := 16) (by decide +kernel)) (by decide +kernel)
theorem zs_17 : Cond.selects "FrameDeltas$Script" ⟨"FrameDeltas$Script", "isToken", "(Ljava/lang/String;)Z"⟩ ⟨"FrameDeltas$Script", "isToken", "(Ljava/lang/String;)Z"⟩ ∈ zTs := zTs_l (List.mem_of_getElem? (i := 17) (by decide +kernel)) (by decide +kernel)
theorem zs_18 : Cond.selects "FrameDeltas$Script" ⟨"FrameDeltas$Script", "addToProgram", "(I)V"⟩ ⟨"FrameDeltas$Script", "addToProgram", "(I)V"⟩ ∈ zTs := zTs_l (List.mem_of_getElem? (i := 18) (by decide +kernel)) (by decide +kernel)
theorem zs_19 : Cond.selects "FrameDeltas$Script" ⟨"FrameDeltas$Script", "readNumber", "()Z"⟩ ⟨"FrameDeltas$Script", "readNumber", "()Z"⟩ ∈ zTs := zTs_l (List.mem_of_getElem? (i := 19) (by decide +kernel)) (by decide +kernel)
theorem zs_20 : Cond.selects "FrameDeltas$Script" ⟨"FrameDeltas$Script", "isAllowed", "(CLFrameDeltas$State;)Z"⟩ ⟨"FrameDeltas$Script", "isAllowed", "(CLFrameDeltas$State;)Z"⟩ ∈ zTs := zTs_l (List.mem_of_getElem? (i := 20) (by decide +kernel)) (by decide +kernel)
theorem zs_21 : Cond.selects "FrameDeltas$State" ⟨"FrameDeltas$State", "isFrame", "(I)Z"⟩ ⟨"FrameDeltas$State", "isFrame", "(I)Z"⟩ ∈ zTs := zTs_l (List.mem_of_getElem? (i := 21) (by decide +kernel)) (by decide +kernel)
theorem zs_22 : Cond.selects "FrameDeltas$State" ⟨"FrameDeltas$State", "isReadable", "(I)Z"⟩ ⟨"FrameDeltas$State", "isReadable", "(I)Z"⟩ ∈ zTs := zTs_l (List.mem_of_getElem? (i := 22) (by decide +kernel)) (by decide +kernel)
theorem zs_23 : Cond.selects "FrameDeltas$Script" ⟨"FrameDeltas$Script", "carryOut", "(LFrameDeltas$State;LFrameDeltas$Image;)I"⟩ ⟨"FrameDeltas$Script", "carryOut", "(LFrameDeltas$State;LFrameDeltas$Image;)I"⟩ ∈ zTs := zTs_l (List.mem_of_getElem? (i := 23) (by decide +kernel)) (by decide +kernel)
theorem zs_24 : Cond.selects "FrameDeltas$Script" ⟨"FrameDeltas$Script", "programAt", "(I)I"⟩ ⟨"FrameDeltas$Script", "programAt", "(I)I"⟩ ∈ zTs := zTs_l (List.mem_of_getElem? (i := 24) (by decide +kernel)) (by decide +kernel)
theorem zs_25 : Cond.selects "FrameDeltas$Script" ⟨"FrameDeltas$Script", "apply", "(IILFrameDeltas$State;LFrameDeltas$Image;)V"⟩ ⟨"FrameDeltas$Script", "apply", "(IILFrameDeltas$State;LFrameDeltas$Image;)V"⟩ ∈ zTs := zTs_l (List.mem_of_getElem? (i := 25) (by decide +kernel)) (by decide +kernel)
theorem zs_26 : Cond.selects "FrameDeltas$Image" ⟨"FrameDeltas$Image", "fillBox", "(IIIII)V"⟩ ⟨"FrameDeltas$Image", "fillBox", "(IIIII)V"⟩ ∈ zTs := zTs_l (List.mem_of_getElem? (i := 26) (by decide +kernel)) (by decide +kernel)
theorem zs_27 : Cond.selects "FrameDeltas$Image" ⟨"FrameDeltas$Image", "takeShifted", "(LFrameDeltas$Image;II)V"⟩ ⟨"FrameDeltas$Image", "takeShifted", "(LFrameDeltas$Image;II)V"⟩ ∈ zTs := zTs_l (List.mem_of_getElem? (i := 27) (by decide +kernel)) (by decide +kernel)
theorem zs_28 : Cond.selects "FrameDeltas$Image" ⟨"FrameDeltas$Image", "at", "(II)I"⟩ ⟨"FrameDeltas$Image", "at", "(II)I"⟩ ∈ zTs := zTs_l (List.mem_of_getElem? (i := 28) (by decide +kernel)) (by decide +kernel)
theorem zs_29 : Cond.selects "FrameDeltas$Image" ⟨"FrameDeltas$Image", "swapValues", "(II)V"⟩ ⟨"FrameDeltas$Image", "swapValues", "(II)V"⟩ ∈ zTs := zTs_l (List.mem_of_getElem? (i := 29) (by decide +kernel)) (by decide +kernel)
theorem zs_30 : Cond.selects "FrameDeltas$State" ⟨"FrameDeltas$State", "imageOf", "(I)LFrameDeltas$Image;"⟩ ⟨"FrameDeltas$State", "imageOf", "(I)LFrameDeltas$Image;"⟩ ∈ zTs := zTs_l (List.mem_of_getElem? (i := 30) (by decide +kernel)) (by decide +kernel)
theorem zs_31 : Cond.selects "FrameDeltas$State" ⟨"FrameDeltas$State", "isImage", "(I)Z"⟩ ⟨"FrameDeltas$State", "isImage", "(I)Z"⟩ ∈ zTs := zTs_l (List.mem_of_getElem? (i := 31) (by decide +kernel)) (by decide +kernel)
theorem zs_32 : Cond.selects "FrameDeltas$Image" ⟨"FrameDeltas$Image", "hasPart", "(II)Z"⟩ ⟨"FrameDeltas$Image", "hasPart", "(II)Z"⟩ ∈ zTs := zTs_l (List.mem_of_getElem? (i := 32) (by decide +kernel)) (by decide +kernel)
theorem zs_33 : Cond.selects "FrameDeltas$Image" ⟨"FrameDeltas$Image", "partDigest", "(II)I"⟩ ⟨"FrameDeltas$Image", "partDigest", "(II)I"⟩ ∈ zTs := zTs_l (List.mem_of_getElem? (i := 33) (by decide +kernel)) (by decide +kernel)
theorem zs_34 : Cond.selects "FrameDeltas" ⟨"FrameDeltas", "add", "(I)I"⟩ ⟨"FrameDeltas", "add", "(I)I"⟩ ∈ zTs := zTs_l (List.mem_of_getElem? (i := 34) (by decide +kernel)) (by decide +kernel)
theorem zs_35 : Cond.selects "FrameDeltas$Coder" ⟨"FrameDeltas$Coder", "encode", "(LFrameDeltas$Frame;LFrameDeltas$State;I)V"⟩ ⟨"FrameDeltas$Coder", "encode", "(LFrameDeltas$Frame;LFrameDeltas$State;I)V"⟩ ∈ zTs := zTs_l (List.mem_of_getElem? (i := 35) (by decide +kernel)) (by decide +kernel)
theorem zs_36 : Cond.selects "FrameDeltas$Coder" ⟨"FrameDeltas$Coder", "encodeRaw", "(LFrameDeltas$Frame;I)I"⟩ ⟨"FrameDeltas$Coder", "encodeRaw", "(LFrameDeltas$Frame;I)I"⟩ ∈ zTs := zTs_l (List.mem_of_getElem? (i := 36) (by decide +kernel)) (by decide +kernel)
theorem zs_37 : Cond.selects "FrameDeltas$RunList" ⟨"FrameDeltas$RunList", "read", "(LFrameDeltas$Image;LFrameDeltas$Image;I)V"⟩ ⟨"FrameDeltas$RunList", "read", "(LFrameDeltas$Image;LFrameDeltas$Image;I)V"⟩ ∈ zTs := zTs_l (List.mem_of_getElem? (i := 37) (by decide +kernel)) (by decide +kernel)
theorem zs_38 : Cond.selects "FrameDeltas$Image" ⟨"FrameDeltas$Image", "left", "(I)I"⟩ ⟨"FrameDeltas$Image", "left", "(I)I"⟩ ∈ zTs := zTs_l (List.mem_of_getElem? (i := 38) (by decide +kernel)) (by decide +kernel)
theorem zs_39 : Cond.selects "FrameDeltas$Image" ⟨"FrameDeltas$Image", "top", "(I)I"⟩ ⟨"FrameDeltas$Image", "top", "(I)I"⟩ ∈ zTs := zTs_l (List.mem_of_getElem? (i := 39) (by decide +kernel)) (by decide +kernel)
theorem zs_40 : Cond.selects "FrameDeltas$RunList" ⟨"FrameDeltas$RunList", "addCell", "(I)V"⟩ ⟨"FrameDeltas$RunList", "addCell", "(I)V"⟩ ∈ zTs := zTs_l (List.mem_of_getElem? (i := 40) (by decide +kernel)) (by decide +kernel)
theorem zs_41 : Cond.selects "FrameDeltas$Frame" ⟨"FrameDeltas$Frame", "setCode", "(IIIII)V"⟩ ⟨"FrameDeltas$Frame", "setCode", "(IIIII)V"⟩ ∈ zTs := zTs_l (List.mem_of_getElem? (i := 41) (by decide +kernel)) (by decide +kernel)
theorem zs_42 : Cond.selects "FrameDeltas$Coder" ⟨"FrameDeltas$Coder", "encodeWith", "(LFrameDeltas$Frame;ILFrameDeltas$Image;I)I"⟩ ⟨"FrameDeltas$Coder", "encodeWith", "(LFrameDeltas$Frame;ILFrameDeltas$Image;I)I"⟩ ∈ zTs := zTs_l (List.mem_of_getElem? (i := 42) (by decide +kernel)) (by decide +kernel)
theorem zs_43 : Cond.selects "FrameDeltas$Image" ⟨"FrameDeltas$Image", "samePart", "(IILFrameDeltas$Image;II)Z"⟩ ⟨"FrameDeltas$Image", "samePart", "(IILFrameDeltas$Image;II)Z"⟩ ∈ zTs := zTs_l (List.mem_of_getElem? (i := 43) (by decide +kernel)) (by decide +kernel)
theorem zs_44 : Cond.selects "FrameDeltas$Coder" ⟨"FrameDeltas$Coder", "findMove", "(LFrameDeltas$Image;IILFrameDeltas$Image;I)Z"⟩ ⟨"FrameDeltas$Coder", "findMove", "(LFrameDeltas$Image;IILFrameDeltas$Image;I)Z"⟩ ∈ zTs := zTs_l (List.mem_of_getElem? (i := 44) (by decide +kernel)) (by decide +kernel)
theorem zs_45 : Cond.selects "FrameDeltas$State" ⟨"FrameDeltas$State", "mayBeReference", "(I)Z"⟩ ⟨"FrameDeltas$State", "mayBeReference", "(I)Z"⟩ ∈ zTs := zTs_l (List.mem_of_getElem? (i := 45) (by decide +kernel)) (by decide +kernel)
theorem zs_46 : Cond.selects "FrameDeltas$State" ⟨"FrameDeltas$State", "depthOf", "(I)I"⟩ ⟨"FrameDeltas$State", "depthOf", "(I)I"⟩ ∈ zTs := zTs_l (List.mem_of_getElem? (i := 46) (by decide +kernel)) (by decide +kernel)
theorem zs_47 : Cond.selects "FrameDeltas" ⟨"FrameDeltas", "chosenReference", "()I"⟩ ⟨"FrameDeltas", "chosenReference", "()I"⟩ ∈ zTs := zTs_l (List.mem_of_getElem? (i := 47) (by decide +kernel)) (by decide +kernel)
theorem zs_48 : Cond.selects "FrameDeltas" ⟨"FrameDeltas", "costOfCanvas", "(I)I"⟩ ⟨"FrameDeltas", "costOfCanvas", "(I)I"⟩ ∈ zTs := zTs_l (List.mem_of_getElem? (i := 48) (by decide +kernel)) (by decide +kernel)
theorem zs_49 : Cond.selects "FrameDeltas$Planner" ⟨"FrameDeltas$Planner", "plan", "(LFrameDeltas$State;LFrameDeltas$Coder;LFrameDeltas$Frame;)V"⟩ ⟨"FrameDeltas$Planner", "plan", "(LFrameDeltas$State;LFrameDeltas$Coder;LFrameDeltas$Frame;)V"⟩ ∈ zTs := zTs_l (List.mem_of_getElem? (i := 49) (by decide +kernel)) (by decide +kernel)
theorem zs_50 : Cond.selects "FrameDeltas$Planner" ⟨"FrameDeltas$Planner", "measure", "(LFrameDeltas$State;LFrameDeltas$Coder;LFrameDeltas$Frame;I)V"⟩ ⟨"FrameDeltas$Planner", "measure", "(LFrameDeltas$State;LFrameDeltas$Coder;LFrameDeltas$Frame;I)V"⟩ ∈ zTs := zTs_l (List.mem_of_getElem? (i := 50) (by decide +kernel)) (by decide +kernel)
theorem zs_51 : Cond.selects "FrameDeltas$Planner" ⟨"FrameDeltas$Planner", "costOf", "(III)I"⟩ ⟨"FrameDeltas$Planner", "costOf", "(III)I"⟩ ∈ zTs := zTs_l (List.mem_of_getElem? (i := 51) (by decide +kernel)) (by decide +kernel)
theorem zs_52 : Cond.selects "FrameDeltas$Planner" ⟨"FrameDeltas$Planner", "referenceOf", "(I)I"⟩ ⟨"FrameDeltas$Planner", "referenceOf", "(I)I"⟩ ∈ zTs := zTs_l (List.mem_of_getElem? (i := 52) (by decide +kernel)) (by decide +kernel)
theorem zs_53 : Cond.selects "FrameDeltas$State" ⟨"FrameDeltas$State", "readableFrames", "()I"⟩ ⟨"FrameDeltas$State", "readableFrames", "()I"⟩ ∈ zTs := zTs_l (List.mem_of_getElem? (i := 53) (by decide +kernel)) (by decide +kernel)
theorem zs_54 : Cond.selects "FrameDeltas$State" ⟨"FrameDeltas$State", "seekCost", "(I)I"⟩ ⟨"FrameDeltas$State", "seekCost", "(I)I"⟩ ∈ zTs := zTs_l (List.mem_of_getElem? (i := 54) (by decide +kernel)) (by decide +kernel)
theorem zs_55 : Cond.selects "FrameDeltas$Frame" ⟨"FrameDeltas$Frame", "codesOfKind", "(I)I"⟩ ⟨"FrameDeltas$Frame", "codesOfKind", "(I)I"⟩ ∈ zTs := zTs_l (List.mem_of_getElem? (i := 55) (by decide +kernel)) (by decide +kernel)
theorem zs_56 : Cond.selects "FrameDeltas$Frame" ⟨"FrameDeltas$Frame", "codePart", "(II)I"⟩ ⟨"FrameDeltas$Frame", "codePart", "(II)I"⟩ ∈ zTs := zTs_l (List.mem_of_getElem? (i := 56) (by decide +kernel)) (by decide +kernel)
theorem zs_57 : Cond.selects "FrameDeltas$Image" ⟨"FrameDeltas$Image", "hasBlock", "(I)Z"⟩ ⟨"FrameDeltas$Image", "hasBlock", "(I)Z"⟩ ∈ zTs := zTs_l (List.mem_of_getElem? (i := 57) (by decide +kernel)) (by decide +kernel)
theorem zs_58 : Cond.selects "FrameDeltas$RunList" ⟨"FrameDeltas$RunList", "lengthOf", "(I)I"⟩ ⟨"FrameDeltas$RunList", "lengthOf", "(I)I"⟩ ∈ zTs := zTs_l (List.mem_of_getElem? (i := 58) (by decide +kernel)) (by decide +kernel)
theorem zs_59 : Cond.selects "FrameDeltas$RunList" ⟨"FrameDeltas$RunList", "valueOf", "(I)I"⟩ ⟨"FrameDeltas$RunList", "valueOf", "(I)I"⟩ ∈ zTs := zTs_l (List.mem_of_getElem? (i := 59) (by decide +kernel)) (by decide +kernel)
theorem zs_60 : Cond.selects "FrameDeltas$State" ⟨"FrameDeltas$State", "costOfRecords", "()I"⟩ ⟨"FrameDeltas$State", "costOfRecords", "()I"⟩ ∈ zTs := zTs_l (List.mem_of_getElem? (i := 60) (by decide +kernel)) (by decide +kernel)
theorem zs_61 : Cond.selects "FrameDeltas$Image" ⟨"FrameDeltas$Image", "cellsUnlike", "(LFrameDeltas$Image;)I"⟩ ⟨"FrameDeltas$Image", "cellsUnlike", "(LFrameDeltas$Image;)I"⟩ ∈ zTs := zTs_l (List.mem_of_getElem? (i := 61) (by decide +kernel)) (by decide +kernel)
theorem zs_62 : Cond.selects "FrameDeltas" ⟨"FrameDeltas", "falsePairs", "(LFrameDeltas$Image;)I"⟩ ⟨"FrameDeltas", "falsePairs", "(LFrameDeltas$Image;)I"⟩ ∈ zTs := zTs_l (List.mem_of_getElem? (i := 62) (by decide +kernel)) (by decide +kernel)
theorem zs_63 : Cond.selects "FrameDeltas$State" ⟨"FrameDeltas$State", "chainHas", "(II)Z"⟩ ⟨"FrameDeltas$State", "chainHas", "(II)Z"⟩ ∈ zTs := zTs_l (List.mem_of_getElem? (i := 63) (by decide +kernel)) (by decide +kernel)
theorem zs_64 : Cond.selects "FrameDeltasModel" ⟨"FrameDeltasModel", "note", "()V"⟩ ⟨"FrameDeltasModel", "note", "()V"⟩ ∈ zTs := zTs_l (List.mem_of_getElem? (i := 64) (by decide +kernel)) (by decide +kernel)
theorem zs_65 : Cond.selects "FrameDeltasModel" ⟨"FrameDeltasModel", "blocks", "()I"⟩ ⟨"FrameDeltasModel", "blocks", "()I"⟩ ∈ zTs := zTs_l (List.mem_of_getElem? (i := 65) (by decide +kernel)) (by decide +kernel)
theorem zs_66 : Cond.selects "FrameDeltasModel" ⟨"FrameDeltasModel", "cells", "()I"⟩ ⟨"FrameDeltasModel", "cells", "()I"⟩ ∈ zTs := zTs_l (List.mem_of_getElem? (i := 66) (by decide +kernel)) (by decide +kernel)
theorem zs_67 : Cond.selects "FrameDeltasModel" ⟨"FrameDeltasModel", "isCell", "(I)Z"⟩ ⟨"FrameDeltasModel", "isCell", "(I)Z"⟩ ∈ zTs := zTs_l (List.mem_of_getElem? (i := 67) (by decide +kernel)) (by decide +kernel)
theorem zs_68 : Cond.selects "FrameDeltasModel" ⟨"FrameDeltasModel", "readsToken", "()V"⟩ ⟨"FrameDeltasModel", "readsToken", "()V"⟩ ∈ zTs := zTs_l (List.mem_of_getElem? (i := 68) (by decide +kernel)) (by decide +kernel)
theorem zs_69 : Cond.selects "FrameDeltasModel" ⟨"FrameDeltasModel", "here", "()I"⟩ ⟨"FrameDeltasModel", "here", "()I"⟩ ∈ zTs := zTs_l (List.mem_of_getElem? (i := 69) (by decide +kernel)) (by decide +kernel)
theorem zs_70 : Cond.selects "FrameDeltasModel" ⟨"FrameDeltasModel", "readsCommand", "()V"⟩ ⟨"FrameDeltasModel", "readsCommand", "()V"⟩ ∈ zTs := zTs_l (List.mem_of_getElem? (i := 70) (by decide +kernel)) (by decide +kernel)
theorem zs_71 : Cond.selects "FrameDeltasModel" ⟨"FrameDeltasModel", "takes", "(Z)V"⟩ ⟨"FrameDeltasModel", "takes", "(Z)V"⟩ ∈ zTs := zTs_l (List.mem_of_getElem? (i := 71) (by decide +kernel)) (by decide +kernel)
theorem zs_72 : Cond.selects "FrameDeltasModel" ⟨"FrameDeltasModel", "takesNumber", "(II)I"⟩ ⟨"FrameDeltasModel", "takesNumber", "(II)I"⟩ ∈ zTs := zTs_l (List.mem_of_getElem? (i := 72) (by decide +kernel)) (by decide +kernel)
theorem zs_73 : Cond.selects "FrameDeltasModel" ⟨"FrameDeltasModel", "fillsBox", "(IIIII)V"⟩ ⟨"FrameDeltasModel", "fillsBox", "(IIIII)V"⟩ ∈ zTs := zTs_l (List.mem_of_getElem? (i := 73) (by decide +kernel)) (by decide +kernel)
theorem zs_74 : Cond.selects "FrameDeltasModel" ⟨"FrameDeltasModel", "shifts", "(II)V"⟩ ⟨"FrameDeltasModel", "shifts", "(II)V"⟩ ∈ zTs := zTs_l (List.mem_of_getElem? (i := 74) (by decide +kernel)) (by decide +kernel)
theorem zs_75 : Cond.selects "FrameDeltasModel" ⟨"FrameDeltasModel", "keeps", "()V"⟩ ⟨"FrameDeltasModel", "keeps", "()V"⟩ ∈ zTs := zTs_l (List.mem_of_getElem? (i := 75) (by decide +kernel)) (by decide +kernel)
theorem zs_76 : Cond.selects "FrameDeltasModel" ⟨"FrameDeltasModel", "place", "(II)I"⟩ ⟨"FrameDeltasModel", "place", "(II)I"⟩ ∈ zTs := zTs_l (List.mem_of_getElem? (i := 76) (by decide +kernel)) (by decide +kernel)
theorem zs_77 : Cond.selects "FrameDeltasModel" ⟨"FrameDeltasModel", "isFrame", "(I)Z"⟩ ⟨"FrameDeltasModel", "isFrame", "(I)Z"⟩ ∈ zTs := zTs_l (List.mem_of_getElem? (i := 77) (by decide +kernel)) (by decide +kernel)
theorem zs_78 : Cond.selects "FrameDeltasModel" ⟨"FrameDeltasModel", "isGood", "(I)Z"⟩ ⟨"FrameDeltasModel", "isGood", "(I)Z"⟩ ∈ zTs := zTs_l (List.mem_of_getElem? (i := 78) (by decide +kernel)) (by decide +kernel)
theorem zs_79 : Cond.selects "FrameDeltasModel" ⟨"FrameDeltasModel", "reference", "(I)I"⟩ ⟨"FrameDeltasModel", "reference", "(I)I"⟩ ∈ zTs := zTs_l (List.mem_of_getElem? (i := 79) (by decide +kernel)) (by decide +kernel)
theorem zs_80 : Cond.selects "FrameDeltasModel" ⟨"FrameDeltasModel", "value", "(II)I"⟩ ⟨"FrameDeltasModel", "value", "(II)I"⟩ ∈ zTs := zTs_l (List.mem_of_getElem? (i := 80) (by decide +kernel)) (by decide +kernel)
theorem zs_81 : Cond.selects "FrameDeltasModel" ⟨"FrameDeltasModel", "exchanges", "()V"⟩ ⟨"FrameDeltasModel", "exchanges", "()V"⟩ ∈ zTs := zTs_l (List.mem_of_getElem? (i := 81) (by decide +kernel)) (by decide +kernel)
theorem zs_82 : Cond.selects "FrameDeltasModel" ⟨"FrameDeltasModel", "isImage", "(I)Z"⟩ ⟨"FrameDeltasModel", "isImage", "(I)Z"⟩ ∈ zTs := zTs_l (List.mem_of_getElem? (i := 82) (by decide +kernel)) (by decide +kernel)
theorem zs_83 : Cond.selects "FrameDeltasModel" ⟨"FrameDeltasModel", "isKnown", "(I)Z"⟩ ⟨"FrameDeltasModel", "isKnown", "(I)Z"⟩ ∈ zTs := zTs_l (List.mem_of_getElem? (i := 83) (by decide +kernel)) (by decide +kernel)
theorem zs_84 : Cond.selects "FrameDeltasModel" ⟨"FrameDeltasModel", "digestOf", "(III)I"⟩ ⟨"FrameDeltasModel", "digestOf", "(III)I"⟩ ∈ zTs := zTs_l (List.mem_of_getElem? (i := 84) (by decide +kernel)) (by decide +kernel)
theorem zs_85 : Cond.selects "FrameDeltasModel" ⟨"FrameDeltasModel", "adds", "(I)I"⟩ ⟨"FrameDeltasModel", "adds", "(I)I"⟩ ∈ zTs := zTs_l (List.mem_of_getElem? (i := 85) (by decide +kernel)) (by decide +kernel)
theorem zs_86 : Cond.selects "FrameDeltasModel" ⟨"FrameDeltasModel", "codesAll", "(II)I"⟩ ⟨"FrameDeltasModel", "codesAll", "(II)I"⟩ ∈ zTs := zTs_l (List.mem_of_getElem? (i := 86) (by decide +kernel)) (by decide +kernel)
theorem zs_87 : Cond.selects "FrameDeltasModel" ⟨"FrameDeltasModel", "codes", "(III)I"⟩ ⟨"FrameDeltasModel", "codes", "(III)I"⟩ ∈ zTs := zTs_l (List.mem_of_getElem? (i := 87) (by decide +kernel)) (by decide +kernel)
theorem zs_88 : Cond.selects "FrameDeltasModel" ⟨"FrameDeltasModel", "runsOf", "(III)I"⟩ ⟨"FrameDeltasModel", "runsOf", "(III)I"⟩ ∈ zTs := zTs_l (List.mem_of_getElem? (i := 88) (by decide +kernel)) (by decide +kernel)
theorem zs_89 : Cond.selects "FrameDeltasModel" ⟨"FrameDeltasModel", "given", "(IIII)I"⟩ ⟨"FrameDeltasModel", "given", "(IIII)I"⟩ ∈ zTs := zTs_l (List.mem_of_getElem? (i := 89) (by decide +kernel)) (by decide +kernel)
theorem zs_90 : Cond.selects "FrameDeltasModel" ⟨"FrameDeltasModel", "left", "(I)I"⟩ ⟨"FrameDeltasModel", "left", "(I)I"⟩ ∈ zTs := zTs_l (List.mem_of_getElem? (i := 90) (by decide +kernel)) (by decide +kernel)
theorem zs_91 : Cond.selects "FrameDeltasModel" ⟨"FrameDeltasModel", "top", "(I)I"⟩ ⟨"FrameDeltasModel", "top", "(I)I"⟩ ∈ zTs := zTs_l (List.mem_of_getElem? (i := 91) (by decide +kernel)) (by decide +kernel)
theorem zs_92 : Cond.selects "FrameDeltasModel" ⟨"FrameDeltasModel", "isLike", "(IIIII)Z"⟩ ⟨"FrameDeltasModel", "isLike", "(IIIII)Z"⟩ ∈ zTs := zTs_l (List.mem_of_getElem? (i := 92) (by decide +kernel)) (by decide +kernel)
theorem zs_93 : Cond.selects "FrameDeltasModel" ⟨"FrameDeltasModel", "finds", "(III)Z"⟩ ⟨"FrameDeltasModel", "finds", "(III)Z"⟩ ∈ zTs := zTs_l (List.mem_of_getElem? (i := 93) (by decide +kernel)) (by decide +kernel)
theorem zs_94 : Cond.selects "FrameDeltasModel" ⟨"FrameDeltasModel", "records", "(II)V"⟩ ⟨"FrameDeltasModel", "records", "(II)V"⟩ ∈ zTs := zTs_l (List.mem_of_getElem? (i := 94) (by decide +kernel)) (by decide +kernel)
theorem zs_95 : Cond.selects "FrameDeltasModel" ⟨"FrameDeltasModel", "depthOf", "(I)I"⟩ ⟨"FrameDeltasModel", "depthOf", "(I)I"⟩ ∈ zTs := zTs_l (List.mem_of_getElem? (i := 95) (by decide +kernel)) (by decide +kernel)
theorem zs_96 : Cond.selects "FrameDeltasModel" ⟨"FrameDeltasModel", "plans", "()I"⟩ ⟨"FrameDeltasModel", "plans", "()I"⟩ ∈ zTs := zTs_l (List.mem_of_getElem? (i := 96) (by decide +kernel)) (by decide +kernel)
theorem zs_97 : Cond.selects "FrameDeltasModel" ⟨"FrameDeltasModel", "planOf", "(I)I"⟩ ⟨"FrameDeltasModel", "planOf", "(I)I"⟩ ∈ zTs := zTs_l (List.mem_of_getElem? (i := 97) (by decide +kernel)) (by decide +kernel)
theorem zs_98 : Cond.selects "FrameDeltasModel" ⟨"FrameDeltasModel", "goods", "()I"⟩ ⟨"FrameDeltasModel", "goods", "()I"⟩ ∈ zTs := zTs_l (List.mem_of_getElem? (i := 98) (by decide +kernel)) (by decide +kernel)
theorem zs_99 : Cond.selects "FrameDeltasModel" ⟨"FrameDeltasModel", "costOf", "(I)I"⟩ ⟨"FrameDeltasModel", "costOf", "(I)I"⟩ ∈ zTs := zTs_l (List.mem_of_getElem? (i := 99) (by decide +kernel)) (by decide +kernel)
theorem zs_100 : Cond.selects "FrameDeltasModel" ⟨"FrameDeltasModel", "codeAt", "(II)I"⟩ ⟨"FrameDeltasModel", "codeAt", "(II)I"⟩ ∈ zTs := zTs_l (List.mem_of_getElem? (i := 100) (by decide +kernel)) (by decide +kernel)
theorem zs_101 : Cond.selects "FrameDeltasModel" ⟨"FrameDeltasModel", "runsIn", "(II)I"⟩ ⟨"FrameDeltasModel", "runsIn", "(II)I"⟩ ∈ zTs := zTs_l (List.mem_of_getElem? (i := 101) (by decide +kernel)) (by decide +kernel)
theorem zs_102 : Cond.selects "FrameDeltasModel" ⟨"FrameDeltasModel", "seekOf", "(I)I"⟩ ⟨"FrameDeltasModel", "seekOf", "(I)I"⟩ ∈ zTs := zTs_l (List.mem_of_getElem? (i := 102) (by decide +kernel)) (by decide +kernel)
theorem zs_103 : Cond.selects "FrameDeltasModel" ⟨"FrameDeltasModel", "codesOf", "(II)I"⟩ ⟨"FrameDeltasModel", "codesOf", "(II)I"⟩ ∈ zTs := zTs_l (List.mem_of_getElem? (i := 103) (by decide +kernel)) (by decide +kernel)
theorem zs_104 : Cond.selects "FrameDeltasModel" ⟨"FrameDeltasModel", "isBlock", "(I)Z"⟩ ⟨"FrameDeltasModel", "isBlock", "(I)Z"⟩ ∈ zTs := zTs_l (List.mem_of_getElem? (i := 104) (by decide +kernel)) (by decide +kernel)
theorem zs_105 : Cond.selects "FrameDeltasModel" ⟨"FrameDeltasModel", "differing", "(II)I"⟩ ⟨"FrameDeltasModel", "differing", "(II)I"⟩ ∈ zTs := zTs_l (List.mem_of_getElem? (i := 105) (by decide +kernel)) (by decide +kernel)
theorem zs_106 : Cond.selects "FrameDeltasModel" ⟨"FrameDeltasModel", "areAlike", "(IIIIII)Z"⟩ ⟨"FrameDeltasModel", "areAlike", "(IIIIII)Z"⟩ ∈ zTs := zTs_l (List.mem_of_getElem? (i := 106) (by decide +kernel)) (by decide +kernel)
theorem zs_107 : Cond.selects "FrameDeltasModel" ⟨"FrameDeltasModel", "isInChain", "(II)Z"⟩ ⟨"FrameDeltasModel", "isInChain", "(II)Z"⟩ ∈ zTs := zTs_l (List.mem_of_getElem? (i := 107) (by decide +kernel)) (by decide +kernel)
end
section
/-! THE SMALL MACHINE: instructions as decoded, locals and stack of tagged whole numbers and places, a memory of whole numbers by (kind of cell, number of the cell, place in it); the references between cells are fixed once all is made, so they are computed and not kept. -/
abbrev mzV : Type := Option (Int ⊕ (Int ⊕ (Nat × Int)))
abbrev mzM : Type := Nat → Int → Int → Int
abbrev vI (n : Int) : mzV := some (.inl n)
abbrev vL (n : Int) : mzV := some (.inr (.inl n))
abbrev vR (t : Nat) (i : Int) : mzV := some (.inr (.inr (t, i)))
def mup (μ : mzM) (t : Nat) (i k v : Int) : mzM := fun t' i' k' => if t' = t ∧ i' = i ∧ k' = k then v else μ t' i' k'
/-- a copy of n places of one cell into another -/
def mcp (μ : mzM) (ts : Nat) (is sp : Int) (td : Nat) (id dp n : Int) : mzM := fun t i k => if t = td ∧ i = id ∧ dp ≤ k ∧ k < dp + n then μ ts is (sp + (k - dp)) else μ t i k
abbrev zin (a : Int) : Prop := -2147483648 ≤ a ∧ a ≤ 2147483647
abbrev zin6 (a : Int) : Prop := -9223372036854775808 ≤ a ∧ a ≤ 9223372036854775807
/-- wrap-around, for the few places where it may happen -/
def zw (a : Int) : Int := (a + 2147483648) % 4294967296 - 2147483648
def zb (a : Int) : Int := (a + 128) % 256 - 128
def zand (a b : Int) : Int := (Int32.ofInt a &&& Int32.ofInt b).toInt
def zxor (a b : Int) : Int := (Int32.ofInt a ^^^ Int32.ofInt b).toInt
def zor (a b : Int) : Int := (Int32.ofInt a ||| Int32.ofInt b).toInt
def zshl (a b : Int) : Int := (Int32.ofInt a <<< (Int32.ofInt b &&& 31)).toInt
def zshr (a b : Int) : Int := (Int32.ofInt a >>> (Int32.ofInt b &&& 31)).toInt
def zushr (a b : Int) : Int := ((Int32.ofInt a).toUInt32 >>> ((Int32.ofInt b).toUInt32 &&& Int32.toUInt32 31)).toInt32.toInt
def zcmp (a b : Int) : Int := if a < b then -1 else if a = b then 0 else 1
/-- an instruction of a method: its byte, itself, an operand that is resolved, further operands, and whether a loop begins there -/
abbrev mzN : Type := Nat × Instr × Nat × List (Int × Nat) × Bool
abbrev mzC : Type := Nat × List mzV × List mzV × mzM
abbrev mzQ : Type := (p : Prop) ×' Decidable p
/-- what a step is: on; a branch; on under a condition; a call (which, its arguments, what its answer is, where it goes on); a switch; an end -/
abbrev mzS : Type := Option (mzC ⊕ ((mzQ × mzC × mzC) ⊕ ((mzQ × mzC) ⊕ ((Nat × List mzV × Nat × mzC) ⊕ ((Int × List (Int × Nat) × mzC) ⊕ (Option mzV × mzM))))))
abbrev sN (c : mzC) : mzS := some (.inl c)
abbrev sB (p : Prop) (h : Decidable p) (c d : mzC) : mzS := some (.inr (.inl (⟨p, h⟩, c, d)))
abbrev sG (p : Prop) (h : Decidable p) (c : mzC) : mzS := some (.inr (.inr (.inl (⟨p, h⟩, c))))
abbrev sC (f : Nat) (as : List mzV) (r : Nat) (c : mzC) : mzS := some (.inr (.inr (.inr (.inl (f, as, r, c)))))
abbrev sW (a : Int) (cs : List (Int × Nat)) (c : mzC) : mzS := some (.inr (.inr (.inr (.inr (.inl (a, cs, c))))))
abbrev sE (r : Option mzV) (μ : mzM) : mzS := some (.inr (.inr (.inr (.inr (.inr (r, μ))))))
def zi1 (st : List mzV) (f : Int → List mzV → mzS) : mzS := match st with | some (.inl a) :: r => f a r | _ => none
def zi2 (st : List mzV) (f : Int → Int → List mzV → mzS) : mzS := match st with | some (.inl b) :: some (.inl a) :: r => f a b r | _ => none
def zl1 (st : List mzV) (f : Int → List mzV → mzS) : mzS := match st with | some (.inr (.inl a)) :: r => f a r | _ => none
def zl2 (st : List mzV) (f : Int → Int → List mzV → mzS) : mzS := match st with | some (.inr (.inl b)) :: some (.inr (.inl a)) :: r => f a b r | _ => none
def zr1 (st : List mzV) (f : Nat → Int → List mzV → mzS) : mzS := match st with | some (.inr (.inr (t, i))) :: r => f t i r | _ => none
/-- an index and a row beneath it -/
def zir (st : List mzV) (f : Int → Nat → Int → List mzV → mzS) : mzS := match st with | some (.inl j) :: some (.inr (.inr (t, i))) :: r => f j t i r | _ => none
/-- a value, an index, a row -/
def zvir (st : List mzV) (f : Int → Int → Nat → Int → List mzV → mzS) : mzS := match st with | some (.inl v) :: some (.inl j) :: some (.inr (.inr (t, i))) :: r => f v j t i r | _ => none
def zld (ls : List mzV) (i : Nat) (f : mzV → mzS) : mzS := match ls[i]? with | some (some v) => f (some v) | _ => none
def zisI (v : mzV) : Bool := match v with | some (.inl _) => true | _ => false
def zisL (v : mzV) : Bool := match v with | some (.inr (.inl _)) => true | _ => false
def zisR (v : mzV) : Bool := match v with | some (.inr (.inr _)) => true | _ => false
def zst (ls : List mzV) (i : Nat) (v : mzV) (f : List mzV → mzS) : mzS := match Nat.blt i ls.length with | true => f (ls.set i v) | false => none
/-- whither a reference leads, by its field's mode -/
def zlead (mode : Nat) (c i : Int) : Int := match mode with | 0 => c | 1 => i | 2 => c + i | _ => 11 * i + 10
/-- the texts: their signs -/
def ztext : Nat → List Int
  | 0 => [102, 105, 108, 108] | 1 => [98, 111, 120] | 2 => [115, 104, 105, 102, 116] | 3 => [115, 119, 97, 112] | 4 => [102, 114, 97, 109, 101]
  | 5 => [118] | 6 => [108, 108, 108, 108, 118] | 7 => [119, 119] | 8 => [118, 118] | _ => [102]
/-- how many places a row has -/
def zchr (i j : Int) : Int := (ztext i.toNat).getD j.toNat 0
def zlen (t : Nat) (i : Int) (μ : mzM) : Int := match t with
  | 4 => 144 | 5 => 36 | 6 => 10 | 7 => 6 | 9 => 160 | 10 => 160 | 13 => 16 | 14 => 16 | 16 => 10 | 17 => 10 | 18 => 81
  | 21 => 1880 | 22 => 11280 | 23 => 160 | 24 => 144 | 25 => 144 | 26 => 27 | 27 => 10 | 28 => 10 | 29 => 81
  | 31 => ((ztext i.toNat).length : Int) | 32 => μ 33 0 1 | _ => 0
/-- what a row holds: 0 nothing, 1 int, 2 char, 3 byte, 4 references, 5 a text's bytes, 6 the script -/
def zrow (t : Nat) : Nat := match t with
  | 4 => 1 | 5 => 1 | 6 => 4 | 7 => 4 | 9 => 2 | 10 => 1 | 13 => 1 | 14 => 1 | 16 => 1 | 17 => 1 | 18 => 1
  | 21 => 1 | 22 => 1 | 23 => 3 | 24 => 1 | 25 => 1 | 26 => 1 | 27 => 1 | 28 => 1 | 29 => 1 | 31 => 5 | 32 => 6 | _ => 0
def zcond (c : Jvm.ClassFile.Cond) (a b : Int) (x1 x2 : mzC) : mzS := match c with
  | .eq => sB (a = b) inferInstance x1 x2
  | .ne => sB (a = b) inferInstance x2 x1
  | .lt => sB (a < b) inferInstance x1 x2
  | .ge => sB (a < b) inferInstance x2 x1
  | .gt => sB (b < a) inferInstance x1 x2
  | .le => sB (b < a) inferInstance x2 x1
def zret (a : Nat) (v : Int) : Int := match a with | 0 => v | 1 => v % 2 | 2 => v % 65536 | _ => zb v
/-- a field: (place, kind), (-, the kind of cell that has it), (-, where it is kept or whither it leads), (-, mode); kinds: 0 number, 1 truth value, 2 long, 3 a reference, 4 a fixed number -/
def zgetf (cs : List (Int × Nat)) (t : Nat) (i : Int) (μ : mzM) (k : Nat) (ls r : List mzV) : mzS := match cs with
  | (x2, kd) :: (_, o) :: (_, x1) :: (_, md) :: _ => (match Nat.beq t o with
    | false => none
    | true => match kd with
      | 0 => sN (k, ls, vI (μ x1 i x2) :: r, μ)
      | 1 => sN (k, ls, vI (μ x1 i x2) :: r, μ)
      | 2 => sN (k, ls, vL (μ x1 i x2) :: r, μ)
      | 3 => sN (k, ls, vR x1 (zlead md x2 i) :: r, μ)
      | 4 => sN (k, ls, vI x2 :: r, μ)
      | _ => none)
  | _ => none
def zputf (cs : List (Int × Nat)) (st : List mzV) (μ : mzM) (k : Nat) (ls : List mzV) : mzS := match st, cs with
  | v :: some (.inr (.inr (t, i))) :: r, (x2, kd) :: (_, o) :: (_, x1) :: _ => (match Nat.beq t o with
      | false => none
      | true => match kd, v with
        | 0, some (.inl n) => sN (k, ls, r, mup μ x1 i x2 n)
        | 1, some (.inl n) => sG (n = 0 ∨ n = 1) inferInstance (k, ls, r, mup μ x1 i x2 n)
        | 2, some (.inr (.inl n)) => sN (k, ls, r, mup μ x1 i x2 n)
        | _, _ => none)
  | _, _ => none
def zaload (w : Nat) (st : List mzV) (μ : mzM) (k : Nat) (ls : List mzV) : mzS := zir st fun j t i r => match Nat.beq w (zrow t) with
  | true => match w with
    | 4 => sG (0 ≤ j ∧ j < zlen t i μ) inferInstance (k, ls, (match t with | 6 => vR 2 (11 * i + j) | _ => vR 1 (1 + j)) :: r, μ)
    | 5 => sG (0 ≤ j ∧ j < zlen t i μ) inferInstance (k, ls, vI (zchr i j) :: r, μ)
    | _ => sG (0 ≤ j ∧ j < zlen t i μ) inferInstance (k, ls, vI (μ t i j) :: r, μ)
  | false => none
def zastore (w : Nat) (st : List mzV) (μ : mzM) (k : Nat) (ls : List mzV) : mzS := zvir st fun v j t i r => match Nat.beq w (zrow t) with
  | true => sG (0 ≤ j ∧ j < zlen t i μ) inferInstance (k, ls, r, mup μ t i j (match w with | 2 => v % 65536 | 3 => zb v | _ => v))
  | false => none
def zwords : List mzV → Nat
  | [] => 0
  | v :: l => (match zisL v with | true => 2 | false => 1) + zwords l
/-- a call: (number of arguments, kind of answer), (-, the receiver's kind and one, or 0) -/
def zcall (a : Nat) (cs : List (Int × Nat)) (st : List mzV) (μ : mzM) (k : Nat) (ls : List mzV) : mzS := match cs with
  | (n, r) :: (_, tg) :: _ => (match Nat.ble (zwords (st.drop n.toNat)) 8, Nat.ble n.toNat st.length && Nat.beq (zwords (st.take n.toNat)) n.toNat with
    | true, true => (match tg with
      | 0 => sC a ((st.take n.toNat).reverse) r (k, ls, st.drop n.toNat, μ)
      | g + 1 => (match (st.take n.toNat).reverse with
        | some (.inr (.inr (t, _))) :: _ => (match Nat.beq t g with
          | true => sC a ((st.take n.toNat).reverse) r (k, ls, st.drop n.toNat, μ)
          | false => none)
        | _ => none))
    | _, _ => none)
  | _ => none
/-- a native copy between two rows of ints -/
def zcopy (st : List mzV) (μ : mzM) (k : Nat) (ls : List mzV) : mzS := match st with
  | some (.inl n) :: some (.inl dp) :: some (.inr (.inr (td, id))) :: some (.inl sp) :: some (.inr (.inr (ts, is))) :: r =>
    match zrow td, zrow ts, Nat.ble (zwords r) 8 with
    | 1, 1, true => sG ((0 ≤ n ∧ 0 ≤ dp ∧ 0 ≤ sp) ∧ (sp + n ≤ zlen ts is μ ∧ dp + n ≤ zlen td id μ)) inferInstance (k, ls, r, mcp μ ts is sp td id dp n)
    | _, _, _ => none
  | _ => none
def zstep (I : Instr) (a : Nat) (cs : List (Int × Nat)) (k : Nat) (ls st : List mzV) (μ : mzM) : mzS := match I with
  | .iconst n => sN (k + 1, ls, vI n :: st, μ)
  | .bipush n => sN (k + 1, ls, vI n :: st, μ)
  | .sipush n => sN (k + 1, ls, vI n :: st, μ)
  | .ldc_w _ => match cs with | (n, _) :: _ => sN (k + 1, ls, vI n :: st, μ) | _ => none
  | .lconst n => sN (k + 1, ls, vL ((n.val : Nat) : Int) :: st, μ)
  | .ldc2_w _ => match cs with | (n, _) :: _ => sN (k + 1, ls, vL n :: st, μ) | _ => none
  | .ldc _ => sN (k + 1, ls, vR 30 a :: st, μ)
  | .aconst_null => sN (k + 1, ls, vR 99 0 :: st, μ)
  | .iload i => zld ls i fun v => match zisI v with | true => sN (k + 1, ls, v :: st, μ) | false => none
  | .iload_n i => zld ls i.val fun v => match zisI v with | true => sN (k + 1, ls, v :: st, μ) | false => none
  | .lload_n i => zld ls i.val fun v => match zisL v with | true => sN (k + 1, ls, v :: st, μ) | false => none
  | .aload i => zld ls i fun v => match zisR v with | true => sN (k + 1, ls, v :: st, μ) | false => none
  | .aload_n i => zld ls i.val fun v => match zisR v with | true => sN (k + 1, ls, v :: st, μ) | false => none
  | .istore i => zi1 st fun v r => zst ls i (vI v) fun l => sN (k + 1, l, r, μ)
  | .istore_n i => zi1 st fun v r => zst ls i.val (vI v) fun l => sN (k + 1, l, r, μ)
  | .astore i => zr1 st fun t j r => zst ls i (vR t j) fun l => sN (k + 1, l, r, μ)
  | .astore_n i => zr1 st fun t j r => zst ls i.val (vR t j) fun l => sN (k + 1, l, r, μ)
  | .lstore_n i => zl1 st fun v r => match Nat.blt (i.val + 1) ls.length with | true => zst ls i.val (vL v) fun l => sN (k + 1, l.set (i.val + 1) none, r, μ) | false => none
  | .iinc i n => zld ls i fun v => match v with | some (.inl v) => zst ls i (vI (v + n)) fun l => sG (zin (v + n)) inferInstance (k + 1, l, st, μ) | _ => none
  | .iadd => zi2 st fun v w r => sG (zin (v + w)) inferInstance (k + 1, ls, vI (v + w) :: r, μ)
  | .isub => zi2 st fun v w r => sG (zin (v - w)) inferInstance (k + 1, ls, vI (v - w) :: r, μ)
  | .imul => zi2 st fun v w r => sG (zin (v * w)) inferInstance (k + 1, ls, vI (v * w) :: r, μ)
  | .idiv => zi2 st fun v w r => sG (w ≠ 0 ∧ zin (v.tdiv w)) inferInstance (k + 1, ls, vI (v.tdiv w) :: r, μ)
  | .irem => zi2 st fun v w r => sG (w ≠ 0) inferInstance (k + 1, ls, vI (v.tmod w) :: r, μ)
  | .ineg => zi1 st fun v r => sN (k + 1, ls, vI (zw (-v)) :: r, μ)
  | .iand => zi2 st fun v w r => sN (k + 1, ls, vI (zand v w) :: r, μ)
  | .ixor => zi2 st fun v w r => sN (k + 1, ls, vI (zxor v w) :: r, μ)
  | .ishl => zi2 st fun v w r => sN (k + 1, ls, vI (zshl v w) :: r, μ)
  | .ishr => zi2 st fun v w r => sN (k + 1, ls, vI (zshr v w) :: r, μ)
  | .iushr => zi2 st fun v w r => sN (k + 1, ls, vI (zushr v w) :: r, μ)
  | .ladd => zl2 st fun v w r => sG (zin6 (v + w)) inferInstance (k + 1, ls, vL (v + w) :: r, μ)
  | .lsub => zl2 st fun v w r => sG (zin6 (v - w)) inferInstance (k + 1, ls, vL (v - w) :: r, μ)
  | .lmul => zl2 st fun v w r => sG (zin6 (v * w)) inferInstance (k + 1, ls, vL (v * w) :: r, μ)
  | .lcmp => zl2 st fun v w r => sN (k + 1, ls, vI (zcmp v w) :: r, μ)
  | .i2l => zi1 st fun v r => sN (k + 1, ls, vL v :: r, μ)
  | .l2i => zl1 st fun v r => sN (k + 1, ls, vI (zw v) :: r, μ)
  | .i2c => zi1 st fun v r => sN (k + 1, ls, vI (v % 65536) :: r, μ)
  | .i2b => zi1 st fun v r => sN (k + 1, ls, vI (zb v) :: r, μ)
  | .dup => match st with | some v :: r => (match zisL (some v) with | false => sN (k + 1, ls, some v :: some v :: r, μ) | true => none) | _ => none
  | .dup2 => match st with | some v :: some w :: r => (match zisL (some v) || zisL (some w) with | false => sN (k + 1, ls, some v :: some w :: some v :: some w :: r, μ) | true => none) | _ => none
  | .pop => match st with | some v :: r => (match zisL (some v) with | false => sN (k + 1, ls, r, μ) | true => none) | _ => none
  | .goto _ => sN (a, ls, st, μ)
  | .if_icmp c _ => zi2 st fun v w r => zcond c v w (a, ls, r, μ) (k + 1, ls, r, μ)
  | .ifCond c _ => zi1 st fun v r => zcond c v 0 (a, ls, r, μ) (k + 1, ls, r, μ)
  | .ifnull _ => zr1 st fun t _ r => match Nat.beq t 99, Nat.beq t 98 with | true, _ => sN (a, ls, r, μ) | false, false => sN (k + 1, ls, r, μ) | _, _ => none
  | .ifnonnull _ => zr1 st fun t _ r => match Nat.beq t 99, Nat.beq t 98 with | true, _ => sN (k + 1, ls, r, μ) | false, false => sN (a, ls, r, μ) | _, _ => none
  | .tableswitch _ _ _ _ => zi1 st fun v r => sW v cs (a, ls, r, μ)
  | .getfield _ => zr1 st fun t i r => zgetf cs t i μ (k + 1) ls r
  | .putfield _ => zputf cs st μ (k + 1) ls
  | .getstatic _ => match a with | 0 => sN (k + 1, ls, vI 1 :: st, μ) | _ => sN (k + 1, ls, vR 98 0 :: st, μ)
  | .arraylength => zr1 st fun t i r => match zrow t with | 0 => none | _ => sN (k + 1, ls, vI (zlen t i μ) :: r, μ)
  | .iaload => (match st with | _ :: some (.inr (.inr (32, _))) :: _ => zaload 6 st μ (k + 1) ls | _ => zaload 1 st μ (k + 1) ls)
  | .caload => zaload 2 st μ (k + 1) ls
  | .baload => (match st with | _ :: some (.inr (.inr (31, _))) :: _ => zaload 5 st μ (k + 1) ls | _ => zaload 3 st μ (k + 1) ls)
  | .aaload => zaload 4 st μ (k + 1) ls
  | .iastore => zastore 1 st μ (k + 1) ls
  | .castore => zastore 2 st μ (k + 1) ls
  | .bastore => zastore 3 st μ (k + 1) ls
  | .invokevirtual _ => zcall a cs st μ (k + 1) ls
  | .invokestatic _ => match a with | 999 => zcopy st μ (k + 1) ls | _ => zcall a cs st μ (k + 1) ls
  | .ireturn => (match st with | [some (.inl v)] => sE (some (vI (zret a v))) μ | _ => none)
  | .areturn => (match st with | [some (.inr (.inr (t, i)))] => sE (some (vR t i)) μ | _ => none)
  | .return_ => (match st with | [] => sE none μ | _ => none)
  | _ => none
/-- the entry's locals -/
def zent (n : Nat) (as : List mzV) : List mzV := as ++ List.replicate (n - as.length) none
def zpush (r : Option mzV) (st : List mzV) : List mzV := match r with | some v => v :: st | none => st
def zpick (a : Int) : List (Int × Nat) → Nat → Nat
  | [], d => d
  | (b, k) :: l, d => if a = b then k else zpick a l d
def mvsw (v : Int) (d : Nat) (go : Nat → Prop) : List (Int × Nat) → Prop
  | [] => go d
  | (b, k) :: l => if v = b then go k else mvsw v d go l
section Mini
variable (cd : Nat → List mzN) (ml : Nat → Nat)
/-- runs method m from its instruction k on: its answer and the memory behind it -/
def mrun : Nat → Nat → Nat → List mzV → List mzV → mzM → Option (Option mzV × mzM)
  | 0, _, _, _, _, _ => none
  | n + 1, m, k, ls, st, μ => match (cd m)[k]? with
    | none => none
    | some (_, I, a, cs, _) => match zstep I a cs k ls st μ with
      | none => none
      | some (.inl c) => mrun n m c.1 c.2.1 c.2.2.1 c.2.2.2
      | some (.inr (.inl (q, c, d))) => @ite _ q.1 q.2 (mrun n m c.1 c.2.1 c.2.2.1 c.2.2.2) (mrun n m d.1 d.2.1 d.2.2.1 d.2.2.2)
      | some (.inr (.inr (.inl (q, c)))) => @ite _ q.1 q.2 (mrun n m c.1 c.2.1 c.2.2.1 c.2.2.2) none
      | some (.inr (.inr (.inr (.inl (f, as, _, c))))) => (match mrun n f 0 (zent (ml f) as) [] c.2.2.2 with
        | none => none
        | some (r, ν) => mrun n m c.1 c.2.1 (zpush r c.2.2.1) ν)
      | some (.inr (.inr (.inr (.inr (.inl (v, ts, c)))))) => mrun n m (zpick v ts c.1) c.2.1 c.2.2.1 c.2.2.2
      | some (.inr (.inr (.inr (.inr (.inr (r, ν)))))) => some (r, ν)
/-- method m from its instruction k on comes to an end with Q -/
def mW (m k : Nat) (ls st : List mzV) (μ : mzM) (Q : Option mzV → mzM → Prop) : Prop := ∃ n r ν, mrun cd ml n m k ls st μ = some (r, ν) ∧ Q r ν
def mCI (f : Nat) (as : List mzV) (μ : mzM) (K : Int → mzM → Prop) : Prop := mW cd ml f 0 (zent (ml f) as) [] μ fun r ν => ∃ a, r = some (vI a) ∧ K a ν
def mCV (f : Nat) (as : List mzV) (μ : mzM) (K : mzM → Prop) : Prop := mW cd ml f 0 (zent (ml f) as) [] μ fun r ν => r = none ∧ K ν
def mCR (f t : Nat) (as : List mzV) (μ : mzM) (K : Int → mzM → Prop) : Prop := mW cd ml f 0 (zent (ml f) as) [] μ fun r ν => ∃ a, r = some (vR t a) ∧ K a ν
/-- on to an instruction: a loop's head is where the tree ends -/
def mgo (C : List mzN) (m : Nat) (rec : List mzN → Nat → List mzV → List mzV → mzM → Prop) (Q : Option mzV → mzM → Prop) (k : Nat) (ls st : List mzV) (μ : mzM) : List mzN → Prop
  | [] => False
  | (x0, x1, x2, x3, h) :: rest => match h with
    | true => mW cd ml m k ls st μ Q
    | false => rec ((x0, x1, x2, x3, h) :: rest) k ls st μ
/-- what is to be shown of method m (its code C), from its instruction k on (rest: the code from there) -/
def mvc (C : List mzN) (m : Nat) (Q : Option mzV → mzM → Prop) : Nat → List mzN → Nat → List mzV → List mzV → mzM → Prop
  | 0, _, k, ls, st, μ => mW cd ml m k ls st μ Q
  | _ + 1, [], _, _, _, _ => False
  | n + 1, (_, I, a, cs, _) :: rest, k, ls, st, μ => match zstep I a cs k ls st μ with
      | none => False
      | some (.inl c) => mgo cd ml C m (mvc C m Q n) Q c.1 c.2.1 c.2.2.1 c.2.2.2 (match Nat.beq c.1 (k + 1) with | true => rest | false => C.drop c.1)
      | some (.inr (.inl (q, c, d))) => @ite _ q.1 q.2 (mgo cd ml C m (mvc C m Q n) Q c.1 c.2.1 c.2.2.1 c.2.2.2 (match Nat.beq c.1 (k + 1) with | true => rest | false => C.drop c.1)) (mgo cd ml C m (mvc C m Q n) Q d.1 d.2.1 d.2.2.1 d.2.2.2 (match Nat.beq d.1 (k + 1) with | true => rest | false => C.drop d.1))
      | some (.inr (.inr (.inl (q, c)))) => q.1 ∧ mgo cd ml C m (mvc C m Q n) Q c.1 c.2.1 c.2.2.1 c.2.2.2 (match Nat.beq c.1 (k + 1) with | true => rest | false => C.drop c.1)
      | some (.inr (.inr (.inr (.inl (f, as, r, c))))) => (match r with
        | 0 => mCV cd ml f as c.2.2.2 fun ν => mgo cd ml C m (mvc C m Q n) Q c.1 c.2.1 c.2.2.1 ν (match Nat.beq c.1 (k + 1) with | true => rest | false => C.drop c.1)
        | 1 => mCI cd ml f as c.2.2.2 fun v ν => mgo cd ml C m (mvc C m Q n) Q c.1 c.2.1 (vI v :: c.2.2.1) ν (match Nat.beq c.1 (k + 1) with | true => rest | false => C.drop c.1)
        | t + 2 => mCR cd ml f t as c.2.2.2 fun v ν => mgo cd ml C m (mvc C m Q n) Q c.1 c.2.1 (vR t v :: c.2.2.1) ν (match Nat.beq c.1 (k + 1) with | true => rest | false => C.drop c.1))
      | some (.inr (.inr (.inr (.inr (.inl (v, ts, c)))))) => mvsw v c.1 (fun k' => mgo cd ml C m (mvc C m Q n) Q k' c.2.1 c.2.2.1 c.2.2.2 (C.drop k')) ts
      | some (.inr (.inr (.inr (.inr (.inr (r, ν)))))) => Q r ν
theorem mrun_up : ∀ (n m k : Nat) (ls st : List mzV) (μ : mzM) (q : Option mzV × mzM), mrun cd ml n m k ls st μ = some q → mrun cd ml (n + 1) m k ls st μ = some q := by
  intro n
  induction n with
  | zero => intro m k ls st μ q h; cases h
  | succ n ih =>
    intro m k ls st μ q h
    rw [mrun] at h ⊢
    cases hc : (cd m)[k]? with
    | none => rw [hc] at h; cases h
    | some ins =>
      obtain ⟨x0, I, a, cs, hd⟩ := ins
      rw [hc] at h
      dsimp only at h ⊢
      cases hs : zstep I a cs k ls st μ with
      | none => rw [hs] at h; cases h
      | some z =>
        rw [hs] at h
        rcases z with c | ⟨q1, c, d⟩ | ⟨q1, c⟩ | ⟨f, as, r, c⟩ | ⟨v, ts, c⟩ | ⟨r, ν⟩
        · exact ih _ _ _ _ _ _ h
        · dsimp only at h ⊢
          by_cases hq : q1.1
          · rw [@if_pos _ q1.2 hq] at h ⊢; exact ih _ _ _ _ _ _ h
          · rw [@if_neg _ q1.2 hq] at h ⊢; exact ih _ _ _ _ _ _ h
        · dsimp only at h ⊢
          by_cases hq : q1.1
          · rw [@if_pos _ q1.2 hq] at h ⊢; exact ih _ _ _ _ _ _ h
          · rw [@if_neg _ q1.2 hq] at h; cases h
        · dsimp only at h ⊢
          cases hf : mrun cd ml n f 0 (zent (ml f) as) [] c.2.2.2 with
          | none => rw [hf] at h; cases h
          | some p =>
            obtain ⟨r2, ν⟩ := p
            rw [hf] at h
            rw [ih _ _ _ _ _ _ hf]
            exact ih _ _ _ _ _ _ h
        · exact ih _ _ _ _ _ _ h
        · exact h
theorem mrun_le {n n2 m k : Nat} {ls st : List mzV} {μ : mzM} {q : Option mzV × mzM} (hn : n ≤ n2) (h : mrun cd ml n m k ls st μ = some q) : mrun cd ml n2 m k ls st μ = some q := by
  induction hn with
  | refl => exact h
  | step _ ih => exact mrun_up cd ml _ _ _ _ _ _ _ ih
theorem mW_mono {m k : Nat} {ls st : List mzV} {μ : mzM} {Q Q' : Option mzV → mzM → Prop} (h : mW cd ml m k ls st μ Q) (hq : ∀ r ν, Q r ν → Q' r ν) : mW cd ml m k ls st μ Q' := by
  obtain ⟨n, r, ν, h1, h2⟩ := h
  exact ⟨n, r, ν, h1, hq _ _ h2⟩
theorem mgo_iff {C : List mzN} {m k : Nat} {rec : List mzN → Nat → List mzV → List mzV → mzM → Prop} {Q : Option mzV → mzM → Prop} {ls st : List mzV} {μ : mzM} {rest : List mzN} (hr : rec rest k ls st μ → mW cd ml m k ls st μ Q) (h : mgo cd ml C m rec Q k ls st μ rest) : mW cd ml m k ls st μ Q := by
  cases rest with
  | nil => exact absurd h id
  | cons x rest =>
    obtain ⟨x0, x1, x2, x3, b⟩ := x
    cases b with
    | true => exact h
    | false => exact hr h
theorem mvsw_pick {v : Int} {d : Nat} {go : Nat → Prop} : ∀ (ts : List (Int × Nat)), mvsw v d go ts → go (zpick v ts d)
  | [], h => h
  | (b, k) :: l, h => by
    unfold mvsw at h
    unfold zpick
    by_cases hv : v = b
    · rw [if_pos hv] at h ⊢; exact h
    · rw [if_neg hv] at h ⊢; exact mvsw_pick l h
theorem mvc_sound {C : List mzN} {m : Nat} {Q : Option mzV → mzM → Prop} (hC : cd m = C) : ∀ (n : Nat) (rest : List mzN) (k : Nat) (ls st : List mzV) (μ : mzM), rest = C.drop k → mvc cd ml C m Q n rest k ls st μ → mW cd ml m k ls st μ Q := by
  intro n
  induction n with
  | zero => intro rest k ls st μ _ h; exact h
  | succ n ih =>
    intro rest k ls st μ hrest h
    cases rest with
    | nil => exact absurd h id
    | cons x rest =>
      obtain ⟨x0, I, a, cs, b⟩ := x
      have hk : (cd m)[k]? = some (x0, I, a, cs, b) := by
        rw [hC, ← List.head?_drop, ← hrest]; rfl
      have hnext : rest = C.drop (k + 1) := by
        rw [← List.tail_drop, ← hrest]; rfl
      have hpc : ∀ j, (match Nat.beq j (k + 1) with | true => rest | false => C.drop j) = C.drop j := by
        intro j
        cases hj : Nat.beq j (k + 1) with
        | true => rw [Nat.eq_of_beq_eq_true hj]; exact hnext
        | false => rfl
      unfold mvc at h
      cases hs : zstep I a cs k ls st μ with
      | none => rw [hs] at h; exact absurd h id
      | some z =>
        rw [hs] at h
        rcases z with c | ⟨q1, c, d⟩ | ⟨q1, c⟩ | ⟨f, as, r, c⟩ | ⟨v, ts, c⟩ | ⟨r, ν⟩
        · dsimp only at h
          rw [hpc] at h
          obtain ⟨n1, r, ν, h1, h2⟩ := mgo_iff cd ml (ih _ _ _ _ _ rfl) h
          exact ⟨n1 + 1, r, ν, by rw [mrun, hk]; dsimp only; rw [hs]; exact h1, h2⟩
        · dsimp only at h
          rw [hpc, hpc] at h
          by_cases hq : q1.1
          · rw [@if_pos _ q1.2 hq] at h
            obtain ⟨n1, r, ν, h1, h2⟩ := mgo_iff cd ml (ih _ _ _ _ _ rfl) h
            exact ⟨n1 + 1, r, ν, by rw [mrun, hk]; dsimp only; rw [hs]; dsimp only; rw [@if_pos _ q1.2 hq]; exact h1, h2⟩
          · rw [@if_neg _ q1.2 hq] at h
            obtain ⟨n1, r, ν, h1, h2⟩ := mgo_iff cd ml (ih _ _ _ _ _ rfl) h
            exact ⟨n1 + 1, r, ν, by rw [mrun, hk]; dsimp only; rw [hs]; dsimp only; rw [@if_neg _ q1.2 hq]; exact h1, h2⟩
        · dsimp only at h
          rw [hpc] at h
          obtain ⟨hq, h⟩ := h
          obtain ⟨n1, r, ν, h1, h2⟩ := mgo_iff cd ml (ih _ _ _ _ _ rfl) h
          exact ⟨n1 + 1, r, ν, by rw [mrun, hk]; dsimp only; rw [hs]; dsimp only; rw [@if_pos _ q1.2 hq]; exact h1, h2⟩
        · dsimp only at h
          rw [hpc] at h
          have key : mW cd ml f 0 (zent (ml f) as) [] c.2.2.2 (fun r ν => mW cd ml m c.1 c.2.1 (zpush r c.2.2.1) ν Q) := by
            match r, h with
            | 0, h => exact mW_mono cd ml h (fun r ν hr => by rw [hr.1]; exact mgo_iff cd ml (ih _ _ _ _ _ rfl) hr.2)
            | 1, h => exact mW_mono cd ml h (fun r ν hr => by obtain ⟨a, ha, hr⟩ := hr; rw [ha]; exact mgo_iff cd ml (ih _ _ _ _ _ rfl) hr)
            | t + 2, h => exact mW_mono cd ml h (fun r ν hr => by obtain ⟨a, ha, hr⟩ := hr; rw [ha]; exact mgo_iff cd ml (ih _ _ _ _ _ rfl) hr)
          obtain ⟨n1, r1, ν1, h1, n2, r2, ν2, h2, h3⟩ := key
          refine ⟨n1 + n2 + 1, r2, ν2, ?_, h3⟩
          rw [mrun, hk]; dsimp only; rw [hs]; dsimp only
          rw [mrun_le cd ml (Nat.le_add_right n1 n2) h1]
          exact mrun_le cd ml (Nat.le_add_left n2 n1) h2
        · dsimp only at h
          have h := mvsw_pick ts h
          obtain ⟨n1, r, ν, h1, h2⟩ := mgo_iff cd ml (ih _ _ _ _ _ rfl) h
          exact ⟨n1 + 1, r, ν, by rw [mrun, hk]; dsimp only; rw [hs]; exact h1, h2⟩
        · exact ⟨1, r, ν, by rw [mrun, hk]; dsimp only; rw [hs], h⟩
theorem mvc_at {C : List mzN} {m : Nat} {Q : Option mzV → mzM → Prop} (hC : cd m = C) (n k : Nat) {ls st : List mzV} {μ : mzM} (h : mvc cd ml C m Q n (C.drop k) k ls st μ) : mW cd ml m k ls st μ Q := mvc_sound cd ml hC n _ k ls st μ rfl h
end Mini
end
section
abbrev f_X0_encode : Nat := 0
abbrev f_X0_encodeRaw : Nat := 1
abbrev f_X0_encodeWith : Nat := 2
abbrev f_X0_findMove : Nat := 3
abbrev f_X1_take : Nat := 4
abbrev f_X1_codePart : Nat := 5
abbrev f_X1_setCode : Nat := 6
abbrev f_X1_codesOfKind : Nat := 7
abbrev f_X2_reset : Nat := 8
abbrev f_X2_take : Nat := 9
abbrev f_X2_hasCell : Nat := 10
abbrev f_X2_numbered : Nat := 11
abbrev f_X2_putNumbered : Nat := 12
abbrev f_X2_at : Nat := 13
abbrev f_X2_blocks : Nat := 14
abbrev f_X2_hasBlock : Nat := 15
abbrev f_X2_left : Nat := 16
abbrev f_X2_top : Nat := 17
abbrev f_X2_hasPart : Nat := 18
abbrev f_X2_partDigest : Nat := 19
abbrev f_X2_samePart : Nat := 20
abbrev f_X2_cellsUnlike : Nat := 21
abbrev f_X2_fillBox : Nat := 22
abbrev f_X2_takeShifted : Nat := 23
abbrev f_X2_swapValues : Nat := 24
abbrev f_X3_plan : Nat := 25
abbrev f_X3_measure : Nat := 26
abbrev f_X3_costOf : Nat := 27
abbrev f_X3_referenceOf : Nat := 28
abbrev f_X4_read : Nat := 29
abbrev f_X4_addCell : Nat := 30
abbrev f_X4_lengthOf : Nat := 31
abbrev f_X4_valueOf : Nat := 32
abbrev f_X5_append : Nat := 33
abbrev f_X5_wordOf : Nat := 34
abbrev f_X5_argumentsOf : Nat := 35
abbrev f_X5_errorPosition : Nat := 36
abbrev f_X5_readCommand : Nat := 37
abbrev f_X5_addToProgram : Nat := 38
abbrev f_X5_nextToken : Nat := 39
abbrev f_X5_signAt : Nat := 40
abbrev f_X5_isLetter : Nat := 41
abbrev f_X5_isDigit : Nat := 42
abbrev f_X5_commandOfToken : Nat := 43
abbrev f_X5_isToken : Nat := 44
abbrev f_X5_readNumber : Nat := 45
abbrev f_X5_isAllowed : Nat := 46
abbrev f_X5_carryOut : Nat := 47
abbrev f_X5_programAt : Nat := 48
abbrev f_X5_apply : Nat := 49
abbrev f_X6_take : Nat := 50
abbrev f_X6_frameAt : Nat := 51
abbrev f_X6_isFrame : Nat := 52
abbrev f_X6_isImage : Nat := 53
abbrev f_X6_imageOf : Nat := 54
abbrev f_X6_isReadable : Nat := 55
abbrev f_X6_mayBeReference : Nat := 56
abbrev f_X6_depthOf : Nat := 57
abbrev f_X6_seekCost : Nat := 58
abbrev f_X6_chainHas : Nat := 59
abbrev f_X6_readableFrames : Nat := 60
abbrev f_X6_costOfRecords : Nat := 61
abbrev f_X7_setSize : Nat := 62
abbrev f_X7_setCell : Nat := 63
abbrev f_X7_cell : Nat := 64
abbrev f_X7_appendCharacter : Nat := 65
abbrev f_X7_clearText : Nat := 66
abbrev f_X7_draw : Nat := 67
abbrev f_X7_digest : Nat := 68
abbrev f_X7_addKey : Nat := 69
abbrev f_X7_addDelta : Nat := 70
abbrev f_X7_addChosen : Nat := 71
abbrev f_X7_removeLast : Nat := 72
abbrev f_X7_recode : Nat := 73
abbrev f_X7_setLimits : Nat := 74
abbrev f_X7_setLost : Nat := 75
abbrev f_X7_frame : Nat := 76
abbrev f_X7_code : Nat := 77
abbrev f_X7_run : Nat := 78
abbrev f_X7_pixel : Nat := 79
abbrev f_X7_count : Nat := 80
abbrev f_X7_costWith : Nat := 81
abbrev f_X7_difference : Nat := 82
abbrev f_X7_findBlock : Nat := 83
abbrev f_X7_falseMatches : Nat := 84
abbrev f_X7_greatestSeek : Nat := 85
abbrev f_X7_dependents : Nat := 86
abbrev f_X7_patch : Nat := 87
abbrev f_X7_planCost : Nat := 88
abbrev f_X7_planKeys : Nat := 89
abbrev f_X7_undo : Nat := 90
abbrev f_X7_isSize : Nat := 91
abbrev f_X7_save : Nat := 92
abbrev f_X7_savedSlot : Nat := 93
abbrev f_X7_add : Nat := 94
abbrev f_X7_costOfCanvas : Nat := 95
abbrev f_X7_chosenReference : Nat := 96
abbrev f_X7_falsePairs : Nat := 97
abbrev f_X8_in : Nat := 98
abbrev f_X8_note : Nat := 99
abbrev f_X8_undo : Nat := 100
abbrev f_X8_cells : Nat := 101
abbrev f_X8_blocks : Nat := 102
abbrev f_X8_isFrame : Nat := 103
abbrev f_X8_value : Nat := 104
abbrev f_X8_reference : Nat := 105
abbrev f_X8_depthOf : Nat := 106
abbrev f_X8_isGood : Nat := 107
abbrev f_X8_goods : Nat := 108
abbrev f_X8_setSize : Nat := 109
abbrev f_X8_isCell : Nat := 110
abbrev f_X8_setCell : Nat := 111
abbrev f_X8_cell : Nat := 112
abbrev f_X8_appendCharacter : Nat := 113
abbrev f_X8_clearText : Nat := 114
abbrev f_X8_here : Nat := 115
abbrev f_X8_readsToken : Nat := 116
abbrev f_X8_takes : Nat := 117
abbrev f_X8_takesNumber : Nat := 118
abbrev f_X8_place : Nat := 119
abbrev f_X8_keeps : Nat := 120
abbrev f_X8_fillsBox : Nat := 121
abbrev f_X8_shifts : Nat := 122
abbrev f_X8_readsCommand : Nat := 123
abbrev f_X8_exchanges : Nat := 124
abbrev f_X8_draw : Nat := 125
abbrev f_X8_isImage : Nat := 126
abbrev f_X8_isKnown : Nat := 127
abbrev f_X8_digestOf : Nat := 128
abbrev f_X8_digest : Nat := 129
abbrev f_X8_left : Nat := 130
abbrev f_X8_top : Nat := 131
abbrev f_X8_given : Nat := 132
abbrev f_X8_runsOf : Nat := 133
abbrev f_X8_isLike : Nat := 134
abbrev f_X8_size : Nat := 135
abbrev f_X8_finds : Nat := 136
abbrev f_X8_codes : Nat := 137
abbrev f_X8_codesAll : Nat := 138
abbrev f_X8_codeAt : Nat := 139
abbrev f_X8_runsIn : Nat := 140
abbrev f_X8_costOf : Nat := 141
abbrev f_X8_seekOf : Nat := 142
abbrev f_X8_records : Nat := 143
abbrev f_X8_adds : Nat := 144
abbrev f_X8_addKey : Nat := 145
abbrev f_X8_addDelta : Nat := 146
abbrev f_X8_addChosen : Nat := 147
abbrev f_X8_removeLast : Nat := 148
abbrev f_X8_planOf : Nat := 149
abbrev f_X8_bits : Nat := 150
abbrev f_X8_plans : Nat := 151
abbrev f_X8_recode : Nat := 152
abbrev f_X8_planCost : Nat := 153
abbrev f_X8_planKeys : Nat := 154
abbrev f_X8_setLimits : Nat := 155
abbrev f_X8_setLost : Nat := 156
abbrev f_X8_codesOf : Nat := 157
abbrev f_X8_frame : Nat := 158
abbrev f_X8_isBlock : Nat := 159
abbrev f_X8_code : Nat := 160
abbrev f_X8_run : Nat := 161
abbrev f_X8_pixel : Nat := 162
abbrev f_X8_count : Nat := 163
abbrev f_X8_costWith : Nat := 164
abbrev f_X8_differing : Nat := 165
abbrev f_X8_difference : Nat := 166
abbrev f_X8_areAlike : Nat := 167
abbrev f_X8_findBlock : Nat := 168
abbrev f_X8_falseMatches : Nat := 169
abbrev f_X8_greatestSeek : Nat := 170
abbrev f_X8_isInChain : Nat := 171
abbrev f_X8_dependents : Nat := 172
abbrev f_X8_patch : Nat := 173
abbrev f_J6_bitCount_0f7a4 : Nat := 174
abbrev f_J9_floorMod_7cf53 : Nat := 175
abbrev f_J9_abs_0f7a4 : Nat := 176
abbrev f_J9_max_7cf53 : Nat := 177
abbrev f_J9_min_7cf53 : Nat := 178
abbrev f_J0_length_8abf5 : Nat := 179
abbrev f_J0_charAt_5068e : Nat := 180
abbrev f_J0_coder_7d493 : Nat := 181
abbrev f_J0_isLatin1_aae02 : Nat := 182
abbrev f_J0_checkIndex_df160 : Nat := 183
abbrev f_J1_charAt_3b067 : Nat := 184
abbrev f_J3_checkIndex_8e157 : Nat := 185
abbrev f_L_law : Nat := 186
def zc0 : List mzN := [(0, .iload_n 3, 0, [], false), (1, .iconst (-1), 0, [], false), (2, .if_icmp .ne 7, 5, [], false), (5, .aconst_null, 0, [], false), (6, .goto 8, 8, [], false), (9, .aload_n 2, 0, [], false), (10, .iload_n 3, 0, [], false), (11, .invokevirtual 28, 54, [(2, 5), (0, 2)], false), (14, .astore 4, 0, [], false), (16, .aload_n 1, 0, [], false), (17, .iload_n 3, 0, [], false), (18, .putfield 34, 2, [(2, 0), (0, 2), (0, 2), (0, 0)], false), (21, .aload_n 1, 0, [], false), (22, .iconst 0, 0, [], false), (23, .putfield 39, 4, [(4, 1), (0, 2), (0, 2), (0, 0)], false), (26, .aload_n 1, 0, [], false), (27, .iconst 2, 0, [], false), (28, .putfield 43, 3, [(3, 0), (0, 2), (0, 2), (0, 0)], false), (31, .iconst 0, 0, [], false), (32, .istore 5, 0, [], false), (34, .iload 5, 0, [], true), (36, .aload_n 1, 0, [], false), (37, .getfield 46, 0, [(0, 3), (0, 2), (0, 3), (0, 1)], false), (40, .invokevirtual 50, 14, [(1, 1), (0, 4)], false), (43, .if_icmp .ge 46, 46, [], false), (46, .aload_n 1, 0, [], false), (47, .dup, 0, [], false), (48, .getfield 43, 3, [(3, 0), (0, 2), (0, 2), (0, 0)], false), (51, .aload 4, 0, [], false), (53, .ifnonnull 13, 35, [], false), (56, .aload_n 0, 0, [], false), (57, .aload_n 1, 0, [], false), (58, .iload 5, 0, [], false), (60, .invokevirtual 56, 1, [(3, 1), (0, 12)], false), (63, .goto 16, 42, [], false), (66, .aload_n 0, 0, [], false), (67, .aload_n 1, 0, [], false), (68, .iload 5, 0, [], false), (70, .aload 4, 0, [], false), (72, .aload_n 2, 0, [], false), (73, .getfield 60, 4, [(4, 0), (0, 1), (0, 1), (0, 0)], false), (76, .invokevirtual 63, 2, [(5, 1), (0, 12)], false), (79, .iadd, 0, [], false), (80, .putfield 43, 3, [(3, 0), (0, 2), (0, 2), (0, 0)], false), (83, .iinc 5 1, 0, [], false), (86, .goto (-52), 20, [], false), (89, .return_, 0, [], false)]
def zc1 : List mzN := [(0, .aload_n 0, 0, [], false), (1, .getfield 12, 0, [(0, 3), (0, 11), (0, 12), (0, 0)], false), (4, .aload_n 1, 0, [], false), (5, .getfield 46, 0, [(0, 3), (0, 2), (0, 3), (0, 1)], false), (8, .aconst_null, 0, [], false), (9, .iload_n 2, 0, [], false), (10, .invokevirtual 67, 29, [(4, 0), (0, 13)], false), (13, .aload_n 1, 0, [], false), (14, .iload_n 2, 0, [], false), (15, .iconst 3, 0, [], false), (16, .iconst 0, 0, [], false), (17, .iconst 0, 0, [], false), (18, .aload_n 0, 0, [], false), (19, .getfield 12, 0, [(0, 3), (0, 11), (0, 12), (0, 0)], false), (22, .getfield 71, 2, [(2, 0), (0, 12), (0, 12), (0, 0)], false), (25, .invokevirtual 74, 6, [(6, 0), (0, 3)], false), (28, .iconst 2, 0, [], false), (29, .iconst 2, 0, [], false), (30, .aload_n 0, 0, [], false), (31, .getfield 12, 0, [(0, 3), (0, 11), (0, 12), (0, 0)], false), (34, .getfield 71, 2, [(2, 0), (0, 12), (0, 12), (0, 0)], false), (37, .imul, 0, [], false), (38, .iadd, 0, [], false), (39, .ireturn, 0, [], false)]
def zc2 : List mzN := [(0, .aload_n 1, 0, [], false), (1, .getfield 46, 0, [(0, 3), (0, 2), (0, 3), (0, 1)], false), (4, .iload_n 2, 0, [], false), (5, .invokevirtual 78, 16, [(2, 1), (0, 4)], false), (8, .istore 5, 0, [], false), (10, .aload_n 1, 0, [], false), (11, .getfield 46, 0, [(0, 3), (0, 2), (0, 3), (0, 1)], false), (14, .iload_n 2, 0, [], false), (15, .invokevirtual 82, 17, [(2, 1), (0, 4)], false), (18, .istore 6, 0, [], false), (20, .aload_n 1, 0, [], false), (21, .getfield 46, 0, [(0, 3), (0, 2), (0, 3), (0, 1)], false), (24, .iload 5, 0, [], false), (26, .iload 6, 0, [], false), (28, .aload_n 3, 0, [], false), (29, .iload 5, 0, [], false), (31, .iload 6, 0, [], false), (33, .invokevirtual 85, 20, [(6, 1), (0, 4)], false), (36, .ifCond .eq 14, 28, [], false), (39, .aload_n 1, 0, [], false), (40, .iload_n 2, 0, [], false), (41, .iconst 0, 0, [], false), (42, .iconst 0, 0, [], false), (43, .iconst 0, 0, [], false), (44, .iconst 0, 0, [], false), (45, .invokevirtual 74, 6, [(6, 0), (0, 3)], false), (48, .iconst 1, 0, [], false), (49, .ireturn, 0, [], false), (50, .aload_n 0, 0, [], false), (51, .aload_n 1, 0, [], false), (52, .getfield 46, 0, [(0, 3), (0, 2), (0, 3), (0, 1)], false), (55, .iload 5, 0, [], false), (57, .iload 6, 0, [], false), (59, .aload_n 3, 0, [], false), (60, .iload 4, 0, [], false), (62, .invokevirtual 89, 3, [(6, 1), (0, 12)], false), (65, .ifCond .eq 20, 48, [], false), (68, .aload_n 1, 0, [], false), (69, .iload_n 2, 0, [], false), (70, .iconst 1, 0, [], false), (71, .aload_n 0, 0, [], false), (72, .getfield 21, 2, [(2, 0), (0, 11), (0, 11), (0, 0)], false), (75, .aload_n 0, 0, [], false), (76, .getfield 25, 3, [(3, 0), (0, 11), (0, 11), (0, 0)], false), (79, .iconst 0, 0, [], false), (80, .invokevirtual 74, 6, [(6, 0), (0, 3)], false), (83, .iconst 3, 0, [], false), (84, .ireturn, 0, [], false), (85, .aload_n 0, 0, [], false), (86, .getfield 12, 0, [(0, 3), (0, 11), (0, 12), (0, 0)], false), (89, .aload_n 1, 0, [], false), (90, .getfield 46, 0, [(0, 3), (0, 2), (0, 3), (0, 1)], false), (93, .aconst_null, 0, [], false), (94, .iload_n 2, 0, [], false), (95, .invokevirtual 67, 29, [(4, 0), (0, 13)], false), (98, .aload_n 0, 0, [], false), (99, .getfield 18, 1, [(1, 3), (0, 11), (0, 12), (0, 0)], false), (102, .aload_n 1, 0, [], false), (103, .getfield 46, 0, [(0, 3), (0, 2), (0, 3), (0, 1)], false), (106, .aload_n 3, 0, [], false), (107, .iload_n 2, 0, [], false), (108, .invokevirtual 67, 29, [(4, 0), (0, 13)], false), (111, .aload_n 0, 0, [], false), (112, .getfield 12, 0, [(0, 3), (0, 11), (0, 12), (0, 0)], false), (115, .getfield 71, 2, [(2, 0), (0, 12), (0, 12), (0, 0)], false), (118, .aload_n 0, 0, [], false), (119, .getfield 18, 1, [(1, 3), (0, 11), (0, 12), (0, 0)], false), (122, .getfield 71, 2, [(2, 0), (0, 12), (0, 12), (0, 0)], false), (125, .if_icmp .ge 30, 86, [], false), (128, .aload_n 1, 0, [], false), (129, .iload_n 2, 0, [], false), (130, .iconst 3, 0, [], false), (131, .iconst 0, 0, [], false), (132, .iconst 0, 0, [], false), (133, .aload_n 0, 0, [], false), (134, .getfield 12, 0, [(0, 3), (0, 11), (0, 12), (0, 0)], false), (137, .getfield 71, 2, [(2, 0), (0, 12), (0, 12), (0, 0)], false), (140, .invokevirtual 74, 6, [(6, 0), (0, 3)], false), (143, .iconst 2, 0, [], false), (144, .iconst 2, 0, [], false), (145, .aload_n 0, 0, [], false), (146, .getfield 12, 0, [(0, 3), (0, 11), (0, 12), (0, 0)], false), (149, .getfield 71, 2, [(2, 0), (0, 12), (0, 12), (0, 0)], false), (152, .imul, 0, [], false), (153, .iadd, 0, [], false), (154, .ireturn, 0, [], false), (155, .aload_n 1, 0, [], false), (156, .iload_n 2, 0, [], false), (157, .iconst 2, 0, [], false), (158, .iconst 0, 0, [], false), (159, .iconst 0, 0, [], false), (160, .aload_n 0, 0, [], false), (161, .getfield 18, 1, [(1, 3), (0, 11), (0, 12), (0, 0)], false), (164, .getfield 71, 2, [(2, 0), (0, 12), (0, 12), (0, 0)], false), (167, .invokevirtual 74, 6, [(6, 0), (0, 3)], false), (170, .iconst 2, 0, [], false), (171, .iconst 2, 0, [], false), (172, .aload_n 0, 0, [], false), (173, .getfield 18, 1, [(1, 3), (0, 11), (0, 12), (0, 0)], false), (176, .getfield 71, 2, [(2, 0), (0, 12), (0, 12), (0, 0)], false), (179, .imul, 0, [], false), (180, .iadd, 0, [], false), (181, .ireturn, 0, [], false)]
def zc3 : List mzN := [(0, .iconst 1, 0, [], false), (1, .istore 6, 0, [], false), (3, .iload 6, 0, [], true), (5, .iconst 2, 0, [], false), (6, .iload 5, 0, [], false), (8, .imul, 0, [], false), (9, .if_icmp .gt 129, 72, [], false), (12, .iload 5, 0, [], false), (14, .ineg, 0, [], false), (15, .istore 7, 0, [], false), (17, .iload 7, 0, [], true), (19, .iload 5, 0, [], false), (21, .if_icmp .gt 111, 70, [], false), (24, .iload 6, 0, [], false), (26, .iload 7, 0, [], false), (28, .invokestatic 93, 176, [(1, 1), (0, 0)], false), (31, .isub, 0, [], false), (32, .istore 8, 0, [], false), (34, .iload 8, 0, [], false), (36, .ifCond .lt 90, 68, [], false), (39, .iload 8, 0, [], false), (41, .iload 5, 0, [], false), (43, .if_icmp .le 6, 24, [], false), (46, .goto 80, 68, [], false), (49, .iload 8, 0, [], false), (51, .ineg, 0, [], false), (52, .istore 9, 0, [], false), (54, .iload 9, 0, [], true), (56, .iload 8, 0, [], false), (58, .if_icmp .gt 68, 68, [], false), (61, .aload 4, 0, [], false), (63, .iload_n 2, 0, [], false), (64, .iload 9, 0, [], false), (66, .iadd, 0, [], false), (67, .iload_n 3, 0, [], false), (68, .iload 7, 0, [], false), (70, .iadd, 0, [], false), (71, .invokevirtual 98, 18, [(3, 1), (0, 4)], false), (74, .ifCond .eq 36, 59, [], false), (77, .aload_n 1, 0, [], false), (78, .iload_n 2, 0, [], false), (79, .iload_n 3, 0, [], false), (80, .aload 4, 0, [], false), (82, .iload_n 2, 0, [], false), (83, .iload 9, 0, [], false), (85, .iadd, 0, [], false), (86, .iload_n 3, 0, [], false), (87, .iload 7, 0, [], false), (89, .iadd, 0, [], false), (90, .invokevirtual 85, 20, [(6, 1), (0, 4)], false), (93, .ifCond .eq 17, 59, [], false), (96, .aload_n 0, 0, [], false), (97, .iload 9, 0, [], false), (99, .putfield 21, 2, [(2, 0), (0, 11), (0, 11), (0, 0)], false), (102, .aload_n 0, 0, [], false), (103, .iload 7, 0, [], false), (105, .putfield 25, 3, [(3, 0), (0, 11), (0, 11), (0, 0)], false), (108, .iconst 1, 0, [], false), (109, .ireturn, 1, [], false), (110, .iload 9, 0, [], false), (112, .iconst 1, 0, [], false), (113, .iconst 2, 0, [], false), (114, .iload 8, 0, [], false), (116, .imul, 0, [], false), (117, .invokestatic 102, 177, [(2, 1), (0, 0)], false), (120, .iadd, 0, [], false), (121, .istore 9, 0, [], false), (123, .goto (-69), 27, [], false), (126, .iinc 7 1, 0, [], false), (129, .goto (-112), 10, [], false), (132, .iinc 6 1, 0, [], false), (135, .goto (-132), 2, [], false), (138, .iconst 0, 0, [], false), (139, .ireturn, 1, [], false)]
def zc4 : List mzN := [(0, .aload_n 0, 0, [], false), (1, .getfield 12, 0, [(0, 3), (0, 2), (0, 3), (0, 1)], false), (4, .aload_n 1, 0, [], false), (5, .getfield 12, 0, [(0, 3), (0, 2), (0, 3), (0, 1)], false), (8, .invokevirtual 33, 9, [(2, 0), (0, 4)], false), (11, .aload_n 1, 0, [], false), (12, .getfield 18, 1, [(0, 3), (0, 2), (0, 5), (0, 1)], false), (15, .iconst 0, 0, [], false), (16, .aload_n 0, 0, [], false), (17, .getfield 18, 1, [(0, 3), (0, 2), (0, 5), (0, 1)], false), (20, .iconst 0, 0, [], false), (21, .bipush 36, 0, [], false), (23, .invokestatic 37, 999, [], false), (26, .aload_n 0, 0, [], false), (27, .aload_n 1, 0, [], false), (28, .getfield 22, 2, [(2, 0), (0, 2), (0, 2), (0, 0)], false), (31, .putfield 22, 2, [(2, 0), (0, 2), (0, 2), (0, 0)], false), (34, .aload_n 0, 0, [], false), (35, .aload_n 1, 0, [], false), (36, .getfield 26, 3, [(3, 0), (0, 2), (0, 2), (0, 0)], false), (39, .putfield 26, 3, [(3, 0), (0, 2), (0, 2), (0, 0)], false), (42, .aload_n 0, 0, [], false), (43, .aload_n 1, 0, [], false), (44, .getfield 29, 4, [(4, 1), (0, 2), (0, 2), (0, 0)], false), (47, .putfield 29, 4, [(4, 1), (0, 2), (0, 2), (0, 0)], false), (50, .return_, 0, [], false)]
def zc5 : List mzN := [(0, .iload_n 1, 0, [], false), (1, .iconst 4, 0, [], false), (2, .imul, 0, [], false), (3, .iload_n 2, 0, [], false), (4, .iadd, 0, [], false), (5, .istore_n 3, 0, [], false), (6, .iload_n 3, 0, [], false), (7, .ifCond .lt 21, 18, [], false), (10, .iload_n 3, 0, [], false), (11, .aload_n 0, 0, [], false), (12, .getfield 18, 1, [(0, 3), (0, 2), (0, 5), (0, 1)], false), (15, .arraylength, 0, [], false), (16, .if_icmp .ge 12, 18, [], false), (19, .aload_n 0, 0, [], false), (20, .getfield 18, 1, [(0, 3), (0, 2), (0, 5), (0, 1)], false), (23, .iload_n 3, 0, [], false), (24, .iaload, 0, [], false), (25, .goto 4, 19, [], false), (28, .iconst 0, 0, [], false), (29, .ireturn, 0, [], false)]
def zc6 : List mzN := [(0, .iload_n 1, 0, [], false), (1, .iconst 4, 0, [], false), (2, .imul, 0, [], false), (3, .istore 6, 0, [], false), (5, .iload 6, 0, [], false), (7, .ifCond .lt 57, 41, [], false), (10, .iload 6, 0, [], false), (12, .iconst 3, 0, [], false), (13, .iadd, 0, [], false), (14, .aload_n 0, 0, [], false), (15, .getfield 18, 1, [(0, 3), (0, 2), (0, 5), (0, 1)], false), (18, .arraylength, 0, [], false), (19, .if_icmp .ge 45, 41, [], false), (22, .aload_n 0, 0, [], false), (23, .getfield 18, 1, [(0, 3), (0, 2), (0, 5), (0, 1)], false), (26, .iload 6, 0, [], false), (28, .iconst 0, 0, [], false), (29, .iadd, 0, [], false), (30, .iload_n 2, 0, [], false), (31, .iastore, 0, [], false), (32, .aload_n 0, 0, [], false), (33, .getfield 18, 1, [(0, 3), (0, 2), (0, 5), (0, 1)], false), (36, .iload 6, 0, [], false), (38, .iconst 1, 0, [], false), (39, .iadd, 0, [], false), (40, .iload_n 3, 0, [], false), (41, .iastore, 0, [], false), (42, .aload_n 0, 0, [], false), (43, .getfield 18, 1, [(0, 3), (0, 2), (0, 5), (0, 1)], false), (46, .iload 6, 0, [], false), (48, .iconst 2, 0, [], false), (49, .iadd, 0, [], false), (50, .iload 4, 0, [], false), (52, .iastore, 0, [], false), (53, .aload_n 0, 0, [], false), (54, .getfield 18, 1, [(0, 3), (0, 2), (0, 5), (0, 1)], false), (57, .iload 6, 0, [], false), (59, .iconst 3, 0, [], false), (60, .iadd, 0, [], false), (61, .iload 5, 0, [], false), (63, .iastore, 0, [], false), (64, .return_, 0, [], false)]
def zc7 : List mzN := [(0, .iconst 0, 0, [], false), (1, .istore_n 2, 0, [], false), (2, .iconst 0, 0, [], false), (3, .istore_n 3, 0, [], false), (4, .iload_n 3, 0, [], true), (5, .aload_n 0, 0, [], false), (6, .getfield 12, 0, [(0, 3), (0, 2), (0, 3), (0, 1)], false), (9, .invokevirtual 43, 14, [(1, 1), (0, 4)], false), (12, .if_icmp .ge 22, 18, [], false), (15, .aload_n 0, 0, [], false), (16, .iload_n 3, 0, [], false), (17, .iconst 0, 0, [], false), (18, .invokevirtual 47, 5, [(3, 1), (0, 3)], false), (21, .iload_n 1, 0, [], false), (22, .if_icmp .ne 6, 16, [], false), (25, .iinc 2 1, 0, [], false), (28, .iinc 3 1, 0, [], false), (31, .goto (-27), 4, [], false), (34, .iload_n 2, 0, [], false), (35, .ireturn, 0, [], false)]
def zc8 : List mzN := [(0, .aload_n 0, 0, [], false), (1, .iload_n 1, 0, [], false), (2, .putfield 15, 1, [(1, 0), (0, 3), (0, 3), (0, 0)], false), (5, .aload_n 0, 0, [], false), (6, .iload_n 2, 0, [], false), (7, .putfield 19, 2, [(2, 0), (0, 3), (0, 3), (0, 0)], false), (10, .iconst 0, 0, [], false), (11, .istore_n 3, 0, [], false), (12, .iload_n 3, 0, [], true), (13, .aload_n 0, 0, [], false), (14, .getfield 9, 0, [(0, 3), (0, 3), (0, 4), (0, 1)], false), (17, .arraylength, 0, [], false), (18, .if_icmp .ge 16, 20, [], false), (21, .aload_n 0, 0, [], false), (22, .getfield 9, 0, [(0, 3), (0, 3), (0, 4), (0, 1)], false), (25, .iload_n 3, 0, [], false), (26, .iconst 0, 0, [], false), (27, .iastore, 0, [], false), (28, .iinc 3 1, 0, [], false), (31, .goto (-19), 8, [], false), (34, .return_, 0, [], false)]
def zc9 : List mzN := [(0, .aload_n 0, 0, [], false), (1, .aload_n 1, 0, [], false), (2, .getfield 15, 1, [(1, 0), (0, 3), (0, 3), (0, 0)], false), (5, .putfield 15, 1, [(1, 0), (0, 3), (0, 3), (0, 0)], false), (8, .aload_n 0, 0, [], false), (9, .aload_n 1, 0, [], false), (10, .getfield 19, 2, [(2, 0), (0, 3), (0, 3), (0, 0)], false), (13, .putfield 19, 2, [(2, 0), (0, 3), (0, 3), (0, 0)], false), (16, .aload_n 1, 0, [], false), (17, .getfield 9, 0, [(0, 3), (0, 3), (0, 4), (0, 1)], false), (20, .iconst 0, 0, [], false), (21, .aload_n 0, 0, [], false), (22, .getfield 9, 0, [(0, 3), (0, 3), (0, 4), (0, 1)], false), (25, .iconst 0, 0, [], false), (26, .sipush 144, 0, [], false), (29, .invokestatic 22, 999, [], false), (32, .return_, 0, [], false)]
def zc10 : List mzN := [(0, .iload_n 1, 0, [], false), (1, .ifCond .lt 20, 11, [], false), (4, .iload_n 1, 0, [], false), (5, .aload_n 0, 0, [], false), (6, .getfield 15, 1, [(1, 0), (0, 3), (0, 3), (0, 0)], false), (9, .aload_n 0, 0, [], false), (10, .getfield 19, 2, [(2, 0), (0, 3), (0, 3), (0, 0)], false), (13, .imul, 0, [], false), (14, .if_icmp .ge 7, 11, [], false), (17, .iconst 1, 0, [], false), (18, .goto 4, 12, [], false), (21, .iconst 0, 0, [], false), (22, .ireturn, 1, [], false)]
def zc11 : List mzN := [(0, .iload_n 1, 0, [], false), (1, .ifCond .lt 21, 12, [], false), (4, .iload_n 1, 0, [], false), (5, .aload_n 0, 0, [], false), (6, .getfield 9, 0, [(0, 3), (0, 3), (0, 4), (0, 1)], false), (9, .arraylength, 0, [], false), (10, .if_icmp .ge 12, 12, [], false), (13, .aload_n 0, 0, [], false), (14, .getfield 9, 0, [(0, 3), (0, 3), (0, 4), (0, 1)], false), (17, .iload_n 1, 0, [], false), (18, .iaload, 0, [], false), (19, .goto 4, 13, [], false), (22, .iconst 0, 0, [], false), (23, .ireturn, 0, [], false)]
def zc12 : List mzN := [(0, .iload_n 1, 0, [], false), (1, .ifCond .lt 19, 12, [], false), (4, .iload_n 1, 0, [], false), (5, .aload_n 0, 0, [], false), (6, .getfield 9, 0, [(0, 3), (0, 3), (0, 4), (0, 1)], false), (9, .arraylength, 0, [], false), (10, .if_icmp .ge 10, 12, [], false), (13, .aload_n 0, 0, [], false), (14, .getfield 9, 0, [(0, 3), (0, 3), (0, 4), (0, 1)], false), (17, .iload_n 1, 0, [], false), (18, .iload_n 2, 0, [], false), (19, .iastore, 0, [], false), (20, .return_, 0, [], false)]
def zc13 : List mzN := [(0, .iload_n 1, 0, [], false), (1, .ifCond .lt 23, 12, [], false), (4, .iload_n 1, 0, [], false), (5, .aload_n 0, 0, [], false), (6, .getfield 15, 1, [(1, 0), (0, 3), (0, 3), (0, 0)], false), (9, .if_icmp .ge 15, 12, [], false), (12, .iload_n 2, 0, [], false), (13, .ifCond .lt 11, 12, [], false), (16, .iload_n 2, 0, [], false), (17, .aload_n 0, 0, [], false), (18, .getfield 19, 2, [(2, 0), (0, 3), (0, 3), (0, 0)], false), (21, .if_icmp .lt 5, 14, [], false), (24, .iconst 0, 0, [], false), (25, .ireturn, 0, [], false), (26, .iload_n 2, 0, [], false), (27, .aload_n 0, 0, [], false), (28, .getfield 15, 1, [(1, 0), (0, 3), (0, 3), (0, 0)], false), (31, .imul, 0, [], false), (32, .iload_n 1, 0, [], false), (33, .iadd, 0, [], false), (34, .istore_n 3, 0, [], false), (35, .iload_n 3, 0, [], false), (36, .aload_n 0, 0, [], false), (37, .getfield 9, 0, [(0, 3), (0, 3), (0, 4), (0, 1)], false), (40, .arraylength, 0, [], false), (41, .if_icmp .ge 12, 31, [], false), (44, .aload_n 0, 0, [], false), (45, .getfield 9, 0, [(0, 3), (0, 3), (0, 4), (0, 1)], false), (48, .iload_n 3, 0, [], false), (49, .iaload, 0, [], false), (50, .goto 4, 32, [], false), (53, .iconst 0, 0, [], false), (54, .ireturn, 0, [], false)]
def zc14 : List mzN := [(0, .aload_n 0, 0, [], false), (1, .getfield 15, 1, [(1, 0), (0, 3), (0, 3), (0, 0)], false), (4, .iconst 4, 0, [], false), (5, .idiv, 0, [], false), (6, .aload_n 0, 0, [], false), (7, .getfield 19, 2, [(2, 0), (0, 3), (0, 3), (0, 0)], false), (10, .iconst 4, 0, [], false), (11, .idiv, 0, [], false), (12, .imul, 0, [], false), (13, .ireturn, 0, [], false)]
def zc15 : List mzN := [(0, .iload_n 1, 0, [], false), (1, .ifCond .lt 15, 8, [], false), (4, .iload_n 1, 0, [], false), (5, .aload_n 0, 0, [], false), (6, .invokevirtual 28, 14, [(1, 1), (0, 4)], false), (9, .if_icmp .ge 7, 8, [], false), (12, .iconst 1, 0, [], false), (13, .goto 4, 9, [], false), (16, .iconst 0, 0, [], false), (17, .ireturn, 1, [], false)]
def zc16 : List mzN := [(0, .iconst 4, 0, [], false), (1, .iload_n 1, 0, [], false), (2, .iconst 1, 0, [], false), (3, .aload_n 0, 0, [], false), (4, .getfield 15, 1, [(1, 0), (0, 3), (0, 3), (0, 0)], false), (7, .iconst 4, 0, [], false), (8, .idiv, 0, [], false), (9, .invokestatic 32, 177, [(2, 1), (0, 0)], false), (12, .irem, 0, [], false), (13, .imul, 0, [], false), (14, .ireturn, 0, [], false)]
def zc17 : List mzN := [(0, .iconst 4, 0, [], false), (1, .iload_n 1, 0, [], false), (2, .iconst 1, 0, [], false), (3, .aload_n 0, 0, [], false), (4, .getfield 15, 1, [(1, 0), (0, 3), (0, 3), (0, 0)], false), (7, .iconst 4, 0, [], false), (8, .idiv, 0, [], false), (9, .invokestatic 32, 177, [(2, 1), (0, 0)], false), (12, .idiv, 0, [], false), (13, .imul, 0, [], false), (14, .ireturn, 0, [], false)]
def zc18 : List mzN := [(0, .iload_n 1, 0, [], false), (1, .ifCond .lt 31, 18, [], false), (4, .iload_n 1, 0, [], false), (5, .aload_n 0, 0, [], false), (6, .getfield 15, 1, [(1, 0), (0, 3), (0, 3), (0, 0)], false), (9, .iconst 4, 0, [], false), (10, .isub, 0, [], false), (11, .if_icmp .gt 21, 18, [], false), (14, .iload_n 2, 0, [], false), (15, .ifCond .lt 17, 18, [], false), (18, .iload_n 2, 0, [], false), (19, .aload_n 0, 0, [], false), (20, .getfield 19, 2, [(2, 0), (0, 3), (0, 3), (0, 0)], false), (23, .iconst 4, 0, [], false), (24, .isub, 0, [], false), (25, .if_icmp .gt 7, 18, [], false), (28, .iconst 1, 0, [], false), (29, .goto 4, 19, [], false), (32, .iconst 0, 0, [], false), (33, .ireturn, 1, [], false)]
def zc19 : List mzN := [(0, .bipush 7, 0, [], false), (2, .istore_n 3, 0, [], false), (3, .iconst 0, 0, [], false), (4, .istore 4, 0, [], false), (6, .iload 4, 0, [], true), (8, .bipush 16, 0, [], false), (10, .if_icmp .ge 35, 28, [], false), (13, .iload_n 3, 0, [], false), (14, .bipush 31, 0, [], false), (16, .imul, 0, [], false), (17, .aload_n 0, 0, [], false), (18, .iload_n 1, 0, [], false), (19, .iload 4, 0, [], false), (21, .iconst 4, 0, [], false), (22, .irem, 0, [], false), (23, .iadd, 0, [], false), (24, .iload_n 2, 0, [], false), (25, .iload 4, 0, [], false), (27, .iconst 4, 0, [], false), (28, .idiv, 0, [], false), (29, .iadd, 0, [], false), (30, .invokevirtual 38, 13, [(3, 1), (0, 4)], false), (33, .iadd, 0, [], false), (34, .sipush 9973, 0, [], false), (37, .irem, 0, [], false), (38, .istore_n 3, 0, [], false), (39, .iinc 4 1, 0, [], false), (42, .goto (-36), 4, [], false), (45, .iload_n 3, 0, [], false), (46, .ireturn, 0, [], false)]
def zc20 : List mzN := [(0, .iconst 0, 0, [], false), (1, .istore 6, 0, [], false), (3, .iload 6, 0, [], true), (5, .bipush 16, 0, [], false), (7, .if_icmp .ge 102, 64, [], false), (10, .iload_n 2, 0, [], false), (11, .iload 6, 0, [], false), (13, .iconst 4, 0, [], false), (14, .idiv, 0, [], false), (15, .iadd, 0, [], false), (16, .aload_n 0, 0, [], false), (17, .getfield 15, 1, [(1, 0), (0, 3), (0, 3), (0, 0)], false), (20, .imul, 0, [], false), (21, .iload_n 1, 0, [], false), (22, .iadd, 0, [], false), (23, .iload 6, 0, [], false), (25, .iconst 4, 0, [], false), (26, .irem, 0, [], false), (27, .iadd, 0, [], false), (28, .istore 7, 0, [], false), (30, .iload 5, 0, [], false), (32, .iload 6, 0, [], false), (34, .iconst 4, 0, [], false), (35, .idiv, 0, [], false), (36, .iadd, 0, [], false), (37, .aload_n 3, 0, [], false), (38, .getfield 15, 1, [(1, 0), (0, 3), (0, 3), (0, 0)], false), (41, .imul, 0, [], false), (42, .iload 4, 0, [], false), (44, .iadd, 0, [], false), (45, .iload 6, 0, [], false), (47, .iconst 4, 0, [], false), (48, .irem, 0, [], false), (49, .iadd, 0, [], false), (50, .istore 8, 0, [], false), (52, .iload 7, 0, [], false), (54, .ifCond .lt 28, 49, [], false), (57, .iload 7, 0, [], false), (59, .aload_n 0, 0, [], false), (60, .getfield 9, 0, [(0, 3), (0, 3), (0, 4), (0, 1)], false), (63, .arraylength, 0, [], false), (64, .if_icmp .ge 18, 49, [], false), (67, .iload 8, 0, [], false), (69, .ifCond .lt 13, 49, [], false), (72, .iload 8, 0, [], false), (74, .aload_n 3, 0, [], false), (75, .getfield 9, 0, [(0, 3), (0, 3), (0, 4), (0, 1)], false), (78, .arraylength, 0, [], false), (79, .if_icmp .lt 5, 51, [], false), (82, .iconst 0, 0, [], false), (83, .ireturn, 1, [], false), (84, .aload_n 0, 0, [], false), (85, .getfield 9, 0, [(0, 3), (0, 3), (0, 4), (0, 1)], false), (88, .iload 7, 0, [], false), (90, .iaload, 0, [], false), (91, .aload_n 3, 0, [], false), (92, .getfield 9, 0, [(0, 3), (0, 3), (0, 4), (0, 1)], false), (95, .iload 8, 0, [], false), (97, .iaload, 0, [], false), (98, .if_icmp .eq 5, 62, [], false), (101, .iconst 0, 0, [], false), (102, .ireturn, 1, [], false), (103, .iinc 6 1, 0, [], false), (106, .goto (-103), 2, [], false), (109, .iconst 1, 0, [], false), (110, .ireturn, 1, [], false)]
def zc21 : List mzN := [(0, .iconst 0, 0, [], false), (1, .istore_n 2, 0, [], false), (2, .iconst 0, 0, [], false), (3, .istore_n 3, 0, [], false), (4, .iload_n 3, 0, [], true), (5, .aload_n 0, 0, [], false), (6, .getfield 15, 1, [(1, 0), (0, 3), (0, 3), (0, 0)], false), (9, .aload_n 0, 0, [], false), (10, .getfield 19, 2, [(2, 0), (0, 3), (0, 3), (0, 0)], false), (13, .imul, 0, [], false), (14, .if_icmp .ge 25, 21, [], false), (17, .aload_n 0, 0, [], false), (18, .iload_n 3, 0, [], false), (19, .invokevirtual 41, 11, [(2, 1), (0, 4)], false), (22, .aload_n 1, 0, [], false), (23, .iload_n 3, 0, [], false), (24, .invokevirtual 41, 11, [(2, 1), (0, 4)], false), (27, .if_icmp .eq 6, 19, [], false), (30, .iinc 2 1, 0, [], false), (33, .iinc 3 1, 0, [], false), (36, .goto (-32), 4, [], false), (39, .iload_n 2, 0, [], false), (40, .ireturn, 0, [], false)]
def zc22 : List mzN := [(0, .iload_n 2, 0, [], false), (1, .istore 6, 0, [], false), (3, .iload 6, 0, [], true), (5, .aload_n 0, 0, [], false), (6, .getfield 19, 2, [(2, 0), (0, 3), (0, 3), (0, 0)], false), (9, .iload_n 2, 0, [], false), (10, .iload 4, 0, [], false), (12, .iadd, 0, [], false), (13, .invokestatic 45, 178, [(2, 1), (0, 0)], false), (16, .if_icmp .ge 49, 33, [], false), (19, .iload_n 1, 0, [], false), (20, .istore 7, 0, [], false), (22, .iload 7, 0, [], true), (24, .aload_n 0, 0, [], false), (25, .getfield 15, 1, [(1, 0), (0, 3), (0, 3), (0, 0)], false), (28, .iload_n 1, 0, [], false), (29, .iload_n 3, 0, [], false), (30, .iadd, 0, [], false), (31, .invokestatic 45, 178, [(2, 1), (0, 0)], false), (34, .if_icmp .ge 25, 31, [], false), (37, .aload_n 0, 0, [], false), (38, .iload 6, 0, [], false), (40, .aload_n 0, 0, [], false), (41, .getfield 15, 1, [(1, 0), (0, 3), (0, 3), (0, 0)], false), (44, .imul, 0, [], false), (45, .iload 7, 0, [], false), (47, .iadd, 0, [], false), (48, .iload 5, 0, [], false), (50, .invokevirtual 48, 12, [(3, 0), (0, 4)], false), (53, .iinc 7 1, 0, [], false), (56, .goto (-34), 12, [], false), (59, .iinc 6 1, 0, [], false), (62, .goto (-59), 2, [], false), (65, .return_, 0, [], false)]
def zc23 : List mzN := [(0, .iconst 0, 0, [], false), (1, .istore 4, 0, [], false), (3, .iload 4, 0, [], true), (5, .aload_n 0, 0, [], false), (6, .getfield 19, 2, [(2, 0), (0, 3), (0, 3), (0, 0)], false), (9, .if_icmp .ge 53, 32, [], false), (12, .iconst 0, 0, [], false), (13, .istore 5, 0, [], false), (15, .iload 5, 0, [], true), (17, .aload_n 0, 0, [], false), (18, .getfield 15, 1, [(1, 0), (0, 3), (0, 3), (0, 0)], false), (21, .if_icmp .ge 35, 30, [], false), (24, .aload_n 0, 0, [], false), (25, .iload 4, 0, [], false), (27, .aload_n 0, 0, [], false), (28, .getfield 15, 1, [(1, 0), (0, 3), (0, 3), (0, 0)], false), (31, .imul, 0, [], false), (32, .iload 5, 0, [], false), (34, .iadd, 0, [], false), (35, .aload_n 1, 0, [], false), (36, .iload 5, 0, [], false), (38, .iload_n 2, 0, [], false), (39, .isub, 0, [], false), (40, .iload 4, 0, [], false), (42, .iload_n 3, 0, [], false), (43, .isub, 0, [], false), (44, .invokevirtual 38, 13, [(3, 1), (0, 4)], false), (47, .invokevirtual 48, 12, [(3, 0), (0, 4)], false), (50, .iinc 5 1, 0, [], false), (53, .goto (-38), 8, [], false), (56, .iinc 4 1, 0, [], false), (59, .goto (-56), 2, [], false), (62, .return_, 0, [], false)]
def zc24 : List mzN := [(0, .iconst 0, 0, [], false), (1, .istore_n 3, 0, [], false), (2, .iload_n 3, 0, [], true), (3, .aload_n 0, 0, [], false), (4, .getfield 9, 0, [(0, 3), (0, 3), (0, 4), (0, 1)], false), (7, .arraylength, 0, [], false), (8, .if_icmp .ge 46, 32, [], false), (11, .aload_n 0, 0, [], false), (12, .getfield 9, 0, [(0, 3), (0, 3), (0, 4), (0, 1)], false), (15, .iload_n 3, 0, [], false), (16, .iaload, 0, [], false), (17, .iload_n 1, 0, [], false), (18, .if_icmp .ne 13, 19, [], false), (21, .aload_n 0, 0, [], false), (22, .getfield 9, 0, [(0, 3), (0, 3), (0, 4), (0, 1)], false), (25, .iload_n 3, 0, [], false), (26, .iload_n 2, 0, [], false), (27, .iastore, 0, [], false), (28, .goto 20, 30, [], false), (31, .aload_n 0, 0, [], false), (32, .getfield 9, 0, [(0, 3), (0, 3), (0, 4), (0, 1)], false), (35, .iload_n 3, 0, [], false), (36, .iaload, 0, [], false), (37, .iload_n 2, 0, [], false), (38, .if_icmp .ne 10, 30, [], false), (41, .aload_n 0, 0, [], false), (42, .getfield 9, 0, [(0, 3), (0, 3), (0, 4), (0, 1)], false), (45, .iload_n 3, 0, [], false), (46, .iload_n 1, 0, [], false), (47, .iastore, 0, [], false), (48, .iinc 3 1, 0, [], false), (51, .goto (-49), 2, [], false), (54, .return_, 0, [], false)]
def zc25 : List mzN := [(0, .aload_n 1, 0, [], false), (1, .getfield 25, 3, [(3, 0), (0, 1), (0, 1), (0, 0)], false), (4, .bipush 10, 0, [], false), (6, .invokestatic 30, 178, [(2, 1), (0, 0)], false), (9, .istore 4, 0, [], false), (11, .aload_n 0, 0, [], false), (12, .aload_n 1, 0, [], false), (13, .aload_n 2, 0, [], false), (14, .aload_n 3, 0, [], false), (15, .iload 4, 0, [], false), (17, .invokevirtual 36, 26, [(5, 0), (0, 16)], false), (20, .aload_n 0, 0, [], false), (21, .aload_n 0, 0, [], false), (22, .iconst 1, 0, [], false), (23, .iload 4, 0, [], false), (25, .aload_n 1, 0, [], false), (26, .getfield 40, 6, [(6, 0), (0, 1), (0, 1), (0, 0)], false), (29, .invokevirtual 43, 27, [(4, 1), (0, 16)], false), (32, .putfield 18, 2, [(2, 0), (0, 15), (0, 15), (0, 0)], false), (35, .aload_n 0, 0, [], false), (36, .iconst 1, 0, [], false), (37, .putfield 22, 3, [(3, 0), (0, 15), (0, 15), (0, 0)], false), (40, .iconst 3, 0, [], false), (41, .istore 5, 0, [], false), (43, .iload 5, 0, [], true), (45, .iconst 1, 0, [], false), (46, .iload 4, 0, [], false), (48, .ishl, 0, [], false), (49, .if_icmp .ge 80, 64, [], false), (52, .aload_n 0, 0, [], false), (53, .iload 5, 0, [], false), (55, .iload 4, 0, [], false), (57, .aload_n 1, 0, [], false), (58, .getfield 40, 6, [(6, 0), (0, 1), (0, 1), (0, 0)], false), (61, .invokevirtual 43, 27, [(4, 1), (0, 16)], false), (64, .istore 6, 0, [], false), (66, .iload 5, 0, [], false), (68, .invokestatic 47, 174, [(1, 1), (0, 0)], false), (71, .aload_n 0, 0, [], false), (72, .getfield 22, 3, [(3, 0), (0, 15), (0, 15), (0, 0)], false), (75, .invokestatic 47, 174, [(1, 1), (0, 0)], false), (78, .if_icmp .ge 7, 44, [], false), (81, .iconst 1, 0, [], false), (82, .goto 4, 45, [], false), (85, .iconst 0, 0, [], false), (86, .istore 7, 0, [], false), (88, .iload 6, 0, [], false), (90, .aload_n 0, 0, [], false), (91, .getfield 18, 2, [(2, 0), (0, 15), (0, 15), (0, 0)], false), (94, .if_icmp .lt 17, 56, [], false), (97, .iload 6, 0, [], false), (99, .aload_n 0, 0, [], false), (100, .getfield 18, 2, [(2, 0), (0, 15), (0, 15), (0, 0)], false), (103, .if_icmp .ne 20, 62, [], false), (106, .iload 7, 0, [], false), (108, .ifCond .eq 15, 62, [], false), (111, .aload_n 0, 0, [], false), (112, .iload 6, 0, [], false), (114, .putfield 18, 2, [(2, 0), (0, 15), (0, 15), (0, 0)], false), (117, .aload_n 0, 0, [], false), (118, .iload 5, 0, [], false), (120, .putfield 22, 3, [(3, 0), (0, 15), (0, 15), (0, 0)], false), (123, .iinc 5 2, 0, [], false), (126, .goto (-83), 24, [], false), (129, .return_, 0, [], false)]
def zc26 : List mzN := [(0, .iconst 0, 0, [], false), (1, .istore 5, 0, [], false), (3, .iload 5, 0, [], true), (5, .iload 4, 0, [], false), (7, .if_icmp .ge 86, 49, [], false), (10, .iload 5, 0, [], false), (12, .aload_n 0, 0, [], false), (13, .getfield 9, 0, [(0, 3), (0, 15), (0, 16), (0, 0)], false), (16, .arraylength, 0, [], false), (17, .if_icmp .ge 76, 49, [], false), (20, .iload 5, 0, [], false), (22, .aload_n 0, 0, [], false), (23, .getfield 15, 1, [(0, 3), (0, 15), (0, 17), (0, 0)], false), (26, .arraylength, 0, [], false), (27, .if_icmp .ge 66, 49, [], false), (30, .aload_n 3, 0, [], false), (31, .getfield 53, 0, [(0, 3), (0, 2), (0, 3), (0, 1)], false), (34, .aload_n 1, 0, [], false), (35, .iload 5, 0, [], false), (37, .invokevirtual 59, 54, [(2, 5), (0, 2)], false), (40, .invokevirtual 63, 9, [(2, 0), (0, 4)], false), (43, .aload_n 2, 0, [], false), (44, .aload_n 3, 0, [], false), (45, .aload_n 1, 0, [], false), (46, .iconst (-1), 0, [], false), (47, .invokevirtual 69, 0, [(4, 0), (0, 12)], false), (50, .aload_n 0, 0, [], false), (51, .getfield 9, 0, [(0, 3), (0, 15), (0, 16), (0, 0)], false), (54, .iload 5, 0, [], false), (56, .aload_n 3, 0, [], false), (57, .getfield 75, 3, [(3, 0), (0, 2), (0, 2), (0, 0)], false), (60, .iastore, 0, [], false), (61, .iload 5, 0, [], false), (63, .ifCond .le 24, 47, [], false), (66, .aload_n 2, 0, [], false), (67, .aload_n 3, 0, [], false), (68, .aload_n 1, 0, [], false), (69, .iload 5, 0, [], false), (71, .iconst 1, 0, [], false), (72, .isub, 0, [], false), (73, .invokevirtual 69, 0, [(4, 0), (0, 12)], false), (76, .aload_n 0, 0, [], false), (77, .getfield 15, 1, [(0, 3), (0, 15), (0, 17), (0, 0)], false), (80, .iload 5, 0, [], false), (82, .aload_n 3, 0, [], false), (83, .getfield 75, 3, [(3, 0), (0, 2), (0, 2), (0, 0)], false), (86, .iastore, 0, [], false), (87, .iinc 5 1, 0, [], false), (90, .goto (-87), 2, [], false), (93, .return_, 0, [], false)]
def zc27 : List mzN := [(0, .iconst 0, 0, [], false), (1, .istore 4, 0, [], false), (3, .iconst 0, 0, [], false), (4, .istore 5, 0, [], false), (6, .iconst 0, 0, [], false), (7, .istore 6, 0, [], false), (9, .iconst 0, 0, [], false), (10, .istore 7, 0, [], false), (12, .iload 7, 0, [], true), (14, .iload_n 2, 0, [], false), (15, .if_icmp .ge 103, 62, [], false), (18, .iload 7, 0, [], false), (20, .aload_n 0, 0, [], false), (21, .getfield 9, 0, [(0, 3), (0, 15), (0, 16), (0, 0)], false), (24, .arraylength, 0, [], false), (25, .if_icmp .ge 93, 62, [], false), (28, .iload 7, 0, [], false), (30, .aload_n 0, 0, [], false), (31, .getfield 15, 1, [(0, 3), (0, 15), (0, 17), (0, 0)], false), (34, .arraylength, 0, [], false), (35, .if_icmp .ge 83, 62, [], false), (38, .iload_n 1, 0, [], false), (39, .iload 7, 0, [], false), (41, .ishr, 0, [], false), (42, .iconst 1, 0, [], false), (43, .iand, 0, [], false), (44, .iconst 1, 0, [], false), (45, .if_icmp .ne 7, 30, [], false), (48, .iconst 1, 0, [], false), (49, .goto 4, 31, [], false), (52, .iconst 0, 0, [], false), (53, .istore 8, 0, [], false), (55, .iload 8, 0, [], false), (57, .ifCond .eq 13, 39, [], false), (60, .aload_n 0, 0, [], false), (61, .getfield 9, 0, [(0, 3), (0, 15), (0, 16), (0, 0)], false), (64, .iload 7, 0, [], false), (66, .iaload, 0, [], false), (67, .goto 10, 43, [], false), (70, .aload_n 0, 0, [], false), (71, .getfield 15, 1, [(0, 3), (0, 15), (0, 17), (0, 0)], false), (74, .iload 7, 0, [], false), (76, .iaload, 0, [], false), (77, .istore 9, 0, [], false), (79, .iload 4, 0, [], false), (81, .iload 9, 0, [], false), (83, .iadd, 0, [], false), (84, .istore 4, 0, [], false), (86, .iload 8, 0, [], false), (88, .ifCond .eq 8, 52, [], false), (91, .iload 9, 0, [], false), (93, .goto 8, 55, [], false), (96, .iload 5, 0, [], false), (98, .iload 9, 0, [], false), (100, .iadd, 0, [], false), (101, .istore 5, 0, [], false), (103, .iload 6, 0, [], false), (105, .iload 5, 0, [], false), (107, .invokestatic 76, 177, [(2, 1), (0, 0)], false), (110, .istore 6, 0, [], false), (112, .iinc 7 1, 0, [], false), (115, .goto (-103), 8, [], false), (118, .iload 4, 0, [], false), (120, .iload_n 3, 0, [], false), (121, .iload 6, 0, [], false), (123, .imul, 0, [], false), (124, .iadd, 0, [], false), (125, .ireturn, 0, [], false)]
def zc28 : List mzN := [(0, .aload_n 0, 0, [], false), (1, .getfield 22, 3, [(3, 0), (0, 15), (0, 15), (0, 0)], false), (4, .iload_n 1, 0, [], false), (5, .ishr, 0, [], false), (6, .iconst 1, 0, [], false), (7, .iand, 0, [], false), (8, .iconst 1, 0, [], false), (9, .if_icmp .ne 7, 10, [], false), (12, .iconst (-1), 0, [], false), (13, .goto 6, 13, [], false), (16, .iload_n 1, 0, [], false), (17, .iconst 1, 0, [], false), (18, .isub, 0, [], false), (19, .ireturn, 0, [], false)]
def zc29 : List mzN := [(0, .aload_n 1, 0, [], false), (1, .iload_n 3, 0, [], false), (2, .invokevirtual 22, 16, [(2, 1), (0, 4)], false), (5, .istore 4, 0, [], false), (7, .aload_n 1, 0, [], false), (8, .iload_n 3, 0, [], false), (9, .invokevirtual 28, 17, [(2, 1), (0, 4)], false), (12, .istore 5, 0, [], false), (14, .aload_n 0, 0, [], false), (15, .iconst 0, 0, [], false), (16, .putfield 18, 2, [(2, 0), (0, 12), (0, 12), (0, 0)], false), (19, .iconst 0, 0, [], false), (20, .istore 6, 0, [], false), (22, .iload 6, 0, [], true), (24, .bipush 16, 0, [], false), (26, .if_icmp .ge 63, 49, [], false), (29, .iload 4, 0, [], false), (31, .iload 6, 0, [], false), (33, .iconst 4, 0, [], false), (34, .irem, 0, [], false), (35, .iadd, 0, [], false), (36, .istore 7, 0, [], false), (38, .iload 5, 0, [], false), (40, .iload 6, 0, [], false), (42, .iconst 4, 0, [], false), (43, .idiv, 0, [], false), (44, .iadd, 0, [], false), (45, .istore 8, 0, [], false), (47, .aload_n 1, 0, [], false), (48, .iload 7, 0, [], false), (50, .iload 8, 0, [], false), (52, .invokevirtual 31, 13, [(3, 1), (0, 4)], false), (55, .istore 9, 0, [], false), (57, .aload_n 2, 0, [], false), (58, .ifnull 19, 44, [], false), (61, .iload 9, 0, [], false), (63, .aload_n 2, 0, [], false), (64, .iload 7, 0, [], false), (66, .iload 8, 0, [], false), (68, .invokevirtual 31, 13, [(3, 1), (0, 4)], false), (71, .isub, 0, [], false), (72, .bipush 15, 0, [], false), (74, .iand, 0, [], false), (75, .istore 9, 0, [], false), (77, .aload_n 0, 0, [], false), (78, .iload 9, 0, [], false), (80, .invokevirtual 35, 30, [(2, 0), (0, 13)], false), (83, .iinc 6 1, 0, [], false), (86, .goto (-64), 13, [], false), (89, .return_, 0, [], false)]
def zc30 : List mzN := [(0, .aload_n 0, 0, [], false), (1, .getfield 18, 2, [(2, 0), (0, 12), (0, 12), (0, 0)], false), (4, .iconst 1, 0, [], false), (5, .isub, 0, [], false), (6, .istore_n 2, 0, [], false), (7, .iload_n 2, 0, [], false), (8, .ifCond .lt 26, 20, [], false), (11, .iload_n 2, 0, [], false), (12, .aload_n 0, 0, [], false), (13, .getfield 15, 1, [(0, 3), (0, 12), (0, 14), (0, 1)], false), (16, .arraylength, 0, [], false), (17, .if_icmp .ge 17, 20, [], false), (20, .aload_n 0, 0, [], false), (21, .getfield 15, 1, [(0, 3), (0, 12), (0, 14), (0, 1)], false), (24, .iload_n 2, 0, [], false), (25, .iaload, 0, [], false), (26, .iload_n 1, 0, [], false), (27, .if_icmp .ne 7, 20, [], false), (30, .iconst 1, 0, [], false), (31, .goto 4, 21, [], false), (34, .iconst 0, 0, [], false), (35, .istore_n 3, 0, [], false), (36, .iload_n 3, 0, [], false), (37, .ifCond .eq 25, 38, [], false), (40, .iload_n 2, 0, [], false), (41, .aload_n 0, 0, [], false), (42, .getfield 9, 0, [(0, 3), (0, 12), (0, 13), (0, 1)], false), (45, .arraylength, 0, [], false), (46, .if_icmp .ge 16, 38, [], false), (49, .aload_n 0, 0, [], false), (50, .getfield 9, 0, [(0, 3), (0, 12), (0, 13), (0, 1)], false), (53, .iload_n 2, 0, [], false), (54, .dup2, 0, [], false), (55, .iaload, 0, [], false), (56, .iconst 1, 0, [], false), (57, .iadd, 0, [], false), (58, .iastore, 0, [], false), (59, .goto 64, 71, [], false), (62, .aload_n 0, 0, [], false), (63, .getfield 18, 2, [(2, 0), (0, 12), (0, 12), (0, 0)], false), (66, .ifCond .lt 57, 71, [], false), (69, .aload_n 0, 0, [], false), (70, .getfield 18, 2, [(2, 0), (0, 12), (0, 12), (0, 0)], false), (73, .aload_n 0, 0, [], false), (74, .getfield 9, 0, [(0, 3), (0, 12), (0, 13), (0, 1)], false), (77, .arraylength, 0, [], false), (78, .if_icmp .ge 45, 71, [], false), (81, .aload_n 0, 0, [], false), (82, .getfield 18, 2, [(2, 0), (0, 12), (0, 12), (0, 0)], false), (85, .aload_n 0, 0, [], false), (86, .getfield 15, 1, [(0, 3), (0, 12), (0, 14), (0, 1)], false), (89, .arraylength, 0, [], false), (90, .if_icmp .ge 33, 71, [], false), (93, .aload_n 0, 0, [], false), (94, .getfield 9, 0, [(0, 3), (0, 12), (0, 13), (0, 1)], false), (97, .aload_n 0, 0, [], false), (98, .getfield 18, 2, [(2, 0), (0, 12), (0, 12), (0, 0)], false), (101, .iconst 1, 0, [], false), (102, .iastore, 0, [], false), (103, .aload_n 0, 0, [], false), (104, .getfield 15, 1, [(0, 3), (0, 12), (0, 14), (0, 1)], false), (107, .aload_n 0, 0, [], false), (108, .getfield 18, 2, [(2, 0), (0, 12), (0, 12), (0, 0)], false), (111, .iload_n 1, 0, [], false), (112, .iastore, 0, [], false), (113, .aload_n 0, 0, [], false), (114, .dup, 0, [], false), (115, .getfield 18, 2, [(2, 0), (0, 12), (0, 12), (0, 0)], false), (118, .iconst 1, 0, [], false), (119, .iadd, 0, [], false), (120, .putfield 18, 2, [(2, 0), (0, 12), (0, 12), (0, 0)], false), (123, .return_, 0, [], false)]
def zc31 : List mzN := [(0, .iload_n 1, 0, [], false), (1, .ifCond .lt 21, 12, [], false), (4, .iload_n 1, 0, [], false), (5, .aload_n 0, 0, [], false), (6, .getfield 9, 0, [(0, 3), (0, 12), (0, 13), (0, 1)], false), (9, .arraylength, 0, [], false), (10, .if_icmp .ge 12, 12, [], false), (13, .aload_n 0, 0, [], false), (14, .getfield 9, 0, [(0, 3), (0, 12), (0, 13), (0, 1)], false), (17, .iload_n 1, 0, [], false), (18, .iaload, 0, [], false), (19, .goto 4, 13, [], false), (22, .iconst 0, 0, [], false), (23, .ireturn, 0, [], false)]
def zc32 : List mzN := [(0, .iload_n 1, 0, [], false), (1, .ifCond .lt 21, 12, [], false), (4, .iload_n 1, 0, [], false), (5, .aload_n 0, 0, [], false), (6, .getfield 15, 1, [(0, 3), (0, 12), (0, 14), (0, 1)], false), (9, .arraylength, 0, [], false), (10, .if_icmp .ge 12, 12, [], false), (13, .aload_n 0, 0, [], false), (14, .getfield 15, 1, [(0, 3), (0, 12), (0, 14), (0, 1)], false), (17, .iload_n 1, 0, [], false), (18, .iaload, 0, [], false), (19, .goto 4, 13, [], false), (22, .iconst 0, 0, [], false), (23, .ireturn, 0, [], false)]
def zc33 : List mzN := [(0, .aload_n 0, 0, [], false), (1, .getfield 15, 1, [(1, 0), (0, 8), (0, 8), (0, 0)], false), (4, .ifCond .lt 35, 21, [], false), (7, .aload_n 0, 0, [], false), (8, .getfield 15, 1, [(1, 0), (0, 8), (0, 8), (0, 0)], false), (11, .aload_n 0, 0, [], false), (12, .getfield 9, 0, [(0, 3), (0, 8), (0, 9), (0, 0)], false), (15, .arraylength, 0, [], false), (16, .if_icmp .ge 23, 21, [], false), (19, .aload_n 0, 0, [], false), (20, .getfield 9, 0, [(0, 3), (0, 8), (0, 9), (0, 0)], false), (23, .aload_n 0, 0, [], false), (24, .getfield 15, 1, [(1, 0), (0, 8), (0, 8), (0, 0)], false), (27, .iload_n 1, 0, [], false), (28, .castore, 0, [], false), (29, .aload_n 0, 0, [], false), (30, .dup, 0, [], false), (31, .getfield 15, 1, [(1, 0), (0, 8), (0, 8), (0, 0)], false), (34, .iconst 1, 0, [], false), (35, .iadd, 0, [], false), (36, .putfield 15, 1, [(1, 0), (0, 8), (0, 8), (0, 0)], false), (39, .aload_n 0, 0, [], false), (40, .getfield 15, 1, [(1, 0), (0, 8), (0, 8), (0, 0)], false), (43, .ireturn, 0, [], false)]
def zc34 : List mzN := [(0, .iload_n 0, 0, [], false), (1, .tableswitch 43 0 3 #[31, 34, 37, 40], 10, [(0, 2), (1, 4), (2, 6), (3, 8)], false), (32, .ldc 38, 0, [], false), (34, .areturn, 0, [], false), (35, .ldc 40, 1, [], false), (37, .areturn, 0, [], false), (38, .ldc 42, 2, [], false), (40, .areturn, 0, [], false), (41, .ldc 44, 3, [], false), (43, .areturn, 0, [], false), (44, .ldc 46, 4, [], false), (46, .areturn, 0, [], false)]
def zc35 : List mzN := [(0, .iload_n 0, 0, [], false), (1, .tableswitch 43 0 3 #[31, 34, 37, 40], 10, [(0, 2), (1, 4), (2, 6), (3, 8)], false), (32, .ldc 48, 5, [], false), (34, .areturn, 0, [], false), (35, .ldc 50, 6, [], false), (37, .areturn, 0, [], false), (38, .ldc 52, 7, [], false), (40, .areturn, 0, [], false), (41, .ldc 54, 8, [], false), (43, .areturn, 0, [], false), (44, .ldc 56, 9, [], false), (46, .areturn, 0, [], false)]
def zc36 : List mzN := [(0, .aload_n 0, 0, [], false), (1, .iconst 0, 0, [], false), (2, .putfield 25, 4, [(4, 0), (0, 8), (0, 8), (0, 0)], false), (5, .aload_n 0, 0, [], false), (6, .iconst 0, 0, [], false), (7, .putfield 35, 7, [(7, 0), (0, 8), (0, 8), (0, 0)], false), (10, .iconst 0, 0, [], false), (11, .istore_n 2, 0, [], false), (12, .iload_n 2, 0, [], true), (13, .sipush 160, 0, [], false), (16, .if_icmp .gt 35, 27, [], false), (19, .aload_n 0, 0, [], false), (20, .invokevirtual 58, 39, [(1, 0), (0, 9)], false), (23, .aload_n 0, 0, [], false), (24, .getfield 19, 2, [(2, 0), (0, 8), (0, 8), (0, 0)], false), (27, .ifCond .ne 5, 18, [], false), (30, .iconst (-1), 0, [], false), (31, .ireturn, 0, [], false), (32, .aload_n 0, 0, [], false), (33, .aload_n 1, 0, [], false), (34, .invokevirtual 61, 37, [(2, 1), (0, 9)], false), (37, .ifCond .ne 8, 25, [], false), (40, .aload_n 0, 0, [], false), (41, .getfield 22, 3, [(3, 0), (0, 8), (0, 8), (0, 0)], false), (44, .ireturn, 0, [], false), (45, .iinc 2 1, 0, [], false), (48, .goto (-36), 8, [], false), (51, .aload_n 0, 0, [], false), (52, .getfield 22, 3, [(3, 0), (0, 8), (0, 8), (0, 0)], false), (55, .ireturn, 0, [], false)]
def zc37 : List mzN := [(0, .aload_n 0, 0, [], false), (1, .invokevirtual 65, 43, [(1, 1), (0, 9)], false), (4, .istore_n 2, 0, [], false), (5, .iload_n 2, 0, [], false), (6, .ifCond .ge 5, 7, [], false), (9, .iconst 0, 0, [], false), (10, .ireturn, 1, [], false), (11, .aload_n 0, 0, [], false), (12, .iload_n 2, 0, [], false), (13, .invokevirtual 69, 38, [(2, 0), (0, 9)], false), (16, .iload_n 2, 0, [], false), (17, .invokestatic 73, 35, [(1, 32), (0, 0)], false), (20, .astore_n 3, 0, [], false), (21, .iconst 0, 0, [], false), (22, .istore 4, 0, [], false), (24, .iload 4, 0, [], true), (26, .aload_n 3, 0, [], false), (27, .invokevirtual 77, 179, [(1, 1), (0, 31)], false), (30, .if_icmp .ge 44, 39, [], false), (33, .aload_n 0, 0, [], false), (34, .invokevirtual 58, 39, [(1, 0), (0, 9)], false), (37, .aload_n 0, 0, [], false), (38, .invokevirtual 81, 45, [(1, 1), (0, 9)], false), (41, .ifCond .eq 17, 31, [], false), (44, .aload_n 0, 0, [], false), (45, .aload_n 3, 0, [], false), (46, .iload 4, 0, [], false), (48, .invokevirtual 85, 180, [(2, 1), (0, 31)], false), (51, .aload_n 1, 0, [], false), (52, .invokevirtual 89, 46, [(3, 1), (0, 9)], false), (55, .ifCond .ne 5, 33, [], false), (58, .iconst 0, 0, [], false), (59, .ireturn, 1, [], false), (60, .aload_n 0, 0, [], false), (61, .aload_n 0, 0, [], false), (62, .getfield 28, 5, [(5, 0), (0, 8), (0, 8), (0, 0)], false), (65, .invokevirtual 69, 38, [(2, 0), (0, 9)], false), (68, .iinc 4 1, 0, [], false), (71, .goto (-47), 15, [], false), (74, .aload_n 0, 0, [], false), (75, .invokevirtual 58, 39, [(1, 0), (0, 9)], false), (78, .aload_n 0, 0, [], false), (79, .getfield 19, 2, [(2, 0), (0, 8), (0, 8), (0, 0)], false), (82, .iconst 3, 0, [], false), (83, .if_icmp .ne 20, 53, [], false), (86, .aload_n 0, 0, [], false), (87, .aload_n 0, 0, [], false), (88, .getfield 22, 3, [(3, 0), (0, 8), (0, 8), (0, 0)], false), (91, .invokevirtual 93, 40, [(2, 1), (0, 9)], false), (94, .bipush 59, 0, [], false), (96, .if_icmp .ne 7, 53, [], false), (99, .iconst 1, 0, [], false), (100, .goto 4, 54, [], false), (103, .iconst 0, 0, [], false), (104, .ireturn, 1, [], false)]
def zc38 : List mzN := [(0, .aload_n 0, 0, [], false), (1, .getfield 35, 7, [(7, 0), (0, 8), (0, 8), (0, 0)], false), (4, .ifCond .lt 35, 21, [], false), (7, .aload_n 0, 0, [], false), (8, .getfield 35, 7, [(7, 0), (0, 8), (0, 8), (0, 0)], false), (11, .aload_n 0, 0, [], false), (12, .getfield 31, 6, [(0, 3), (0, 8), (0, 10), (0, 0)], false), (15, .arraylength, 0, [], false), (16, .if_icmp .ge 23, 21, [], false), (19, .aload_n 0, 0, [], false), (20, .getfield 31, 6, [(0, 3), (0, 8), (0, 10), (0, 0)], false), (23, .aload_n 0, 0, [], false), (24, .getfield 35, 7, [(7, 0), (0, 8), (0, 8), (0, 0)], false), (27, .iload_n 1, 0, [], false), (28, .iastore, 0, [], false), (29, .aload_n 0, 0, [], false), (30, .dup, 0, [], false), (31, .getfield 35, 7, [(7, 0), (0, 8), (0, 8), (0, 0)], false), (34, .iconst 1, 0, [], false), (35, .iadd, 0, [], false), (36, .putfield 35, 7, [(7, 0), (0, 8), (0, 8), (0, 0)], false), (39, .return_, 0, [], false)]
def zc39 : List mzN := [(0, .aload_n 0, 0, [], false), (1, .aload_n 0, 0, [], false), (2, .getfield 25, 4, [(4, 0), (0, 8), (0, 8), (0, 0)], false), (5, .putfield 22, 3, [(3, 0), (0, 8), (0, 8), (0, 0)], false), (8, .aload_n 0, 0, [], true), (9, .getfield 22, 3, [(3, 0), (0, 8), (0, 8), (0, 0)], false), (12, .aload_n 0, 0, [], false), (13, .getfield 15, 1, [(1, 0), (0, 8), (0, 8), (0, 0)], false), (16, .if_icmp .ge 29, 22, [], false), (19, .aload_n 0, 0, [], false), (20, .aload_n 0, 0, [], false), (21, .getfield 22, 3, [(3, 0), (0, 8), (0, 8), (0, 0)], false), (24, .invokevirtual 93, 40, [(2, 1), (0, 9)], false), (27, .bipush 32, 0, [], false), (29, .if_icmp .ne 16, 22, [], false), (32, .aload_n 0, 0, [], false), (33, .dup, 0, [], false), (34, .getfield 22, 3, [(3, 0), (0, 8), (0, 8), (0, 0)], false), (37, .iconst 1, 0, [], false), (38, .iadd, 0, [], false), (39, .putfield 22, 3, [(3, 0), (0, 8), (0, 8), (0, 0)], false), (42, .goto (-34), 4, [], false), (45, .aload_n 0, 0, [], false), (46, .aload_n 0, 0, [], false), (47, .getfield 22, 3, [(3, 0), (0, 8), (0, 8), (0, 0)], false), (50, .putfield 25, 4, [(4, 0), (0, 8), (0, 8), (0, 0)], false), (53, .aload_n 0, 0, [], false), (54, .getfield 22, 3, [(3, 0), (0, 8), (0, 8), (0, 0)], false), (57, .aload_n 0, 0, [], false), (58, .getfield 15, 1, [(1, 0), (0, 8), (0, 8), (0, 0)], false), (61, .if_icmp .lt 9, 35, [], false), (64, .aload_n 0, 0, [], false), (65, .iconst 0, 0, [], false), (66, .putfield 19, 2, [(2, 0), (0, 8), (0, 8), (0, 0)], false), (69, .return_, 0, [], false), (70, .aload_n 0, 0, [], false), (71, .dup, 0, [], false), (72, .getfield 25, 4, [(4, 0), (0, 8), (0, 8), (0, 0)], false), (75, .iconst 1, 0, [], false), (76, .iadd, 0, [], false), (77, .putfield 25, 4, [(4, 0), (0, 8), (0, 8), (0, 0)], false), (80, .aload_n 0, 0, [], false), (81, .aload_n 0, 0, [], false), (82, .getfield 22, 3, [(3, 0), (0, 8), (0, 8), (0, 0)], false), (85, .invokevirtual 93, 40, [(2, 1), (0, 9)], false), (88, .istore_n 1, 0, [], false), (89, .iload_n 1, 0, [], false), (90, .invokestatic 96, 41, [(1, 1), (0, 0)], false), (93, .ifCond .eq 46, 70, [], false), (96, .aload_n 0, 0, [], false), (97, .iconst 1, 0, [], false), (98, .putfield 19, 2, [(2, 0), (0, 8), (0, 8), (0, 0)], false), (101, .aload_n 0, 0, [], true), (102, .getfield 25, 4, [(4, 0), (0, 8), (0, 8), (0, 0)], false), (105, .aload_n 0, 0, [], false), (106, .getfield 15, 1, [(1, 0), (0, 8), (0, 8), (0, 0)], false), (109, .if_icmp .ge 91, 100, [], false), (112, .aload_n 0, 0, [], false), (113, .aload_n 0, 0, [], false), (114, .getfield 25, 4, [(4, 0), (0, 8), (0, 8), (0, 0)], false), (117, .invokevirtual 93, 40, [(2, 1), (0, 9)], false), (120, .invokestatic 96, 41, [(1, 1), (0, 0)], false), (123, .ifCond .eq 77, 100, [], false), (126, .aload_n 0, 0, [], false), (127, .dup, 0, [], false), (128, .getfield 25, 4, [(4, 0), (0, 8), (0, 8), (0, 0)], false), (131, .iconst 1, 0, [], false), (132, .iadd, 0, [], false), (133, .putfield 25, 4, [(4, 0), (0, 8), (0, 8), (0, 0)], false), (136, .goto (-35), 52, [], false), (139, .iload_n 1, 0, [], false), (140, .bipush 45, 0, [], false), (142, .if_icmp .eq 10, 76, [], false), (145, .iload_n 1, 0, [], false), (146, .invokestatic 100, 42, [(1, 1), (0, 0)], false), (149, .ifCond .eq 46, 97, [], false), (152, .aload_n 0, 0, [], false), (153, .iconst 2, 0, [], false), (154, .putfield 19, 2, [(2, 0), (0, 8), (0, 8), (0, 0)], false), (157, .aload_n 0, 0, [], true), (158, .getfield 25, 4, [(4, 0), (0, 8), (0, 8), (0, 0)], false), (161, .aload_n 0, 0, [], false), (162, .getfield 15, 1, [(1, 0), (0, 8), (0, 8), (0, 0)], false), (165, .if_icmp .ge 35, 100, [], false), (168, .aload_n 0, 0, [], false), (169, .aload_n 0, 0, [], false), (170, .getfield 25, 4, [(4, 0), (0, 8), (0, 8), (0, 0)], false), (173, .invokevirtual 93, 40, [(2, 1), (0, 9)], false), (176, .invokestatic 100, 42, [(1, 1), (0, 0)], false), (179, .ifCond .eq 21, 100, [], false), (182, .aload_n 0, 0, [], false), (183, .dup, 0, [], false), (184, .getfield 25, 4, [(4, 0), (0, 8), (0, 8), (0, 0)], false), (187, .iconst 1, 0, [], false), (188, .iadd, 0, [], false), (189, .putfield 25, 4, [(4, 0), (0, 8), (0, 8), (0, 0)], false), (192, .goto (-35), 79, [], false), (195, .aload_n 0, 0, [], false), (196, .iconst 3, 0, [], false), (197, .putfield 19, 2, [(2, 0), (0, 8), (0, 8), (0, 0)], false), (200, .return_, 0, [], false)]
def zc40 : List mzN := [(0, .iload_n 1, 0, [], false), (1, .ifCond .lt 29, 16, [], false), (4, .iload_n 1, 0, [], false), (5, .aload_n 0, 0, [], false), (6, .getfield 15, 1, [(1, 0), (0, 8), (0, 8), (0, 0)], false), (9, .if_icmp .ge 21, 16, [], false), (12, .iload_n 1, 0, [], false), (13, .aload_n 0, 0, [], false), (14, .getfield 9, 0, [(0, 3), (0, 8), (0, 9), (0, 0)], false), (17, .arraylength, 0, [], false), (18, .if_icmp .ge 12, 16, [], false), (21, .aload_n 0, 0, [], false), (22, .getfield 9, 0, [(0, 3), (0, 8), (0, 9), (0, 0)], false), (25, .iload_n 1, 0, [], false), (26, .caload, 0, [], false), (27, .goto 5, 17, [], false), (30, .bipush 32, 0, [], false), (32, .ireturn, 2, [], false)]
def zc41 : List mzN := [(0, .iload_n 0, 0, [], false), (1, .bipush 97, 0, [], false), (3, .if_icmp .lt 13, 8, [], false), (6, .iload_n 0, 0, [], false), (7, .bipush 122, 0, [], false), (9, .if_icmp .gt 7, 8, [], false), (12, .iconst 1, 0, [], false), (13, .goto 4, 9, [], false), (16, .iconst 0, 0, [], false), (17, .ireturn, 1, [], false)]
def zc42 : List mzN := [(0, .iload_n 0, 0, [], false), (1, .bipush 48, 0, [], false), (3, .if_icmp .lt 13, 8, [], false), (6, .iload_n 0, 0, [], false), (7, .bipush 57, 0, [], false), (9, .if_icmp .gt 7, 8, [], false), (12, .iconst 1, 0, [], false), (13, .goto 4, 9, [], false), (16, .iconst 0, 0, [], false), (17, .ireturn, 1, [], false)]
def zc43 : List mzN := [(0, .iconst 0, 0, [], false), (1, .istore_n 1, 0, [], false), (2, .iload_n 1, 0, [], true), (3, .iconst 5, 0, [], false), (4, .if_icmp .ge 30, 18, [], false), (7, .aload_n 0, 0, [], false), (8, .getfield 19, 2, [(2, 0), (0, 8), (0, 8), (0, 0)], false), (11, .iconst 1, 0, [], false), (12, .if_icmp .ne 22, 18, [], false), (15, .aload_n 0, 0, [], false), (16, .iload_n 1, 0, [], false), (17, .invokestatic 103, 34, [(1, 32), (0, 0)], false), (20, .invokevirtual 106, 44, [(2, 1), (0, 9)], false), (23, .ifCond .eq 5, 16, [], false), (26, .iload_n 1, 0, [], false), (27, .ireturn, 0, [], false), (28, .iinc 1 1, 0, [], false), (31, .goto (-29), 2, [], false), (34, .iconst (-1), 0, [], false), (35, .ireturn, 0, [], false)]
def zc44 : List mzN := [(0, .aload_n 0, 0, [], false), (1, .getfield 25, 4, [(4, 0), (0, 8), (0, 8), (0, 0)], false), (4, .aload_n 0, 0, [], false), (5, .getfield 22, 3, [(3, 0), (0, 8), (0, 8), (0, 0)], false), (8, .isub, 0, [], false), (9, .aload_n 1, 0, [], false), (10, .invokevirtual 77, 179, [(1, 1), (0, 31)], false), (13, .if_icmp .eq 5, 10, [], false), (16, .iconst 0, 0, [], false), (17, .ireturn, 1, [], false), (18, .iconst 0, 0, [], false), (19, .istore_n 2, 0, [], false), (20, .iload_n 2, 0, [], true), (21, .aload_n 1, 0, [], false), (22, .invokevirtual 77, 179, [(1, 1), (0, 31)], false), (25, .if_icmp .ge 29, 30, [], false), (28, .aload_n 0, 0, [], false), (29, .aload_n 0, 0, [], false), (30, .getfield 22, 3, [(3, 0), (0, 8), (0, 8), (0, 0)], false), (33, .iload_n 2, 0, [], false), (34, .iadd, 0, [], false), (35, .invokevirtual 93, 40, [(2, 1), (0, 9)], false), (38, .aload_n 1, 0, [], false), (39, .iload_n 2, 0, [], false), (40, .invokevirtual 85, 180, [(2, 1), (0, 31)], false), (43, .if_icmp .eq 5, 28, [], false), (46, .iconst 0, 0, [], false), (47, .ireturn, 1, [], false), (48, .iinc 2 1, 0, [], false), (51, .goto (-31), 12, [], false), (54, .iconst 1, 0, [], false), (55, .ireturn, 1, [], false)]
def zc45 : List mzN := [(0, .aload_n 0, 0, [], false), (1, .getfield 19, 2, [(2, 0), (0, 8), (0, 8), (0, 0)], false), (4, .iconst 2, 0, [], false), (5, .if_icmp .eq 5, 6, [], false), (8, .iconst 0, 0, [], false), (9, .ireturn, 1, [], false), (10, .aload_n 0, 0, [], false), (11, .aload_n 0, 0, [], false), (12, .getfield 22, 3, [(3, 0), (0, 8), (0, 8), (0, 0)], false), (15, .invokevirtual 93, 40, [(2, 1), (0, 9)], false), (18, .bipush 45, 0, [], false), (20, .if_icmp .ne 12, 17, [], false), (23, .aload_n 0, 0, [], false), (24, .getfield 22, 3, [(3, 0), (0, 8), (0, 8), (0, 0)], false), (27, .iconst 1, 0, [], false), (28, .iadd, 0, [], false), (29, .goto 7, 19, [], false), (32, .aload_n 0, 0, [], false), (33, .getfield 22, 3, [(3, 0), (0, 8), (0, 8), (0, 0)], false), (36, .istore_n 1, 0, [], false), (37, .aload_n 0, 0, [], false), (38, .getfield 25, 4, [(4, 0), (0, 8), (0, 8), (0, 0)], false), (41, .iload_n 1, 0, [], false), (42, .isub, 0, [], false), (43, .istore_n 2, 0, [], false), (44, .iload_n 2, 0, [], false), (45, .iconst 1, 0, [], false), (46, .if_icmp .lt 23, 39, [], false), (49, .iload_n 2, 0, [], false), (50, .iconst 2, 0, [], false), (51, .if_icmp .gt 18, 39, [], false), (54, .iload_n 2, 0, [], false), (55, .iconst 2, 0, [], false), (56, .if_icmp .ne 15, 41, [], false), (59, .aload_n 0, 0, [], false), (60, .iload_n 1, 0, [], false), (61, .invokevirtual 93, 40, [(2, 1), (0, 9)], false), (64, .bipush 48, 0, [], false), (66, .if_icmp .ne 5, 41, [], false), (69, .iconst 0, 0, [], false), (70, .ireturn, 1, [], false), (71, .aload_n 0, 0, [], false), (72, .aload_n 0, 0, [], false), (73, .iload_n 1, 0, [], false), (74, .invokevirtual 93, 40, [(2, 1), (0, 9)], true), (77, .bipush 48, 0, [], false), (79, .isub, 0, [], false), (80, .putfield 28, 5, [(5, 0), (0, 8), (0, 8), (0, 0)], false), (83, .iload_n 2, 0, [], false), (84, .iconst 2, 0, [], false), (85, .if_icmp .ne 25, 65, [], false), (88, .aload_n 0, 0, [], false), (89, .bipush 10, 0, [], false), (91, .aload_n 0, 0, [], false), (92, .getfield 28, 5, [(5, 0), (0, 8), (0, 8), (0, 0)], false), (95, .imul, 0, [], false), (96, .aload_n 0, 0, [], false), (97, .iload_n 1, 0, [], false), (98, .iconst 1, 0, [], false), (99, .iadd, 0, [], false), (100, .invokevirtual 93, 40, [(2, 1), (0, 9)], false), (103, .bipush 48, 0, [], false), (105, .isub, 0, [], false), (106, .iadd, 0, [], false), (107, .putfield 28, 5, [(5, 0), (0, 8), (0, 8), (0, 0)], false), (110, .iload_n 1, 0, [], false), (111, .aload_n 0, 0, [], false), (112, .getfield 22, 3, [(3, 0), (0, 8), (0, 8), (0, 0)], false), (115, .if_icmp .le 12, 74, [], false), (118, .aload_n 0, 0, [], false), (119, .aload_n 0, 0, [], false), (120, .getfield 28, 5, [(5, 0), (0, 8), (0, 8), (0, 0)], false), (123, .ineg, 0, [], false), (124, .putfield 28, 5, [(5, 0), (0, 8), (0, 8), (0, 0)], false), (127, .iconst 1, 0, [], false), (128, .ireturn, 1, [], false)]
def zc46 : List mzN := [(0, .iload_n 1, 0, [], false), (1, .bipush 119, 0, [], false), (3, .if_icmp .ne 27, 15, [], false), (6, .aload_n 0, 0, [], false), (7, .getfield 28, 5, [(5, 0), (0, 8), (0, 8), (0, 0)], false), (10, .bipush (-12), 0, [], false), (12, .if_icmp .lt 16, 13, [], false), (15, .aload_n 0, 0, [], false), (16, .getfield 28, 5, [(5, 0), (0, 8), (0, 8), (0, 0)], false), (19, .bipush 12, 0, [], false), (21, .if_icmp .gt 7, 13, [], false), (24, .iconst 1, 0, [], false), (25, .goto 4, 14, [], false), (28, .iconst 0, 0, [], false), (29, .ireturn, 1, [], false), (30, .aload_n 0, 0, [], false), (31, .aload_n 0, 0, [], false), (32, .getfield 22, 3, [(3, 0), (0, 8), (0, 8), (0, 0)], false), (35, .invokevirtual 93, 40, [(2, 1), (0, 9)], false), (38, .bipush 45, 0, [], false), (40, .if_icmp .ne 5, 23, [], false), (43, .iconst 0, 0, [], false), (44, .ireturn, 1, [], false), (45, .iload_n 1, 0, [], false), (46, .bipush 102, 0, [], false), (48, .if_icmp .ne 31, 40, [], false), (51, .aload_n 2, 0, [], false), (52, .aload_n 0, 0, [], false), (53, .getfield 28, 5, [(5, 0), (0, 8), (0, 8), (0, 0)], false), (56, .invokevirtual 110, 52, [(2, 1), (0, 2)], false), (59, .ifCond .eq 18, 38, [], false), (62, .aload_n 2, 0, [], false), (63, .aload_n 0, 0, [], false), (64, .getfield 28, 5, [(5, 0), (0, 8), (0, 8), (0, 0)], false), (67, .invokevirtual 116, 55, [(2, 1), (0, 2)], false), (70, .ifCond .eq 7, 38, [], false), (73, .iconst 1, 0, [], false), (74, .goto 4, 39, [], false), (77, .iconst 0, 0, [], false), (78, .ireturn, 1, [], false), (79, .aload_n 0, 0, [], false), (80, .getfield 28, 5, [(5, 0), (0, 8), (0, 8), (0, 0)], false), (83, .iload_n 1, 0, [], false), (84, .bipush 118, 0, [], false), (86, .if_icmp .ne 8, 47, [], false), (89, .bipush 15, 0, [], false), (91, .goto 5, 48, [], false), (94, .bipush 12, 0, [], false), (96, .if_icmp .gt 7, 51, [], false), (99, .iconst 1, 0, [], false), (100, .goto 4, 52, [], false), (103, .iconst 0, 0, [], false), (104, .ireturn, 1, [], false)]
def zc47 : List mzN := [(0, .iconst 0, 0, [], false), (1, .istore_n 3, 0, [], false), (2, .iconst 0, 0, [], false), (3, .istore 4, 0, [], false), (5, .iload 4, 0, [], true), (7, .aload_n 0, 0, [], false), (8, .getfield 35, 7, [(7, 0), (0, 8), (0, 8), (0, 0)], false), (11, .if_icmp .ge 44, 30, [], false), (14, .aload_n 0, 0, [], false), (15, .iload 4, 0, [], false), (17, .invokevirtual 119, 48, [(2, 1), (0, 9)], false), (20, .istore 5, 0, [], false), (22, .aload_n 0, 0, [], false), (23, .iload 5, 0, [], false), (25, .iload 4, 0, [], false), (27, .iconst 1, 0, [], false), (28, .iadd, 0, [], false), (29, .aload_n 1, 0, [], false), (30, .aload_n 2, 0, [], false), (31, .invokevirtual 123, 49, [(5, 0), (0, 9)], false), (34, .iload 4, 0, [], false), (36, .iconst 1, 0, [], false), (37, .iload 5, 0, [], false), (39, .invokestatic 73, 35, [(1, 32), (0, 0)], false), (42, .invokevirtual 77, 179, [(1, 1), (0, 31)], false), (45, .iadd, 0, [], false), (46, .iadd, 0, [], false), (47, .istore 4, 0, [], false), (49, .iinc 3 1, 0, [], false), (52, .goto (-47), 4, [], false), (55, .iload_n 3, 0, [], false), (56, .ireturn, 0, [], false)]
def zc48 : List mzN := [(0, .iload_n 1, 0, [], false), (1, .ifCond .lt 21, 12, [], false), (4, .iload_n 1, 0, [], false), (5, .aload_n 0, 0, [], false), (6, .getfield 31, 6, [(0, 3), (0, 8), (0, 10), (0, 0)], false), (9, .arraylength, 0, [], false), (10, .if_icmp .ge 12, 12, [], false), (13, .aload_n 0, 0, [], false), (14, .getfield 31, 6, [(0, 3), (0, 8), (0, 10), (0, 0)], false), (17, .iload_n 1, 0, [], false), (18, .iaload, 0, [], false), (19, .goto 4, 13, [], false), (22, .iconst 0, 0, [], false), (23, .ireturn, 0, [], false)]
def zc49 : List mzN := [(0, .aload_n 3, 0, [], false), (1, .getfield 127, 0, [(78, 3), (0, 1), (0, 3), (0, 2)], false), (4, .astore 5, 0, [], false), (6, .aload_n 0, 0, [], false), (7, .iload_n 2, 0, [], false), (8, .invokevirtual 119, 48, [(2, 1), (0, 9)], false), (11, .istore 6, 0, [], false), (13, .aload_n 0, 0, [], false), (14, .iload_n 2, 0, [], false), (15, .iconst 1, 0, [], false), (16, .iadd, 0, [], false), (17, .invokevirtual 119, 48, [(2, 1), (0, 9)], false), (20, .istore 7, 0, [], false), (22, .iload_n 1, 0, [], false), (23, .tableswitch 117 0 3 #[29, 51, 84, 105], 59, [(0, 15), (1, 25), (2, 45), (3, 54)], false), (52, .aload 5, 0, [], false), (54, .iconst 0, 0, [], false), (55, .iconst 0, 0, [], false), (56, .aload 5, 0, [], false), (58, .getfield 131, 1, [(1, 0), (0, 3), (0, 3), (0, 0)], false), (61, .aload 5, 0, [], false), (63, .getfield 136, 2, [(2, 0), (0, 3), (0, 3), (0, 0)], false), (66, .iload 6, 0, [], false), (68, .invokevirtual 139, 22, [(6, 0), (0, 4)], false), (71, .goto 80, 64, [], false), (74, .aload 5, 0, [], false), (76, .iload 6, 0, [], false), (78, .iload 7, 0, [], false), (80, .aload_n 0, 0, [], false), (81, .iload_n 2, 0, [], false), (82, .iconst 2, 0, [], false), (83, .iadd, 0, [], false), (84, .invokevirtual 119, 48, [(2, 1), (0, 9)], false), (87, .aload_n 0, 0, [], false), (88, .iload_n 2, 0, [], false), (89, .iconst 3, 0, [], false), (90, .iadd, 0, [], false), (91, .invokevirtual 119, 48, [(2, 1), (0, 9)], false), (94, .aload_n 0, 0, [], false), (95, .iload_n 2, 0, [], false), (96, .iconst 4, 0, [], false), (97, .iadd, 0, [], false), (98, .invokevirtual 119, 48, [(2, 1), (0, 9)], false), (101, .invokevirtual 139, 22, [(6, 0), (0, 4)], false), (104, .goto 47, 64, [], false), (107, .aload 4, 0, [], false), (109, .aload 5, 0, [], false), (111, .invokevirtual 143, 9, [(2, 0), (0, 4)], false), (114, .aload 5, 0, [], false), (116, .aload 4, 0, [], false), (118, .iload 6, 0, [], false), (120, .iload 7, 0, [], false), (122, .invokevirtual 147, 23, [(4, 0), (0, 4)], false), (125, .goto 26, 64, [], false), (128, .aload 5, 0, [], false), (130, .iload 6, 0, [], false), (132, .iload 7, 0, [], false), (134, .invokevirtual 151, 24, [(3, 0), (0, 4)], false), (137, .goto 14, 64, [], false), (140, .aload 5, 0, [], false), (142, .aload_n 3, 0, [], false), (143, .iload 6, 0, [], false), (145, .invokevirtual 155, 54, [(2, 5), (0, 2)], false), (148, .invokevirtual 143, 9, [(2, 0), (0, 4)], false), (151, .return_, 0, [], false)]
def zc50 : List mzN := [(0, .aload_n 0, 0, [], false), (1, .getfield 12, 0, [(78, 3), (0, 1), (0, 3), (0, 2)], false), (4, .aload_n 1, 0, [], false), (5, .getfield 12, 0, [(78, 3), (0, 1), (0, 3), (0, 2)], false), (8, .invokevirtual 42, 9, [(2, 0), (0, 4)], false), (11, .aload_n 0, 0, [], false), (12, .aload_n 1, 0, [], false), (13, .getfield 29, 3, [(3, 0), (0, 1), (0, 1), (0, 0)], false), (16, .putfield 29, 3, [(3, 0), (0, 1), (0, 1), (0, 0)], false), (19, .aload_n 0, 0, [], false), (20, .aload_n 1, 0, [], false), (21, .getfield 33, 4, [(4, 0), (0, 1), (0, 1), (0, 0)], false), (24, .putfield 33, 4, [(4, 0), (0, 1), (0, 1), (0, 0)], false), (27, .aload_n 0, 0, [], false), (28, .aload_n 1, 0, [], false), (29, .getfield 36, 5, [(5, 0), (0, 1), (0, 1), (0, 0)], false), (32, .putfield 36, 5, [(5, 0), (0, 1), (0, 1), (0, 0)], false), (35, .aload_n 0, 0, [], false), (36, .aload_n 1, 0, [], false), (37, .getfield 39, 6, [(6, 0), (0, 1), (0, 1), (0, 0)], false), (40, .putfield 39, 6, [(6, 0), (0, 1), (0, 1), (0, 0)], false), (43, .iconst 0, 0, [], false), (44, .istore_n 2, 0, [], false), (45, .iload_n 2, 0, [], true), (46, .aload_n 0, 0, [], false), (47, .getfield 29, 3, [(3, 0), (0, 1), (0, 1), (0, 0)], false), (50, .if_icmp .ge 22, 36, [], false), (53, .aload_n 0, 0, [], false), (54, .iload_n 2, 0, [], false), (55, .invokevirtual 46, 51, [(2, 4), (0, 2)], false), (58, .aload_n 1, 0, [], false), (59, .iload_n 2, 0, [], false), (60, .invokevirtual 46, 51, [(2, 4), (0, 2)], false), (63, .invokevirtual 50, 4, [(2, 0), (0, 3)], false), (66, .iinc 2 1, 0, [], false), (69, .goto (-24), 23, [], false), (72, .return_, 0, [], false)]
def zc51 : List mzN := [(0, .iload_n 1, 0, [], false), (1, .ifCond .lt 21, 12, [], false), (4, .iload_n 1, 0, [], false), (5, .aload_n 0, 0, [], false), (6, .getfield 20, 1, [(0, 3), (0, 1), (0, 6), (0, 1)], false), (9, .arraylength, 0, [], false), (10, .if_icmp .ge 12, 12, [], false), (13, .aload_n 0, 0, [], false), (14, .getfield 20, 1, [(0, 3), (0, 1), (0, 6), (0, 1)], false), (17, .iload_n 1, 0, [], false), (18, .aaload, 0, [], false), (19, .goto 7, 14, [], false), (22, .aload_n 0, 0, [], false), (23, .getfield 25, 2, [(0, 3), (0, 1), (0, 2), (0, 3)], false), (26, .areturn, 0, [], false)]
def zc52 : List mzN := [(0, .iload_n 1, 0, [], false), (1, .ifCond .lt 15, 8, [], false), (4, .iload_n 1, 0, [], false), (5, .aload_n 0, 0, [], false), (6, .getfield 29, 3, [(3, 0), (0, 1), (0, 1), (0, 0)], false), (9, .if_icmp .ge 7, 8, [], false), (12, .iconst 1, 0, [], false), (13, .goto 4, 9, [], false), (16, .iconst 0, 0, [], false), (17, .ireturn, 1, [], false)]
def zc53 : List mzN := [(0, .iload_n 1, 0, [], false), (1, .iconst (-1), 0, [], false), (2, .if_icmp .eq 11, 7, [], false), (5, .aload_n 0, 0, [], false), (6, .iload_n 1, 0, [], false), (7, .invokevirtual 53, 52, [(2, 1), (0, 2)], false), (10, .ifCond .eq 7, 9, [], false), (13, .iconst 1, 0, [], false), (14, .goto 4, 10, [], false), (17, .iconst 0, 0, [], false), (18, .ireturn, 1, [], false)]
def zc54 : List mzN := [(0, .iload_n 1, 0, [], false), (1, .iconst (-1), 0, [], false), (2, .if_icmp .ne 10, 6, [], false), (5, .aload_n 0, 0, [], false), (6, .getfield 12, 0, [(78, 3), (0, 1), (0, 3), (0, 2)], false), (9, .goto 11, 10, [], false), (12, .aload_n 0, 0, [], false), (13, .iload_n 1, 0, [], false), (14, .invokevirtual 46, 51, [(2, 4), (0, 2)], false), (17, .getfield 57, 0, [(0, 3), (0, 2), (0, 3), (0, 1)], false), (20, .areturn, 0, [], false)]
def zc55 : List mzN := [(0, .iload_n 1, 0, [], false), (1, .istore_n 2, 0, [], false), (2, .iconst 0, 0, [], false), (3, .istore_n 3, 0, [], false), (4, .iload_n 3, 0, [], true), (5, .bipush 10, 0, [], false), (7, .if_icmp .ge 35, 23, [], false), (10, .iload_n 2, 0, [], false), (11, .ifCond .lt 31, 23, [], false), (14, .aload_n 0, 0, [], false), (15, .iload_n 2, 0, [], false), (16, .invokevirtual 46, 51, [(2, 4), (0, 2)], false), (19, .getfield 60, 4, [(4, 1), (0, 2), (0, 2), (0, 0)], false), (22, .ifCond .eq 5, 16, [], false), (25, .iconst 0, 0, [], false), (26, .ireturn, 1, [], false), (27, .aload_n 0, 0, [], false), (28, .iload_n 2, 0, [], false), (29, .invokevirtual 46, 51, [(2, 4), (0, 2)], false), (32, .getfield 64, 2, [(2, 0), (0, 2), (0, 2), (0, 0)], false), (35, .istore_n 2, 0, [], false), (36, .iinc 3 1, 0, [], false), (39, .goto (-35), 4, [], false), (42, .iconst 1, 0, [], false), (43, .ireturn, 1, [], false)]
def zc56 : List mzN := [(0, .aload_n 0, 0, [], false), (1, .iload_n 1, 0, [], false), (2, .invokevirtual 67, 55, [(2, 1), (0, 2)], false), (5, .ifCond .eq 19, 12, [], false), (8, .aload_n 0, 0, [], false), (9, .iload_n 1, 0, [], false), (10, .invokevirtual 70, 57, [(2, 1), (0, 2)], false), (13, .aload_n 0, 0, [], false), (14, .getfield 36, 5, [(5, 0), (0, 1), (0, 1), (0, 0)], false), (17, .if_icmp .ge 7, 12, [], false), (20, .iconst 1, 0, [], false), (21, .goto 4, 13, [], false), (24, .iconst 0, 0, [], false), (25, .ireturn, 1, [], false)]
def zc57 : List mzN := [(0, .iconst 0, 0, [], false), (1, .istore_n 2, 0, [], false), (2, .aload_n 0, 0, [], false), (3, .iload_n 1, 0, [], false), (4, .invokevirtual 46, 51, [(2, 4), (0, 2)], false), (7, .getfield 64, 2, [(2, 0), (0, 2), (0, 2), (0, 0)], false), (10, .istore_n 3, 0, [], false), (11, .iconst 0, 0, [], false), (12, .istore 4, 0, [], false), (14, .iload 4, 0, [], true), (16, .bipush 10, 0, [], false), (18, .if_icmp .ge 25, 22, [], false), (21, .iload_n 3, 0, [], false), (22, .ifCond .lt 21, 22, [], false), (25, .iinc 2 1, 0, [], false), (28, .aload_n 0, 0, [], false), (29, .iload_n 3, 0, [], false), (30, .invokevirtual 46, 51, [(2, 4), (0, 2)], false), (33, .getfield 64, 2, [(2, 0), (0, 2), (0, 2), (0, 0)], false), (36, .istore_n 3, 0, [], false), (37, .iinc 4 1, 0, [], false), (40, .goto (-26), 9, [], false), (43, .iload_n 2, 0, [], false), (44, .ireturn, 0, [], false)]
def zc58 : List mzN := [(0, .iconst 0, 0, [], false), (1, .istore_n 2, 0, [], false), (2, .iload_n 1, 0, [], false), (3, .istore_n 3, 0, [], false), (4, .iconst 0, 0, [], false), (5, .istore 4, 0, [], false), (7, .iload 4, 0, [], true), (9, .bipush 10, 0, [], false), (11, .if_icmp .ge 33, 25, [], false), (14, .iload_n 3, 0, [], false), (15, .ifCond .lt 29, 25, [], false), (18, .iload_n 2, 0, [], false), (19, .aload_n 0, 0, [], false), (20, .iload_n 3, 0, [], false), (21, .invokevirtual 46, 51, [(2, 4), (0, 2)], false), (24, .getfield 74, 3, [(3, 0), (0, 2), (0, 2), (0, 0)], false), (27, .iadd, 0, [], false), (28, .istore_n 2, 0, [], false), (29, .aload_n 0, 0, [], false), (30, .iload_n 3, 0, [], false), (31, .invokevirtual 46, 51, [(2, 4), (0, 2)], false), (34, .getfield 64, 2, [(2, 0), (0, 2), (0, 2), (0, 0)], false), (37, .istore_n 3, 0, [], false), (38, .iinc 4 1, 0, [], false), (41, .goto (-34), 6, [], false), (44, .iload_n 2, 0, [], false), (45, .ireturn, 0, [], false)]
def zc59 : List mzN := [(0, .iload_n 1, 0, [], false), (1, .istore_n 3, 0, [], false), (2, .iconst 0, 0, [], false), (3, .istore 4, 0, [], false), (5, .iload 4, 0, [], true), (7, .bipush 10, 0, [], false), (9, .if_icmp .ge 29, 21, [], false), (12, .iload_n 3, 0, [], false), (13, .ifCond .lt 25, 21, [], false), (16, .iload_n 3, 0, [], false), (17, .iload_n 2, 0, [], false), (18, .if_icmp .ne 5, 14, [], false), (21, .iconst 1, 0, [], false), (22, .ireturn, 1, [], false), (23, .aload_n 0, 0, [], false), (24, .iload_n 3, 0, [], false), (25, .invokevirtual 46, 51, [(2, 4), (0, 2)], false), (28, .getfield 64, 2, [(2, 0), (0, 2), (0, 2), (0, 0)], false), (31, .istore_n 3, 0, [], false), (32, .iinc 4 1, 0, [], false), (35, .goto (-30), 4, [], false), (38, .iconst 0, 0, [], false), (39, .ireturn, 1, [], false)]
def zc60 : List mzN := [(0, .iconst 0, 0, [], false), (1, .istore_n 1, 0, [], false), (2, .iconst 0, 0, [], false), (3, .istore_n 2, 0, [], false), (4, .iload_n 2, 0, [], true), (5, .aload_n 0, 0, [], false), (6, .getfield 29, 3, [(3, 0), (0, 1), (0, 1), (0, 0)], false), (9, .if_icmp .ge 20, 15, [], false), (12, .aload_n 0, 0, [], false), (13, .iload_n 2, 0, [], false), (14, .invokevirtual 67, 55, [(2, 1), (0, 2)], false), (17, .ifCond .eq 6, 13, [], false), (20, .iinc 1 1, 0, [], false), (23, .iinc 2 1, 0, [], false), (26, .goto (-22), 4, [], false), (29, .iload_n 1, 0, [], false), (30, .ireturn, 0, [], false)]
def zc61 : List mzN := [(0, .iconst 0, 0, [], false), (1, .istore_n 1, 0, [], false), (2, .iconst 0, 0, [], false), (3, .istore_n 2, 0, [], false), (4, .iload_n 2, 0, [], true), (5, .aload_n 0, 0, [], false), (6, .getfield 29, 3, [(3, 0), (0, 1), (0, 1), (0, 0)], false), (9, .if_icmp .ge 20, 17, [], false), (12, .iload_n 1, 0, [], false), (13, .aload_n 0, 0, [], false), (14, .iload_n 2, 0, [], false), (15, .invokevirtual 46, 51, [(2, 4), (0, 2)], false), (18, .getfield 74, 3, [(3, 0), (0, 2), (0, 2), (0, 0)], false), (21, .iadd, 0, [], false), (22, .istore_n 1, 0, [], false), (23, .iinc 2 1, 0, [], false), (26, .goto (-22), 4, [], false), (29, .iload_n 1, 0, [], false), (30, .ireturn, 0, [], false)]
def zc62 : List mzN := [(0, .iload_n 1, 0, [], false), (1, .invokestatic 66, 91, [(1, 1), (0, 0)], false), (4, .ifCond .eq 10, 6, [], false), (7, .iload_n 2, 0, [], false), (8, .invokestatic 66, 91, [(1, 1), (0, 0)], false), (11, .ifCond .ne 5, 8, [], false), (14, .iconst (-1), 0, [], false), (15, .ireturn, 0, [], false), (16, .aload_n 0, 0, [], false), (17, .invokevirtual 70, 92, [(1, 0), (0, 1)], false), (20, .aload_n 0, 0, [], false), (21, .getfield 10, 0, [(0, 3), (0, 0), (0, 1), (0, 0)], false), (24, .iconst 0, 0, [], false), (25, .putfield 73, 3, [(3, 0), (0, 1), (0, 1), (0, 0)], false), (28, .aload_n 0, 0, [], false), (29, .getfield 10, 0, [(0, 3), (0, 0), (0, 1), (0, 0)], false), (32, .getfield 76, 0, [(78, 3), (0, 1), (0, 3), (0, 2)], false), (35, .iload_n 1, 0, [], false), (36, .iload_n 2, 0, [], false), (37, .invokevirtual 79, 8, [(3, 0), (0, 4)], false), (40, .aload_n 0, 0, [], false), (41, .getfield 10, 0, [(0, 3), (0, 0), (0, 1), (0, 0)], false), (44, .getfield 76, 0, [(78, 3), (0, 1), (0, 3), (0, 2)], false), (47, .invokevirtual 83, 14, [(1, 1), (0, 4)], false), (50, .ireturn, 0, [], false)]
def zc63 : List mzN := [(0, .aload_n 0, 0, [], false), (1, .getfield 10, 0, [(0, 3), (0, 0), (0, 1), (0, 0)], false), (4, .getfield 76, 0, [(78, 3), (0, 1), (0, 3), (0, 2)], false), (7, .iload_n 1, 0, [], false), (8, .invokevirtual 87, 10, [(2, 1), (0, 4)], false), (11, .ifCond .eq 13, 11, [], false), (14, .iload_n 2, 0, [], false), (15, .ifCond .lt 9, 11, [], false), (18, .iload_n 2, 0, [], false), (19, .bipush 15, 0, [], false), (21, .if_icmp .le 5, 13, [], false), (24, .iconst (-1), 0, [], false), (25, .ireturn, 0, [], false), (26, .aload_n 0, 0, [], false), (27, .invokevirtual 70, 92, [(1, 0), (0, 1)], false), (30, .aload_n 0, 0, [], false), (31, .getfield 10, 0, [(0, 3), (0, 0), (0, 1), (0, 0)], false), (34, .getfield 76, 0, [(78, 3), (0, 1), (0, 3), (0, 2)], false), (37, .iload_n 1, 0, [], false), (38, .invokevirtual 90, 11, [(2, 1), (0, 4)], false), (41, .istore_n 3, 0, [], false), (42, .aload_n 0, 0, [], false), (43, .getfield 10, 0, [(0, 3), (0, 0), (0, 1), (0, 0)], false), (46, .getfield 76, 0, [(78, 3), (0, 1), (0, 3), (0, 2)], false), (49, .iload_n 1, 0, [], false), (50, .iload_n 2, 0, [], false), (51, .invokevirtual 94, 12, [(3, 0), (0, 4)], false), (54, .iload_n 3, 0, [], false), (55, .ireturn, 0, [], false)]
def zc64 : List mzN := [(0, .aload_n 0, 0, [], false), (1, .getfield 10, 0, [(0, 3), (0, 0), (0, 1), (0, 0)], false), (4, .getfield 76, 0, [(78, 3), (0, 1), (0, 3), (0, 2)], false), (7, .iload_n 1, 0, [], false), (8, .invokevirtual 87, 10, [(2, 1), (0, 4)], false), (11, .ifCond .ne 5, 8, [], false), (14, .iconst (-1), 0, [], false), (15, .ireturn, 0, [], false), (16, .aload_n 0, 0, [], false), (17, .getfield 10, 0, [(0, 3), (0, 0), (0, 1), (0, 0)], false), (20, .getfield 76, 0, [(78, 3), (0, 1), (0, 3), (0, 2)], false), (23, .iload_n 1, 0, [], false), (24, .invokevirtual 90, 11, [(2, 1), (0, 4)], false), (27, .ireturn, 0, [], false)]
def zc65 : List mzN := [(0, .iload_n 1, 0, [], false), (1, .ifCond .lt 10, 5, [], false), (4, .iload_n 1, 0, [], false), (5, .sipush 255, 0, [], false), (8, .if_icmp .le 5, 7, [], false), (11, .iconst (-1), 0, [], false), (12, .ireturn, 0, [], false), (13, .aload_n 0, 0, [], false), (14, .getfield 30, 4, [(0, 3), (0, 0), (0, 8), (0, 0)], false), (17, .getfield 97, 1, [(1, 0), (0, 8), (0, 8), (0, 0)], false), (20, .sipush 160, 0, [], false), (23, .if_icmp .lt 6, 14, [], false), (26, .bipush (-3), 0, [], false), (28, .ireturn, 0, [], false), (29, .aload_n 0, 0, [], false), (30, .getfield 30, 4, [(0, 3), (0, 0), (0, 8), (0, 0)], false), (33, .iload_n 1, 0, [], false), (34, .i2c, 0, [], false), (35, .invokevirtual 100, 33, [(2, 1), (0, 9)], false), (38, .ireturn, 0, [], false)]
def zc66 : List mzN := [(0, .aload_n 0, 0, [], false), (1, .getfield 30, 4, [(0, 3), (0, 0), (0, 8), (0, 0)], false), (4, .getfield 97, 1, [(1, 0), (0, 8), (0, 8), (0, 0)], false), (7, .istore_n 1, 0, [], false), (8, .aload_n 0, 0, [], false), (9, .getfield 30, 4, [(0, 3), (0, 0), (0, 8), (0, 0)], false), (12, .iconst 0, 0, [], false), (13, .putfield 97, 1, [(1, 0), (0, 8), (0, 8), (0, 0)], false), (16, .iload_n 1, 0, [], false), (17, .ireturn, 0, [], false)]
def zc67 : List mzN := [(0, .aload_n 0, 0, [], false), (1, .getfield 30, 4, [(0, 3), (0, 0), (0, 8), (0, 0)], false), (4, .aload_n 0, 0, [], false), (5, .getfield 10, 0, [(0, 3), (0, 0), (0, 1), (0, 0)], false), (8, .invokevirtual 104, 36, [(2, 1), (0, 9)], false), (11, .istore_n 1, 0, [], false), (12, .iload_n 1, 0, [], false), (13, .ifCond .lt 8, 12, [], false), (16, .bipush (-10), 0, [], false), (18, .iload_n 1, 0, [], false), (19, .isub, 0, [], false), (20, .ireturn, 0, [], false), (21, .aload_n 0, 0, [], false), (22, .invokevirtual 70, 92, [(1, 0), (0, 1)], false), (25, .aload_n 0, 0, [], false), (26, .getfield 30, 4, [(0, 3), (0, 0), (0, 8), (0, 0)], false), (29, .aload_n 0, 0, [], false), (30, .getfield 10, 0, [(0, 3), (0, 0), (0, 1), (0, 0)], false), (33, .aload_n 0, 0, [], false), (34, .getfield 58, 8, [(85, 3), (0, 0), (0, 3), (0, 0)], false), (37, .invokevirtual 108, 47, [(3, 1), (0, 9)], false), (40, .istore_n 2, 0, [], false), (41, .aload_n 0, 0, [], false), (42, .getfield 30, 4, [(0, 3), (0, 0), (0, 8), (0, 0)], false), (45, .iconst 0, 0, [], false), (46, .putfield 97, 1, [(1, 0), (0, 8), (0, 8), (0, 0)], false), (49, .iload_n 2, 0, [], false), (50, .ireturn, 0, [], false)]
def zc68 : List mzN := [(0, .aload_n 0, 0, [], false), (1, .getfield 10, 0, [(0, 3), (0, 0), (0, 1), (0, 0)], false), (4, .iload_n 1, 0, [], false), (5, .invokevirtual 112, 53, [(2, 1), (0, 2)], false), (8, .ifCond .eq 18, 12, [], false), (11, .aload_n 0, 0, [], false), (12, .getfield 10, 0, [(0, 3), (0, 0), (0, 1), (0, 0)], false), (15, .getfield 76, 0, [(78, 3), (0, 1), (0, 3), (0, 2)], false), (18, .iload_n 2, 0, [], false), (19, .iload_n 3, 0, [], false), (20, .invokevirtual 115, 18, [(3, 1), (0, 4)], false), (23, .ifCond .ne 5, 14, [], false), (26, .iconst (-1), 0, [], false), (27, .ireturn, 0, [], false), (28, .aload_n 0, 0, [], false), (29, .getfield 10, 0, [(0, 3), (0, 0), (0, 1), (0, 0)], false), (32, .iload_n 1, 0, [], false), (33, .invokevirtual 119, 55, [(2, 1), (0, 2)], false), (36, .ifCond .ne 6, 21, [], false), (39, .bipush (-2), 0, [], false), (41, .ireturn, 0, [], false), (42, .aload_n 0, 0, [], false), (43, .getfield 10, 0, [(0, 3), (0, 0), (0, 1), (0, 0)], false), (46, .iload_n 1, 0, [], false), (47, .invokevirtual 122, 54, [(2, 5), (0, 2)], false), (50, .iload_n 2, 0, [], false), (51, .iload_n 3, 0, [], false), (52, .invokevirtual 126, 19, [(3, 1), (0, 4)], false), (55, .ireturn, 0, [], false)]
def zc69 : List mzN := [(0, .aload_n 0, 0, [], false), (1, .getfield 10, 0, [(0, 3), (0, 0), (0, 1), (0, 0)], false), (4, .getfield 73, 3, [(3, 0), (0, 1), (0, 1), (0, 0)], false), (7, .bipush 10, 0, [], false), (9, .if_icmp .lt 6, 7, [], false), (12, .bipush (-3), 0, [], false), (14, .ireturn, 0, [], false), (15, .aload_n 0, 0, [], false), (16, .iconst (-1), 0, [], false), (17, .invokevirtual 130, 94, [(2, 1), (0, 1)], false), (20, .ireturn, 0, [], false)]
def zc70 : List mzN := [(0, .aload_n 0, 0, [], false), (1, .getfield 10, 0, [(0, 3), (0, 0), (0, 1), (0, 0)], false), (4, .iload_n 1, 0, [], false), (5, .invokevirtual 133, 52, [(2, 1), (0, 2)], false), (8, .ifCond .ne 5, 7, [], false), (11, .iconst (-1), 0, [], false), (12, .ireturn, 0, [], false), (13, .aload_n 0, 0, [], false), (14, .getfield 10, 0, [(0, 3), (0, 0), (0, 1), (0, 0)], false), (17, .iload_n 1, 0, [], false), (18, .invokevirtual 136, 56, [(2, 1), (0, 2)], false), (21, .ifCond .ne 6, 14, [], false), (24, .bipush (-2), 0, [], false), (26, .ireturn, 0, [], false), (27, .aload_n 0, 0, [], false), (28, .getfield 10, 0, [(0, 3), (0, 0), (0, 1), (0, 0)], false), (31, .getfield 73, 3, [(3, 0), (0, 1), (0, 1), (0, 0)], false), (34, .bipush 10, 0, [], false), (36, .if_icmp .lt 6, 21, [], false), (39, .bipush (-3), 0, [], false), (41, .ireturn, 0, [], false), (42, .aload_n 0, 0, [], false), (43, .iload_n 1, 0, [], false), (44, .invokevirtual 130, 94, [(2, 1), (0, 1)], false), (47, .ireturn, 0, [], false)]
def zc71 : List mzN := [(0, .aload_n 0, 0, [], false), (1, .getfield 10, 0, [(0, 3), (0, 0), (0, 1), (0, 0)], false), (4, .getfield 73, 3, [(3, 0), (0, 1), (0, 1), (0, 0)], false), (7, .bipush 10, 0, [], false), (9, .if_icmp .lt 6, 7, [], false), (12, .bipush (-3), 0, [], false), (14, .ireturn, 0, [], false), (15, .aload_n 0, 0, [], false), (16, .aload_n 0, 0, [], false), (17, .invokevirtual 139, 96, [(1, 1), (0, 1)], false), (20, .invokevirtual 130, 94, [(2, 1), (0, 1)], false), (23, .ireturn, 0, [], false)]
def zc72 : List mzN := [(0, .aload_n 0, 0, [], false), (1, .getfield 10, 0, [(0, 3), (0, 0), (0, 1), (0, 0)], false), (4, .getfield 73, 3, [(3, 0), (0, 1), (0, 1), (0, 0)], false), (7, .iconst 1, 0, [], false), (8, .if_icmp .ge 6, 7, [], false), (11, .bipush (-2), 0, [], false), (13, .ireturn, 0, [], false), (14, .aload_n 0, 0, [], false), (15, .invokevirtual 70, 92, [(1, 0), (0, 1)], false), (18, .aload_n 0, 0, [], false), (19, .getfield 10, 0, [(0, 3), (0, 0), (0, 1), (0, 0)], false), (22, .dup, 0, [], false), (23, .getfield 73, 3, [(3, 0), (0, 1), (0, 1), (0, 0)], false), (26, .iconst 1, 0, [], false), (27, .isub, 0, [], false), (28, .putfield 73, 3, [(3, 0), (0, 1), (0, 1), (0, 0)], false), (31, .aload_n 0, 0, [], false), (32, .getfield 10, 0, [(0, 3), (0, 0), (0, 1), (0, 0)], false), (35, .getfield 73, 3, [(3, 0), (0, 1), (0, 1), (0, 0)], false), (38, .ireturn, 0, [], false)]
def zc73 : List mzN := [(0, .aload_n 0, 0, [], false), (1, .getfield 10, 0, [(0, 3), (0, 0), (0, 1), (0, 0)], false), (4, .getfield 73, 3, [(3, 0), (0, 1), (0, 1), (0, 0)], false), (7, .iconst 1, 0, [], false), (8, .if_icmp .ge 6, 7, [], false), (11, .bipush (-2), 0, [], false), (13, .ireturn, 0, [], false), (14, .aload_n 0, 0, [], false), (15, .invokevirtual 70, 92, [(1, 0), (0, 1)], false), (18, .aload_n 0, 0, [], false), (19, .getfield 44, 6, [(0, 3), (0, 0), (0, 15), (0, 0)], false), (22, .aload_n 0, 0, [], false), (23, .getfield 10, 0, [(0, 3), (0, 0), (0, 1), (0, 0)], false), (26, .aload_n 0, 0, [], false), (27, .getfield 37, 5, [(0, 3), (0, 0), (0, 11), (0, 0)], false), (30, .aload_n 0, 0, [], false), (31, .getfield 51, 7, [(77, 3), (0, 0), (0, 2), (0, 0)], false), (34, .invokevirtual 142, 25, [(4, 0), (0, 16)], false), (37, .iconst 0, 0, [], false), (38, .istore_n 1, 0, [], false), (39, .iload_n 1, 0, [], true), (40, .aload_n 0, 0, [], false), (41, .getfield 10, 0, [(0, 3), (0, 0), (0, 1), (0, 0)], false), (44, .getfield 73, 3, [(3, 0), (0, 1), (0, 1), (0, 0)], false), (47, .if_icmp .ge 36, 40, [], false), (50, .aload_n 0, 0, [], false), (51, .getfield 37, 5, [(0, 3), (0, 0), (0, 11), (0, 0)], false), (54, .aload_n 0, 0, [], false), (55, .getfield 10, 0, [(0, 3), (0, 0), (0, 1), (0, 0)], false), (58, .iload_n 1, 0, [], false), (59, .invokevirtual 146, 51, [(2, 4), (0, 2)], false), (62, .aload_n 0, 0, [], false), (63, .getfield 10, 0, [(0, 3), (0, 0), (0, 1), (0, 0)], false), (66, .aload_n 0, 0, [], false), (67, .getfield 44, 6, [(0, 3), (0, 0), (0, 15), (0, 0)], false), (70, .iload_n 1, 0, [], false), (71, .invokevirtual 150, 28, [(2, 1), (0, 16)], false), (74, .invokevirtual 153, 0, [(4, 0), (0, 12)], false), (77, .iinc 1 1, 0, [], false), (80, .goto (-41), 20, [], false), (83, .aload_n 0, 0, [], false), (84, .getfield 44, 6, [(0, 3), (0, 0), (0, 15), (0, 0)], false), (87, .getfield 157, 2, [(2, 0), (0, 15), (0, 15), (0, 0)], false), (90, .ireturn, 0, [], false)]
def zc74 : List mzN := [(0, .iload_n 1, 0, [], false), (1, .ifCond .lt 18, 10, [], false), (4, .iload_n 1, 0, [], false), (5, .iconst 4, 0, [], false), (6, .if_icmp .gt 13, 10, [], false), (9, .iload_n 2, 0, [], false), (10, .ifCond .lt 9, 10, [], false), (13, .iload_n 2, 0, [], false), (14, .bipush 9, 0, [], false), (16, .if_icmp .le 5, 12, [], false), (19, .iconst (-1), 0, [], false), (20, .ireturn, 0, [], false), (21, .iload_n 3, 0, [], false), (22, .ifCond .lt 9, 17, [], false), (25, .iload_n 3, 0, [], false), (26, .bipush 9, 0, [], false), (28, .if_icmp .le 5, 19, [], false), (31, .iconst (-1), 0, [], false), (32, .ireturn, 0, [], false), (33, .aload_n 0, 0, [], false), (34, .invokevirtual 70, 92, [(1, 0), (0, 1)], false), (37, .aload_n 0, 0, [], false), (38, .getfield 10, 0, [(0, 3), (0, 0), (0, 1), (0, 0)], false), (41, .getfield 160, 4, [(4, 0), (0, 1), (0, 1), (0, 0)], false), (44, .iload_n 1, 0, [], false), (45, .if_icmp .ne 29, 38, [], false), (48, .aload_n 0, 0, [], false), (49, .getfield 10, 0, [(0, 3), (0, 0), (0, 1), (0, 0)], false), (52, .getfield 163, 5, [(5, 0), (0, 1), (0, 1), (0, 0)], false), (55, .iload_n 2, 0, [], false), (56, .if_icmp .ne 18, 38, [], false), (59, .aload_n 0, 0, [], false), (60, .getfield 10, 0, [(0, 3), (0, 0), (0, 1), (0, 0)], false), (63, .getfield 166, 6, [(6, 0), (0, 1), (0, 1), (0, 0)], false), (66, .iload_n 3, 0, [], false), (67, .if_icmp .ne 7, 38, [], false), (70, .iconst 1, 0, [], false), (71, .goto 4, 39, [], false), (74, .iconst 0, 0, [], false), (75, .istore 4, 0, [], false), (77, .aload_n 0, 0, [], false), (78, .getfield 10, 0, [(0, 3), (0, 0), (0, 1), (0, 0)], false), (81, .iload_n 1, 0, [], false), (82, .putfield 160, 4, [(4, 0), (0, 1), (0, 1), (0, 0)], false), (85, .aload_n 0, 0, [], false), (86, .getfield 10, 0, [(0, 3), (0, 0), (0, 1), (0, 0)], false), (89, .iload_n 2, 0, [], false), (90, .putfield 163, 5, [(5, 0), (0, 1), (0, 1), (0, 0)], false), (93, .aload_n 0, 0, [], false), (94, .getfield 10, 0, [(0, 3), (0, 0), (0, 1), (0, 0)], false), (97, .iload_n 3, 0, [], false), (98, .putfield 166, 6, [(6, 0), (0, 1), (0, 1), (0, 0)], false), (101, .iload 4, 0, [], false), (103, .ifCond .eq 7, 56, [], false), (106, .iconst 0, 0, [], false), (107, .goto 4, 57, [], false), (110, .iconst 1, 0, [], false), (111, .ireturn, 0, [], false)]
def zc75 : List mzN := [(0, .aload_n 0, 0, [], false), (1, .getfield 10, 0, [(0, 3), (0, 0), (0, 1), (0, 0)], false), (4, .iload_n 1, 0, [], false), (5, .invokevirtual 133, 52, [(2, 1), (0, 2)], false), (8, .ifCond .eq 12, 10, [], false), (11, .iload_n 2, 0, [], false), (12, .ifCond .lt 8, 10, [], false), (15, .iload_n 2, 0, [], false), (16, .iconst 1, 0, [], false), (17, .if_icmp .le 5, 12, [], false), (20, .iconst (-1), 0, [], false), (21, .ireturn, 0, [], false), (22, .iload_n 2, 0, [], false), (23, .iconst 1, 0, [], false), (24, .if_icmp .ne 7, 17, [], false), (27, .iconst 1, 0, [], false), (28, .goto 4, 18, [], false), (31, .iconst 0, 0, [], false), (32, .istore_n 3, 0, [], false), (33, .aload_n 0, 0, [], false), (34, .getfield 10, 0, [(0, 3), (0, 0), (0, 1), (0, 0)], false), (37, .iload_n 1, 0, [], false), (38, .invokevirtual 146, 51, [(2, 4), (0, 2)], false), (41, .getfield 169, 4, [(4, 1), (0, 2), (0, 2), (0, 0)], false), (44, .iload_n 3, 0, [], false), (45, .if_icmp .ne 6, 28, [], false), (48, .bipush (-2), 0, [], false), (50, .ireturn, 0, [], false), (51, .aload_n 0, 0, [], false), (52, .invokevirtual 70, 92, [(1, 0), (0, 1)], false), (55, .aload_n 0, 0, [], false), (56, .getfield 10, 0, [(0, 3), (0, 0), (0, 1), (0, 0)], false), (59, .iload_n 1, 0, [], false), (60, .invokevirtual 146, 51, [(2, 4), (0, 2)], false), (63, .iload_n 3, 0, [], false), (64, .putfield 169, 4, [(4, 1), (0, 2), (0, 2), (0, 0)], false), (67, .aload_n 0, 0, [], false), (68, .getfield 10, 0, [(0, 3), (0, 0), (0, 1), (0, 0)], false), (71, .invokevirtual 173, 60, [(1, 1), (0, 2)], false), (74, .ireturn, 0, [], false)]
def zc76 : List mzN := [(0, .aload_n 0, 0, [], false), (1, .getfield 10, 0, [(0, 3), (0, 0), (0, 1), (0, 0)], false), (4, .iload_n 1, 0, [], false), (5, .invokevirtual 133, 52, [(2, 1), (0, 2)], false), (8, .ifCond .ne 5, 7, [], false), (11, .iconst (-1), 0, [], false), (12, .ireturn, 0, [], false), (13, .aload_n 0, 0, [], false), (14, .getfield 10, 0, [(0, 3), (0, 0), (0, 1), (0, 0)], false), (17, .iload_n 1, 0, [], false), (18, .invokevirtual 146, 51, [(2, 4), (0, 2)], false), (21, .astore_n 3, 0, [], false), (22, .iload_n 2, 0, [], false), (23, .tableswitch 131 0 8 #[49, 67, 72, 81, 90, 107, 113, 119, 125], 61, [(0, 14), (1, 23), (2, 26), (3, 31), (4, 36), (5, 45), (6, 49), (7, 53), (8, 57)], false), (72, .aload_n 3, 0, [], false), (73, .getfield 176, 2, [(2, 0), (0, 2), (0, 2), (0, 0)], false), (76, .iconst (-1), 0, [], false), (77, .if_icmp .ne 8, 20, [], false), (80, .bipush (-9), 0, [], false), (82, .goto 7, 22, [], false), (85, .aload_n 3, 0, [], false), (86, .getfield 176, 2, [(2, 0), (0, 2), (0, 2), (0, 0)], false), (89, .ireturn, 0, [], false), (90, .aload_n 3, 0, [], false), (91, .getfield 179, 3, [(3, 0), (0, 2), (0, 2), (0, 0)], false), (94, .ireturn, 0, [], false), (95, .aload_n 0, 0, [], false), (96, .getfield 10, 0, [(0, 3), (0, 0), (0, 1), (0, 0)], false), (99, .iload_n 1, 0, [], false), (100, .invokevirtual 180, 58, [(2, 1), (0, 2)], false), (103, .ireturn, 0, [], false), (104, .aload_n 0, 0, [], false), (105, .getfield 10, 0, [(0, 3), (0, 0), (0, 1), (0, 0)], false), (108, .iload_n 1, 0, [], false), (109, .invokevirtual 183, 57, [(2, 1), (0, 2)], false), (112, .ireturn, 0, [], false), (113, .aload_n 0, 0, [], false), (114, .getfield 10, 0, [(0, 3), (0, 0), (0, 1), (0, 0)], false), (117, .iload_n 1, 0, [], false), (118, .invokevirtual 119, 55, [(2, 1), (0, 2)], false), (121, .ifCond .eq 7, 43, [], false), (124, .iconst 1, 0, [], false), (125, .goto 4, 44, [], false), (128, .iconst 0, 0, [], false), (129, .ireturn, 0, [], false), (130, .aload_n 3, 0, [], false), (131, .iconst 0, 0, [], false), (132, .invokevirtual 186, 7, [(2, 1), (0, 3)], false), (135, .ireturn, 0, [], false), (136, .aload_n 3, 0, [], false), (137, .iconst 1, 0, [], false), (138, .invokevirtual 186, 7, [(2, 1), (0, 3)], false), (141, .ireturn, 0, [], false), (142, .aload_n 3, 0, [], false), (143, .iconst 2, 0, [], false), (144, .invokevirtual 186, 7, [(2, 1), (0, 3)], false), (147, .ireturn, 0, [], false), (148, .aload_n 3, 0, [], false), (149, .iconst 3, 0, [], false), (150, .invokevirtual 186, 7, [(2, 1), (0, 3)], false), (153, .ireturn, 0, [], false), (154, .iconst (-1), 0, [], false), (155, .ireturn, 0, [], false)]
def zc77 : List mzN := [(0, .aload_n 0, 0, [], false), (1, .getfield 10, 0, [(0, 3), (0, 0), (0, 1), (0, 0)], false), (4, .iload_n 1, 0, [], false), (5, .invokevirtual 133, 52, [(2, 1), (0, 2)], false), (8, .ifCond .eq 17, 11, [], false), (11, .aload_n 0, 0, [], false), (12, .getfield 10, 0, [(0, 3), (0, 0), (0, 1), (0, 0)], false), (15, .getfield 76, 0, [(78, 3), (0, 1), (0, 3), (0, 2)], false), (18, .iload_n 2, 0, [], false), (19, .invokevirtual 189, 15, [(2, 1), (0, 4)], false), (22, .ifCond .ne 5, 13, [], false), (25, .iconst (-1), 0, [], false), (26, .ireturn, 0, [], false), (27, .iload_n 3, 0, [], false), (28, .ifCond .lt 8, 18, [], false), (31, .iload_n 3, 0, [], false), (32, .iconst 4, 0, [], false), (33, .if_icmp .lt 5, 20, [], false), (36, .iconst (-1), 0, [], false), (37, .ireturn, 0, [], false), (38, .aload_n 0, 0, [], false), (39, .getfield 10, 0, [(0, 3), (0, 0), (0, 1), (0, 0)], false), (42, .iload_n 1, 0, [], false), (43, .invokevirtual 146, 51, [(2, 4), (0, 2)], false), (46, .astore 4, 0, [], false), (48, .aload 4, 0, [], false), (50, .iload_n 2, 0, [], false), (51, .iconst 0, 0, [], false), (52, .invokevirtual 192, 5, [(3, 1), (0, 3)], false), (55, .istore 5, 0, [], false), (57, .iload_n 3, 0, [], false), (58, .iconst 1, 0, [], false), (59, .if_icmp .eq 8, 36, [], false), (62, .iload_n 3, 0, [], false), (63, .iconst 2, 0, [], false), (64, .if_icmp .ne 12, 41, [], false), (67, .iload 5, 0, [], false), (69, .iconst 1, 0, [], false), (70, .if_icmp .eq 6, 41, [], false), (73, .bipush (-9), 0, [], false), (75, .ireturn, 0, [], false), (76, .iload_n 3, 0, [], false), (77, .iconst 3, 0, [], false), (78, .if_icmp .ne 18, 52, [], false), (81, .iload 5, 0, [], false), (83, .iconst 2, 0, [], false), (84, .if_icmp .eq 12, 52, [], false), (87, .iload 5, 0, [], false), (89, .iconst 3, 0, [], false), (90, .if_icmp .eq 6, 52, [], false), (93, .bipush (-9), 0, [], false), (95, .ireturn, 0, [], false), (96, .aload 4, 0, [], false), (98, .iload_n 2, 0, [], false), (99, .iload_n 3, 0, [], false), (100, .invokevirtual 192, 5, [(3, 1), (0, 3)], false), (103, .ireturn, 0, [], false)]
def zc78 : List mzN := [(0, .aload_n 0, 0, [], false), (1, .getfield 10, 0, [(0, 3), (0, 0), (0, 1), (0, 0)], false), (4, .iload_n 1, 0, [], false), (5, .invokevirtual 133, 52, [(2, 1), (0, 2)], false), (8, .ifCond .eq 17, 11, [], false), (11, .aload_n 0, 0, [], false), (12, .getfield 10, 0, [(0, 3), (0, 0), (0, 1), (0, 0)], false), (15, .getfield 76, 0, [(78, 3), (0, 1), (0, 3), (0, 2)], false), (18, .iload_n 2, 0, [], false), (19, .invokevirtual 189, 15, [(2, 1), (0, 4)], false), (22, .ifCond .ne 5, 13, [], false), (25, .iconst (-1), 0, [], false), (26, .ireturn, 0, [], false), (27, .iload_n 3, 0, [], false), (28, .ifCond .lt 14, 20, [], false), (31, .iload 4, 0, [], false), (33, .ifCond .lt 9, 20, [], false), (36, .iload 4, 0, [], false), (38, .iconst 1, 0, [], false), (39, .if_icmp .le 5, 22, [], false), (42, .iconst (-1), 0, [], false), (43, .ireturn, 0, [], false), (44, .aload_n 0, 0, [], false), (45, .getfield 10, 0, [(0, 3), (0, 0), (0, 1), (0, 0)], false), (48, .iload_n 1, 0, [], false), (49, .invokevirtual 146, 51, [(2, 4), (0, 2)], false), (52, .astore 5, 0, [], false), (54, .aload 5, 0, [], false), (56, .iload_n 2, 0, [], false), (57, .iconst 0, 0, [], false), (58, .invokevirtual 192, 5, [(3, 1), (0, 3)], false), (61, .istore 6, 0, [], false), (63, .iload 6, 0, [], false), (65, .iconst 2, 0, [], false), (66, .if_icmp .eq 12, 40, [], false), (69, .iload 6, 0, [], false), (71, .iconst 3, 0, [], false), (72, .if_icmp .eq 6, 40, [], false), (75, .bipush (-9), 0, [], false), (77, .ireturn, 0, [], false), (78, .iload 6, 0, [], false), (80, .iconst 2, 0, [], false), (81, .if_icmp .ne 21, 50, [], false), (84, .aload_n 0, 0, [], false), (85, .getfield 10, 0, [(0, 3), (0, 0), (0, 1), (0, 0)], false), (88, .aload 5, 0, [], false), (90, .getfield 176, 2, [(2, 0), (0, 2), (0, 2), (0, 0)], false), (93, .invokevirtual 146, 51, [(2, 4), (0, 2)], false), (96, .getfield 195, 0, [(0, 3), (0, 2), (0, 3), (0, 1)], false), (99, .goto 4, 51, [], false), (102, .aconst_null, 0, [], false), (103, .astore 7, 0, [], false), (105, .aload_n 0, 0, [], false), (106, .getfield 37, 5, [(0, 3), (0, 0), (0, 11), (0, 0)], false), (109, .getfield 198, 0, [(0, 3), (0, 11), (0, 12), (0, 0)], false), (112, .astore 8, 0, [], false), (114, .aload 8, 0, [], false), (116, .aload 5, 0, [], false), (118, .getfield 195, 0, [(0, 3), (0, 2), (0, 3), (0, 1)], false), (121, .aload 7, 0, [], false), (123, .iload_n 2, 0, [], false), (124, .invokevirtual 202, 29, [(4, 0), (0, 13)], false), (127, .iload_n 3, 0, [], false), (128, .aload 8, 0, [], false), (130, .getfield 208, 2, [(2, 0), (0, 12), (0, 12), (0, 0)], false), (133, .if_icmp .lt 6, 68, [], false), (136, .bipush (-9), 0, [], false), (138, .ireturn, 0, [], false), (139, .iload 4, 0, [], false), (141, .ifCond .ne 12, 74, [], false), (144, .aload 8, 0, [], false), (146, .iload_n 3, 0, [], false), (147, .invokevirtual 211, 31, [(2, 1), (0, 13)], false), (150, .goto 9, 77, [], false), (153, .aload 8, 0, [], false), (155, .iload_n 3, 0, [], false), (156, .invokevirtual 214, 32, [(2, 1), (0, 13)], false), (159, .ireturn, 0, [], false)]
def zc79 : List mzN := [(0, .aload_n 0, 0, [], false), (1, .getfield 10, 0, [(0, 3), (0, 0), (0, 1), (0, 0)], false), (4, .iload_n 1, 0, [], false), (5, .invokevirtual 133, 52, [(2, 1), (0, 2)], false), (8, .ifCond .eq 17, 11, [], false), (11, .aload_n 0, 0, [], false), (12, .getfield 10, 0, [(0, 3), (0, 0), (0, 1), (0, 0)], false), (15, .getfield 76, 0, [(78, 3), (0, 1), (0, 3), (0, 2)], false), (18, .iload_n 2, 0, [], false), (19, .invokevirtual 87, 10, [(2, 1), (0, 4)], false), (22, .ifCond .ne 5, 13, [], false), (25, .iconst (-1), 0, [], false), (26, .ireturn, 0, [], false), (27, .aload_n 0, 0, [], false), (28, .getfield 10, 0, [(0, 3), (0, 0), (0, 1), (0, 0)], false), (31, .iload_n 1, 0, [], false), (32, .invokevirtual 119, 55, [(2, 1), (0, 2)], false), (35, .ifCond .ne 6, 20, [], false), (38, .bipush (-2), 0, [], false), (40, .ireturn, 0, [], false), (41, .aload_n 0, 0, [], false), (42, .getfield 10, 0, [(0, 3), (0, 0), (0, 1), (0, 0)], false), (45, .iload_n 1, 0, [], false), (46, .invokevirtual 122, 54, [(2, 5), (0, 2)], false), (49, .iload_n 2, 0, [], false), (50, .invokevirtual 90, 11, [(2, 1), (0, 4)], false), (53, .ireturn, 0, [], false)]
def zc80 : List mzN := [(0, .iload_n 1, 0, [], false), (1, .tableswitch 138 0 9 #[55, 66, 77, 85, 93, 101, 109, 117, 125, 133], 43, [(0, 2), (1, 7), (2, 12), (3, 16), (4, 20), (5, 24), (6, 28), (7, 32), (8, 36), (9, 40)], false), (56, .aload_n 0, 0, [], false), (57, .getfield 10, 0, [(0, 3), (0, 0), (0, 1), (0, 0)], false), (60, .getfield 76, 0, [(78, 3), (0, 1), (0, 3), (0, 2)], false), (63, .getfield 217, 1, [(1, 0), (0, 3), (0, 3), (0, 0)], false), (66, .ireturn, 0, [], false), (67, .aload_n 0, 0, [], false), (68, .getfield 10, 0, [(0, 3), (0, 0), (0, 1), (0, 0)], false), (71, .getfield 76, 0, [(78, 3), (0, 1), (0, 3), (0, 2)], false), (74, .getfield 220, 2, [(2, 0), (0, 3), (0, 3), (0, 0)], false), (77, .ireturn, 0, [], false), (78, .aload_n 0, 0, [], false), (79, .getfield 10, 0, [(0, 3), (0, 0), (0, 1), (0, 0)], false), (82, .getfield 73, 3, [(3, 0), (0, 1), (0, 1), (0, 0)], false), (85, .ireturn, 0, [], false), (86, .aload_n 0, 0, [], false), (87, .getfield 10, 0, [(0, 3), (0, 0), (0, 1), (0, 0)], false), (90, .getfield 160, 4, [(4, 0), (0, 1), (0, 1), (0, 0)], false), (93, .ireturn, 0, [], false), (94, .aload_n 0, 0, [], false), (95, .getfield 10, 0, [(0, 3), (0, 0), (0, 1), (0, 0)], false), (98, .getfield 163, 5, [(5, 0), (0, 1), (0, 1), (0, 0)], false), (101, .ireturn, 0, [], false), (102, .aload_n 0, 0, [], false), (103, .getfield 10, 0, [(0, 3), (0, 0), (0, 1), (0, 0)], false), (106, .getfield 166, 6, [(6, 0), (0, 1), (0, 1), (0, 0)], false), (109, .ireturn, 0, [], false), (110, .aload_n 0, 0, [], false), (111, .getfield 10, 0, [(0, 3), (0, 0), (0, 1), (0, 0)], false), (114, .invokevirtual 223, 61, [(1, 1), (0, 2)], false), (117, .ireturn, 0, [], false), (118, .aload_n 0, 0, [], false), (119, .getfield 10, 0, [(0, 3), (0, 0), (0, 1), (0, 0)], false), (122, .invokevirtual 173, 60, [(1, 1), (0, 2)], false), (125, .ireturn, 0, [], false), (126, .aload_n 0, 0, [], false), (127, .getfield 30, 4, [(0, 3), (0, 0), (0, 8), (0, 0)], false), (130, .getfield 97, 1, [(1, 0), (0, 8), (0, 8), (0, 0)], false), (133, .ireturn, 0, [], false), (134, .aload_n 0, 0, [], false), (135, .getfield 24, 3, [(3, 0), (0, 0), (0, 0), (0, 0)], false), (138, .ireturn, 0, [], false), (139, .iconst (-1), 0, [], false), (140, .ireturn, 0, [], false)]
def zc81 : List mzN := [(0, .aload_n 0, 0, [], false), (1, .getfield 10, 0, [(0, 3), (0, 0), (0, 1), (0, 0)], false), (4, .iload_n 1, 0, [], false), (5, .invokevirtual 112, 53, [(2, 1), (0, 2)], false), (8, .ifCond .ne 5, 7, [], false), (11, .iconst (-1), 0, [], false), (12, .ireturn, 0, [], false), (13, .aload_n 0, 0, [], false), (14, .getfield 10, 0, [(0, 3), (0, 0), (0, 1), (0, 0)], false), (17, .iload_n 1, 0, [], false), (18, .invokevirtual 119, 55, [(2, 1), (0, 2)], false), (21, .ifCond .ne 6, 14, [], false), (24, .bipush (-2), 0, [], false), (26, .ireturn, 0, [], false), (27, .aload_n 0, 0, [], false), (28, .iload_n 1, 0, [], false), (29, .invokevirtual 226, 95, [(2, 1), (0, 1)], false), (32, .ireturn, 0, [], false)]
def zc82 : List mzN := [(0, .aload_n 0, 0, [], false), (1, .getfield 10, 0, [(0, 3), (0, 0), (0, 1), (0, 0)], false), (4, .iload_n 1, 0, [], false), (5, .invokevirtual 112, 53, [(2, 1), (0, 2)], false), (8, .ifCond .eq 14, 10, [], false), (11, .aload_n 0, 0, [], false), (12, .getfield 10, 0, [(0, 3), (0, 0), (0, 1), (0, 0)], false), (15, .iload_n 2, 0, [], false), (16, .invokevirtual 112, 53, [(2, 1), (0, 2)], false), (19, .ifCond .ne 5, 12, [], false), (22, .iconst (-1), 0, [], false), (23, .ireturn, 0, [], false), (24, .aload_n 0, 0, [], false), (25, .getfield 10, 0, [(0, 3), (0, 0), (0, 1), (0, 0)], false), (28, .iload_n 1, 0, [], false), (29, .invokevirtual 119, 55, [(2, 1), (0, 2)], false), (32, .ifCond .eq 14, 22, [], false), (35, .aload_n 0, 0, [], false), (36, .getfield 10, 0, [(0, 3), (0, 0), (0, 1), (0, 0)], false), (39, .iload_n 2, 0, [], false), (40, .invokevirtual 119, 55, [(2, 1), (0, 2)], false), (43, .ifCond .ne 6, 24, [], false), (46, .bipush (-2), 0, [], false), (48, .ireturn, 0, [], false), (49, .aload_n 0, 0, [], false), (50, .getfield 10, 0, [(0, 3), (0, 0), (0, 1), (0, 0)], false), (53, .iload_n 1, 0, [], false), (54, .invokevirtual 122, 54, [(2, 5), (0, 2)], false), (57, .aload_n 0, 0, [], false), (58, .getfield 10, 0, [(0, 3), (0, 0), (0, 1), (0, 0)], false), (61, .iload_n 2, 0, [], false), (62, .invokevirtual 122, 54, [(2, 5), (0, 2)], false), (65, .invokevirtual 229, 21, [(2, 1), (0, 4)], false), (68, .ireturn, 0, [], false)]
def zc83 : List mzN := [(0, .aload_n 0, 0, [], false), (1, .getfield 10, 0, [(0, 3), (0, 0), (0, 1), (0, 0)], false), (4, .iload_n 1, 0, [], false), (5, .invokevirtual 133, 52, [(2, 1), (0, 2)], false), (8, .ifCond .eq 17, 11, [], false), (11, .aload_n 0, 0, [], false), (12, .getfield 10, 0, [(0, 3), (0, 0), (0, 1), (0, 0)], false), (15, .getfield 76, 0, [(78, 3), (0, 1), (0, 3), (0, 2)], false), (18, .iload_n 2, 0, [], false), (19, .invokevirtual 189, 15, [(2, 1), (0, 4)], false), (22, .ifCond .ne 5, 13, [], false), (25, .iconst (-1), 0, [], false), (26, .ireturn, 0, [], false), (27, .aload_n 0, 0, [], false), (28, .getfield 10, 0, [(0, 3), (0, 0), (0, 1), (0, 0)], false), (31, .iload_n 1, 0, [], false), (32, .invokevirtual 119, 55, [(2, 1), (0, 2)], false), (35, .ifCond .ne 6, 20, [], false), (38, .bipush (-2), 0, [], false), (40, .ireturn, 0, [], false), (41, .aload_n 0, 0, [], false), (42, .getfield 10, 0, [(0, 3), (0, 0), (0, 1), (0, 0)], false), (45, .iload_n 1, 0, [], false), (46, .invokevirtual 122, 54, [(2, 5), (0, 2)], false), (49, .astore_n 3, 0, [], false), (50, .aload_n 0, 0, [], false), (51, .getfield 10, 0, [(0, 3), (0, 0), (0, 1), (0, 0)], false), (54, .getfield 76, 0, [(78, 3), (0, 1), (0, 3), (0, 2)], false), (57, .iload_n 2, 0, [], false), (58, .invokevirtual 233, 16, [(2, 1), (0, 4)], false), (61, .istore 4, 0, [], false), (63, .aload_n 0, 0, [], false), (64, .getfield 10, 0, [(0, 3), (0, 0), (0, 1), (0, 0)], false), (67, .getfield 76, 0, [(78, 3), (0, 1), (0, 3), (0, 2)], false), (70, .iload_n 2, 0, [], false), (71, .invokevirtual 236, 17, [(2, 1), (0, 4)], false), (74, .istore 5, 0, [], false), (76, .iconst 0, 0, [], false), (77, .istore 6, 0, [], false), (79, .iload 6, 0, [], true), (81, .aload_n 3, 0, [], false), (82, .getfield 220, 2, [(2, 0), (0, 3), (0, 3), (0, 0)], false), (85, .iconst 4, 0, [], false), (86, .isub, 0, [], false), (87, .if_icmp .gt 60, 73, [], false), (90, .iconst 0, 0, [], false), (91, .istore 7, 0, [], false), (93, .iload 7, 0, [], true), (95, .aload_n 3, 0, [], false), (96, .getfield 217, 1, [(1, 0), (0, 3), (0, 3), (0, 0)], false), (99, .iconst 4, 0, [], false), (100, .isub, 0, [], false), (101, .if_icmp .gt 40, 71, [], false), (104, .aload_n 0, 0, [], false), (105, .getfield 10, 0, [(0, 3), (0, 0), (0, 1), (0, 0)], false), (108, .getfield 76, 0, [(78, 3), (0, 1), (0, 3), (0, 2)], false), (111, .iload 4, 0, [], false), (113, .iload 5, 0, [], false), (115, .aload_n 3, 0, [], false), (116, .iload 7, 0, [], false), (118, .iload 6, 0, [], false), (120, .invokevirtual 239, 20, [(6, 1), (0, 4)], false), (123, .ifCond .eq 12, 69, [], false), (126, .bipush 100, 0, [], false), (128, .iload 7, 0, [], false), (130, .imul, 0, [], false), (131, .iload 6, 0, [], false), (133, .iadd, 0, [], false), (134, .ireturn, 0, [], false), (135, .iinc 7 1, 0, [], false), (138, .goto (-45), 47, [], false), (141, .iinc 6 1, 0, [], false), (144, .goto (-65), 39, [], false), (147, .bipush (-9), 0, [], false), (149, .ireturn, 0, [], false)]
def zc84 : List mzN := [(0, .aload_n 0, 0, [], false), (1, .getfield 10, 0, [(0, 3), (0, 0), (0, 1), (0, 0)], false), (4, .iload_n 1, 0, [], false), (5, .invokevirtual 112, 53, [(2, 1), (0, 2)], false), (8, .ifCond .ne 5, 7, [], false), (11, .iconst (-1), 0, [], false), (12, .ireturn, 0, [], false), (13, .aload_n 0, 0, [], false), (14, .getfield 10, 0, [(0, 3), (0, 0), (0, 1), (0, 0)], false), (17, .iload_n 1, 0, [], false), (18, .invokevirtual 119, 55, [(2, 1), (0, 2)], false), (21, .ifCond .ne 6, 14, [], false), (24, .bipush (-2), 0, [], false), (26, .ireturn, 0, [], false), (27, .aload_n 0, 0, [], false), (28, .aload_n 0, 0, [], false), (29, .getfield 10, 0, [(0, 3), (0, 0), (0, 1), (0, 0)], false), (32, .iload_n 1, 0, [], false), (33, .invokevirtual 122, 54, [(2, 5), (0, 2)], false), (36, .invokevirtual 243, 97, [(2, 1), (0, 1)], false), (39, .ireturn, 0, [], false)]
def zc85 : List mzN := [(0, .aload_n 0, 0, [], false), (1, .getfield 10, 0, [(0, 3), (0, 0), (0, 1), (0, 0)], false), (4, .getfield 73, 3, [(3, 0), (0, 1), (0, 1), (0, 0)], false), (7, .iconst 1, 0, [], false), (8, .if_icmp .ge 6, 7, [], false), (11, .bipush (-9), 0, [], false), (13, .ireturn, 0, [], false), (14, .iconst 0, 0, [], false), (15, .istore_n 1, 0, [], false), (16, .iconst 0, 0, [], false), (17, .istore_n 2, 0, [], false), (18, .iload_n 2, 0, [], true), (19, .aload_n 0, 0, [], false), (20, .getfield 10, 0, [(0, 3), (0, 0), (0, 1), (0, 0)], false), (23, .getfield 73, 3, [(3, 0), (0, 1), (0, 1), (0, 0)], false), (26, .if_icmp .ge 22, 25, [], false), (29, .iload_n 1, 0, [], false), (30, .aload_n 0, 0, [], false), (31, .getfield 10, 0, [(0, 3), (0, 0), (0, 1), (0, 0)], false), (34, .iload_n 2, 0, [], false), (35, .invokevirtual 180, 58, [(2, 1), (0, 2)], false), (38, .invokestatic 246, 177, [(2, 1), (0, 0)], false), (41, .istore_n 1, 0, [], false), (42, .iinc 2 1, 0, [], false), (45, .goto (-27), 11, [], false), (48, .iload_n 1, 0, [], false), (49, .ireturn, 0, [], false)]
def zc86 : List mzN := [(0, .aload_n 0, 0, [], false), (1, .getfield 10, 0, [(0, 3), (0, 0), (0, 1), (0, 0)], false), (4, .iload_n 1, 0, [], false), (5, .invokevirtual 133, 52, [(2, 1), (0, 2)], false), (8, .ifCond .ne 5, 7, [], false), (11, .iconst (-1), 0, [], false), (12, .ireturn, 0, [], false), (13, .iconst 0, 0, [], false), (14, .istore_n 2, 0, [], false), (15, .iconst 0, 0, [], false), (16, .istore_n 3, 0, [], false), (17, .iload_n 3, 0, [], true), (18, .aload_n 0, 0, [], false), (19, .getfield 10, 0, [(0, 3), (0, 0), (0, 1), (0, 0)], false), (22, .getfield 73, 3, [(3, 0), (0, 1), (0, 1), (0, 0)], false), (25, .if_icmp .ge 24, 25, [], false), (28, .aload_n 0, 0, [], false), (29, .getfield 10, 0, [(0, 3), (0, 0), (0, 1), (0, 0)], false), (32, .iload_n 3, 0, [], false), (33, .iload_n 1, 0, [], false), (34, .invokevirtual 251, 59, [(3, 1), (0, 2)], false), (37, .ifCond .eq 6, 23, [], false), (40, .iinc 2 1, 0, [], false), (43, .iinc 3 1, 0, [], false), (46, .goto (-29), 11, [], false), (49, .iload_n 2, 0, [], false), (50, .ireturn, 0, [], false)]
def zc87 : List mzN := [(0, .aload_n 0, 0, [], false), (1, .getfield 10, 0, [(0, 3), (0, 0), (0, 1), (0, 0)], false), (4, .iload_n 1, 0, [], false), (5, .invokevirtual 133, 52, [(2, 1), (0, 2)], false), (8, .ifCond .ne 5, 7, [], false), (11, .iconst (-1), 0, [], false), (12, .ireturn, 0, [], false), (13, .aload_n 0, 0, [], false), (14, .getfield 10, 0, [(0, 3), (0, 0), (0, 1), (0, 0)], false), (17, .iload_n 1, 0, [], false), (18, .invokevirtual 146, 51, [(2, 4), (0, 2)], false), (21, .getfield 169, 4, [(4, 1), (0, 2), (0, 2), (0, 0)], false), (24, .ifCond .ne 6, 15, [], false), (27, .bipush (-2), 0, [], false), (29, .ireturn, 0, [], false), (30, .aload_n 0, 0, [], false), (31, .getfield 10, 0, [(0, 3), (0, 0), (0, 1), (0, 0)], false), (34, .iload_n 1, 0, [], false), (35, .invokevirtual 122, 54, [(2, 5), (0, 2)], false), (38, .astore_n 2, 0, [], false), (39, .bipush (-9), 0, [], false), (41, .istore_n 3, 0, [], false), (42, .sipush 145, 0, [], false), (45, .istore 4, 0, [], false), (47, .iconst 0, 0, [], false), (48, .istore 5, 0, [], false), (50, .iload 5, 0, [], true), (52, .aload_n 0, 0, [], false), (53, .getfield 10, 0, [(0, 3), (0, 0), (0, 1), (0, 0)], false), (56, .getfield 73, 3, [(3, 0), (0, 1), (0, 1), (0, 0)], false), (59, .if_icmp .ge 50, 52, [], false), (62, .aload_n 0, 0, [], false), (63, .getfield 10, 0, [(0, 3), (0, 0), (0, 1), (0, 0)], false), (66, .iload 5, 0, [], false), (68, .invokevirtual 119, 55, [(2, 1), (0, 2)], false), (71, .ifCond .eq 32, 50, [], false), (74, .aload_n 2, 0, [], false), (75, .aload_n 0, 0, [], false), (76, .getfield 10, 0, [(0, 3), (0, 0), (0, 1), (0, 0)], false), (79, .iload 5, 0, [], false), (81, .invokevirtual 122, 54, [(2, 5), (0, 2)], false), (84, .invokevirtual 229, 21, [(2, 1), (0, 4)], false), (87, .istore 6, 0, [], false), (89, .iload 6, 0, [], false), (91, .iload 4, 0, [], false), (93, .if_icmp .ge 10, 50, [], false), (96, .iload 6, 0, [], false), (98, .istore 4, 0, [], false), (100, .iload 5, 0, [], false), (102, .istore_n 3, 0, [], false), (103, .iinc 5 1, 0, [], false), (106, .goto (-56), 26, [], false), (109, .iload_n 3, 0, [], false), (110, .ireturn, 0, [], false)]
def zc88 : List mzN := [(0, .aload_n 0, 0, [], false), (1, .getfield 10, 0, [(0, 3), (0, 0), (0, 1), (0, 0)], false), (4, .getfield 73, 3, [(3, 0), (0, 1), (0, 1), (0, 0)], false), (7, .iconst 1, 0, [], false), (8, .if_icmp .ge 6, 7, [], false), (11, .bipush (-9), 0, [], false), (13, .ireturn, 0, [], false), (14, .aload_n 0, 0, [], false), (15, .getfield 44, 6, [(0, 3), (0, 0), (0, 15), (0, 0)], false), (18, .aload_n 0, 0, [], false), (19, .getfield 10, 0, [(0, 3), (0, 0), (0, 1), (0, 0)], false), (22, .aload_n 0, 0, [], false), (23, .getfield 37, 5, [(0, 3), (0, 0), (0, 11), (0, 0)], false), (26, .aload_n 0, 0, [], false), (27, .getfield 51, 7, [(77, 3), (0, 0), (0, 2), (0, 0)], false), (30, .invokevirtual 142, 25, [(4, 0), (0, 16)], false), (33, .aload_n 0, 0, [], false), (34, .getfield 44, 6, [(0, 3), (0, 0), (0, 15), (0, 0)], false), (37, .getfield 157, 2, [(2, 0), (0, 15), (0, 15), (0, 0)], false), (40, .ireturn, 0, [], false)]
def zc89 : List mzN := [(0, .aload_n 0, 0, [], false), (1, .getfield 10, 0, [(0, 3), (0, 0), (0, 1), (0, 0)], false), (4, .getfield 73, 3, [(3, 0), (0, 1), (0, 1), (0, 0)], false), (7, .iconst 1, 0, [], false), (8, .if_icmp .ge 6, 7, [], false), (11, .bipush (-9), 0, [], false), (13, .ireturn, 0, [], false), (14, .aload_n 0, 0, [], false), (15, .getfield 44, 6, [(0, 3), (0, 0), (0, 15), (0, 0)], false), (18, .aload_n 0, 0, [], false), (19, .getfield 10, 0, [(0, 3), (0, 0), (0, 1), (0, 0)], false), (22, .aload_n 0, 0, [], false), (23, .getfield 37, 5, [(0, 3), (0, 0), (0, 11), (0, 0)], false), (26, .aload_n 0, 0, [], false), (27, .getfield 51, 7, [(77, 3), (0, 0), (0, 2), (0, 0)], false), (30, .invokevirtual 142, 25, [(4, 0), (0, 16)], false), (33, .aload_n 0, 0, [], false), (34, .getfield 44, 6, [(0, 3), (0, 0), (0, 15), (0, 0)], false), (37, .getfield 254, 3, [(3, 0), (0, 15), (0, 15), (0, 0)], false), (40, .ireturn, 0, [], false)]
def zc90 : List mzN := [(0, .aload_n 0, 0, [], false), (1, .getfield 24, 3, [(3, 0), (0, 0), (0, 0), (0, 0)], false), (4, .iconst 1, 0, [], false), (5, .if_icmp .ge 6, 6, [], false), (8, .bipush (-2), 0, [], false), (10, .ireturn, 0, [], false), (11, .aload_n 0, 0, [], false), (12, .dup, 0, [], false), (13, .getfield 24, 3, [(3, 0), (0, 0), (0, 0), (0, 0)], false), (16, .iconst 1, 0, [], false), (17, .isub, 0, [], false), (18, .putfield 24, 3, [(3, 0), (0, 0), (0, 0), (0, 0)], false), (21, .aload_n 0, 0, [], false), (22, .getfield 10, 0, [(0, 3), (0, 0), (0, 1), (0, 0)], false), (25, .aload_n 0, 0, [], false), (26, .aload_n 0, 0, [], false), (27, .getfield 24, 3, [(3, 0), (0, 0), (0, 0), (0, 0)], false), (30, .invokevirtual 257, 93, [(2, 3), (0, 1)], false), (33, .invokevirtual 261, 50, [(2, 0), (0, 2)], false), (36, .aload_n 0, 0, [], false), (37, .getfield 24, 3, [(3, 0), (0, 0), (0, 0), (0, 0)], false), (40, .ireturn, 0, [], false)]
def zc91 : List mzN := [(0, .iload_n 0, 0, [], false), (1, .iconst 4, 0, [], false), (2, .if_icmp .eq 15, 9, [], false), (5, .iload_n 0, 0, [], false), (6, .bipush 8, 0, [], false), (8, .if_icmp .eq 9, 9, [], false), (11, .iload_n 0, 0, [], false), (12, .bipush 12, 0, [], false), (14, .if_icmp .ne 7, 11, [], false), (17, .iconst 1, 0, [], false), (18, .goto 4, 12, [], false), (21, .iconst 0, 0, [], false), (22, .ireturn, 1, [], false)]
def zc92 : List mzN := [(0, .aload_n 0, 0, [], false), (1, .aload_n 0, 0, [], false), (2, .getfield 24, 3, [(3, 0), (0, 0), (0, 0), (0, 0)], false), (5, .invokevirtual 257, 93, [(2, 3), (0, 1)], false), (8, .aload_n 0, 0, [], false), (9, .getfield 10, 0, [(0, 3), (0, 0), (0, 1), (0, 0)], false), (12, .invokevirtual 261, 50, [(2, 0), (0, 2)], false), (15, .aload_n 0, 0, [], false), (16, .getfield 24, 3, [(3, 0), (0, 0), (0, 0), (0, 0)], false), (19, .bipush 6, 0, [], false), (21, .if_icmp .ge 16, 18, [], false), (24, .aload_n 0, 0, [], false), (25, .dup, 0, [], false), (26, .getfield 24, 3, [(3, 0), (0, 0), (0, 0), (0, 0)], false), (29, .iconst 1, 0, [], false), (30, .iadd, 0, [], false), (31, .putfield 24, 3, [(3, 0), (0, 0), (0, 0), (0, 0)], false), (34, .goto 16, 26, [], false), (37, .aload_n 0, 0, [], false), (38, .aload_n 0, 0, [], false), (39, .getfield 20, 2, [(2, 0), (0, 0), (0, 0), (0, 0)], false), (42, .iconst 1, 0, [], false), (43, .iadd, 0, [], false), (44, .bipush 6, 0, [], false), (46, .irem, 0, [], false), (47, .putfield 20, 2, [(2, 0), (0, 0), (0, 0), (0, 0)], false), (50, .return_, 0, [], false)]
def zc93 : List mzN := [(0, .aload_n 0, 0, [], false), (1, .getfield 16, 1, [(0, 3), (0, 0), (0, 7), (0, 0)], false), (4, .aload_n 0, 0, [], false), (5, .getfield 20, 2, [(2, 0), (0, 0), (0, 0), (0, 0)], false), (8, .iload_n 1, 0, [], false), (9, .iadd, 0, [], false), (10, .bipush 6, 0, [], false), (12, .invokestatic 265, 175, [(2, 1), (0, 0)], false), (15, .aaload, 0, [], false), (16, .areturn, 0, [], false)]
def zc94 : List mzN := [(0, .aload_n 0, 0, [], false), (1, .invokevirtual 70, 92, [(1, 0), (0, 1)], false), (4, .aload_n 0, 0, [], false), (5, .getfield 10, 0, [(0, 3), (0, 0), (0, 1), (0, 0)], false), (8, .aload_n 0, 0, [], false), (9, .getfield 10, 0, [(0, 3), (0, 0), (0, 1), (0, 0)], false), (12, .getfield 73, 3, [(3, 0), (0, 1), (0, 1), (0, 0)], false), (15, .invokevirtual 146, 51, [(2, 4), (0, 2)], false), (18, .astore_n 2, 0, [], false), (19, .aload_n 2, 0, [], false), (20, .getfield 195, 0, [(0, 3), (0, 2), (0, 3), (0, 1)], false), (23, .aload_n 0, 0, [], false), (24, .getfield 10, 0, [(0, 3), (0, 0), (0, 1), (0, 0)], false), (27, .getfield 76, 0, [(78, 3), (0, 1), (0, 3), (0, 2)], false), (30, .invokevirtual 268, 9, [(2, 0), (0, 4)], false), (33, .aload_n 0, 0, [], false), (34, .getfield 37, 5, [(0, 3), (0, 0), (0, 11), (0, 0)], false), (37, .aload_n 2, 0, [], false), (38, .aload_n 0, 0, [], false), (39, .getfield 10, 0, [(0, 3), (0, 0), (0, 1), (0, 0)], false), (42, .iload_n 1, 0, [], false), (43, .invokevirtual 153, 0, [(4, 0), (0, 12)], false), (46, .aload_n 0, 0, [], false), (47, .getfield 10, 0, [(0, 3), (0, 0), (0, 1), (0, 0)], false), (50, .dup, 0, [], false), (51, .getfield 73, 3, [(3, 0), (0, 1), (0, 1), (0, 0)], false), (54, .iconst 1, 0, [], false), (55, .iadd, 0, [], false), (56, .putfield 73, 3, [(3, 0), (0, 1), (0, 1), (0, 0)], false), (59, .aload_n 2, 0, [], false), (60, .getfield 179, 3, [(3, 0), (0, 2), (0, 2), (0, 0)], false), (63, .ireturn, 0, [], false)]
def zc95 : List mzN := [(0, .aload_n 0, 0, [], false), (1, .getfield 51, 7, [(77, 3), (0, 0), (0, 2), (0, 0)], false), (4, .getfield 195, 0, [(0, 3), (0, 2), (0, 3), (0, 1)], false), (7, .aload_n 0, 0, [], false), (8, .getfield 10, 0, [(0, 3), (0, 0), (0, 1), (0, 0)], false), (11, .getfield 76, 0, [(78, 3), (0, 1), (0, 3), (0, 2)], false), (14, .invokevirtual 268, 9, [(2, 0), (0, 4)], false), (17, .aload_n 0, 0, [], false), (18, .getfield 37, 5, [(0, 3), (0, 0), (0, 11), (0, 0)], false), (21, .aload_n 0, 0, [], false), (22, .getfield 51, 7, [(77, 3), (0, 0), (0, 2), (0, 0)], false), (25, .aload_n 0, 0, [], false), (26, .getfield 10, 0, [(0, 3), (0, 0), (0, 1), (0, 0)], false), (29, .iload_n 1, 0, [], false), (30, .invokevirtual 153, 0, [(4, 0), (0, 12)], false), (33, .aload_n 0, 0, [], false), (34, .getfield 51, 7, [(77, 3), (0, 0), (0, 2), (0, 0)], false), (37, .getfield 179, 3, [(3, 0), (0, 2), (0, 2), (0, 0)], false), (40, .ireturn, 0, [], false)]
def zc96 : List mzN := [(0, .iconst (-1), 0, [], false), (1, .istore_n 1, 0, [], false), (2, .aload_n 0, 0, [], false), (3, .iconst (-1), 0, [], false), (4, .invokevirtual 226, 95, [(2, 1), (0, 1)], false), (7, .istore_n 2, 0, [], false), (8, .iconst 0, 0, [], false), (9, .istore_n 3, 0, [], false), (10, .iconst 0, 0, [], false), (11, .istore 4, 0, [], false), (13, .iload 4, 0, [], true), (15, .aload_n 0, 0, [], false), (16, .getfield 10, 0, [(0, 3), (0, 0), (0, 1), (0, 0)], false), (19, .getfield 73, 3, [(3, 0), (0, 1), (0, 1), (0, 0)], false), (22, .if_icmp .ge 72, 49, [], false), (25, .aload_n 0, 0, [], false), (26, .getfield 10, 0, [(0, 3), (0, 0), (0, 1), (0, 0)], false), (29, .iload 4, 0, [], false), (31, .invokevirtual 136, 56, [(2, 1), (0, 2)], false), (34, .ifCond .ne 6, 21, [], false), (37, .goto 51, 47, [], false), (40, .aload_n 0, 0, [], false), (41, .iload 4, 0, [], false), (43, .invokevirtual 226, 95, [(2, 1), (0, 1)], false), (46, .istore 5, 0, [], false), (48, .aload_n 0, 0, [], false), (49, .getfield 10, 0, [(0, 3), (0, 0), (0, 1), (0, 0)], false), (52, .iload 4, 0, [], false), (54, .invokevirtual 183, 57, [(2, 1), (0, 2)], false), (57, .iconst 1, 0, [], false), (58, .iadd, 0, [], false), (59, .istore 6, 0, [], false), (61, .iload 5, 0, [], false), (63, .iload_n 2, 0, [], false), (64, .if_icmp .lt 15, 41, [], false), (67, .iload 5, 0, [], false), (69, .iload_n 2, 0, [], false), (70, .if_icmp .ne 18, 47, [], false), (73, .iload 6, 0, [], false), (75, .iload_n 3, 0, [], false), (76, .if_icmp .gt 12, 47, [], false), (79, .iload 4, 0, [], false), (81, .istore_n 1, 0, [], false), (82, .iload 5, 0, [], false), (84, .istore_n 2, 0, [], false), (85, .iload 6, 0, [], false), (87, .istore_n 3, 0, [], false), (88, .iinc 4 1, 0, [], false), (91, .goto (-78), 10, [], false), (94, .iload_n 1, 0, [], false), (95, .ireturn, 0, [], false)]
def zc97 : List mzN := [(0, .aload_n 1, 0, [], false), (1, .getfield 217, 1, [(1, 0), (0, 3), (0, 3), (0, 0)], false), (4, .iconst 4, 0, [], false), (5, .isub, 0, [], false), (6, .iconst 1, 0, [], false), (7, .iadd, 0, [], false), (8, .istore_n 2, 0, [], false), (9, .aload_n 0, 0, [], false), (10, .getfield 62, 9, [(0, 3), (0, 0), (0, 18), (0, 0)], false), (13, .arraylength, 0, [], false), (14, .iload_n 2, 0, [], false), (15, .aload_n 1, 0, [], false), (16, .getfield 220, 2, [(2, 0), (0, 3), (0, 3), (0, 0)], false), (19, .iconst 4, 0, [], false), (20, .isub, 0, [], false), (21, .iconst 1, 0, [], false), (22, .iadd, 0, [], false), (23, .imul, 0, [], false), (24, .invokestatic 271, 178, [(2, 1), (0, 0)], false), (27, .istore_n 3, 0, [], false), (28, .iload_n 2, 0, [], false), (29, .iconst 1, 0, [], false), (30, .if_icmp .ge 5, 25, [], false), (33, .iconst 0, 0, [], false), (34, .ireturn, 0, [], false), (35, .iconst 0, 0, [], false), (36, .istore 4, 0, [], false), (38, .iload 4, 0, [], true), (40, .iload_n 3, 0, [], false), (41, .if_icmp .ge 28, 44, [], false), (44, .aload_n 0, 0, [], false), (45, .getfield 62, 9, [(0, 3), (0, 0), (0, 18), (0, 0)], false), (48, .iload 4, 0, [], false), (50, .aload_n 1, 0, [], false), (51, .iload 4, 0, [], false), (53, .iload_n 2, 0, [], false), (54, .irem, 0, [], false), (55, .iload 4, 0, [], false), (57, .iload_n 2, 0, [], false), (58, .idiv, 0, [], false), (59, .invokevirtual 126, 19, [(3, 1), (0, 4)], false), (62, .iastore, 0, [], false), (63, .iinc 4 1, 0, [], false), (66, .goto (-28), 27, [], false), (69, .iconst 0, 0, [], false), (70, .istore 4, 0, [], false), (72, .iconst 0, 0, [], false), (73, .istore 5, 0, [], false), (75, .iload 5, 0, [], true), (77, .iload_n 3, 0, [], false), (78, .if_icmp .ge 71, 88, [], false), (81, .iload 5, 0, [], false), (83, .iconst 1, 0, [], false), (84, .iadd, 0, [], false), (85, .istore 6, 0, [], false), (87, .iload 6, 0, [], true), (89, .iload_n 3, 0, [], false), (90, .if_icmp .ge 53, 86, [], false), (93, .aload_n 0, 0, [], false), (94, .getfield 62, 9, [(0, 3), (0, 0), (0, 18), (0, 0)], false), (97, .iload 5, 0, [], false), (99, .iaload, 0, [], false), (100, .aload_n 0, 0, [], false), (101, .getfield 62, 9, [(0, 3), (0, 0), (0, 18), (0, 0)], false), (104, .iload 6, 0, [], false), (106, .iaload, 0, [], false), (107, .if_icmp .ne 30, 84, [], false), (110, .aload_n 1, 0, [], false), (111, .iload 5, 0, [], false), (113, .iload_n 2, 0, [], false), (114, .irem, 0, [], false), (115, .iload 5, 0, [], false), (117, .iload_n 2, 0, [], false), (118, .idiv, 0, [], false), (119, .aload_n 1, 0, [], false), (120, .iload 6, 0, [], false), (122, .iload_n 2, 0, [], false), (123, .irem, 0, [], false), (124, .iload 6, 0, [], false), (126, .iload_n 2, 0, [], false), (127, .idiv, 0, [], false), (128, .invokevirtual 239, 20, [(6, 1), (0, 4)], false), (131, .ifCond .ne 6, 84, [], false), (134, .iinc 4 1, 0, [], false), (137, .iinc 6 1, 0, [], false), (140, .goto (-53), 55, [], false), (143, .iinc 5 1, 0, [], false), (146, .goto (-71), 48, [], false), (149, .iload 4, 0, [], false), (151, .ireturn, 0, [], false)]
def zc98 : List mzN := [(0, .iload_n 0, 0, [], false), (1, .iload_n 1, 0, [], false), (2, .if_icmp .lt 12, 8, [], false), (5, .iload_n 0, 0, [], false), (6, .iload_n 2, 0, [], false), (7, .if_icmp .gt 7, 8, [], false), (10, .iconst 1, 0, [], false), (11, .goto 4, 9, [], false), (14, .iconst 0, 0, [], false), (15, .ireturn, 1, [], false)]
def zc99 : List mzN := [(0, .aload_n 0, 0, [], false), (1, .getfield 38, 2, [(2, 0), (0, 20), (0, 20), (0, 0)], false), (4, .bipush 6, 0, [], false), (6, .if_icmp .ne 44, 27, [], false), (9, .iconst 0, 0, [], false), (10, .istore_n 1, 0, [], false), (11, .iload_n 1, 0, [], true), (12, .sipush 9400, 0, [], false), (15, .if_icmp .ge 25, 21, [], false), (18, .aload_n 0, 0, [], false), (19, .getfield 13, 1, [(0, 3), (0, 20), (0, 22), (0, 0)], false), (22, .iload_n 1, 0, [], false), (23, .aload_n 0, 0, [], false), (24, .getfield 13, 1, [(0, 3), (0, 20), (0, 22), (0, 0)], false), (27, .iload_n 1, 0, [], false), (28, .sipush 1880, 0, [], false), (31, .iadd, 0, [], false), (32, .iaload, 0, [], false), (33, .iastore, 0, [], false), (34, .iinc 1 1, 0, [], false), (37, .goto (-26), 6, [], false), (40, .aload_n 0, 0, [], false), (41, .dup, 0, [], false), (42, .getfield 38, 2, [(2, 0), (0, 20), (0, 20), (0, 0)], false), (45, .iconst 1, 0, [], false), (46, .isub, 0, [], false), (47, .putfield 38, 2, [(2, 0), (0, 20), (0, 20), (0, 0)], false), (50, .iconst 0, 0, [], false), (51, .istore_n 1, 0, [], false), (52, .iload_n 1, 0, [], true), (53, .sipush 1880, 0, [], false), (56, .if_icmp .ge 30, 47, [], false), (59, .aload_n 0, 0, [], false), (60, .getfield 13, 1, [(0, 3), (0, 20), (0, 22), (0, 0)], false), (63, .sipush 1880, 0, [], false), (66, .aload_n 0, 0, [], false), (67, .getfield 38, 2, [(2, 0), (0, 20), (0, 20), (0, 0)], false), (70, .imul, 0, [], false), (71, .iload_n 1, 0, [], false), (72, .iadd, 0, [], false), (73, .aload_n 0, 0, [], false), (74, .getfield 7, 0, [(0, 3), (0, 20), (0, 21), (0, 0)], false), (77, .iload_n 1, 0, [], false), (78, .iaload, 0, [], false), (79, .iastore, 0, [], false), (80, .iinc 1 1, 0, [], false), (83, .goto (-31), 29, [], false), (86, .aload_n 0, 0, [], false), (87, .dup, 0, [], false), (88, .getfield 38, 2, [(2, 0), (0, 20), (0, 20), (0, 0)], false), (91, .iconst 1, 0, [], false), (92, .iadd, 0, [], false), (93, .putfield 38, 2, [(2, 0), (0, 20), (0, 20), (0, 0)], false), (96, .return_, 0, [], false)]
def zc100 : List mzN := [(0, .aload_n 0, 0, [], false), (1, .getfield 38, 2, [(2, 0), (0, 20), (0, 20), (0, 0)], false), (4, .ifCond .ne 6, 5, [], false), (7, .bipush (-2), 0, [], false), (9, .ireturn, 0, [], false), (10, .aload_n 0, 0, [], false), (11, .dup, 0, [], false), (12, .getfield 38, 2, [(2, 0), (0, 20), (0, 20), (0, 0)], false), (15, .iconst 1, 0, [], false), (16, .isub, 0, [], false), (17, .putfield 38, 2, [(2, 0), (0, 20), (0, 20), (0, 0)], false), (20, .iconst 0, 0, [], false), (21, .istore_n 1, 0, [], false), (22, .iload_n 1, 0, [], true), (23, .sipush 1880, 0, [], false), (26, .if_icmp .ge 30, 31, [], false), (29, .aload_n 0, 0, [], false), (30, .getfield 7, 0, [(0, 3), (0, 20), (0, 21), (0, 0)], false), (33, .iload_n 1, 0, [], false), (34, .aload_n 0, 0, [], false), (35, .getfield 13, 1, [(0, 3), (0, 20), (0, 22), (0, 0)], false), (38, .sipush 1880, 0, [], false), (41, .aload_n 0, 0, [], false), (42, .getfield 38, 2, [(2, 0), (0, 20), (0, 20), (0, 0)], false), (45, .imul, 0, [], false), (46, .iload_n 1, 0, [], false), (47, .iadd, 0, [], false), (48, .iaload, 0, [], false), (49, .iastore, 0, [], false), (50, .iinc 1 1, 0, [], false), (53, .goto (-31), 13, [], false), (56, .aload_n 0, 0, [], false), (57, .getfield 38, 2, [(2, 0), (0, 20), (0, 20), (0, 0)], false), (60, .ireturn, 0, [], false)]
def zc101 : List mzN := [(0, .aload_n 0, 0, [], false), (1, .getfield 7, 0, [(0, 3), (0, 20), (0, 21), (0, 0)], false), (4, .iconst 0, 0, [], false), (5, .iaload, 0, [], false), (6, .aload_n 0, 0, [], false), (7, .getfield 7, 0, [(0, 3), (0, 20), (0, 21), (0, 0)], false), (10, .iconst 1, 0, [], false), (11, .iaload, 0, [], false), (12, .imul, 0, [], false), (13, .ireturn, 0, [], false)]
def zc102 : List mzN := [(0, .aload_n 0, 0, [], false), (1, .invokevirtual 42, 101, [(1, 1), (0, 21)], false), (4, .bipush 16, 0, [], false), (6, .idiv, 0, [], false), (7, .ireturn, 0, [], false)]
def zc103 : List mzN := [(0, .iload_n 1, 0, [], false), (1, .iconst 0, 0, [], false), (2, .aload_n 0, 0, [], false), (3, .getfield 7, 0, [(0, 3), (0, 20), (0, 21), (0, 0)], false), (6, .iconst 2, 0, [], false), (7, .iaload, 0, [], false), (8, .iconst 1, 0, [], false), (9, .isub, 0, [], false), (10, .invokestatic 46, 98, [(3, 1), (0, 0)], false), (13, .ireturn, 1, [], false)]
def zc104 : List mzN := [(0, .iload_n 1, 0, [], false), (1, .ifCond .ge 15, 9, [], false), (4, .aload_n 0, 0, [], false), (5, .getfield 7, 0, [(0, 3), (0, 20), (0, 21), (0, 0)], false), (8, .bipush 6, 0, [], false), (10, .iload_n 2, 0, [], false), (11, .iadd, 0, [], false), (12, .iaload, 0, [], false), (13, .goto 19, 19, [], false), (16, .aload_n 0, 0, [], false), (17, .getfield 7, 0, [(0, 3), (0, 20), (0, 21), (0, 0)], false), (20, .sipush 150, 0, [], false), (23, .sipush 144, 0, [], false), (26, .iload_n 1, 0, [], false), (27, .imul, 0, [], false), (28, .iadd, 0, [], false), (29, .iload_n 2, 0, [], false), (30, .iadd, 0, [], false), (31, .iaload, 0, [], false), (32, .ireturn, 0, [], false)]
def zc105 : List mzN := [(0, .aload_n 0, 0, [], false), (1, .getfield 7, 0, [(0, 3), (0, 20), (0, 21), (0, 0)], false), (4, .sipush 1590, 0, [], false), (7, .iload_n 1, 0, [], false), (8, .iadd, 0, [], false), (9, .iaload, 0, [], false), (10, .ireturn, 0, [], false)]
def zc106 : List mzN := [(0, .iconst 0, 0, [], false), (1, .istore_n 2, 0, [], false), (2, .iload_n 1, 0, [], false), (3, .istore_n 3, 0, [], false), (4, .aload_n 0, 0, [], true), (5, .iload_n 3, 0, [], false), (6, .invokevirtual 50, 105, [(2, 1), (0, 21)], false), (9, .iconst (-1), 0, [], false), (10, .if_icmp .eq 15, 15, [], false), (13, .iinc 2 1, 0, [], false), (16, .aload_n 0, 0, [], false), (17, .iload_n 3, 0, [], false), (18, .invokevirtual 50, 105, [(2, 1), (0, 21)], false), (21, .istore_n 3, 0, [], false), (22, .goto (-18), 4, [], false), (25, .iload_n 2, 0, [], false), (26, .ireturn, 0, [], false)]
def zc107 : List mzN := [(0, .aload_n 0, 0, [], false), (1, .getfield 7, 0, [(0, 3), (0, 20), (0, 21), (0, 0)], false), (4, .sipush 1600, 0, [], false), (7, .iload_n 1, 0, [], false), (8, .iadd, 0, [], false), (9, .iaload, 0, [], false), (10, .ifCond .ne 7, 9, [], false), (13, .iconst 1, 0, [], false), (14, .goto 4, 10, [], false), (17, .iconst 0, 0, [], false), (18, .istore_n 2, 0, [], false), (19, .iload_n 1, 0, [], false), (20, .istore_n 3, 0, [], false), (21, .aload_n 0, 0, [], true), (22, .iload_n 3, 0, [], false), (23, .invokevirtual 50, 105, [(2, 1), (0, 21)], false), (26, .iconst (-1), 0, [], false), (27, .if_icmp .eq 39, 38, [], false), (30, .iload_n 2, 0, [], false), (31, .ifCond .eq 35, 38, [], false), (34, .aload_n 0, 0, [], false), (35, .getfield 7, 0, [(0, 3), (0, 20), (0, 21), (0, 0)], false), (38, .sipush 1600, 0, [], false), (41, .aload_n 0, 0, [], false), (42, .iload_n 3, 0, [], false), (43, .invokevirtual 50, 105, [(2, 1), (0, 21)], false), (46, .iadd, 0, [], false), (47, .iaload, 0, [], false), (48, .ifCond .ne 7, 31, [], false), (51, .iconst 1, 0, [], false), (52, .goto 4, 32, [], false), (55, .iconst 0, 0, [], false), (56, .istore_n 2, 0, [], false), (57, .aload_n 0, 0, [], false), (58, .iload_n 3, 0, [], false), (59, .invokevirtual 50, 105, [(2, 1), (0, 21)], false), (62, .istore_n 3, 0, [], false), (63, .goto (-42), 13, [], false), (66, .iload_n 2, 0, [], false), (67, .ireturn, 1, [], false)]
def zc108 : List mzN := [(0, .iconst 0, 0, [], false), (1, .istore_n 1, 0, [], false), (2, .iconst 0, 0, [], false), (3, .istore_n 2, 0, [], false), (4, .iload_n 2, 0, [], true), (5, .aload_n 0, 0, [], false), (6, .getfield 7, 0, [(0, 3), (0, 20), (0, 21), (0, 0)], false), (9, .iconst 2, 0, [], false), (10, .iaload, 0, [], false), (11, .if_icmp .ge 25, 22, [], false), (14, .iload_n 1, 0, [], false), (15, .aload_n 0, 0, [], false), (16, .iload_n 2, 0, [], false), (17, .invokevirtual 54, 107, [(2, 1), (0, 21)], false), (20, .ifCond .eq 7, 17, [], false), (23, .iconst 1, 0, [], false), (24, .goto 4, 18, [], false), (27, .iconst 0, 0, [], false), (28, .iadd, 0, [], false), (29, .istore_n 1, 0, [], false), (30, .iinc 2 1, 0, [], false), (33, .goto (-29), 4, [], false), (36, .iload_n 1, 0, [], false), (37, .ireturn, 0, [], false)]
def zc109 : List mzN := [(0, .iload_n 1, 0, [], false), (1, .iconst 4, 0, [], false), (2, .irem, 0, [], false), (3, .ifCond .ne 29, 18, [], false), (6, .iload_n 2, 0, [], false), (7, .iconst 4, 0, [], false), (8, .irem, 0, [], false), (9, .ifCond .ne 23, 18, [], false), (12, .iload_n 1, 0, [], false), (13, .iconst 4, 0, [], false), (14, .bipush 12, 0, [], false), (16, .invokestatic 46, 98, [(3, 1), (0, 0)], false), (19, .ifCond .eq 13, 18, [], false), (22, .iload_n 2, 0, [], false), (23, .iconst 4, 0, [], false), (24, .bipush 12, 0, [], false), (26, .invokestatic 46, 98, [(3, 1), (0, 0)], false), (29, .ifCond .ne 5, 20, [], false), (32, .iconst (-1), 0, [], false), (33, .ireturn, 0, [], false), (34, .aload_n 0, 0, [], false), (35, .invokevirtual 58, 99, [(1, 0), (0, 21)], false), (38, .aload_n 0, 0, [], false), (39, .getfield 7, 0, [(0, 3), (0, 20), (0, 21), (0, 0)], false), (42, .iconst 0, 0, [], false), (43, .iload_n 1, 0, [], false), (44, .iastore, 0, [], false), (45, .aload_n 0, 0, [], false), (46, .getfield 7, 0, [(0, 3), (0, 20), (0, 21), (0, 0)], false), (49, .iconst 1, 0, [], false), (50, .iload_n 2, 0, [], false), (51, .iastore, 0, [], false), (52, .aload_n 0, 0, [], false), (53, .getfield 7, 0, [(0, 3), (0, 20), (0, 21), (0, 0)], false), (56, .iconst 2, 0, [], false), (57, .iconst 0, 0, [], false), (58, .iastore, 0, [], false), (59, .bipush 6, 0, [], false), (61, .istore_n 3, 0, [], false), (62, .iload_n 3, 0, [], true), (63, .sipush 1880, 0, [], false), (66, .if_icmp .ge 16, 49, [], false), (69, .aload_n 0, 0, [], false), (70, .getfield 7, 0, [(0, 3), (0, 20), (0, 21), (0, 0)], false), (73, .iload_n 3, 0, [], false), (74, .iconst 0, 0, [], false), (75, .iastore, 0, [], false), (76, .iinc 3 1, 0, [], false), (79, .goto (-17), 39, [], false), (82, .aload_n 0, 0, [], false), (83, .invokevirtual 61, 102, [(1, 1), (0, 21)], false), (86, .ireturn, 0, [], false)]
def zc110 : List mzN := [(0, .iload_n 1, 0, [], false), (1, .iconst 0, 0, [], false), (2, .aload_n 0, 0, [], false), (3, .invokevirtual 42, 101, [(1, 1), (0, 21)], false), (6, .iconst 1, 0, [], false), (7, .isub, 0, [], false), (8, .invokestatic 46, 98, [(3, 1), (0, 0)], false), (11, .ireturn, 1, [], false)]
def zc111 : List mzN := [(0, .aload_n 0, 0, [], false), (1, .iload_n 1, 0, [], false), (2, .invokevirtual 64, 110, [(2, 1), (0, 21)], false), (5, .ifCond .eq 13, 9, [], false), (8, .iload_n 2, 0, [], false), (9, .iconst 0, 0, [], false), (10, .bipush 15, 0, [], false), (12, .invokestatic 46, 98, [(3, 1), (0, 0)], false), (15, .ifCond .ne 5, 11, [], false), (18, .iconst (-1), 0, [], false), (19, .ireturn, 0, [], false), (20, .aload_n 0, 0, [], false), (21, .invokevirtual 58, 99, [(1, 0), (0, 21)], false), (24, .aload_n 0, 0, [], false), (25, .getfield 7, 0, [(0, 3), (0, 20), (0, 21), (0, 0)], false), (28, .bipush 6, 0, [], false), (30, .iload_n 1, 0, [], false), (31, .iadd, 0, [], false), (32, .iaload, 0, [], false), (33, .istore_n 3, 0, [], false), (34, .aload_n 0, 0, [], false), (35, .getfield 7, 0, [(0, 3), (0, 20), (0, 21), (0, 0)], false), (38, .bipush 6, 0, [], false), (40, .iload_n 1, 0, [], false), (41, .iadd, 0, [], false), (42, .iload_n 2, 0, [], false), (43, .iastore, 0, [], false), (44, .iload_n 3, 0, [], false), (45, .ireturn, 0, [], false)]
def zc112 : List mzN := [(0, .aload_n 0, 0, [], false), (1, .iload_n 1, 0, [], false), (2, .invokevirtual 64, 110, [(2, 1), (0, 21)], false), (5, .ifCond .eq 15, 11, [], false), (8, .aload_n 0, 0, [], false), (9, .getfield 7, 0, [(0, 3), (0, 20), (0, 21), (0, 0)], false), (12, .bipush 6, 0, [], false), (14, .iload_n 1, 0, [], false), (15, .iadd, 0, [], false), (16, .iaload, 0, [], false), (17, .goto 4, 12, [], false), (20, .iconst (-1), 0, [], false), (21, .ireturn, 0, [], false)]
def zc113 : List mzN := [(0, .iload_n 1, 0, [], false), (1, .iconst 0, 0, [], false), (2, .sipush 255, 0, [], false), (5, .invokestatic 46, 98, [(3, 1), (0, 0)], false), (8, .ifCond .ne 5, 7, [], false), (11, .iconst (-1), 0, [], false), (12, .ireturn, 0, [], false), (13, .aload_n 0, 0, [], false), (14, .getfield 67, 4, [(4, 0), (0, 20), (0, 20), (0, 0)], false), (17, .sipush 160, 0, [], false), (20, .if_icmp .ne 6, 13, [], false), (23, .bipush (-3), 0, [], false), (25, .ireturn, 0, [], false), (26, .aload_n 0, 0, [], false), (27, .getfield 16, 3, [(0, 3), (0, 20), (0, 23), (0, 0)], false), (30, .aload_n 0, 0, [], false), (31, .getfield 67, 4, [(4, 0), (0, 20), (0, 20), (0, 0)], false), (34, .iload_n 1, 0, [], false), (35, .i2b, 0, [], false), (36, .bastore, 0, [], false), (37, .aload_n 0, 0, [], false), (38, .dup, 0, [], false), (39, .getfield 67, 4, [(4, 0), (0, 20), (0, 20), (0, 0)], false), (42, .iconst 1, 0, [], false), (43, .iadd, 0, [], false), (44, .putfield 67, 4, [(4, 0), (0, 20), (0, 20), (0, 0)], false), (47, .aload_n 0, 0, [], false), (48, .getfield 67, 4, [(4, 0), (0, 20), (0, 20), (0, 0)], false), (51, .ireturn, 0, [], false)]
def zc114 : List mzN := [(0, .aload_n 0, 0, [], false), (1, .getfield 67, 4, [(4, 0), (0, 20), (0, 20), (0, 0)], false), (4, .istore_n 1, 0, [], false), (5, .aload_n 0, 0, [], false), (6, .iconst 0, 0, [], false), (7, .putfield 67, 4, [(4, 0), (0, 20), (0, 20), (0, 0)], false), (10, .iload_n 1, 0, [], false), (11, .ireturn, 0, [], false)]
def zc115 : List mzN := [(0, .aload_n 0, 0, [], false), (1, .getfield 70, 5, [(5, 0), (0, 20), (0, 20), (0, 0)], false), (4, .aload_n 0, 0, [], false), (5, .getfield 67, 4, [(4, 0), (0, 20), (0, 20), (0, 0)], false), (8, .if_icmp .ge 19, 13, [], false), (11, .aload_n 0, 0, [], false), (12, .getfield 16, 3, [(0, 3), (0, 20), (0, 23), (0, 0)], false), (15, .aload_n 0, 0, [], false), (16, .getfield 70, 5, [(5, 0), (0, 20), (0, 20), (0, 0)], false), (19, .baload, 0, [], false), (20, .sipush 255, 0, [], false), (23, .iand, 0, [], false), (24, .goto 4, 14, [], false), (27, .iconst (-1), 0, [], false), (28, .ireturn, 0, [], false)]
def zc116 : List mzN := [(0, .aload_n 0, 0, [], true), (1, .invokevirtual 73, 115, [(1, 1), (0, 21)], false), (4, .bipush 32, 0, [], false), (6, .if_icmp .ne 16, 11, [], false), (9, .aload_n 0, 0, [], false), (10, .dup, 0, [], false), (11, .getfield 70, 5, [(5, 0), (0, 20), (0, 20), (0, 0)], false), (14, .iconst 1, 0, [], false), (15, .iadd, 0, [], false), (16, .putfield 70, 5, [(5, 0), (0, 20), (0, 20), (0, 0)], false), (19, .goto (-19), 0, [], false), (22, .aload_n 0, 0, [], false), (23, .aload_n 0, 0, [], false), (24, .getfield 70, 5, [(5, 0), (0, 20), (0, 20), (0, 0)], false), (27, .putfield 76, 6, [(6, 0), (0, 20), (0, 20), (0, 0)], false), (30, .aload_n 0, 0, [], false), (31, .lconst 0, 0, [], false), (32, .putfield 79, 8, [(0, 2), (0, 20), (0, 33), (0, 0)], false), (35, .aload_n 0, 0, [], false), (36, .aload_n 0, 0, [], false), (37, .invokevirtual 73, 115, [(1, 1), (0, 21)], false), (40, .bipush 45, 0, [], false), (42, .if_icmp .ne 7, 25, [], false), (45, .iconst 1, 0, [], false), (46, .goto 4, 26, [], false), (49, .iconst 0, 0, [], false), (50, .putfield 83, 9, [(9, 1), (0, 20), (0, 20), (0, 0)], false), (53, .aload_n 0, 0, [], false), (54, .dup, 0, [], false), (55, .getfield 70, 5, [(5, 0), (0, 20), (0, 20), (0, 0)], false), (58, .aload_n 0, 0, [], false), (59, .getfield 83, 9, [(9, 1), (0, 20), (0, 20), (0, 0)], false), (62, .ifCond .eq 7, 35, [], false), (65, .iconst 1, 0, [], false), (66, .goto 4, 36, [], false), (69, .iconst 0, 0, [], false), (70, .iadd, 0, [], false), (71, .putfield 70, 5, [(5, 0), (0, 20), (0, 20), (0, 0)], false), (74, .aload_n 0, 0, [], false), (75, .getfield 83, 9, [(9, 1), (0, 20), (0, 20), (0, 0)], false), (78, .ifCond .ne 93, 86, [], false), (81, .aload_n 0, 0, [], false), (82, .invokevirtual 73, 115, [(1, 1), (0, 21)], false), (85, .bipush 97, 0, [], false), (87, .bipush 122, 0, [], false), (89, .invokestatic 46, 98, [(3, 1), (0, 0)], false), (92, .ifCond .eq 79, 86, [], false), (95, .aload_n 0, 0, [], false), (96, .iconst 1, 0, [], false), (97, .putfield 87, 7, [(7, 0), (0, 20), (0, 20), (0, 0)], false), (100, .aload_n 0, 0, [], true), (101, .invokevirtual 73, 115, [(1, 1), (0, 21)], false), (104, .bipush 97, 0, [], false), (106, .bipush 122, 0, [], false), (108, .invokestatic 46, 98, [(3, 1), (0, 0)], false), (111, .ifCond .eq 257, 185, [], false), (114, .aload_n 0, 0, [], false), (115, .aload_n 0, 0, [], false), (116, .getfield 70, 5, [(5, 0), (0, 20), (0, 20), (0, 0)], false), (119, .aload_n 0, 0, [], false), (120, .getfield 76, 6, [(6, 0), (0, 20), (0, 20), (0, 0)], false), (123, .isub, 0, [], false), (124, .bipush 8, 0, [], false), (126, .if_icmp .ge 26, 77, [], false), (129, .ldc2_w 90, 0, [(27, 0)], false), (132, .aload_n 0, 0, [], false), (133, .getfield 79, 8, [(0, 2), (0, 20), (0, 33), (0, 0)], false), (136, .lmul, 0, [], false), (137, .aload_n 0, 0, [], false), (138, .invokevirtual 73, 115, [(1, 1), (0, 21)], false), (141, .i2l, 0, [], false), (142, .ladd, 0, [], false), (143, .ldc2_w 92, 0, [(97, 0)], false), (146, .lsub, 0, [], false), (147, .lconst 1, 0, [], false), (148, .ladd, 0, [], false), (149, .goto 6, 78, [], false), (152, .ldc2_w 94, 0, [((-1), 0)], false), (155, .putfield 79, 8, [(0, 2), (0, 20), (0, 33), (0, 0)], false), (158, .aload_n 0, 0, [], false), (159, .dup, 0, [], false), (160, .getfield 70, 5, [(5, 0), (0, 20), (0, 20), (0, 0)], false), (163, .iconst 1, 0, [], false), (164, .iadd, 0, [], false), (165, .putfield 70, 5, [(5, 0), (0, 20), (0, 20), (0, 0)], false), (168, .goto (-68), 50, [], false), (171, .aload_n 0, 0, [], false), (172, .invokevirtual 73, 115, [(1, 1), (0, 21)], true), (175, .bipush 48, 0, [], false), (177, .bipush 57, 0, [], false), (179, .invokestatic 46, 98, [(3, 1), (0, 0)], false), (182, .ifCond .eq 118, 152, [], false), (185, .aload_n 0, 0, [], false), (186, .getfield 70, 5, [(5, 0), (0, 20), (0, 20), (0, 0)], false), (189, .istore_n 1, 0, [], false), (190, .aload_n 0, 0, [], true), (191, .invokevirtual 73, 115, [(1, 1), (0, 21)], false), (194, .bipush 48, 0, [], false), (196, .bipush 57, 0, [], false), (198, .invokestatic 46, 98, [(3, 1), (0, 0)], false), (201, .ifCond .eq 56, 128, [], false), (204, .aload_n 0, 0, [], false), (205, .aload_n 0, 0, [], false), (206, .getfield 79, 8, [(0, 2), (0, 20), (0, 33), (0, 0)], false), (209, .ldc2_w 96, 0, [(1000, 0)], false), (212, .lcmp, 0, [], false), (213, .ifCond .ge 24, 118, [], false), (216, .ldc2_w 98, 0, [(10, 0)], false), (219, .aload_n 0, 0, [], false), (220, .getfield 79, 8, [(0, 2), (0, 20), (0, 33), (0, 0)], false), (223, .lmul, 0, [], false), (224, .aload_n 0, 0, [], false), (225, .invokevirtual 73, 115, [(1, 1), (0, 21)], false), (228, .i2l, 0, [], false), (229, .ladd, 0, [], false), (230, .ldc2_w 100, 0, [(48, 0)], false), (233, .lsub, 0, [], false), (234, .goto 7, 120, [], false), (237, .aload_n 0, 0, [], false), (238, .getfield 79, 8, [(0, 2), (0, 20), (0, 33), (0, 0)], false), (241, .putfield 79, 8, [(0, 2), (0, 20), (0, 33), (0, 0)], false), (244, .aload_n 0, 0, [], false), (245, .dup, 0, [], false), (246, .getfield 70, 5, [(5, 0), (0, 20), (0, 20), (0, 0)], false), (249, .iconst 1, 0, [], false), (250, .iadd, 0, [], false), (251, .putfield 70, 5, [(5, 0), (0, 20), (0, 20), (0, 0)], false), (254, .goto (-64), 95, [], false), (257, .aload_n 0, 0, [], false), (258, .aload_n 0, 0, [], false), (259, .getfield 70, 5, [(5, 0), (0, 20), (0, 20), (0, 0)], false), (262, .iload_n 1, 0, [], false), (263, .isub, 0, [], false), (264, .iconst 2, 0, [], false), (265, .if_icmp .gt 24, 147, [], false), (268, .aload_n 0, 0, [], false), (269, .getfield 16, 3, [(0, 3), (0, 20), (0, 23), (0, 0)], false), (272, .iload_n 1, 0, [], false), (273, .baload, 0, [], false), (274, .bipush 48, 0, [], false), (276, .if_icmp .ne 17, 149, [], false), (279, .aload_n 0, 0, [], false), (280, .getfield 70, 5, [(5, 0), (0, 20), (0, 20), (0, 0)], false), (283, .iload_n 1, 0, [], false), (284, .isub, 0, [], false), (285, .iconst 1, 0, [], false), (286, .if_icmp .le 7, 149, [], false), (289, .iconst 4, 0, [], false), (290, .goto 4, 150, [], false), (293, .iconst 2, 0, [], false), (294, .putfield 87, 7, [(7, 0), (0, 20), (0, 20), (0, 0)], false), (297, .goto 71, 185, [], false), (300, .aload_n 0, 0, [], false), (301, .aload_n 0, 0, [], false), (302, .getfield 83, 9, [(9, 1), (0, 20), (0, 20), (0, 0)], false), (305, .ifCond .eq 7, 158, [], false), (308, .iconst 4, 0, [], false), (309, .goto 28, 170, [], false), (312, .aload_n 0, 0, [], false), (313, .invokevirtual 73, 115, [(1, 1), (0, 21)], false), (316, .ifCond .ge 7, 163, [], false), (319, .iconst 0, 0, [], false), (320, .goto 17, 170, [], false), (323, .aload_n 0, 0, [], false), (324, .invokevirtual 73, 115, [(1, 1), (0, 21)], false), (327, .bipush 59, 0, [], false), (329, .if_icmp .ne 7, 169, [], false), (332, .iconst 3, 0, [], false), (333, .goto 4, 170, [], false), (336, .iconst 4, 0, [], false), (337, .putfield 87, 7, [(7, 0), (0, 20), (0, 20), (0, 0)], false), (340, .aload_n 0, 0, [], false), (341, .dup, 0, [], false), (342, .getfield 70, 5, [(5, 0), (0, 20), (0, 20), (0, 0)], false), (345, .aload_n 0, 0, [], false), (346, .getfield 83, 9, [(9, 1), (0, 20), (0, 20), (0, 0)], false), (349, .ifCond .ne 10, 180, [], false), (352, .aload_n 0, 0, [], false), (353, .invokevirtual 73, 115, [(1, 1), (0, 21)], false), (356, .ifCond .ge 7, 182, [], false), (359, .iconst 0, 0, [], false), (360, .goto 4, 183, [], false), (363, .iconst 1, 0, [], false), (364, .iadd, 0, [], false), (365, .putfield 70, 5, [(5, 0), (0, 20), (0, 20), (0, 0)], false), (368, .return_, 0, [], false)]
def zc117 : List mzN := [(0, .aload_n 0, 0, [], false), (1, .aload_n 0, 0, [], false), (2, .getfield 102, 10, [(10, 1), (0, 20), (0, 20), (0, 0)], false), (5, .ifCond .ne 7, 6, [], false), (8, .iload_n 1, 0, [], false), (9, .ifCond .ne 7, 8, [], false), (12, .iconst 1, 0, [], false), (13, .goto 4, 9, [], false), (16, .iconst 0, 0, [], false), (17, .putfield 102, 10, [(10, 1), (0, 20), (0, 20), (0, 0)], false), (20, .aload_n 0, 0, [], false), (21, .getfield 102, 10, [(10, 1), (0, 20), (0, 20), (0, 0)], false), (24, .ifCond .ne 7, 15, [], false), (27, .aload_n 0, 0, [], false), (28, .invokevirtual 105, 116, [(1, 0), (0, 21)], false), (31, .return_, 0, [], false)]
def zc118 : List mzN := [(0, .aload_n 0, 0, [], false), (1, .getfield 83, 9, [(9, 1), (0, 20), (0, 20), (0, 0)], false), (4, .ifCond .eq 12, 8, [], false), (7, .aload_n 0, 0, [], false), (8, .getfield 79, 8, [(0, 2), (0, 20), (0, 33), (0, 0)], false), (11, .l2i, 0, [], false), (12, .ineg, 0, [], false), (13, .goto 8, 11, [], false), (16, .aload_n 0, 0, [], false), (17, .getfield 79, 8, [(0, 2), (0, 20), (0, 33), (0, 0)], false), (20, .l2i, 0, [], false), (21, .istore_n 3, 0, [], false), (22, .aload_n 0, 0, [], false), (23, .getfield 87, 7, [(7, 0), (0, 20), (0, 20), (0, 0)], false), (26, .iconst 2, 0, [], false), (27, .if_icmp .ne 27, 28, [], false), (30, .iload_n 3, 0, [], false), (31, .iload_n 1, 0, [], false), (32, .iload_n 2, 0, [], false), (33, .invokestatic 46, 98, [(3, 1), (0, 0)], false), (36, .ifCond .eq 18, 28, [], false), (39, .aload_n 0, 0, [], false), (40, .getfield 83, 9, [(9, 1), (0, 20), (0, 20), (0, 0)], false), (43, .ifCond .eq 7, 26, [], false), (46, .iload_n 1, 0, [], false), (47, .ifCond .ge 7, 28, [], false), (50, .iconst 1, 0, [], false), (51, .goto 4, 29, [], false), (54, .iconst 0, 0, [], false), (55, .istore 4, 0, [], false), (57, .aload_n 0, 0, [], false), (58, .iload 4, 0, [], false), (60, .invokevirtual 108, 117, [(2, 0), (0, 21)], false), (63, .iload 4, 0, [], false), (65, .ifCond .eq 7, 37, [], false), (68, .iload_n 3, 0, [], false), (69, .goto 4, 38, [], false), (72, .iconst 0, 0, [], false), (73, .ireturn, 0, [], false)]
def zc119 : List mzN := [(0, .iload_n 2, 0, [], false), (1, .aload_n 0, 0, [], false), (2, .getfield 7, 0, [(0, 3), (0, 20), (0, 21), (0, 0)], false), (5, .iconst 0, 0, [], false), (6, .iaload, 0, [], false), (7, .imul, 0, [], false), (8, .iload_n 1, 0, [], false), (9, .iadd, 0, [], false), (10, .ireturn, 0, [], false)]
def zc120 : List mzN := [(0, .iconst 0, 0, [], false), (1, .istore_n 1, 0, [], false), (2, .iload_n 1, 0, [], true), (3, .sipush 144, 0, [], false), (6, .if_icmp .ge 24, 17, [], false), (9, .aload_n 0, 0, [], false), (10, .getfield 20, 11, [(0, 3), (0, 20), (0, 24), (0, 0)], false), (13, .iload_n 1, 0, [], false), (14, .aload_n 0, 0, [], false), (15, .getfield 7, 0, [(0, 3), (0, 20), (0, 21), (0, 0)], false), (18, .bipush 6, 0, [], false), (20, .iload_n 1, 0, [], false), (21, .iadd, 0, [], false), (22, .iaload, 0, [], false), (23, .iastore, 0, [], false), (24, .iinc 1 1, 0, [], false), (27, .goto (-25), 2, [], false), (30, .return_, 0, [], false)]
def zc121 : List mzN := [(0, .iconst 0, 0, [], false), (1, .istore 6, 0, [], false), (3, .iload 6, 0, [], true), (5, .aload_n 0, 0, [], false), (6, .invokevirtual 42, 101, [(1, 1), (0, 21)], false), (9, .if_icmp .ge 92, 57, [], false), (12, .aload_n 0, 0, [], false), (13, .getfield 102, 10, [(10, 1), (0, 20), (0, 20), (0, 0)], false), (16, .ifCond .ne 85, 57, [], false), (19, .iload 6, 0, [], false), (21, .aload_n 0, 0, [], false), (22, .getfield 7, 0, [(0, 3), (0, 20), (0, 21), (0, 0)], false), (25, .iconst 0, 0, [], false), (26, .iaload, 0, [], false), (27, .irem, 0, [], false), (28, .istore 7, 0, [], false), (30, .iload 6, 0, [], false), (32, .aload_n 0, 0, [], false), (33, .getfield 7, 0, [(0, 3), (0, 20), (0, 21), (0, 0)], false), (36, .iconst 0, 0, [], false), (37, .iaload, 0, [], false), (38, .idiv, 0, [], false), (39, .istore 8, 0, [], false), (41, .aload_n 0, 0, [], false), (42, .getfield 7, 0, [(0, 3), (0, 20), (0, 21), (0, 0)], false), (45, .bipush 6, 0, [], false), (47, .iload 6, 0, [], false), (49, .iadd, 0, [], false), (50, .iload 7, 0, [], false), (52, .iload_n 1, 0, [], false), (53, .iload_n 1, 0, [], false), (54, .iload_n 3, 0, [], false), (55, .iadd, 0, [], false), (56, .iconst 1, 0, [], false), (57, .isub, 0, [], false), (58, .invokestatic 46, 98, [(3, 1), (0, 0)], false), (61, .ifCond .eq 23, 48, [], false), (64, .iload 8, 0, [], false), (66, .iload_n 2, 0, [], false), (67, .iload_n 2, 0, [], false), (68, .iload 4, 0, [], false), (70, .iadd, 0, [], false), (71, .iconst 1, 0, [], false), (72, .isub, 0, [], false), (73, .invokestatic 46, 98, [(3, 1), (0, 0)], false), (76, .ifCond .eq 8, 48, [], false), (79, .iload 5, 0, [], false), (81, .goto 13, 54, [], false), (84, .aload_n 0, 0, [], false), (85, .getfield 7, 0, [(0, 3), (0, 20), (0, 21), (0, 0)], false), (88, .bipush 6, 0, [], false), (90, .iload 6, 0, [], false), (92, .iadd, 0, [], false), (93, .iaload, 0, [], false), (94, .iastore, 0, [], false), (95, .iinc 6 1, 0, [], false), (98, .goto (-95), 2, [], false), (101, .return_, 0, [], false)]
def zc122 : List mzN := [(0, .aload_n 0, 0, [], false), (1, .invokevirtual 112, 120, [(1, 0), (0, 21)], false), (4, .iconst 0, 0, [], false), (5, .istore_n 3, 0, [], false), (6, .iload_n 3, 0, [], true), (7, .aload_n 0, 0, [], false), (8, .invokevirtual 42, 101, [(1, 1), (0, 21)], false), (11, .if_icmp .ge 100, 66, [], false), (14, .aload_n 0, 0, [], false), (15, .getfield 102, 10, [(10, 1), (0, 20), (0, 20), (0, 0)], false), (18, .ifCond .ne 93, 66, [], false), (21, .iload_n 3, 0, [], false), (22, .aload_n 0, 0, [], false), (23, .getfield 7, 0, [(0, 3), (0, 20), (0, 21), (0, 0)], false), (26, .iconst 0, 0, [], false), (27, .iaload, 0, [], false), (28, .irem, 0, [], false), (29, .iload_n 1, 0, [], false), (30, .isub, 0, [], false), (31, .istore 4, 0, [], false), (33, .iload_n 3, 0, [], false), (34, .aload_n 0, 0, [], false), (35, .getfield 7, 0, [(0, 3), (0, 20), (0, 21), (0, 0)], false), (38, .iconst 0, 0, [], false), (39, .iaload, 0, [], false), (40, .idiv, 0, [], false), (41, .iload_n 2, 0, [], false), (42, .isub, 0, [], false), (43, .istore 5, 0, [], false), (45, .aload_n 0, 0, [], false), (46, .getfield 7, 0, [(0, 3), (0, 20), (0, 21), (0, 0)], false), (49, .bipush 6, 0, [], false), (51, .iload_n 3, 0, [], false), (52, .iadd, 0, [], false), (53, .iload 4, 0, [], false), (55, .iconst 0, 0, [], false), (56, .aload_n 0, 0, [], false), (57, .getfield 7, 0, [(0, 3), (0, 20), (0, 21), (0, 0)], false), (60, .iconst 0, 0, [], false), (61, .iaload, 0, [], false), (62, .iconst 1, 0, [], false), (63, .isub, 0, [], false), (64, .invokestatic 46, 98, [(3, 1), (0, 0)], false), (67, .ifCond .eq 36, 62, [], false), (70, .iload 5, 0, [], false), (72, .iconst 0, 0, [], false), (73, .aload_n 0, 0, [], false), (74, .getfield 7, 0, [(0, 3), (0, 20), (0, 21), (0, 0)], false), (77, .iconst 1, 0, [], false), (78, .iaload, 0, [], false), (79, .iconst 1, 0, [], false), (80, .isub, 0, [], false), (81, .invokestatic 46, 98, [(3, 1), (0, 0)], false), (84, .ifCond .eq 19, 62, [], false), (87, .aload_n 0, 0, [], false), (88, .getfield 20, 11, [(0, 3), (0, 20), (0, 24), (0, 0)], false), (91, .aload_n 0, 0, [], false), (92, .iload 4, 0, [], false), (94, .iload 5, 0, [], false), (96, .invokevirtual 115, 119, [(3, 1), (0, 21)], false), (99, .iaload, 0, [], false), (100, .goto 4, 63, [], false), (103, .iconst 0, 0, [], false), (104, .iastore, 0, [], false), (105, .iinc 3 1, 0, [], false), (108, .goto (-102), 4, [], false), (111, .return_, 0, [], false)]
def zc123 : List mzN := [(0, .aload_n 0, 0, [], false), (1, .getfield 87, 7, [(7, 0), (0, 20), (0, 20), (0, 0)], false), (4, .iconst 1, 0, [], false), (5, .if_icmp .ne 10, 7, [], false), (8, .aload_n 0, 0, [], false), (9, .getfield 79, 8, [(0, 2), (0, 20), (0, 33), (0, 0)], false), (12, .goto 6, 8, [], false), (15, .ldc2_w 94, 0, [((-1), 0)], false), (18, .lstore_n 1, 0, [], false), (19, .lload_n 1, 0, [], false), (20, .ldc2_w 119, 0, [(124995, 0)], false), (23, .lcmp, 0, [], false), (24, .ifCond .ne 7, 15, [], false), (27, .iconst 1, 0, [], false), (28, .goto 4, 16, [], false), (31, .iconst 0, 0, [], false), (32, .istore_n 3, 0, [], false), (33, .lload_n 1, 0, [], false), (34, .ldc2_w 121, 0, [(1887, 0)], false), (37, .lcmp, 0, [], false), (38, .ifCond .ne 7, 23, [], false), (41, .iconst 1, 0, [], false), (42, .goto 4, 24, [], false), (45, .iconst 0, 0, [], false), (46, .istore 4, 0, [], false), (48, .lload_n 1, 0, [], false), (49, .ldc2_w 123, 0, [(10261586, 0)], false), (52, .lcmp, 0, [], false), (53, .ifCond .ne 7, 31, [], true), (56, .iconst 1, 0, [], false), (57, .goto 4, 32, [], false), (60, .iconst 0, 0, [], false), (61, .istore 5, 0, [], false), (63, .lload_n 1, 0, [], false), (64, .ldc2_w 125, 0, [(390787, 0)], false), (67, .lcmp, 0, [], false), (68, .ifCond .ne 7, 39, [], false), (71, .iconst 1, 0, [], false), (72, .goto 4, 40, [], false), (75, .iconst 0, 0, [], false), (76, .istore 6, 0, [], false), (78, .aload_n 0, 0, [], false), (79, .iload_n 3, 0, [], false), (80, .ifCond .ne 26, 54, [], true), (83, .iload 4, 0, [], false), (85, .ifCond .ne 21, 54, [], false), (88, .iload 5, 0, [], false), (90, .ifCond .ne 16, 54, [], false), (93, .iload 6, 0, [], false), (95, .ifCond .ne 11, 54, [], false), (98, .lload_n 1, 0, [], false), (99, .ldc2_w 127, 0, [(3544025, 0)], false), (102, .lcmp, 0, [], false), (103, .ifCond .ne 7, 56, [], false), (106, .iconst 1, 0, [], false), (107, .goto 4, 57, [], false), (110, .iconst 0, 0, [], false), (111, .invokevirtual 108, 117, [(2, 0), (0, 21)], true), (114, .aload_n 0, 0, [], false), (115, .getfield 102, 10, [(10, 1), (0, 20), (0, 20), (0, 0)], false), (118, .ifCond .eq 4, 62, [], false), (121, .return_, 0, [], false), (122, .iload_n 3, 0, [], false), (123, .ifCond .eq 23, 75, [], false), (126, .aload_n 0, 0, [], false), (127, .iconst 0, 0, [], false), (128, .iconst 0, 0, [], false), (129, .bipush 12, 0, [], false), (131, .bipush 12, 0, [], false), (133, .aload_n 0, 0, [], false), (134, .iconst 0, 0, [], false), (135, .bipush 15, 0, [], false), (137, .invokevirtual 129, 118, [(3, 1), (0, 21)], false), (140, .invokevirtual 132, 121, [(6, 0), (0, 21)], false), (143, .goto 293, 218, [], false), (146, .iload 4, 0, [], false), (148, .ifCond .eq 61, 108, [], false), (151, .aload_n 0, 0, [], false), (152, .iconst 0, 0, [], false), (153, .bipush 12, 0, [], false), (155, .invokevirtual 129, 118, [(3, 1), (0, 21)], false), (158, .istore 7, 0, [], false), (160, .aload_n 0, 0, [], false), (161, .iconst 0, 0, [], false), (162, .bipush 12, 0, [], false), (164, .invokevirtual 129, 118, [(3, 1), (0, 21)], false), (167, .istore 8, 0, [], false), (169, .aload_n 0, 0, [], false), (170, .iconst 0, 0, [], false), (171, .bipush 12, 0, [], false), (173, .invokevirtual 129, 118, [(3, 1), (0, 21)], false), (176, .istore 9, 0, [], false), (178, .aload_n 0, 0, [], false), (179, .iconst 0, 0, [], false), (180, .bipush 12, 0, [], false), (182, .invokevirtual 129, 118, [(3, 1), (0, 21)], false), (185, .istore 10, 0, [], false), (187, .aload_n 0, 0, [], false), (188, .iload 7, 0, [], false), (190, .iload 8, 0, [], false), (192, .iload 9, 0, [], false), (194, .iload 10, 0, [], false), (196, .aload_n 0, 0, [], false), (197, .iconst 0, 0, [], false), (198, .bipush 15, 0, [], false), (200, .invokevirtual 129, 118, [(3, 1), (0, 21)], false), (203, .invokevirtual 132, 121, [(6, 0), (0, 21)], false), (206, .goto 230, 218, [], false), (209, .iload 5, 0, [], false), (211, .ifCond .eq 30, 123, [], false), (214, .aload_n 0, 0, [], false), (215, .bipush (-12), 0, [], false), (217, .bipush 12, 0, [], false), (219, .invokevirtual 129, 118, [(3, 1), (0, 21)], false), (222, .istore 7, 0, [], false), (224, .aload_n 0, 0, [], false), (225, .iload 7, 0, [], false), (227, .aload_n 0, 0, [], false), (228, .bipush (-12), 0, [], false), (230, .bipush 12, 0, [], false), (232, .invokevirtual 129, 118, [(3, 1), (0, 21)], false), (235, .invokevirtual 136, 122, [(3, 0), (0, 21)], false), (238, .goto 198, 218, [], false), (241, .iload 6, 0, [], false), (243, .ifCond .eq 97, 171, [], false), (246, .aload_n 0, 0, [], false), (247, .iconst 0, 0, [], false), (248, .bipush 15, 0, [], false), (250, .invokevirtual 129, 118, [(3, 1), (0, 21)], false), (253, .istore 7, 0, [], false), (255, .aload_n 0, 0, [], false), (256, .iconst 0, 0, [], false), (257, .bipush 15, 0, [], false), (259, .invokevirtual 129, 118, [(3, 1), (0, 21)], false), (262, .istore 8, 0, [], false), (264, .iconst 0, 0, [], false), (265, .istore 9, 0, [], false), (267, .iload 9, 0, [], true), (269, .aload_n 0, 0, [], false), (270, .invokevirtual 42, 101, [(1, 1), (0, 21)], false), (273, .if_icmp .ge 64, 170, [], false), (276, .aload_n 0, 0, [], false), (277, .getfield 102, 10, [(10, 1), (0, 20), (0, 20), (0, 0)], false), (280, .ifCond .ne 57, 170, [], false), (283, .aload_n 0, 0, [], false), (284, .getfield 7, 0, [(0, 3), (0, 20), (0, 21), (0, 0)], false), (287, .bipush 6, 0, [], false), (289, .iload 9, 0, [], false), (291, .iadd, 0, [], false), (292, .iaload, 0, [], false), (293, .istore 10, 0, [], false), (295, .aload_n 0, 0, [], false), (296, .getfield 7, 0, [(0, 3), (0, 20), (0, 21), (0, 0)], false), (299, .bipush 6, 0, [], false), (301, .iload 9, 0, [], false), (303, .iadd, 0, [], false), (304, .iload 10, 0, [], false), (306, .iload 7, 0, [], false), (308, .if_icmp .ne 8, 161, [], false), (311, .iload 8, 0, [], false), (313, .goto 17, 167, [], false), (316, .iload 10, 0, [], false), (318, .iload 8, 0, [], false), (320, .if_icmp .ne 8, 166, [], false), (323, .iload 7, 0, [], false), (325, .goto 5, 167, [], false), (328, .iload 10, 0, [], false), (330, .iastore, 0, [], false), (331, .iinc 9 1, 0, [], false), (334, .goto (-67), 137, [], false), (337, .goto 99, 218, [], false), (340, .aload_n 0, 0, [], false), (341, .getfield 87, 7, [(7, 0), (0, 20), (0, 20), (0, 0)], false), (344, .iconst 2, 0, [], false), (345, .if_icmp .ne 18, 182, [], false), (348, .aload_n 0, 0, [], false), (349, .getfield 83, 9, [(9, 1), (0, 20), (0, 20), (0, 0)], false), (352, .ifCond .ne 11, 182, [], false), (355, .aload_n 0, 0, [], false), (356, .getfield 79, 8, [(0, 2), (0, 20), (0, 33), (0, 0)], false), (359, .l2i, 0, [], false), (360, .goto 4, 183, [], false), (363, .iconst (-1), 0, [], false), (364, .istore 7, 0, [], false), (366, .aload_n 0, 0, [], false), (367, .aload_n 0, 0, [], false), (368, .iload 7, 0, [], false), (370, .invokevirtual 140, 103, [(2, 1), (0, 21)], true), (373, .ifCond .eq 16, 195, [], false), (376, .aload_n 0, 0, [], false), (377, .iload 7, 0, [], false), (379, .invokevirtual 54, 107, [(2, 1), (0, 21)], false), (382, .ifCond .eq 7, 195, [], false), (385, .iconst 1, 0, [], false), (386, .goto 4, 196, [], false), (389, .iconst 0, 0, [], false), (390, .invokevirtual 108, 117, [(2, 0), (0, 21)], false), (393, .iconst 0, 0, [], false), (394, .istore 8, 0, [], false), (396, .iload 8, 0, [], true), (398, .aload_n 0, 0, [], false), (399, .invokevirtual 42, 101, [(1, 1), (0, 21)], false), (402, .if_icmp .ge 34, 218, [], false), (405, .aload_n 0, 0, [], false), (406, .getfield 102, 10, [(10, 1), (0, 20), (0, 20), (0, 0)], false), (409, .ifCond .ne 27, 218, [], false), (412, .aload_n 0, 0, [], false), (413, .getfield 7, 0, [(0, 3), (0, 20), (0, 21), (0, 0)], false), (416, .bipush 6, 0, [], false), (418, .iload 8, 0, [], false), (420, .iadd, 0, [], false), (421, .aload_n 0, 0, [], false), (422, .iload 7, 0, [], false), (424, .iload 8, 0, [], false), (426, .invokevirtual 143, 104, [(3, 1), (0, 21)], false), (429, .iastore, 0, [], false), (430, .iinc 8 1, 0, [], false), (433, .goto (-37), 199, [], false), (436, .aload_n 0, 0, [], false), (437, .aload_n 0, 0, [], false), (438, .getfield 87, 7, [(7, 0), (0, 20), (0, 20), (0, 0)], false), (441, .iconst 3, 0, [], false), (442, .if_icmp .ne 7, 225, [], false), (445, .iconst 1, 0, [], false), (446, .goto 4, 226, [], false), (449, .iconst 0, 0, [], false), (450, .invokevirtual 108, 117, [(2, 0), (0, 21)], false), (453, .return_, 0, [], false)]
def zc124 : List mzN := [(0, .iconst 0, 0, [], false), (1, .istore_n 1, 0, [], false), (2, .iload_n 1, 0, [], true), (3, .sipush 144, 0, [], false), (6, .if_icmp .ge 41, 29, [], false), (9, .aload_n 0, 0, [], false), (10, .getfield 7, 0, [(0, 3), (0, 20), (0, 21), (0, 0)], false), (13, .bipush 6, 0, [], false), (15, .iload_n 1, 0, [], false), (16, .iadd, 0, [], false), (17, .iaload, 0, [], false), (18, .istore_n 2, 0, [], false), (19, .aload_n 0, 0, [], false), (20, .getfield 7, 0, [(0, 3), (0, 20), (0, 21), (0, 0)], false), (23, .bipush 6, 0, [], false), (25, .iload_n 1, 0, [], false), (26, .iadd, 0, [], false), (27, .aload_n 0, 0, [], false), (28, .getfield 23, 12, [(0, 3), (0, 20), (0, 25), (0, 0)], false), (31, .iload_n 1, 0, [], false), (32, .iaload, 0, [], false), (33, .iastore, 0, [], false), (34, .aload_n 0, 0, [], false), (35, .getfield 23, 12, [(0, 3), (0, 20), (0, 25), (0, 0)], false), (38, .iload_n 1, 0, [], false), (39, .iload_n 2, 0, [], false), (40, .iastore, 0, [], false), (41, .iinc 1 1, 0, [], false), (44, .goto (-42), 2, [], false), (47, .return_, 0, [], false)]
def zc125 : List mzN := [(0, .iconst 0, 0, [], false), (1, .istore_n 1, 0, [], false), (2, .iload_n 1, 0, [], true), (3, .sipush 144, 0, [], false), (6, .if_icmp .ge 24, 17, [], false), (9, .aload_n 0, 0, [], false), (10, .getfield 23, 12, [(0, 3), (0, 20), (0, 25), (0, 0)], false), (13, .iload_n 1, 0, [], false), (14, .aload_n 0, 0, [], false), (15, .getfield 7, 0, [(0, 3), (0, 20), (0, 21), (0, 0)], false), (18, .bipush 6, 0, [], false), (20, .iload_n 1, 0, [], false), (21, .iadd, 0, [], false), (22, .iaload, 0, [], false), (23, .iastore, 0, [], false), (24, .iinc 1 1, 0, [], false), (27, .goto (-25), 2, [], false), (30, .aload_n 0, 0, [], false), (31, .iconst 0, 0, [], false), (32, .putfield 70, 5, [(5, 0), (0, 20), (0, 20), (0, 0)], false), (35, .aload_n 0, 0, [], false), (36, .iconst 0, 0, [], false), (37, .putfield 102, 10, [(10, 1), (0, 20), (0, 20), (0, 0)], false), (40, .iconst 0, 0, [], false), (41, .istore_n 1, 0, [], false), (42, .aload_n 0, 0, [], false), (43, .invokevirtual 105, 116, [(1, 0), (0, 21)], false), (46, .aload_n 0, 0, [], true), (47, .getfield 102, 10, [(10, 1), (0, 20), (0, 20), (0, 0)], false), (50, .ifCond .ne 20, 37, [], false), (53, .aload_n 0, 0, [], false), (54, .getfield 87, 7, [(7, 0), (0, 20), (0, 20), (0, 0)], false), (57, .ifCond .eq 13, 37, [], false), (60, .aload_n 0, 0, [], false), (61, .invokevirtual 146, 123, [(1, 0), (0, 21)], false), (64, .iinc 1 1, 0, [], false), (67, .goto (-21), 27, [], false), (70, .aload_n 0, 0, [], false), (71, .invokevirtual 149, 124, [(1, 0), (0, 21)], false), (74, .aload_n 0, 0, [], false), (75, .getfield 102, 10, [(10, 1), (0, 20), (0, 20), (0, 0)], false), (78, .ifCond .eq 11, 47, [], false), (81, .bipush (-10), 0, [], false), (83, .aload_n 0, 0, [], false), (84, .getfield 76, 6, [(6, 0), (0, 20), (0, 20), (0, 0)], false), (87, .isub, 0, [], false), (88, .ireturn, 0, [], false), (89, .aload_n 0, 0, [], false), (90, .invokevirtual 58, 99, [(1, 0), (0, 21)], false), (93, .aload_n 0, 0, [], false), (94, .invokevirtual 149, 124, [(1, 0), (0, 21)], false), (97, .aload_n 0, 0, [], false), (98, .iconst 0, 0, [], false), (99, .putfield 67, 4, [(4, 0), (0, 20), (0, 20), (0, 0)], false), (102, .iload_n 1, 0, [], false), (103, .ireturn, 0, [], false)]
def zc126 : List mzN := [(0, .iload_n 1, 0, [], false), (1, .iconst (-1), 0, [], false), (2, .if_icmp .eq 11, 7, [], false), (5, .aload_n 0, 0, [], false), (6, .iload_n 1, 0, [], false), (7, .invokevirtual 140, 103, [(2, 1), (0, 21)], false), (10, .ifCond .eq 7, 9, [], false), (13, .iconst 1, 0, [], false), (14, .goto 4, 10, [], false), (17, .iconst 0, 0, [], false), (18, .ireturn, 1, [], false)]
def zc127 : List mzN := [(0, .iload_n 1, 0, [], false), (1, .ifCond .lt 11, 6, [], false), (4, .aload_n 0, 0, [], false), (5, .iload_n 1, 0, [], false), (6, .invokevirtual 54, 107, [(2, 1), (0, 21)], false), (9, .ifCond .eq 7, 8, [], false), (12, .iconst 1, 0, [], false), (13, .goto 4, 9, [], false), (16, .iconst 0, 0, [], false), (17, .ireturn, 1, [], false)]
def zc128 : List mzN := [(0, .bipush 7, 0, [], false), (2, .istore 4, 0, [], false), (4, .iconst 0, 0, [], false), (5, .istore 5, 0, [], false), (7, .iload 5, 0, [], true), (9, .bipush 16, 0, [], false), (11, .if_icmp .ge 42, 31, [], false), (14, .iload 4, 0, [], false), (16, .bipush 31, 0, [], false), (18, .imul, 0, [], false), (19, .aload_n 0, 0, [], false), (20, .iload_n 1, 0, [], false), (21, .aload_n 0, 0, [], false), (22, .iload_n 2, 0, [], false), (23, .iload 5, 0, [], false), (25, .iconst 4, 0, [], false), (26, .irem, 0, [], false), (27, .iadd, 0, [], false), (28, .iload_n 3, 0, [], false), (29, .iload 5, 0, [], false), (31, .iconst 4, 0, [], false), (32, .idiv, 0, [], false), (33, .iadd, 0, [], false), (34, .invokevirtual 115, 119, [(3, 1), (0, 21)], false), (37, .invokevirtual 143, 104, [(3, 1), (0, 21)], false), (40, .iadd, 0, [], false), (41, .sipush 9973, 0, [], false), (44, .irem, 0, [], false), (45, .istore 4, 0, [], false), (47, .iinc 5 1, 0, [], false), (50, .goto (-43), 4, [], false), (53, .iload 4, 0, [], false), (55, .ireturn, 0, [], false)]
def zc129 : List mzN := [(0, .aload_n 0, 0, [], false), (1, .iload_n 1, 0, [], false), (2, .invokevirtual 152, 126, [(2, 1), (0, 21)], false), (5, .ifCond .eq 35, 24, [], false), (8, .iload_n 2, 0, [], false), (9, .iconst 0, 0, [], false), (10, .aload_n 0, 0, [], false), (11, .getfield 7, 0, [(0, 3), (0, 20), (0, 21), (0, 0)], false), (14, .iconst 0, 0, [], false), (15, .iaload, 0, [], false), (16, .iconst 4, 0, [], false), (17, .isub, 0, [], false), (18, .invokestatic 46, 98, [(3, 1), (0, 0)], false), (21, .ifCond .eq 19, 24, [], false), (24, .iload_n 3, 0, [], false), (25, .iconst 0, 0, [], false), (26, .aload_n 0, 0, [], false), (27, .getfield 7, 0, [(0, 3), (0, 20), (0, 21), (0, 0)], false), (30, .iconst 1, 0, [], false), (31, .iaload, 0, [], false), (32, .iconst 4, 0, [], false), (33, .isub, 0, [], false), (34, .invokestatic 46, 98, [(3, 1), (0, 0)], false), (37, .ifCond .ne 5, 26, [], false), (40, .iconst (-1), 0, [], false), (41, .ireturn, 0, [], false), (42, .aload_n 0, 0, [], false), (43, .iload_n 1, 0, [], false), (44, .invokevirtual 155, 127, [(2, 1), (0, 21)], false), (47, .ifCond .eq 13, 36, [], false), (50, .aload_n 0, 0, [], false), (51, .iload_n 1, 0, [], false), (52, .iload_n 2, 0, [], false), (53, .iload_n 3, 0, [], false), (54, .invokevirtual 158, 128, [(4, 1), (0, 21)], false), (57, .goto 5, 37, [], false), (60, .bipush (-2), 0, [], false), (62, .ireturn, 0, [], false)]
def zc130 : List mzN := [(0, .iconst 4, 0, [], false), (1, .iload_n 1, 0, [], false), (2, .aload_n 0, 0, [], false), (3, .getfield 7, 0, [(0, 3), (0, 20), (0, 21), (0, 0)], false), (6, .iconst 0, 0, [], false), (7, .iaload, 0, [], false), (8, .iconst 4, 0, [], false), (9, .idiv, 0, [], false), (10, .irem, 0, [], false), (11, .imul, 0, [], false), (12, .ireturn, 0, [], false)]
def zc131 : List mzN := [(0, .iconst 4, 0, [], false), (1, .iload_n 1, 0, [], false), (2, .aload_n 0, 0, [], false), (3, .getfield 7, 0, [(0, 3), (0, 20), (0, 21), (0, 0)], false), (6, .iconst 0, 0, [], false), (7, .iaload, 0, [], false), (8, .iconst 4, 0, [], false), (9, .idiv, 0, [], false), (10, .idiv, 0, [], false), (11, .imul, 0, [], false), (12, .ireturn, 0, [], false)]
def zc132 : List mzN := [(0, .aload_n 0, 0, [], false), (1, .aload_n 0, 0, [], false), (2, .iload_n 3, 0, [], false), (3, .invokevirtual 162, 130, [(2, 1), (0, 21)], false), (6, .iload 4, 0, [], false), (8, .iconst 4, 0, [], false), (9, .irem, 0, [], false), (10, .iadd, 0, [], false), (11, .aload_n 0, 0, [], false), (12, .iload_n 3, 0, [], false), (13, .invokevirtual 165, 131, [(2, 1), (0, 21)], false), (16, .iload 4, 0, [], false), (18, .iconst 4, 0, [], false), (19, .idiv, 0, [], false), (20, .iadd, 0, [], false), (21, .invokevirtual 115, 119, [(3, 1), (0, 21)], false), (24, .istore 5, 0, [], false), (26, .iload_n 2, 0, [], false), (27, .iconst (-1), 0, [], false), (28, .if_icmp .ne 13, 25, [], false), (31, .aload_n 0, 0, [], false), (32, .iload_n 1, 0, [], false), (33, .iload 5, 0, [], false), (35, .invokevirtual 143, 104, [(3, 1), (0, 21)], false), (38, .goto 24, 38, [], false), (41, .aload_n 0, 0, [], false), (42, .iload_n 1, 0, [], false), (43, .iload 5, 0, [], false), (45, .invokevirtual 143, 104, [(3, 1), (0, 21)], false), (48, .aload_n 0, 0, [], false), (49, .iload_n 2, 0, [], false), (50, .iload 5, 0, [], false), (52, .invokevirtual 143, 104, [(3, 1), (0, 21)], false), (55, .isub, 0, [], false), (56, .bipush 16, 0, [], false), (58, .iadd, 0, [], false), (59, .bipush 16, 0, [], false), (61, .irem, 0, [], false), (62, .ireturn, 0, [], false)]
def zc133 : List mzN := [(0, .iconst 1, 0, [], false), (1, .istore 4, 0, [], false), (3, .iconst 1, 0, [], false), (4, .istore 5, 0, [], false), (6, .iload 5, 0, [], true), (8, .bipush 16, 0, [], false), (10, .if_icmp .ge 42, 30, [], false), (13, .iload 4, 0, [], false), (15, .aload_n 0, 0, [], false), (16, .iload_n 1, 0, [], false), (17, .iload_n 2, 0, [], false), (18, .iload_n 3, 0, [], false), (19, .iload 5, 0, [], false), (21, .invokevirtual 168, 132, [(5, 1), (0, 21)], false), (24, .aload_n 0, 0, [], false), (25, .iload_n 1, 0, [], false), (26, .iload_n 2, 0, [], false), (27, .iload_n 3, 0, [], false), (28, .iload 5, 0, [], false), (30, .iconst 1, 0, [], false), (31, .isub, 0, [], false), (32, .invokevirtual 168, 132, [(5, 1), (0, 21)], false), (35, .if_icmp .eq 7, 25, [], false), (38, .iconst 1, 0, [], false), (39, .goto 4, 26, [], false), (42, .iconst 0, 0, [], false), (43, .iadd, 0, [], false), (44, .istore 4, 0, [], false), (46, .iinc 5 1, 0, [], false), (49, .goto (-43), 4, [], false), (52, .iload 4, 0, [], false), (54, .ireturn, 0, [], false)]
def zc134 : List mzN := [(0, .aload_n 0, 0, [], false), (1, .iload_n 3, 0, [], false), (2, .invokevirtual 162, 130, [(2, 1), (0, 21)], false), (5, .iload 4, 0, [], false), (7, .iadd, 0, [], false), (8, .istore 6, 0, [], false), (10, .aload_n 0, 0, [], false), (11, .iload_n 3, 0, [], false), (12, .invokevirtual 165, 131, [(2, 1), (0, 21)], false), (15, .iload 5, 0, [], false), (17, .iadd, 0, [], false), (18, .istore 7, 0, [], false), (20, .iload 6, 0, [], false), (22, .iconst 0, 0, [], false), (23, .aload_n 0, 0, [], false), (24, .getfield 7, 0, [(0, 3), (0, 20), (0, 21), (0, 0)], false), (27, .iconst 0, 0, [], false), (28, .iaload, 0, [], false), (29, .iconst 4, 0, [], false), (30, .isub, 0, [], false), (31, .invokestatic 46, 98, [(3, 1), (0, 0)], false), (34, .ifCond .eq 24, 34, [], false), (37, .iload 7, 0, [], false), (39, .iconst 0, 0, [], false), (40, .aload_n 0, 0, [], false), (41, .getfield 7, 0, [(0, 3), (0, 20), (0, 21), (0, 0)], false), (44, .iconst 1, 0, [], false), (45, .iaload, 0, [], false), (46, .iconst 4, 0, [], false), (47, .isub, 0, [], false), (48, .invokestatic 46, 98, [(3, 1), (0, 0)], false), (51, .ifCond .eq 7, 34, [], false), (54, .iconst 1, 0, [], false), (55, .goto 4, 35, [], false), (58, .iconst 0, 0, [], false), (59, .istore 8, 0, [], false), (61, .iconst 0, 0, [], false), (62, .istore 9, 0, [], false), (64, .iload 9, 0, [], true), (66, .bipush 16, 0, [], false), (68, .if_icmp .ge 76, 84, [], false), (71, .iload 8, 0, [], false), (73, .ifCond .eq 71, 84, [], false), (76, .aload_n 0, 0, [], false), (77, .iload_n 1, 0, [], false), (78, .aload_n 0, 0, [], false), (79, .aload_n 0, 0, [], false), (80, .iload_n 3, 0, [], false), (81, .invokevirtual 162, 130, [(2, 1), (0, 21)], false), (84, .iload 9, 0, [], false), (86, .iconst 4, 0, [], false), (87, .irem, 0, [], false), (88, .iadd, 0, [], false), (89, .aload_n 0, 0, [], false), (90, .iload_n 3, 0, [], false), (91, .invokevirtual 165, 131, [(2, 1), (0, 21)], false), (94, .iload 9, 0, [], false), (96, .iconst 4, 0, [], false), (97, .idiv, 0, [], false), (98, .iadd, 0, [], false), (99, .invokevirtual 115, 119, [(3, 1), (0, 21)], false), (102, .invokevirtual 143, 104, [(3, 1), (0, 21)], false), (105, .aload_n 0, 0, [], false), (106, .iload_n 2, 0, [], false), (107, .aload_n 0, 0, [], false), (108, .iload 6, 0, [], false), (110, .iload 9, 0, [], false), (112, .iconst 4, 0, [], false), (113, .irem, 0, [], false), (114, .iadd, 0, [], false), (115, .iload 7, 0, [], false), (117, .iload 9, 0, [], false), (119, .iconst 4, 0, [], false), (120, .idiv, 0, [], false), (121, .iadd, 0, [], false), (122, .invokevirtual 115, 119, [(3, 1), (0, 21)], false), (125, .invokevirtual 143, 104, [(3, 1), (0, 21)], false), (128, .if_icmp .ne 7, 80, [], false), (131, .iconst 1, 0, [], false), (132, .goto 4, 81, [], false), (135, .iconst 0, 0, [], false), (136, .istore 8, 0, [], false), (138, .iinc 9 1, 0, [], false), (141, .goto (-77), 38, [], false), (144, .iload 8, 0, [], false), (146, .ireturn, 1, [], false)]
def zc135 : List mzN := [(0, .iload_n 0, 0, [], false), (1, .ifCond .ge 8, 5, [], false), (4, .iload_n 0, 0, [], false), (5, .ineg, 0, [], false), (6, .goto 4, 6, [], false), (9, .iload_n 0, 0, [], false), (10, .ireturn, 0, [], false)]
def zc136 : List mzN := [(0, .iconst 0, 0, [], false), (1, .istore 4, 0, [], false), (3, .aload_n 0, 0, [], false), (4, .getfield 7, 0, [(0, 3), (0, 20), (0, 21), (0, 0)], false), (7, .iconst 3, 0, [], false), (8, .iaload, 0, [], false), (9, .istore 5, 0, [], false), (11, .iload 5, 0, [], false), (13, .ineg, 0, [], false), (14, .istore 6, 0, [], false), (16, .iload 6, 0, [], true), (18, .iload 5, 0, [], false), (20, .if_icmp .gt 135, 88, [], false), (23, .iload 5, 0, [], false), (25, .ineg, 0, [], false), (26, .istore 7, 0, [], false), (28, .iload 7, 0, [], true), (30, .iload 5, 0, [], false), (32, .if_icmp .gt 117, 86, [], false), (35, .iload 7, 0, [], false), (37, .invokestatic 172, 135, [(1, 1), (0, 0)], false), (40, .iload 6, 0, [], false), (42, .invokestatic 172, 135, [(1, 1), (0, 0)], false), (45, .iadd, 0, [], false), (46, .istore 8, 0, [], false), (48, .iload 4, 0, [], false), (50, .ifCond .eq 35, 48, [], false), (53, .iload 8, 0, [], false), (55, .aload_n 0, 0, [], false), (56, .getfield 26, 13, [(0, 3), (0, 20), (0, 26), (0, 0)], false), (59, .iconst 3, 0, [], false), (60, .iload_n 3, 0, [], false), (61, .imul, 0, [], false), (62, .iconst 1, 0, [], false), (63, .iadd, 0, [], false), (64, .iaload, 0, [], false), (65, .invokestatic 172, 135, [(1, 1), (0, 0)], false), (68, .aload_n 0, 0, [], false), (69, .getfield 26, 13, [(0, 3), (0, 20), (0, 26), (0, 0)], false), (72, .iconst 3, 0, [], false), (73, .iload_n 3, 0, [], false), (74, .imul, 0, [], false), (75, .iconst 2, 0, [], false), (76, .iadd, 0, [], false), (77, .iaload, 0, [], false), (78, .invokestatic 172, 135, [(1, 1), (0, 0)], false), (81, .iadd, 0, [], false), (82, .if_icmp .ge 7, 50, [], false), (85, .iconst 1, 0, [], false), (86, .goto 4, 51, [], false), (89, .iconst 0, 0, [], false), (90, .istore 9, 0, [], false), (92, .iload 8, 0, [], false), (94, .ifCond .le 49, 84, [], false), (97, .iload 9, 0, [], false), (99, .ifCond .eq 44, 84, [], false), (102, .aload_n 0, 0, [], false), (103, .iload_n 1, 0, [], false), (104, .iload_n 2, 0, [], false), (105, .iload_n 3, 0, [], false), (106, .iload 7, 0, [], false), (108, .iload 6, 0, [], false), (110, .invokevirtual 175, 134, [(6, 1), (0, 21)], false), (113, .ifCond .eq 30, 84, [], false), (116, .iconst 1, 0, [], false), (117, .istore 4, 0, [], false), (119, .aload_n 0, 0, [], false), (120, .getfield 26, 13, [(0, 3), (0, 20), (0, 26), (0, 0)], false), (123, .iconst 3, 0, [], false), (124, .iload_n 3, 0, [], false), (125, .imul, 0, [], false), (126, .iconst 1, 0, [], false), (127, .iadd, 0, [], false), (128, .iload 7, 0, [], false), (130, .iastore, 0, [], false), (131, .aload_n 0, 0, [], false), (132, .getfield 26, 13, [(0, 3), (0, 20), (0, 26), (0, 0)], false), (135, .iconst 3, 0, [], false), (136, .iload_n 3, 0, [], false), (137, .imul, 0, [], false), (138, .iconst 2, 0, [], false), (139, .iadd, 0, [], false), (140, .iload 6, 0, [], false), (142, .iastore, 0, [], false), (143, .iinc 7 1, 0, [], false), (146, .goto (-118), 16, [], false), (149, .iinc 6 1, 0, [], false), (152, .goto (-136), 10, [], false), (155, .iload 4, 0, [], false), (157, .ireturn, 1, [], false)]
def zc137 : List mzN := [(0, .aload_n 0, 0, [], false), (1, .getfield 26, 13, [(0, 3), (0, 20), (0, 26), (0, 0)], false), (4, .iconst 3, 0, [], false), (5, .iload_n 3, 0, [], false), (6, .imul, 0, [], false), (7, .iconst 1, 0, [], false), (8, .iadd, 0, [], false), (9, .iconst 0, 0, [], false), (10, .iastore, 0, [], false), (11, .aload_n 0, 0, [], false), (12, .getfield 26, 13, [(0, 3), (0, 20), (0, 26), (0, 0)], false), (15, .iconst 3, 0, [], false), (16, .iload_n 3, 0, [], false), (17, .imul, 0, [], false), (18, .iconst 2, 0, [], false), (19, .iadd, 0, [], false), (20, .iconst 0, 0, [], false), (21, .iastore, 0, [], false), (22, .iconst 2, 0, [], false), (23, .iconst 2, 0, [], false), (24, .aload_n 0, 0, [], false), (25, .iload_n 1, 0, [], false), (26, .iconst (-1), 0, [], false), (27, .iload_n 3, 0, [], false), (28, .invokevirtual 179, 133, [(4, 1), (0, 21)], false), (31, .imul, 0, [], false), (32, .iadd, 0, [], false), (33, .istore 4, 0, [], false), (35, .iload_n 2, 0, [], false), (36, .iconst (-1), 0, [], false), (37, .if_icmp .ne 15, 40, [], false), (40, .aload_n 0, 0, [], false), (41, .getfield 26, 13, [(0, 3), (0, 20), (0, 26), (0, 0)], false), (44, .iconst 3, 0, [], false), (45, .iload_n 3, 0, [], false), (46, .imul, 0, [], false), (47, .iconst 3, 0, [], false), (48, .iastore, 0, [], false), (49, .iload 4, 0, [], false), (51, .ireturn, 0, [], false), (52, .aload_n 0, 0, [], false), (53, .iload_n 1, 0, [], false), (54, .iload_n 2, 0, [], false), (55, .iload_n 3, 0, [], false), (56, .iconst 0, 0, [], false), (57, .iconst 0, 0, [], false), (58, .invokevirtual 175, 134, [(6, 1), (0, 21)], false), (61, .ifCond .eq 14, 57, [], false), (64, .aload_n 0, 0, [], false), (65, .getfield 26, 13, [(0, 3), (0, 20), (0, 26), (0, 0)], false), (68, .iconst 3, 0, [], false), (69, .iload_n 3, 0, [], false), (70, .imul, 0, [], false), (71, .iconst 0, 0, [], false), (72, .iastore, 0, [], false), (73, .iconst 1, 0, [], false), (74, .ireturn, 0, [], false), (75, .aload_n 0, 0, [], false), (76, .iload_n 1, 0, [], false), (77, .iload_n 2, 0, [], false), (78, .iload_n 3, 0, [], false), (79, .invokevirtual 182, 136, [(4, 1), (0, 21)], false), (82, .ifCond .eq 14, 72, [], false), (85, .aload_n 0, 0, [], false), (86, .getfield 26, 13, [(0, 3), (0, 20), (0, 26), (0, 0)], false), (89, .iconst 3, 0, [], false), (90, .iload_n 3, 0, [], false), (91, .imul, 0, [], false), (92, .iconst 1, 0, [], false), (93, .iastore, 0, [], false), (94, .iconst 3, 0, [], false), (95, .ireturn, 0, [], false), (96, .iconst 2, 0, [], false), (97, .iconst 2, 0, [], false), (98, .aload_n 0, 0, [], false), (99, .iload_n 1, 0, [], false), (100, .iload_n 2, 0, [], false), (101, .iload_n 3, 0, [], false), (102, .invokevirtual 179, 133, [(4, 1), (0, 21)], false), (105, .imul, 0, [], false), (106, .iadd, 0, [], false), (107, .istore 5, 0, [], false), (109, .aload_n 0, 0, [], false), (110, .getfield 26, 13, [(0, 3), (0, 20), (0, 26), (0, 0)], false), (113, .iconst 3, 0, [], false), (114, .iload_n 3, 0, [], false), (115, .imul, 0, [], false), (116, .iload 5, 0, [], false), (118, .iload 4, 0, [], false), (120, .if_icmp .gt 7, 92, [], false), (123, .iconst 2, 0, [], false), (124, .goto 4, 93, [], false), (127, .iconst 3, 0, [], false), (128, .iastore, 0, [], false), (129, .iload 5, 0, [], false), (131, .iload 4, 0, [], false), (133, .if_icmp .gt 8, 99, [], false), (136, .iload 5, 0, [], false), (138, .goto 5, 100, [], false), (141, .iload 4, 0, [], false), (143, .ireturn, 0, [], false)]
def zc138 : List mzN := [(0, .iconst 2, 0, [], false), (1, .istore_n 3, 0, [], false), (2, .iconst 0, 0, [], false), (3, .istore 4, 0, [], false), (5, .iload 4, 0, [], true), (7, .aload_n 0, 0, [], false), (8, .invokevirtual 61, 102, [(1, 1), (0, 21)], false), (11, .if_icmp .ge 20, 18, [], false), (14, .iload_n 3, 0, [], false), (15, .aload_n 0, 0, [], false), (16, .iload_n 1, 0, [], false), (17, .iload_n 2, 0, [], false), (18, .iload 4, 0, [], false), (20, .invokevirtual 185, 137, [(4, 1), (0, 21)], false), (23, .iadd, 0, [], false), (24, .istore_n 3, 0, [], false), (25, .iinc 4 1, 0, [], false), (28, .goto (-23), 4, [], false), (31, .iload_n 3, 0, [], false), (32, .ireturn, 0, [], false)]
def zc139 : List mzN := [(0, .sipush 1610, 0, [], false), (3, .bipush 27, 0, [], false), (5, .iload_n 1, 0, [], false), (6, .imul, 0, [], false), (7, .iadd, 0, [], false), (8, .iconst 3, 0, [], false), (9, .iload_n 2, 0, [], false), (10, .imul, 0, [], false), (11, .iadd, 0, [], false), (12, .ireturn, 0, [], false)]
def zc140 : List mzN := [(0, .aload_n 0, 0, [], false), (1, .getfield 7, 0, [(0, 3), (0, 20), (0, 21), (0, 0)], false), (4, .aload_n 0, 0, [], false), (5, .iload_n 1, 0, [], false), (6, .iload_n 2, 0, [], false), (7, .invokevirtual 188, 139, [(3, 1), (0, 21)], false), (10, .iaload, 0, [], false), (11, .istore_n 3, 0, [], false), (12, .iload_n 3, 0, [], false), (13, .iconst 2, 0, [], false), (14, .if_icmp .ne 17, 19, [], false), (17, .aload_n 0, 0, [], false), (18, .iload_n 1, 0, [], false), (19, .aload_n 0, 0, [], false), (20, .iload_n 1, 0, [], false), (21, .invokevirtual 50, 105, [(2, 1), (0, 21)], false), (24, .iload_n 2, 0, [], false), (25, .invokevirtual 179, 133, [(4, 1), (0, 21)], false), (28, .goto 19, 29, [], false), (31, .iload_n 3, 0, [], false), (32, .iconst 3, 0, [], false), (33, .if_icmp .ne 13, 28, [], false), (36, .aload_n 0, 0, [], false), (37, .iload_n 1, 0, [], false), (38, .iconst (-1), 0, [], false), (39, .iload_n 2, 0, [], false), (40, .invokevirtual 179, 133, [(4, 1), (0, 21)], false), (43, .goto 4, 29, [], false), (46, .iconst 0, 0, [], false), (47, .ireturn, 0, [], false)]
def zc141 : List mzN := [(0, .iconst 2, 0, [], false), (1, .istore_n 2, 0, [], false), (2, .iconst 0, 0, [], false), (3, .istore_n 3, 0, [], false), (4, .iload_n 3, 0, [], true), (5, .aload_n 0, 0, [], false), (6, .invokevirtual 61, 102, [(1, 1), (0, 21)], false), (9, .if_icmp .ge 54, 38, [], false), (12, .aload_n 0, 0, [], false), (13, .getfield 7, 0, [(0, 3), (0, 20), (0, 21), (0, 0)], false), (16, .aload_n 0, 0, [], false), (17, .iload_n 1, 0, [], false), (18, .iload_n 3, 0, [], false), (19, .invokevirtual 188, 139, [(3, 1), (0, 21)], false), (22, .iaload, 0, [], false), (23, .istore 4, 0, [], false), (25, .iload_n 2, 0, [], false), (26, .iload 4, 0, [], false), (28, .ifCond .ne 7, 21, [], false), (31, .iconst 1, 0, [], false), (32, .goto 23, 34, [], false), (35, .iload 4, 0, [], false), (37, .iconst 1, 0, [], false), (38, .if_icmp .ne 7, 26, [], false), (41, .iconst 3, 0, [], false), (42, .goto 13, 34, [], false), (45, .iconst 2, 0, [], false), (46, .iconst 2, 0, [], false), (47, .aload_n 0, 0, [], false), (48, .iload_n 1, 0, [], false), (49, .iload_n 3, 0, [], false), (50, .invokevirtual 191, 140, [(3, 1), (0, 21)], false), (53, .imul, 0, [], false), (54, .iadd, 0, [], false), (55, .iadd, 0, [], false), (56, .istore_n 2, 0, [], false), (57, .iinc 3 1, 0, [], false), (60, .goto (-56), 4, [], false), (63, .iload_n 2, 0, [], false), (64, .ireturn, 0, [], false)]
def zc142 : List mzN := [(0, .aload_n 0, 0, [], false), (1, .iload_n 1, 0, [], false), (2, .invokevirtual 194, 141, [(2, 1), (0, 21)], false), (5, .istore_n 2, 0, [], false), (6, .iload_n 1, 0, [], false), (7, .istore_n 3, 0, [], false), (8, .aload_n 0, 0, [], true), (9, .iload_n 3, 0, [], false), (10, .invokevirtual 50, 105, [(2, 1), (0, 21)], false), (13, .iconst (-1), 0, [], false), (14, .if_icmp .eq 24, 24, [], false), (17, .iload_n 2, 0, [], false), (18, .aload_n 0, 0, [], false), (19, .aload_n 0, 0, [], false), (20, .iload_n 3, 0, [], false), (21, .invokevirtual 50, 105, [(2, 1), (0, 21)], false), (24, .invokevirtual 194, 141, [(2, 1), (0, 21)], false), (27, .iadd, 0, [], false), (28, .istore_n 2, 0, [], false), (29, .aload_n 0, 0, [], false), (30, .iload_n 3, 0, [], false), (31, .invokevirtual 50, 105, [(2, 1), (0, 21)], false), (34, .istore_n 3, 0, [], false), (35, .goto (-27), 6, [], false), (38, .iload_n 2, 0, [], false), (39, .ireturn, 0, [], false)]
def zc143 : List mzN := [(0, .aload_n 0, 0, [], false), (1, .getfield 7, 0, [(0, 3), (0, 20), (0, 21), (0, 0)], false), (4, .sipush 1590, 0, [], false), (7, .iload_n 1, 0, [], false), (8, .iadd, 0, [], false), (9, .iload_n 2, 0, [], false), (10, .iastore, 0, [], false), (11, .aload_n 0, 0, [], false), (12, .getfield 7, 0, [(0, 3), (0, 20), (0, 21), (0, 0)], false), (15, .sipush 1600, 0, [], false), (18, .iload_n 1, 0, [], false), (19, .iadd, 0, [], false), (20, .iconst 0, 0, [], false), (21, .iastore, 0, [], false), (22, .iconst 0, 0, [], false), (23, .istore_n 3, 0, [], false), (24, .iload_n 3, 0, [], true), (25, .bipush 27, 0, [], false), (27, .if_icmp .ge 30, 35, [], false), (30, .aload_n 0, 0, [], false), (31, .getfield 7, 0, [(0, 3), (0, 20), (0, 21), (0, 0)], false), (34, .sipush 1610, 0, [], false), (37, .bipush 27, 0, [], false), (39, .iload_n 1, 0, [], false), (40, .imul, 0, [], false), (41, .iadd, 0, [], false), (42, .iload_n 3, 0, [], false), (43, .iadd, 0, [], false), (44, .aload_n 0, 0, [], false), (45, .getfield 26, 13, [(0, 3), (0, 20), (0, 26), (0, 0)], false), (48, .iload_n 3, 0, [], false), (49, .iaload, 0, [], false), (50, .iastore, 0, [], false), (51, .iinc 3 1, 0, [], false), (54, .goto (-30), 16, [], false), (57, .return_, 0, [], false)]
def zc144 : List mzN := [(0, .aload_n 0, 0, [], false), (1, .invokevirtual 58, 99, [(1, 0), (0, 21)], false), (4, .aload_n 0, 0, [], false), (5, .getfield 7, 0, [(0, 3), (0, 20), (0, 21), (0, 0)], false), (8, .iconst 2, 0, [], false), (9, .iaload, 0, [], false), (10, .istore_n 2, 0, [], false), (11, .aload_n 0, 0, [], false), (12, .iconst (-1), 0, [], false), (13, .iload_n 1, 0, [], false), (14, .invokevirtual 197, 138, [(3, 1), (0, 21)], false), (17, .istore_n 3, 0, [], false), (18, .iconst 0, 0, [], false), (19, .istore 4, 0, [], false), (21, .iload 4, 0, [], true), (23, .sipush 144, 0, [], false), (26, .if_icmp .ge 36, 35, [], false), (29, .aload_n 0, 0, [], false), (30, .getfield 7, 0, [(0, 3), (0, 20), (0, 21), (0, 0)], false), (33, .sipush 150, 0, [], false), (36, .sipush 144, 0, [], false), (39, .iload_n 2, 0, [], false), (40, .imul, 0, [], false), (41, .iadd, 0, [], false), (42, .iload 4, 0, [], false), (44, .iadd, 0, [], false), (45, .aload_n 0, 0, [], false), (46, .getfield 7, 0, [(0, 3), (0, 20), (0, 21), (0, 0)], false), (49, .bipush 6, 0, [], false), (51, .iload 4, 0, [], false), (53, .iadd, 0, [], false), (54, .iaload, 0, [], false), (55, .iastore, 0, [], false), (56, .iinc 4 1, 0, [], false), (59, .goto (-38), 14, [], false), (62, .aload_n 0, 0, [], false), (63, .iload_n 2, 0, [], false), (64, .iload_n 1, 0, [], false), (65, .invokevirtual 200, 143, [(3, 0), (0, 21)], false), (68, .aload_n 0, 0, [], false), (69, .getfield 7, 0, [(0, 3), (0, 20), (0, 21), (0, 0)], false), (72, .iconst 2, 0, [], false), (73, .dup2, 0, [], false), (74, .iaload, 0, [], false), (75, .iconst 1, 0, [], false), (76, .iadd, 0, [], false), (77, .iastore, 0, [], false), (78, .iload_n 3, 0, [], false), (79, .ireturn, 0, [], false)]
def zc145 : List mzN := [(0, .aload_n 0, 0, [], false), (1, .getfield 7, 0, [(0, 3), (0, 20), (0, 21), (0, 0)], false), (4, .iconst 2, 0, [], false), (5, .iaload, 0, [], false), (6, .bipush 10, 0, [], false), (8, .if_icmp .ne 8, 8, [], false), (11, .bipush (-3), 0, [], false), (13, .goto 8, 11, [], false), (16, .aload_n 0, 0, [], false), (17, .iconst (-1), 0, [], false), (18, .invokevirtual 203, 144, [(2, 1), (0, 21)], false), (21, .ireturn, 0, [], false)]
def zc146 : List mzN := [(0, .aload_n 0, 0, [], false), (1, .iload_n 1, 0, [], false), (2, .invokevirtual 140, 103, [(2, 1), (0, 21)], false), (5, .ifCond .ne 5, 6, [], false), (8, .iconst (-1), 0, [], false), (9, .ireturn, 0, [], false), (10, .aload_n 0, 0, [], false), (11, .iload_n 1, 0, [], false), (12, .invokevirtual 54, 107, [(2, 1), (0, 21)], false), (15, .ifCond .eq 17, 18, [], false), (18, .aload_n 0, 0, [], false), (19, .iload_n 1, 0, [], false), (20, .invokevirtual 206, 106, [(2, 1), (0, 21)], false), (23, .aload_n 0, 0, [], false), (24, .getfield 7, 0, [(0, 3), (0, 20), (0, 21), (0, 0)], false), (27, .iconst 4, 0, [], false), (28, .iaload, 0, [], false), (29, .if_icmp .lt 6, 20, [], false), (32, .bipush (-2), 0, [], false), (34, .ireturn, 0, [], false), (35, .aload_n 0, 0, [], false), (36, .getfield 7, 0, [(0, 3), (0, 20), (0, 21), (0, 0)], false), (39, .iconst 2, 0, [], false), (40, .iaload, 0, [], false), (41, .bipush 10, 0, [], false), (43, .if_icmp .ne 8, 28, [], false), (46, .bipush (-3), 0, [], false), (48, .goto 8, 31, [], false), (51, .aload_n 0, 0, [], false), (52, .iload_n 1, 0, [], false), (53, .invokevirtual 203, 144, [(2, 1), (0, 21)], false), (56, .ireturn, 0, [], false)]
def zc147 : List mzN := [(0, .aload_n 0, 0, [], false), (1, .getfield 7, 0, [(0, 3), (0, 20), (0, 21), (0, 0)], false), (4, .iconst 2, 0, [], false), (5, .iaload, 0, [], false), (6, .bipush 10, 0, [], false), (8, .if_icmp .ne 6, 8, [], false), (11, .bipush (-3), 0, [], false), (13, .ireturn, 0, [], false), (14, .iconst (-1), 0, [], false), (15, .istore_n 1, 0, [], false), (16, .aload_n 0, 0, [], false), (17, .iconst (-1), 0, [], false), (18, .iconst (-1), 0, [], false), (19, .invokevirtual 197, 138, [(3, 1), (0, 21)], false), (22, .istore_n 2, 0, [], false), (23, .iconst 0, 0, [], false), (24, .istore_n 3, 0, [], false), (25, .iconst 0, 0, [], false), (26, .istore 4, 0, [], false), (28, .iload 4, 0, [], true), (30, .aload_n 0, 0, [], false), (31, .getfield 7, 0, [(0, 3), (0, 20), (0, 21), (0, 0)], false), (34, .iconst 2, 0, [], false), (35, .iaload, 0, [], false), (36, .if_icmp .ge 113, 81, [], false), (39, .aload_n 0, 0, [], false), (40, .iload 4, 0, [], false), (42, .invokevirtual 54, 107, [(2, 1), (0, 21)], false), (45, .ifCond .eq 98, 79, [], false), (48, .aload_n 0, 0, [], false), (49, .iload 4, 0, [], false), (51, .invokevirtual 206, 106, [(2, 1), (0, 21)], false), (54, .aload_n 0, 0, [], false), (55, .getfield 7, 0, [(0, 3), (0, 20), (0, 21), (0, 0)], false), (58, .iconst 4, 0, [], false), (59, .iaload, 0, [], false), (60, .if_icmp .ge 83, 79, [], false), (63, .aload_n 0, 0, [], false), (64, .iconst (-1), 0, [], false), (65, .iload 4, 0, [], false), (67, .invokevirtual 197, 138, [(3, 1), (0, 21)], false), (70, .istore 5, 0, [], false), (72, .aload_n 0, 0, [], false), (73, .iload 4, 0, [], false), (75, .invokevirtual 206, 106, [(2, 1), (0, 21)], false), (78, .iconst 1, 0, [], false), (79, .iadd, 0, [], false), (80, .istore 6, 0, [], false), (82, .iload 5, 0, [], false), (84, .iload_n 2, 0, [], false), (85, .if_icmp .lt 15, 57, [], false), (88, .iload 5, 0, [], false), (90, .iload_n 2, 0, [], false), (91, .if_icmp .ne 13, 59, [], false), (94, .iload 6, 0, [], false), (96, .iload_n 3, 0, [], false), (97, .if_icmp .gt 7, 59, [], false), (100, .iconst 1, 0, [], false), (101, .goto 4, 60, [], false), (104, .iconst 0, 0, [], false), (105, .istore 7, 0, [], false), (107, .iload 7, 0, [], false), (109, .ifCond .eq 8, 65, [], false), (112, .iload 4, 0, [], false), (114, .goto 4, 66, [], false), (117, .iload_n 1, 0, [], false), (118, .istore_n 1, 0, [], false), (119, .iload 7, 0, [], false), (121, .ifCond .eq 8, 71, [], false), (124, .iload 6, 0, [], false), (126, .goto 4, 72, [], false), (129, .iload_n 3, 0, [], false), (130, .istore_n 3, 0, [], false), (131, .iload 7, 0, [], false), (133, .ifCond .eq 8, 77, [], false), (136, .iload 5, 0, [], false), (138, .goto 4, 78, [], false), (141, .iload_n 2, 0, [], false), (142, .istore_n 2, 0, [], false), (143, .iinc 4 1, 0, [], false), (146, .goto (-118), 19, [], false), (149, .aload_n 0, 0, [], false), (150, .iload_n 1, 0, [], false), (151, .invokevirtual 203, 144, [(2, 1), (0, 21)], false), (154, .ireturn, 0, [], false)]
def zc148 : List mzN := [(0, .aload_n 0, 0, [], false), (1, .getfield 7, 0, [(0, 3), (0, 20), (0, 21), (0, 0)], false), (4, .iconst 2, 0, [], false), (5, .iaload, 0, [], false), (6, .ifCond .ne 6, 7, [], false), (9, .bipush (-2), 0, [], false), (11, .ireturn, 0, [], false), (12, .aload_n 0, 0, [], false), (13, .invokevirtual 58, 99, [(1, 0), (0, 21)], false), (16, .aload_n 0, 0, [], false), (17, .getfield 7, 0, [(0, 3), (0, 20), (0, 21), (0, 0)], false), (20, .iconst 2, 0, [], false), (21, .dup2, 0, [], false), (22, .iaload, 0, [], false), (23, .iconst 1, 0, [], false), (24, .isub, 0, [], false), (25, .iastore, 0, [], false), (26, .aload_n 0, 0, [], false), (27, .getfield 7, 0, [(0, 3), (0, 20), (0, 21), (0, 0)], false), (30, .iconst 2, 0, [], false), (31, .iaload, 0, [], false), (32, .ireturn, 0, [], false)]
def zc149 : List mzN := [(0, .iconst 0, 0, [], false), (1, .istore_n 2, 0, [], false), (2, .iconst 0, 0, [], false), (3, .istore_n 3, 0, [], false), (4, .iconst 0, 0, [], false), (5, .istore 4, 0, [], false), (7, .iconst 0, 0, [], false), (8, .istore 5, 0, [], false), (10, .iload 5, 0, [], true), (12, .aload_n 0, 0, [], false), (13, .getfield 7, 0, [(0, 3), (0, 20), (0, 21), (0, 0)], false), (16, .iconst 2, 0, [], false), (17, .iaload, 0, [], false), (18, .if_icmp .ge 84, 58, [], false), (21, .iload_n 1, 0, [], false), (22, .iload 5, 0, [], false), (24, .ishr, 0, [], false), (25, .iconst 1, 0, [], false), (26, .iand, 0, [], false), (27, .iconst 1, 0, [], false), (28, .if_icmp .ne 7, 23, [], false), (31, .iconst 1, 0, [], false), (32, .goto 4, 24, [], false), (35, .iconst 0, 0, [], false), (36, .istore 6, 0, [], false), (38, .iload 6, 0, [], false), (40, .ifCond .eq 13, 32, [], false), (43, .aload_n 0, 0, [], false), (44, .getfield 29, 14, [(0, 3), (0, 20), (0, 27), (0, 0)], false), (47, .iload 5, 0, [], false), (49, .iaload, 0, [], false), (50, .goto 10, 36, [], false), (53, .aload_n 0, 0, [], false), (54, .getfield 32, 15, [(0, 3), (0, 20), (0, 28), (0, 0)], false), (57, .iload 5, 0, [], false), (59, .iaload, 0, [], false), (60, .istore 7, 0, [], false), (62, .iload_n 2, 0, [], false), (63, .iload 7, 0, [], false), (65, .iadd, 0, [], false), (66, .istore_n 2, 0, [], false), (67, .iload 6, 0, [], false), (69, .ifCond .eq 8, 45, [], false), (72, .iload 7, 0, [], false), (74, .goto 7, 48, [], false), (77, .iload_n 3, 0, [], false), (78, .iload 7, 0, [], false), (80, .iadd, 0, [], false), (81, .istore_n 3, 0, [], false), (82, .iload_n 3, 0, [], false), (83, .iload 4, 0, [], false), (85, .if_icmp .le 7, 54, [], false), (88, .iload_n 3, 0, [], false), (89, .goto 5, 55, [], false), (92, .iload 4, 0, [], false), (94, .istore 4, 0, [], false), (96, .iinc 5 1, 0, [], false), (99, .goto (-89), 8, [], false), (102, .iload_n 2, 0, [], false), (103, .aload_n 0, 0, [], false), (104, .getfield 7, 0, [(0, 3), (0, 20), (0, 21), (0, 0)], false), (107, .iconst 5, 0, [], false), (108, .iaload, 0, [], false), (109, .iload 4, 0, [], false), (111, .imul, 0, [], false), (112, .iadd, 0, [], false), (113, .ireturn, 0, [], false)]
def zc150 : List mzN := [(0, .iconst 0, 0, [], false), (1, .istore_n 1, 0, [], false), (2, .iconst 0, 0, [], false), (3, .istore_n 2, 0, [], false), (4, .iload_n 2, 0, [], true), (5, .bipush 10, 0, [], false), (7, .if_icmp .ge 17, 17, [], false), (10, .iload_n 1, 0, [], false), (11, .iload_n 0, 0, [], false), (12, .iload_n 2, 0, [], false), (13, .ishr, 0, [], false), (14, .iconst 1, 0, [], false), (15, .iand, 0, [], false), (16, .iadd, 0, [], false), (17, .istore_n 1, 0, [], false), (18, .iinc 2 1, 0, [], false), (21, .goto (-17), 4, [], false), (24, .iload_n 1, 0, [], false), (25, .ireturn, 0, [], false)]
def zc151 : List mzN := [(0, .iconst 0, 0, [], false), (1, .istore_n 1, 0, [], false), (2, .iload_n 1, 0, [], true), (3, .aload_n 0, 0, [], false), (4, .getfield 7, 0, [(0, 3), (0, 20), (0, 21), (0, 0)], false), (7, .iconst 2, 0, [], false), (8, .iaload, 0, [], false), (9, .if_icmp .ge 43, 32, [], false), (12, .aload_n 0, 0, [], false), (13, .getfield 29, 14, [(0, 3), (0, 20), (0, 27), (0, 0)], false), (16, .iload_n 1, 0, [], false), (17, .aload_n 0, 0, [], false), (18, .iload_n 1, 0, [], false), (19, .iconst (-1), 0, [], false), (20, .invokevirtual 197, 138, [(3, 1), (0, 21)], false), (23, .iastore, 0, [], false), (24, .aload_n 0, 0, [], false), (25, .getfield 32, 15, [(0, 3), (0, 20), (0, 28), (0, 0)], false), (28, .iload_n 1, 0, [], false), (29, .iload_n 1, 0, [], false), (30, .ifCond .ne 7, 23, [], false), (33, .iconst 0, 0, [], false), (34, .goto 11, 29, [], false), (37, .aload_n 0, 0, [], false), (38, .iload_n 1, 0, [], false), (39, .iload_n 1, 0, [], false), (40, .iconst 1, 0, [], false), (41, .isub, 0, [], false), (42, .invokevirtual 197, 138, [(3, 1), (0, 21)], false), (45, .iastore, 0, [], false), (46, .iinc 1 1, 0, [], false), (49, .goto (-47), 2, [], false), (52, .aload_n 0, 0, [], false), (53, .iconst 1, 0, [], false), (54, .putfield 209, 16, [(16, 0), (0, 20), (0, 20), (0, 0)], false), (57, .aload_n 0, 0, [], false), (58, .iconst 1, 0, [], false), (59, .invokevirtual 212, 149, [(2, 1), (0, 21)], false), (62, .istore_n 1, 0, [], false), (63, .iconst 3, 0, [], false), (64, .istore_n 2, 0, [], false), (65, .iload_n 2, 0, [], true), (66, .iconst 1, 0, [], false), (67, .aload_n 0, 0, [], false), (68, .getfield 7, 0, [(0, 3), (0, 20), (0, 21), (0, 0)], false), (71, .iconst 2, 0, [], false), (72, .iaload, 0, [], false), (73, .ishl, 0, [], false), (74, .if_icmp .ge 74, 85, [], false), (77, .aload_n 0, 0, [], false), (78, .iload_n 2, 0, [], false), (79, .invokevirtual 212, 149, [(2, 1), (0, 21)], false), (82, .istore_n 3, 0, [], false), (83, .iload_n 3, 0, [], false), (84, .iload_n 1, 0, [], false), (85, .if_icmp .lt 22, 65, [], false), (88, .iload_n 3, 0, [], false), (89, .iload_n 1, 0, [], false), (90, .if_icmp .ne 21, 67, [], false), (93, .iload_n 2, 0, [], false), (94, .invokestatic 215, 150, [(1, 1), (0, 0)], false), (97, .aload_n 0, 0, [], false), (98, .getfield 209, 16, [(16, 0), (0, 20), (0, 20), (0, 0)], false), (101, .invokestatic 215, 150, [(1, 1), (0, 0)], false), (104, .if_icmp .ge 7, 67, [], false), (107, .iconst 1, 0, [], false), (108, .goto 4, 68, [], false), (111, .iconst 0, 0, [], false), (112, .istore 4, 0, [], false), (114, .aload_n 0, 0, [], false), (115, .iload 4, 0, [], false), (117, .ifCond .eq 7, 74, [], false), (120, .iload_n 2, 0, [], false), (121, .goto 7, 76, [], false), (124, .aload_n 0, 0, [], false), (125, .getfield 209, 16, [(16, 0), (0, 20), (0, 20), (0, 0)], false), (128, .putfield 209, 16, [(16, 0), (0, 20), (0, 20), (0, 0)], false), (131, .iload 4, 0, [], false), (133, .ifCond .eq 7, 81, [], false), (136, .iload_n 3, 0, [], false), (137, .goto 4, 82, [], false), (140, .iload_n 1, 0, [], false), (141, .istore_n 1, 0, [], false), (142, .iinc 2 2, 0, [], false), (145, .goto (-80), 41, [], false), (148, .iload_n 1, 0, [], false), (149, .ireturn, 0, [], false)]
def zc152 : List mzN := [(0, .aload_n 0, 0, [], false), (1, .getfield 7, 0, [(0, 3), (0, 20), (0, 21), (0, 0)], false), (4, .iconst 2, 0, [], false), (5, .iaload, 0, [], false), (6, .ifCond .ne 6, 7, [], false), (9, .bipush (-2), 0, [], false), (11, .ireturn, 0, [], false), (12, .aload_n 0, 0, [], false), (13, .invokevirtual 58, 99, [(1, 0), (0, 21)], false), (16, .aload_n 0, 0, [], false), (17, .invokevirtual 218, 151, [(1, 1), (0, 21)], false), (20, .istore_n 1, 0, [], false), (21, .iconst 0, 0, [], false), (22, .istore_n 2, 0, [], false), (23, .iload_n 2, 0, [], true), (24, .aload_n 0, 0, [], false), (25, .getfield 7, 0, [(0, 3), (0, 20), (0, 21), (0, 0)], false), (28, .iconst 2, 0, [], false), (29, .iaload, 0, [], false), (30, .if_icmp .ge 52, 49, [], false), (33, .aload_n 0, 0, [], false), (34, .getfield 209, 16, [(16, 0), (0, 20), (0, 20), (0, 0)], false), (37, .iload_n 2, 0, [], false), (38, .ishr, 0, [], false), (39, .iconst 1, 0, [], false), (40, .iand, 0, [], false), (41, .iconst 1, 0, [], false), (42, .if_icmp .ne 7, 30, [], false), (45, .iconst (-1), 0, [], false), (46, .goto 6, 33, [], false), (49, .iload_n 2, 0, [], false), (50, .iconst 1, 0, [], false), (51, .isub, 0, [], false), (52, .istore_n 3, 0, [], false), (53, .aload_n 0, 0, [], false), (54, .iload_n 2, 0, [], false), (55, .iload_n 3, 0, [], false), (56, .invokevirtual 197, 138, [(3, 1), (0, 21)], false), (59, .istore 4, 0, [], false), (61, .aload_n 0, 0, [], false), (62, .iload_n 2, 0, [], false), (63, .iload 4, 0, [], false), (65, .ifCond .ge 7, 45, [], false), (68, .iconst (-1), 0, [], false), (69, .goto 4, 46, [], false), (72, .iload_n 3, 0, [], false), (73, .invokevirtual 200, 143, [(3, 0), (0, 21)], false), (76, .iinc 2 1, 0, [], false), (79, .goto (-56), 14, [], false), (82, .iload_n 1, 0, [], false), (83, .ireturn, 0, [], false)]
def zc153 : List mzN := [(0, .aload_n 0, 0, [], false), (1, .getfield 7, 0, [(0, 3), (0, 20), (0, 21), (0, 0)], false), (4, .iconst 2, 0, [], false), (5, .iaload, 0, [], false), (6, .ifCond .ne 8, 7, [], false), (9, .bipush (-9), 0, [], false), (11, .goto 7, 9, [], false), (14, .aload_n 0, 0, [], false), (15, .invokevirtual 218, 151, [(1, 1), (0, 21)], false), (18, .ireturn, 0, [], false)]
def zc154 : List mzN := [(0, .aload_n 0, 0, [], false), (1, .getfield 7, 0, [(0, 3), (0, 20), (0, 21), (0, 0)], false), (4, .iconst 2, 0, [], false), (5, .iaload, 0, [], false), (6, .ifCond .ne 6, 7, [], false), (9, .bipush (-9), 0, [], false), (11, .ireturn, 0, [], false), (12, .aload_n 0, 0, [], false), (13, .invokevirtual 218, 151, [(1, 1), (0, 21)], false), (16, .ifCond .ge 8, 12, [], false), (19, .bipush (-9), 0, [], false), (21, .goto 7, 14, [], false), (24, .aload_n 0, 0, [], false), (25, .getfield 209, 16, [(16, 0), (0, 20), (0, 20), (0, 0)], false), (28, .ireturn, 0, [], false)]
def zc155 : List mzN := [(0, .iload_n 1, 0, [], false), (1, .iconst 0, 0, [], false), (2, .iconst 4, 0, [], false), (3, .invokestatic 46, 98, [(3, 1), (0, 0)], false), (6, .ifCond .eq 23, 15, [], false), (9, .iload_n 2, 0, [], false), (10, .iconst 0, 0, [], false), (11, .bipush 9, 0, [], false), (13, .invokestatic 46, 98, [(3, 1), (0, 0)], false), (16, .ifCond .eq 13, 15, [], false), (19, .iload_n 3, 0, [], false), (20, .iconst 0, 0, [], false), (21, .bipush 9, 0, [], false), (23, .invokestatic 46, 98, [(3, 1), (0, 0)], false), (26, .ifCond .ne 5, 17, [], false), (29, .iconst (-1), 0, [], false), (30, .ireturn, 0, [], false), (31, .aload_n 0, 0, [], false), (32, .invokevirtual 58, 99, [(1, 0), (0, 21)], false), (35, .aload_n 0, 0, [], false), (36, .getfield 7, 0, [(0, 3), (0, 20), (0, 21), (0, 0)], false), (39, .iconst 3, 0, [], false), (40, .iaload, 0, [], false), (41, .iload_n 1, 0, [], false), (42, .if_icmp .ne 23, 37, [], false), (45, .aload_n 0, 0, [], false), (46, .getfield 7, 0, [(0, 3), (0, 20), (0, 21), (0, 0)], false), (49, .iconst 4, 0, [], false), (50, .iaload, 0, [], false), (51, .iload_n 2, 0, [], false), (52, .if_icmp .ne 13, 37, [], false), (55, .aload_n 0, 0, [], false), (56, .getfield 7, 0, [(0, 3), (0, 20), (0, 21), (0, 0)], false), (59, .iconst 5, 0, [], false), (60, .iaload, 0, [], false), (61, .iload_n 3, 0, [], false), (62, .if_icmp .eq 7, 39, [], false), (65, .iconst 1, 0, [], false), (66, .goto 4, 40, [], false), (69, .iconst 0, 0, [], false), (70, .istore 4, 0, [], false), (72, .aload_n 0, 0, [], false), (73, .getfield 7, 0, [(0, 3), (0, 20), (0, 21), (0, 0)], false), (76, .iconst 3, 0, [], false), (77, .iload_n 1, 0, [], false), (78, .iastore, 0, [], false), (79, .aload_n 0, 0, [], false), (80, .getfield 7, 0, [(0, 3), (0, 20), (0, 21), (0, 0)], false), (83, .iconst 4, 0, [], false), (84, .iload_n 2, 0, [], false), (85, .iastore, 0, [], false), (86, .aload_n 0, 0, [], false), (87, .getfield 7, 0, [(0, 3), (0, 20), (0, 21), (0, 0)], false), (90, .iconst 5, 0, [], false), (91, .iload_n 3, 0, [], false), (92, .iastore, 0, [], false), (93, .iload 4, 0, [], false), (95, .ifCond .eq 7, 60, [], false), (98, .iconst 1, 0, [], false), (99, .goto 4, 61, [], false), (102, .iconst 0, 0, [], false), (103, .ireturn, 0, [], false)]
def zc156 : List mzN := [(0, .aload_n 0, 0, [], false), (1, .iload_n 1, 0, [], false), (2, .invokevirtual 140, 103, [(2, 1), (0, 21)], false), (5, .ifCond .eq 12, 9, [], false), (8, .iload_n 2, 0, [], false), (9, .iconst 0, 0, [], false), (10, .iconst 1, 0, [], false), (11, .invokestatic 46, 98, [(3, 1), (0, 0)], false), (14, .ifCond .ne 5, 11, [], false), (17, .iconst (-1), 0, [], false), (18, .ireturn, 0, [], false), (19, .aload_n 0, 0, [], false), (20, .getfield 7, 0, [(0, 3), (0, 20), (0, 21), (0, 0)], false), (23, .sipush 1600, 0, [], false), (26, .iload_n 1, 0, [], false), (27, .iadd, 0, [], false), (28, .iaload, 0, [], false), (29, .iload_n 2, 0, [], false), (30, .if_icmp .ne 6, 21, [], false), (33, .bipush (-2), 0, [], false), (35, .ireturn, 0, [], false), (36, .aload_n 0, 0, [], false), (37, .invokevirtual 58, 99, [(1, 0), (0, 21)], false), (40, .aload_n 0, 0, [], false), (41, .getfield 7, 0, [(0, 3), (0, 20), (0, 21), (0, 0)], false), (44, .sipush 1600, 0, [], false), (47, .iload_n 1, 0, [], false), (48, .iadd, 0, [], false), (49, .iload_n 2, 0, [], false), (50, .iastore, 0, [], false), (51, .aload_n 0, 0, [], false), (52, .invokevirtual 221, 108, [(1, 1), (0, 21)], false), (55, .ireturn, 0, [], false)]
def zc157 : List mzN := [(0, .iconst 0, 0, [], false), (1, .istore_n 3, 0, [], false), (2, .iconst 0, 0, [], false), (3, .istore 4, 0, [], false), (5, .iload 4, 0, [], true), (7, .aload_n 0, 0, [], false), (8, .invokevirtual 61, 102, [(1, 1), (0, 21)], false), (11, .if_icmp .ge 33, 25, [], false), (14, .iload_n 3, 0, [], false), (15, .aload_n 0, 0, [], false), (16, .getfield 7, 0, [(0, 3), (0, 20), (0, 21), (0, 0)], false), (19, .aload_n 0, 0, [], false), (20, .iload_n 1, 0, [], false), (21, .iload 4, 0, [], false), (23, .invokevirtual 188, 139, [(3, 1), (0, 21)], false), (26, .iaload, 0, [], false), (27, .iload_n 2, 0, [], false), (28, .if_icmp .ne 7, 20, [], false), (31, .iconst 1, 0, [], false), (32, .goto 4, 21, [], false), (35, .iconst 0, 0, [], false), (36, .iadd, 0, [], false), (37, .istore_n 3, 0, [], false), (38, .iinc 4 1, 0, [], false), (41, .goto (-36), 4, [], false), (44, .iload_n 3, 0, [], false), (45, .ireturn, 0, [], false)]
def zc158 : List mzN := [(0, .aload_n 0, 0, [], false), (1, .iload_n 1, 0, [], false), (2, .invokevirtual 140, 103, [(2, 1), (0, 21)], false), (5, .ifCond .eq 13, 9, [], false), (8, .iload_n 2, 0, [], false), (9, .iconst 0, 0, [], false), (10, .bipush 8, 0, [], false), (12, .invokestatic 46, 98, [(3, 1), (0, 0)], false), (15, .ifCond .ne 5, 11, [], false), (18, .iconst (-1), 0, [], false), (19, .ireturn, 0, [], false), (20, .iload_n 2, 0, [], false), (21, .tableswitch 87 0 4 #[35, 55, 61, 67, 73], 44, [(0, 13), (1, 24), (2, 28), (3, 32), (4, 36)], false), (56, .aload_n 0, 0, [], false), (57, .iload_n 1, 0, [], false), (58, .invokevirtual 50, 105, [(2, 1), (0, 21)], false), (61, .iconst (-1), 0, [], false), (62, .if_icmp .ne 8, 20, [], false), (65, .bipush (-9), 0, [], false), (67, .goto 8, 23, [], false), (70, .aload_n 0, 0, [], false), (71, .iload_n 1, 0, [], false), (72, .invokevirtual 50, 105, [(2, 1), (0, 21)], false), (75, .ireturn, 0, [], false), (76, .aload_n 0, 0, [], false), (77, .iload_n 1, 0, [], false), (78, .invokevirtual 194, 141, [(2, 1), (0, 21)], false), (81, .ireturn, 0, [], false), (82, .aload_n 0, 0, [], false), (83, .iload_n 1, 0, [], false), (84, .invokevirtual 224, 142, [(2, 1), (0, 21)], false), (87, .ireturn, 0, [], false), (88, .aload_n 0, 0, [], false), (89, .iload_n 1, 0, [], false), (90, .invokevirtual 206, 106, [(2, 1), (0, 21)], false), (93, .ireturn, 0, [], false), (94, .aload_n 0, 0, [], false), (95, .iload_n 1, 0, [], false), (96, .invokevirtual 54, 107, [(2, 1), (0, 21)], false), (99, .ifCond .eq 7, 42, [], false), (102, .iconst 1, 0, [], false), (103, .goto 4, 43, [], false), (106, .iconst 0, 0, [], false), (107, .ireturn, 0, [], false), (108, .aload_n 0, 0, [], false), (109, .iload_n 1, 0, [], false), (110, .iload_n 2, 0, [], false), (111, .iconst 5, 0, [], false), (112, .isub, 0, [], false), (113, .invokevirtual 227, 157, [(3, 1), (0, 21)], false), (116, .ireturn, 0, [], false)]
def zc159 : List mzN := [(0, .iload_n 1, 0, [], false), (1, .iconst 0, 0, [], false), (2, .aload_n 0, 0, [], false), (3, .invokevirtual 61, 102, [(1, 1), (0, 21)], false), (6, .iconst 1, 0, [], false), (7, .isub, 0, [], false), (8, .invokestatic 46, 98, [(3, 1), (0, 0)], false), (11, .ireturn, 1, [], false)]
def zc160 : List mzN := [(0, .aload_n 0, 0, [], false), (1, .iload_n 1, 0, [], false), (2, .invokevirtual 140, 103, [(2, 1), (0, 21)], false), (5, .ifCond .eq 20, 13, [], false), (8, .aload_n 0, 0, [], false), (9, .iload_n 2, 0, [], false), (10, .invokevirtual 230, 159, [(2, 1), (0, 21)], false), (13, .ifCond .eq 12, 13, [], false), (16, .iload_n 3, 0, [], false), (17, .iconst 0, 0, [], false), (18, .iconst 3, 0, [], false), (19, .invokestatic 46, 98, [(3, 1), (0, 0)], false), (22, .ifCond .ne 5, 15, [], false), (25, .iconst (-1), 0, [], false), (26, .ireturn, 0, [], false), (27, .aload_n 0, 0, [], false), (28, .getfield 7, 0, [(0, 3), (0, 20), (0, 21), (0, 0)], false), (31, .aload_n 0, 0, [], false), (32, .iload_n 1, 0, [], false), (33, .iload_n 2, 0, [], false), (34, .invokevirtual 188, 139, [(3, 1), (0, 21)], false), (37, .iaload, 0, [], false), (38, .istore 4, 0, [], false), (40, .iload_n 3, 0, [], false), (41, .ifCond .ne 6, 27, [], false), (44, .iload 4, 0, [], false), (46, .ireturn, 0, [], false), (47, .iload_n 3, 0, [], false), (48, .iconst 3, 0, [], false), (49, .if_icmp .ne 23, 40, [], false), (52, .iload 4, 0, [], false), (54, .iconst 2, 0, [], false), (55, .if_icmp .lt 12, 38, [], false), (58, .aload_n 0, 0, [], false), (59, .iload_n 1, 0, [], false), (60, .iload_n 2, 0, [], false), (61, .invokevirtual 191, 140, [(3, 1), (0, 21)], false), (64, .goto 32, 54, [], false), (67, .bipush (-9), 0, [], false), (69, .goto 27, 54, [], false), (72, .iload 4, 0, [], false), (74, .iconst 1, 0, [], false), (75, .if_icmp .ne 19, 53, [], false), (78, .aload_n 0, 0, [], false), (79, .getfield 7, 0, [(0, 3), (0, 20), (0, 21), (0, 0)], false), (82, .aload_n 0, 0, [], false), (83, .iload_n 1, 0, [], false), (84, .iload_n 2, 0, [], false), (85, .invokevirtual 188, 139, [(3, 1), (0, 21)], false), (88, .iload_n 3, 0, [], false), (89, .iadd, 0, [], false), (90, .iaload, 0, [], false), (91, .goto 5, 54, [], false), (94, .bipush (-9), 0, [], false), (96, .ireturn, 0, [], false)]
def zc161 : List mzN := [(0, .aload_n 0, 0, [], false), (1, .iload_n 1, 0, [], false), (2, .invokevirtual 140, 103, [(2, 1), (0, 21)], false), (5, .ifCond .eq 25, 15, [], false), (8, .aload_n 0, 0, [], false), (9, .iload_n 2, 0, [], false), (10, .invokevirtual 230, 159, [(2, 1), (0, 21)], false), (13, .ifCond .eq 17, 15, [], false), (16, .iload_n 3, 0, [], false), (17, .ifCond .lt 13, 15, [], false), (20, .iload 4, 0, [], false), (22, .iconst 0, 0, [], false), (23, .iconst 1, 0, [], false), (24, .invokestatic 46, 98, [(3, 1), (0, 0)], false), (27, .ifCond .ne 5, 17, [], false), (30, .iconst (-1), 0, [], false), (31, .ireturn, 0, [], false), (32, .aload_n 0, 0, [], false), (33, .getfield 7, 0, [(0, 3), (0, 20), (0, 21), (0, 0)], false), (36, .aload_n 0, 0, [], false), (37, .iload_n 1, 0, [], false), (38, .iload_n 2, 0, [], false), (39, .invokevirtual 188, 139, [(3, 1), (0, 21)], false), (42, .iaload, 0, [], false), (43, .istore 5, 0, [], false), (45, .iload_n 3, 0, [], false), (46, .aload_n 0, 0, [], false), (47, .iload_n 1, 0, [], false), (48, .iload_n 2, 0, [], false), (49, .invokevirtual 191, 140, [(3, 1), (0, 21)], false), (52, .if_icmp .lt 6, 33, [], false), (55, .bipush (-9), 0, [], false), (57, .ireturn, 0, [], false), (58, .iload 5, 0, [], false), (60, .iconst 2, 0, [], false), (61, .if_icmp .ne 11, 40, [], false), (64, .aload_n 0, 0, [], false), (65, .iload_n 1, 0, [], false), (66, .invokevirtual 50, 105, [(2, 1), (0, 21)], false), (69, .goto 4, 41, [], false), (72, .iconst (-1), 0, [], false), (73, .istore 6, 0, [], false), (75, .iconst 0, 0, [], false), (76, .istore 7, 0, [], false), (78, .iconst 0, 0, [], false), (79, .istore 8, 0, [], false), (81, .iconst 0, 0, [], false), (82, .istore 9, 0, [], false), (84, .iconst 0, 0, [], false), (85, .istore 10, 0, [], false), (87, .iload 10, 0, [], true), (89, .bipush 16, 0, [], false), (91, .if_icmp .ge 88, 99, [], false), (94, .iload 7, 0, [], false), (96, .iload 10, 0, [], false), (98, .ifCond .le 32, 73, [], false), (101, .aload_n 0, 0, [], false), (102, .iload_n 1, 0, [], false), (103, .iload 6, 0, [], false), (105, .iload_n 2, 0, [], false), (106, .iload 10, 0, [], false), (108, .invokevirtual 168, 132, [(5, 1), (0, 21)], false), (111, .aload_n 0, 0, [], false), (112, .iload_n 1, 0, [], false), (113, .iload 6, 0, [], false), (115, .iload_n 2, 0, [], false), (116, .iload 10, 0, [], false), (118, .iconst 1, 0, [], false), (119, .isub, 0, [], false), (120, .invokevirtual 168, 132, [(5, 1), (0, 21)], false), (123, .if_icmp .eq 7, 73, [], false), (126, .iconst 1, 0, [], false), (127, .goto 4, 74, [], false), (130, .iconst 0, 0, [], false), (131, .iadd, 0, [], false), (132, .istore 7, 0, [], false), (134, .iload 8, 0, [], false), (136, .iload 7, 0, [], false), (138, .iload_n 3, 0, [], false), (139, .if_icmp .ne 7, 82, [], false), (142, .iconst 1, 0, [], false), (143, .goto 4, 83, [], false), (146, .iconst 0, 0, [], false), (147, .iadd, 0, [], false), (148, .istore 8, 0, [], false), (150, .iload 7, 0, [], false), (152, .iload_n 3, 0, [], false), (153, .if_icmp .ne 16, 95, [], false), (156, .aload_n 0, 0, [], false), (157, .iload_n 1, 0, [], false), (158, .iload 6, 0, [], false), (160, .iload_n 2, 0, [], false), (161, .iload 10, 0, [], false), (163, .invokevirtual 168, 132, [(5, 1), (0, 21)], false), (166, .goto 5, 96, [], false), (169, .iload 9, 0, [], false), (171, .istore 9, 0, [], false), (173, .iinc 10 1, 0, [], false), (176, .goto (-89), 50, [], false), (179, .iload 4, 0, [], false), (181, .ifCond .ne 8, 103, [], false), (184, .iload 8, 0, [], false), (186, .goto 5, 104, [], false), (189, .iload 9, 0, [], false), (191, .ireturn, 0, [], false)]
def zc162 : List mzN := [(0, .aload_n 0, 0, [], false), (1, .iload_n 1, 0, [], false), (2, .invokevirtual 140, 103, [(2, 1), (0, 21)], false), (5, .ifCond .eq 11, 8, [], false), (8, .aload_n 0, 0, [], false), (9, .iload_n 2, 0, [], false), (10, .invokevirtual 64, 110, [(2, 1), (0, 21)], false), (13, .ifCond .ne 5, 10, [], false), (16, .iconst (-1), 0, [], false), (17, .ireturn, 0, [], false), (18, .aload_n 0, 0, [], false), (19, .iload_n 1, 0, [], false), (20, .invokevirtual 54, 107, [(2, 1), (0, 21)], false), (23, .ifCond .eq 12, 19, [], false), (26, .aload_n 0, 0, [], false), (27, .iload_n 1, 0, [], false), (28, .iload_n 2, 0, [], false), (29, .invokevirtual 143, 104, [(3, 1), (0, 21)], false), (32, .goto 5, 20, [], false), (35, .bipush (-2), 0, [], false), (37, .ireturn, 0, [], false)]
def zc163 : List mzN := [(0, .iconst 0, 0, [], false), (1, .istore_n 2, 0, [], false), (2, .iload_n 1, 0, [], false), (3, .tableswitch 103 0 9 #[53, 53, 53, 53, 53, 53, 60, 88, 93, 98], 36, [(0, 4), (1, 4), (2, 4), (3, 4), (4, 4), (5, 4), (6, 9), (7, 27), (8, 30), (9, 33)], false), (56, .aload_n 0, 0, [], false), (57, .getfield 7, 0, [(0, 3), (0, 20), (0, 21), (0, 0)], false), (60, .iload_n 1, 0, [], false), (61, .iaload, 0, [], false), (62, .ireturn, 0, [], false), (63, .iconst 0, 0, [], false), (64, .istore_n 3, 0, [], false), (65, .iload_n 3, 0, [], true), (66, .aload_n 0, 0, [], false), (67, .getfield 7, 0, [(0, 3), (0, 20), (0, 21), (0, 0)], false), (70, .iconst 2, 0, [], false), (71, .iaload, 0, [], false), (72, .if_icmp .ge 17, 25, [], false), (75, .iload_n 2, 0, [], false), (76, .aload_n 0, 0, [], false), (77, .iload_n 3, 0, [], false), (78, .invokevirtual 194, 141, [(2, 1), (0, 21)], false), (81, .iadd, 0, [], false), (82, .istore_n 2, 0, [], false), (83, .iinc 3 1, 0, [], false), (86, .goto (-21), 11, [], false), (89, .iload_n 2, 0, [], false), (90, .ireturn, 0, [], false), (91, .aload_n 0, 0, [], false), (92, .invokevirtual 221, 108, [(1, 1), (0, 21)], false), (95, .ireturn, 0, [], false), (96, .aload_n 0, 0, [], false), (97, .getfield 67, 4, [(4, 0), (0, 20), (0, 20), (0, 0)], false), (100, .ireturn, 0, [], false), (101, .aload_n 0, 0, [], false), (102, .getfield 38, 2, [(2, 0), (0, 20), (0, 20), (0, 0)], false), (105, .ireturn, 0, [], false), (106, .iconst (-1), 0, [], false), (107, .ireturn, 0, [], false)]
def zc164 : List mzN := [(0, .aload_n 0, 0, [], false), (1, .iload_n 1, 0, [], false), (2, .invokevirtual 152, 126, [(2, 1), (0, 21)], false), (5, .ifCond .ne 5, 6, [], false), (8, .iconst (-1), 0, [], false), (9, .ireturn, 0, [], false), (10, .aload_n 0, 0, [], false), (11, .iload_n 1, 0, [], false), (12, .invokevirtual 155, 127, [(2, 1), (0, 21)], false), (15, .ifCond .eq 12, 15, [], false), (18, .aload_n 0, 0, [], false), (19, .iconst (-1), 0, [], false), (20, .iload_n 1, 0, [], false), (21, .invokevirtual 197, 138, [(3, 1), (0, 21)], false), (24, .goto 5, 16, [], false), (27, .bipush (-2), 0, [], false), (29, .ireturn, 0, [], false)]
def zc165 : List mzN := [(0, .iconst 0, 0, [], false), (1, .istore_n 3, 0, [], false), (2, .iconst 0, 0, [], false), (3, .istore 4, 0, [], false), (5, .iload 4, 0, [], true), (7, .aload_n 0, 0, [], false), (8, .invokevirtual 42, 101, [(1, 1), (0, 21)], false), (11, .if_icmp .ge 34, 25, [], false), (14, .iload_n 3, 0, [], false), (15, .aload_n 0, 0, [], false), (16, .iload_n 1, 0, [], false), (17, .iload 4, 0, [], false), (19, .invokevirtual 143, 104, [(3, 1), (0, 21)], false), (22, .aload_n 0, 0, [], false), (23, .iload_n 2, 0, [], false), (24, .iload 4, 0, [], false), (26, .invokevirtual 143, 104, [(3, 1), (0, 21)], false), (29, .if_icmp .eq 7, 20, [], false), (32, .iconst 1, 0, [], false), (33, .goto 4, 21, [], false), (36, .iconst 0, 0, [], false), (37, .iadd, 0, [], false), (38, .istore_n 3, 0, [], false), (39, .iinc 4 1, 0, [], false), (42, .goto (-37), 4, [], false), (45, .iload_n 3, 0, [], false), (46, .ireturn, 0, [], false)]
def zc166 : List mzN := [(0, .aload_n 0, 0, [], false), (1, .iload_n 1, 0, [], false), (2, .invokevirtual 152, 126, [(2, 1), (0, 21)], false), (5, .ifCond .eq 11, 8, [], false), (8, .aload_n 0, 0, [], false), (9, .iload_n 2, 0, [], false), (10, .invokevirtual 152, 126, [(2, 1), (0, 21)], false), (13, .ifCond .ne 5, 10, [], false), (16, .iconst (-1), 0, [], false), (17, .ireturn, 0, [], false), (18, .aload_n 0, 0, [], false), (19, .iload_n 1, 0, [], false), (20, .invokevirtual 155, 127, [(2, 1), (0, 21)], false), (23, .ifCond .eq 20, 23, [], false), (26, .aload_n 0, 0, [], false), (27, .iload_n 2, 0, [], false), (28, .invokevirtual 155, 127, [(2, 1), (0, 21)], false), (31, .ifCond .eq 12, 23, [], false), (34, .aload_n 0, 0, [], false), (35, .iload_n 1, 0, [], false), (36, .iload_n 2, 0, [], false), (37, .invokevirtual 233, 165, [(3, 1), (0, 21)], false), (40, .goto 5, 24, [], false), (43, .bipush (-2), 0, [], false), (45, .ireturn, 0, [], false)]
def zc167 : List mzN := [(0, .iconst 1, 0, [], false), (1, .istore 7, 0, [], false), (3, .iconst 0, 0, [], false), (4, .istore 8, 0, [], false), (6, .iload 8, 0, [], true), (8, .bipush 16, 0, [], false), (10, .if_icmp .ge 69, 46, [], false), (13, .iload 7, 0, [], false), (15, .ifCond .eq 55, 42, [], false), (18, .aload_n 0, 0, [], false), (19, .iload_n 1, 0, [], false), (20, .aload_n 0, 0, [], false), (21, .iload_n 2, 0, [], false), (22, .iload 8, 0, [], false), (24, .iconst 4, 0, [], false), (25, .irem, 0, [], false), (26, .iadd, 0, [], false), (27, .iload_n 3, 0, [], false), (28, .iload 8, 0, [], false), (30, .iconst 4, 0, [], false), (31, .idiv, 0, [], false), (32, .iadd, 0, [], false), (33, .invokevirtual 115, 119, [(3, 1), (0, 21)], false), (36, .invokevirtual 143, 104, [(3, 1), (0, 21)], false), (39, .aload_n 0, 0, [], false), (40, .iload 4, 0, [], false), (42, .aload_n 0, 0, [], false), (43, .iload 5, 0, [], false), (45, .iload 8, 0, [], false), (47, .iconst 4, 0, [], false), (48, .irem, 0, [], false), (49, .iadd, 0, [], false), (50, .iload 6, 0, [], false), (52, .iload 8, 0, [], false), (54, .iconst 4, 0, [], false), (55, .idiv, 0, [], false), (56, .iadd, 0, [], false), (57, .invokevirtual 115, 119, [(3, 1), (0, 21)], false), (60, .invokevirtual 143, 104, [(3, 1), (0, 21)], false), (63, .if_icmp .ne 7, 42, [], false), (66, .iconst 1, 0, [], false), (67, .goto 4, 43, [], false), (70, .iconst 0, 0, [], false), (71, .istore 7, 0, [], false), (73, .iinc 8 1, 0, [], false), (76, .goto (-70), 4, [], false), (79, .iload 7, 0, [], false), (81, .ireturn, 1, [], false)]
def zc168 : List mzN := [(0, .aload_n 0, 0, [], false), (1, .iload_n 1, 0, [], false), (2, .invokevirtual 140, 103, [(2, 1), (0, 21)], false), (5, .ifCond .eq 11, 8, [], false), (8, .aload_n 0, 0, [], false), (9, .iload_n 2, 0, [], false), (10, .invokevirtual 230, 159, [(2, 1), (0, 21)], false), (13, .ifCond .ne 5, 10, [], false), (16, .iconst (-1), 0, [], false), (17, .ireturn, 0, [], false), (18, .aload_n 0, 0, [], false), (19, .iload_n 1, 0, [], false), (20, .invokevirtual 54, 107, [(2, 1), (0, 21)], false), (23, .ifCond .ne 6, 16, [], false), (26, .bipush (-2), 0, [], false), (28, .ireturn, 0, [], false), (29, .iconst 0, 0, [], false), (30, .istore_n 3, 0, [], false), (31, .iload_n 3, 0, [], true), (32, .aload_n 0, 0, [], false), (33, .getfield 7, 0, [(0, 3), (0, 20), (0, 21), (0, 0)], false), (36, .iconst 1, 0, [], false), (37, .iaload, 0, [], false), (38, .iconst 4, 0, [], false), (39, .isub, 0, [], false), (40, .if_icmp .gt 61, 59, [], false), (43, .iconst 0, 0, [], false), (44, .istore 4, 0, [], false), (46, .iload 4, 0, [], true), (48, .aload_n 0, 0, [], false), (49, .getfield 7, 0, [(0, 3), (0, 20), (0, 21), (0, 0)], false), (52, .iconst 0, 0, [], false), (53, .iaload, 0, [], false), (54, .iconst 4, 0, [], false), (55, .isub, 0, [], false), (56, .if_icmp .gt 39, 57, [], false), (59, .aload_n 0, 0, [], false), (60, .iconst (-1), 0, [], false), (61, .aload_n 0, 0, [], false), (62, .iload_n 2, 0, [], false), (63, .invokevirtual 162, 130, [(2, 1), (0, 21)], false), (66, .aload_n 0, 0, [], false), (67, .iload_n 2, 0, [], false), (68, .invokevirtual 165, 131, [(2, 1), (0, 21)], false), (71, .iload_n 1, 0, [], false), (72, .iload 4, 0, [], false), (74, .iload_n 3, 0, [], false), (75, .invokevirtual 236, 167, [(7, 1), (0, 21)], false), (78, .ifCond .eq 11, 55, [], false), (81, .bipush 100, 0, [], false), (83, .iload 4, 0, [], false), (85, .imul, 0, [], false), (86, .iload_n 3, 0, [], false), (87, .iadd, 0, [], false), (88, .ireturn, 0, [], false), (89, .iinc 4 1, 0, [], false), (92, .goto (-46), 28, [], false), (95, .iinc 3 1, 0, [], false), (98, .goto (-67), 18, [], false), (101, .bipush (-9), 0, [], false), (103, .ireturn, 0, [], false)]
def zc169 : List mzN := [(0, .aload_n 0, 0, [], false), (1, .iload_n 1, 0, [], false), (2, .invokevirtual 152, 126, [(2, 1), (0, 21)], false), (5, .ifCond .ne 5, 6, [], false), (8, .iconst (-1), 0, [], false), (9, .ireturn, 0, [], false), (10, .aload_n 0, 0, [], false), (11, .iload_n 1, 0, [], false), (12, .invokevirtual 155, 127, [(2, 1), (0, 21)], false), (15, .ifCond .ne 6, 12, [], false), (18, .bipush (-2), 0, [], false), (20, .ireturn, 0, [], false), (21, .aload_n 0, 0, [], false), (22, .getfield 7, 0, [(0, 3), (0, 20), (0, 21), (0, 0)], false), (25, .iconst 0, 0, [], false), (26, .iaload, 0, [], false), (27, .iconst 3, 0, [], false), (28, .isub, 0, [], false), (29, .istore_n 2, 0, [], false), (30, .iload_n 2, 0, [], false), (31, .aload_n 0, 0, [], false), (32, .getfield 7, 0, [(0, 3), (0, 20), (0, 21), (0, 0)], false), (35, .iconst 1, 0, [], false), (36, .iaload, 0, [], false), (37, .iconst 3, 0, [], false), (38, .isub, 0, [], false), (39, .imul, 0, [], false), (40, .istore_n 3, 0, [], false), (41, .iconst 0, 0, [], false), (42, .istore 4, 0, [], false), (44, .iconst 0, 0, [], false), (45, .istore 5, 0, [], false), (47, .iload 5, 0, [], true), (49, .iload_n 3, 0, [], false), (50, .if_icmp .ge 109, 95, [], false), (53, .aload_n 0, 0, [], false), (54, .getfield 35, 17, [(0, 3), (0, 20), (0, 29), (0, 0)], false), (57, .iload 5, 0, [], false), (59, .aload_n 0, 0, [], false), (60, .iload_n 1, 0, [], false), (61, .iload 5, 0, [], false), (63, .iload_n 2, 0, [], false), (64, .irem, 0, [], false), (65, .iload 5, 0, [], false), (67, .iload_n 2, 0, [], false), (68, .idiv, 0, [], false), (69, .invokevirtual 158, 128, [(4, 1), (0, 21)], false), (72, .iastore, 0, [], false), (73, .iconst 0, 0, [], false), (74, .istore 6, 0, [], false), (76, .iload 6, 0, [], true), (78, .iload 5, 0, [], false), (80, .if_icmp .ge 73, 93, [], false), (83, .aload_n 0, 0, [], false), (84, .getfield 35, 17, [(0, 3), (0, 20), (0, 29), (0, 0)], false), (87, .iload 6, 0, [], false), (89, .iaload, 0, [], false), (90, .aload_n 0, 0, [], false), (91, .getfield 35, 17, [(0, 3), (0, 20), (0, 29), (0, 0)], false), (94, .iload 5, 0, [], false), (96, .iaload, 0, [], false), (97, .if_icmp .ne 32, 81, [], false), (100, .aload_n 0, 0, [], false), (101, .iload_n 1, 0, [], false), (102, .iload 5, 0, [], false), (104, .iload_n 2, 0, [], false), (105, .irem, 0, [], false), (106, .iload 5, 0, [], false), (108, .iload_n 2, 0, [], false), (109, .idiv, 0, [], false), (110, .iload_n 1, 0, [], false), (111, .iload 6, 0, [], false), (113, .iload_n 2, 0, [], false), (114, .irem, 0, [], false), (115, .iload 6, 0, [], false), (117, .iload_n 2, 0, [], false), (118, .idiv, 0, [], false), (119, .invokevirtual 236, 167, [(7, 1), (0, 21)], false), (122, .ifCond .ne 7, 81, [], false), (125, .iconst 1, 0, [], false), (126, .goto 4, 82, [], false), (129, .iconst 0, 0, [], false), (130, .istore 7, 0, [], false), (132, .iload 4, 0, [], false), (134, .iload 7, 0, [], false), (136, .ifCond .eq 7, 88, [], false), (139, .iconst 1, 0, [], false), (140, .goto 4, 89, [], false), (143, .iconst 0, 0, [], false), (144, .iadd, 0, [], false), (145, .istore 4, 0, [], false), (147, .iinc 6 1, 0, [], false), (150, .goto (-74), 50, [], false), (153, .iinc 5 1, 0, [], false), (156, .goto (-109), 32, [], false), (159, .iload 4, 0, [], false), (161, .ireturn, 0, [], false)]
def zc170 : List mzN := [(0, .bipush (-9), 0, [], false), (2, .istore_n 1, 0, [], false), (3, .iconst 0, 0, [], false), (4, .istore_n 2, 0, [], false), (5, .iload_n 2, 0, [], true), (6, .aload_n 0, 0, [], false), (7, .getfield 7, 0, [(0, 3), (0, 20), (0, 21), (0, 0)], false), (10, .iconst 2, 0, [], false), (11, .iaload, 0, [], false), (12, .if_icmp .ge 28, 23, [], false), (15, .aload_n 0, 0, [], false), (16, .iload_n 2, 0, [], false), (17, .invokevirtual 224, 142, [(2, 1), (0, 21)], false), (20, .iload_n 1, 0, [], false), (21, .if_icmp .le 11, 19, [], false), (24, .aload_n 0, 0, [], false), (25, .iload_n 2, 0, [], false), (26, .invokevirtual 224, 142, [(2, 1), (0, 21)], false), (29, .goto 4, 20, [], false), (32, .iload_n 1, 0, [], false), (33, .istore_n 1, 0, [], false), (34, .iinc 2 1, 0, [], false), (37, .goto (-32), 4, [], false), (40, .iload_n 1, 0, [], false), (41, .ireturn, 0, [], false)]
def zc171 : List mzN := [(0, .iload_n 2, 0, [], false), (1, .istore_n 3, 0, [], false), (2, .iload_n 3, 0, [], true), (3, .iload_n 1, 0, [], false), (4, .if_icmp .eq 21, 15, [], false), (7, .aload_n 0, 0, [], false), (8, .iload_n 3, 0, [], false), (9, .invokevirtual 50, 105, [(2, 1), (0, 21)], false), (12, .iconst (-1), 0, [], false), (13, .if_icmp .eq 12, 15, [], false), (16, .aload_n 0, 0, [], false), (17, .iload_n 3, 0, [], false), (18, .invokevirtual 50, 105, [(2, 1), (0, 21)], false), (21, .istore_n 3, 0, [], false), (22, .goto (-20), 2, [], false), (25, .iload_n 3, 0, [], false), (26, .iload_n 1, 0, [], false), (27, .if_icmp .ne 7, 20, [], false), (30, .iconst 1, 0, [], false), (31, .goto 4, 21, [], false), (34, .iconst 0, 0, [], false), (35, .ireturn, 1, [], false)]
def zc172 : List mzN := [(0, .aload_n 0, 0, [], false), (1, .iload_n 1, 0, [], false), (2, .invokevirtual 140, 103, [(2, 1), (0, 21)], false), (5, .ifCond .ne 5, 6, [], false), (8, .iconst (-1), 0, [], false), (9, .ireturn, 0, [], false), (10, .iconst 0, 0, [], false), (11, .istore_n 2, 0, [], false), (12, .iconst 0, 0, [], false), (13, .istore_n 3, 0, [], false), (14, .iload_n 3, 0, [], true), (15, .aload_n 0, 0, [], false), (16, .getfield 7, 0, [(0, 3), (0, 20), (0, 21), (0, 0)], false), (19, .iconst 2, 0, [], false), (20, .iaload, 0, [], false), (21, .if_icmp .ge 26, 29, [], false), (24, .iload_n 2, 0, [], false), (25, .aload_n 0, 0, [], false), (26, .iload_n 1, 0, [], false), (27, .iload_n 3, 0, [], false), (28, .invokevirtual 240, 171, [(3, 1), (0, 21)], false), (31, .ifCond .eq 7, 24, [], false), (34, .iconst 1, 0, [], false), (35, .goto 4, 25, [], false), (38, .iconst 0, 0, [], false), (39, .iadd, 0, [], false), (40, .istore_n 2, 0, [], false), (41, .iinc 3 1, 0, [], false), (44, .goto (-30), 10, [], false), (47, .iload_n 2, 0, [], false), (48, .ireturn, 0, [], false)]
def zc173 : List mzN := [(0, .aload_n 0, 0, [], false), (1, .iload_n 1, 0, [], false), (2, .invokevirtual 140, 103, [(2, 1), (0, 21)], false), (5, .ifCond .ne 5, 6, [], false), (8, .iconst (-1), 0, [], false), (9, .ireturn, 0, [], false), (10, .aload_n 0, 0, [], false), (11, .getfield 7, 0, [(0, 3), (0, 20), (0, 21), (0, 0)], false), (14, .sipush 1600, 0, [], false), (17, .iload_n 1, 0, [], false), (18, .iadd, 0, [], false), (19, .iaload, 0, [], false), (20, .ifCond .ne 6, 15, [], false), (23, .bipush (-2), 0, [], false), (25, .ireturn, 0, [], false), (26, .bipush (-9), 0, [], false), (28, .istore_n 2, 0, [], false), (29, .iconst 0, 0, [], false), (30, .istore_n 3, 0, [], false), (31, .iload_n 3, 0, [], true), (32, .aload_n 0, 0, [], false), (33, .getfield 7, 0, [(0, 3), (0, 20), (0, 21), (0, 0)], false), (36, .iconst 2, 0, [], false), (37, .iaload, 0, [], false), (38, .if_icmp .ge 56, 53, [], false), (41, .aload_n 0, 0, [], false), (42, .iload_n 3, 0, [], false), (43, .invokevirtual 54, 107, [(2, 1), (0, 21)], false), (46, .ifCond .eq 28, 43, [], false), (49, .iload_n 2, 0, [], false), (50, .bipush (-9), 0, [], false), (52, .if_icmp .eq 18, 41, [], false), (55, .aload_n 0, 0, [], false), (56, .iload_n 1, 0, [], false), (57, .iload_n 3, 0, [], false), (58, .invokevirtual 233, 165, [(3, 1), (0, 21)], false), (61, .aload_n 0, 0, [], false), (62, .iload_n 1, 0, [], false), (63, .iload_n 2, 0, [], false), (64, .invokevirtual 233, 165, [(3, 1), (0, 21)], false), (67, .if_icmp .ge 7, 43, [], false), (70, .iconst 1, 0, [], false), (71, .goto 4, 44, [], false), (74, .iconst 0, 0, [], false), (75, .istore 4, 0, [], false), (77, .iload 4, 0, [], false), (79, .ifCond .eq 7, 49, [], false), (82, .iload_n 3, 0, [], false), (83, .goto 4, 50, [], false), (86, .iload_n 2, 0, [], false), (87, .istore_n 2, 0, [], false), (88, .iinc 3 1, 0, [], false), (91, .goto (-60), 19, [], false), (94, .iload_n 2, 0, [], false), (95, .ireturn, 0, [], false)]
def zc174 : List mzN := [(0, .iload_n 0, 0, [], false), (1, .iload_n 0, 0, [], false), (2, .iconst 1, 0, [], false), (3, .iushr, 0, [], false), (4, .ldc_w 265, 0, [(1431655765, 0)], false), (7, .iand, 0, [], false), (8, .isub, 0, [], false), (9, .istore_n 0, 0, [], false), (10, .iload_n 0, 0, [], false), (11, .ldc_w 266, 0, [(858993459, 0)], false), (14, .iand, 0, [], false), (15, .iload_n 0, 0, [], false), (16, .iconst 2, 0, [], false), (17, .iushr, 0, [], false), (18, .ldc_w 266, 0, [(858993459, 0)], false), (21, .iand, 0, [], false), (22, .iadd, 0, [], false), (23, .istore_n 0, 0, [], false), (24, .iload_n 0, 0, [], false), (25, .iload_n 0, 0, [], false), (26, .iconst 4, 0, [], false), (27, .iushr, 0, [], false), (28, .iadd, 0, [], false), (29, .ldc_w 267, 0, [(252645135, 0)], false), (32, .iand, 0, [], false), (33, .istore_n 0, 0, [], false), (34, .iload_n 0, 0, [], false), (35, .iload_n 0, 0, [], false), (36, .bipush 8, 0, [], false), (38, .iushr, 0, [], false), (39, .iadd, 0, [], false), (40, .istore_n 0, 0, [], false), (41, .iload_n 0, 0, [], false), (42, .iload_n 0, 0, [], false), (43, .bipush 16, 0, [], false), (45, .iushr, 0, [], false), (46, .iadd, 0, [], false), (47, .istore_n 0, 0, [], false), (48, .iload_n 0, 0, [], false), (49, .bipush 63, 0, [], false), (51, .iand, 0, [], false), (52, .ireturn, 0, [], false)]
def zc175 : List mzN := [(0, .iload_n 0, 0, [], false), (1, .iload_n 1, 0, [], false), (2, .irem, 0, [], false), (3, .istore_n 2, 0, [], false), (4, .iload_n 0, 0, [], false), (5, .iload_n 1, 0, [], false), (6, .ixor, 0, [], false), (7, .ifCond .ge 11, 14, [], false), (10, .iload_n 2, 0, [], false), (11, .ifCond .eq 7, 14, [], false), (14, .iload_n 2, 0, [], false), (15, .iload_n 1, 0, [], false), (16, .iadd, 0, [], false), (17, .ireturn, 0, [], false), (18, .iload_n 2, 0, [], false), (19, .ireturn, 0, [], false)]
def zc176 : List mzN := [(0, .iload_n 0, 0, [], false), (1, .ifCond .ge 8, 5, [], false), (4, .iload_n 0, 0, [], false), (5, .ineg, 0, [], false), (6, .goto 4, 6, [], false), (9, .iload_n 0, 0, [], false), (10, .ireturn, 0, [], false)]
def zc177 : List mzN := [(0, .iload_n 0, 0, [], false), (1, .iload_n 1, 0, [], false), (2, .if_icmp .lt 7, 5, [], false), (5, .iload_n 0, 0, [], false), (6, .goto 4, 6, [], false), (9, .iload_n 1, 0, [], false), (10, .ireturn, 0, [], false)]
def zc178 : List mzN := [(0, .iload_n 0, 0, [], false), (1, .iload_n 1, 0, [], false), (2, .if_icmp .gt 7, 5, [], false), (5, .iload_n 0, 0, [], false), (6, .goto 4, 6, [], false), (9, .iload_n 1, 0, [], false), (10, .ireturn, 0, [], false)]
def zc179 : List mzN := [(0, .aload_n 0, 0, [], false), (1, .getfield 9, 0, [(0, 3), (0, 30), (0, 31), (0, 1)], false), (4, .arraylength, 0, [], false), (5, .aload_n 0, 0, [], false), (6, .invokevirtual 335, 181, [(1, 1), (0, 31)], false), (9, .ishr, 0, [], false), (10, .ireturn, 0, [], false)]
def zc180 : List mzN := [(0, .aload_n 0, 0, [], false), (1, .invokevirtual 492, 182, [(1, 1), (0, 31)], false), (4, .ifCond .eq 12, 8, [], false), (7, .aload_n 0, 0, [], false), (8, .getfield 9, 0, [(0, 3), (0, 30), (0, 31), (0, 1)], false), (11, .iload_n 1, 0, [], false), (12, .invokestatic 495, 184, [(2, 1), (0, 0)], false), (15, .ireturn, 2, [], false), (16, .aload_n 0, 0, [], false), (17, .getfield 9, 0, [(0, 3), (0, 30), (0, 31), (0, 1)], false), (20, .iload_n 1, 0, [], false), (21, .invokestatic 498, 998, [], false), (24, .ireturn, 2, [], false)]
def zc181 : List mzN := [(0, .getstatic 38, 0, [], false), (3, .ifCond .eq 10, 5, [], false), (6, .aload_n 0, 0, [], false), (7, .getfield 15, 0, [(0, 4), (0, 30), (0, 0), (0, 0)], false), (10, .goto 4, 6, [], false), (13, .iconst 1, 0, [], false), (14, .ireturn, 3, [], false)]
def zc182 : List mzN := [(0, .getstatic 38, 0, [], false), (3, .ifCond .eq 14, 7, [], false), (6, .aload_n 0, 0, [], false), (7, .getfield 15, 0, [(0, 4), (0, 30), (0, 0), (0, 0)], false), (10, .ifCond .ne 7, 7, [], false), (13, .iconst 1, 0, [], false), (14, .goto 4, 8, [], false), (17, .iconst 0, 0, [], false), (18, .ireturn, 1, [], false)]
def zc183 : List mzN := [(0, .iload_n 0, 0, [], false), (1, .iload_n 1, 0, [], false), (2, .getstatic 1053, 1, [], false), (5, .invokestatic 1059, 185, [(3, 1), (0, 0)], false), (8, .pop, 0, [], false), (9, .return_, 0, [], false)]
def zc184 : List mzN := [(0, .iload_n 1, 0, [], false), (1, .aload_n 0, 0, [], false), (2, .arraylength, 0, [], false), (3, .invokestatic 9, 183, [(2, 0), (0, 0)], false), (6, .aload_n 0, 0, [], false), (7, .iload_n 1, 0, [], false), (8, .baload, 0, [], false), (9, .sipush 255, 0, [], false), (12, .iand, 0, [], false), (13, .i2c, 0, [], false), (14, .ireturn, 2, [], false)]
def zc185 : List mzN := [(0, .iload_n 0, 0, [], false), (1, .ifCond .lt 8, 5, [], false), (4, .iload_n 0, 0, [], false), (5, .iload_n 1, 0, [], false), (6, .if_icmp .lt 10, 10, [], false), (9, .aload_n 2, 0, [], false), (10, .iload_n 0, 0, [], false), (11, .iload_n 1, 0, [], false), (12, .invokestatic 95, 998, [], false), (15, .athrow, 0, [], false), (16, .iload_n 0, 0, [], false), (17, .ireturn, 0, [], false)]
def zc186 : List mzN := [(0, .new 7, 0, [], false), (3, .dup, 0, [], false), (4, .invokespecial 9, 998, [], false), (7, .astore_n 1, 0, [], false), (8, .new 10, 0, [], false), (11, .dup, 0, [], false), (12, .invokespecial 12, 998, [], false), (15, .astore_n 2, 0, [], false), (16, .iconst 0, 0, [], false), (17, .istore_n 3, 0, [], false), (18, .iload_n 3, 0, [], true), (19, .aload_n 0, 0, [], false), (20, .arraylength, 0, [], false), (21, .iconst 5, 0, [], false), (22, .isub, 0, [], false), (23, .if_icmp .gt 874, 577, [], false), (26, .aload_n 0, 0, [], false), (27, .iload_n 3, 0, [], false), (28, .iaload, 0, [], false), (29, .bipush 31, 0, [], false), (31, .iand, 0, [], false), (32, .tableswitch 859 0 28 #[132, 165, 198, 221, 244, 257, 270, 313, 326, 349, 362, 375, 388, 431, 464, 497, 540, 593, 626, 649, 672, 705, 738, 761, 774, 797, 820, 833, 846], 575, [(0, 22), (1, 49), (2, 76), (3, 93), (4, 110), (5, 117), (6, 124), (7, 161), (8, 168), (9, 185), (10, 192), (11, 199), (12, 206), (13, 243), (14, 270), (15, 297), (16, 334), (17, 381), (18, 408), (19, 425), (20, 442), (21, 469), (22, 496), (23, 513), (24, 520), (25, 537), (26, 554), (27, 561), (28, 568)], false), (164, .aload_n 1, 0, [], true), (165, .aload_n 0, 0, [], false), (166, .iload_n 3, 0, [], false), (167, .iconst 1, 0, [], false), (168, .iadd, 0, [], false), (169, .iaload, 0, [], false), (170, .aload_n 0, 0, [], false), (171, .iload_n 3, 0, [], false), (172, .iconst 2, 0, [], false), (173, .iadd, 0, [], false), (174, .iaload, 0, [], false), (175, .invokevirtual 13, 62, [(3, 1), (0, 1)], false), (178, .aload_n 2, 0, [], false), (179, .aload_n 0, 0, [], false), (180, .iload_n 3, 0, [], false), (181, .iconst 1, 0, [], false), (182, .iadd, 0, [], false), (183, .iaload, 0, [], false), (184, .aload_n 0, 0, [], false), (185, .iload_n 3, 0, [], false), (186, .iconst 2, 0, [], false), (187, .iadd, 0, [], false), (188, .iaload, 0, [], false), (189, .invokevirtual 17, 109, [(3, 1), (0, 21)], false), (192, .if_icmp .eq 699, 575, [], false), (195, .iconst 0, 0, [], false), (196, .ireturn, 1, [], false), (197, .aload_n 1, 0, [], true), (198, .aload_n 0, 0, [], false), (199, .iload_n 3, 0, [], false), (200, .iconst 1, 0, [], false), (201, .iadd, 0, [], false), (202, .iaload, 0, [], false), (203, .aload_n 0, 0, [], false), (204, .iload_n 3, 0, [], false), (205, .iconst 2, 0, [], false), (206, .iadd, 0, [], false), (207, .iaload, 0, [], false), (208, .invokevirtual 18, 63, [(3, 1), (0, 1)], false), (211, .aload_n 2, 0, [], false), (212, .aload_n 0, 0, [], false), (213, .iload_n 3, 0, [], false), (214, .iconst 1, 0, [], false), (215, .iadd, 0, [], false), (216, .iaload, 0, [], false), (217, .aload_n 0, 0, [], false), (218, .iload_n 3, 0, [], false), (219, .iconst 2, 0, [], false), (220, .iadd, 0, [], false), (221, .iaload, 0, [], false), (222, .invokevirtual 21, 111, [(3, 1), (0, 21)], false), (225, .if_icmp .eq 666, 575, [], false), (228, .iconst 0, 0, [], false), (229, .ireturn, 1, [], false), (230, .aload_n 1, 0, [], true), (231, .aload_n 0, 0, [], false), (232, .iload_n 3, 0, [], false), (233, .iconst 1, 0, [], false), (234, .iadd, 0, [], false), (235, .iaload, 0, [], false), (236, .invokevirtual 22, 64, [(2, 1), (0, 1)], false), (239, .aload_n 2, 0, [], false), (240, .aload_n 0, 0, [], false), (241, .iload_n 3, 0, [], false), (242, .iconst 1, 0, [], false), (243, .iadd, 0, [], false), (244, .iaload, 0, [], false), (245, .invokevirtual 26, 112, [(2, 1), (0, 21)], false), (248, .if_icmp .eq 643, 575, [], false), (251, .iconst 0, 0, [], false), (252, .ireturn, 1, [], false), (253, .aload_n 1, 0, [], true), (254, .aload_n 0, 0, [], false), (255, .iload_n 3, 0, [], false), (256, .iconst 1, 0, [], false), (257, .iadd, 0, [], false), (258, .iaload, 0, [], false), (259, .invokevirtual 27, 65, [(2, 1), (0, 1)], false), (262, .aload_n 2, 0, [], false), (263, .aload_n 0, 0, [], false), (264, .iload_n 3, 0, [], false), (265, .iconst 1, 0, [], false), (266, .iadd, 0, [], false), (267, .iaload, 0, [], false), (268, .invokevirtual 30, 113, [(2, 1), (0, 21)], false), (271, .if_icmp .eq 620, 575, [], false), (274, .iconst 0, 0, [], false), (275, .ireturn, 1, [], false), (276, .aload_n 1, 0, [], true), (277, .invokevirtual 31, 66, [(1, 1), (0, 1)], false), (280, .aload_n 2, 0, [], false), (281, .invokevirtual 35, 114, [(1, 1), (0, 21)], false), (284, .if_icmp .eq 607, 575, [], false), (287, .iconst 0, 0, [], false), (288, .ireturn, 1, [], false), (289, .aload_n 1, 0, [], true), (290, .invokevirtual 36, 67, [(1, 1), (0, 1)], false), (293, .aload_n 2, 0, [], false), (294, .invokevirtual 39, 125, [(1, 1), (0, 21)], false), (297, .if_icmp .eq 594, 575, [], false), (300, .iconst 0, 0, [], false), (301, .ireturn, 1, [], false), (302, .aload_n 1, 0, [], true), (303, .aload_n 0, 0, [], false), (304, .iload_n 3, 0, [], false), (305, .iconst 1, 0, [], false), (306, .iadd, 0, [], false), (307, .iaload, 0, [], false), (308, .aload_n 0, 0, [], false), (309, .iload_n 3, 0, [], false), (310, .iconst 2, 0, [], false), (311, .iadd, 0, [], false), (312, .iaload, 0, [], false), (313, .aload_n 0, 0, [], false), (314, .iload_n 3, 0, [], false), (315, .iconst 3, 0, [], false), (316, .iadd, 0, [], false), (317, .iaload, 0, [], false), (318, .invokevirtual 40, 68, [(4, 1), (0, 1)], false), (321, .aload_n 2, 0, [], false), (322, .aload_n 0, 0, [], false), (323, .iload_n 3, 0, [], false), (324, .iconst 1, 0, [], false), (325, .iadd, 0, [], false), (326, .iaload, 0, [], false), (327, .aload_n 0, 0, [], false), (328, .iload_n 3, 0, [], false), (329, .iconst 2, 0, [], false), (330, .iadd, 0, [], false), (331, .iaload, 0, [], false), (332, .aload_n 0, 0, [], false), (333, .iload_n 3, 0, [], false), (334, .iconst 3, 0, [], false), (335, .iadd, 0, [], false), (336, .iaload, 0, [], false), (337, .invokevirtual 44, 129, [(4, 1), (0, 21)], false), (340, .if_icmp .eq 551, 575, [], false), (343, .iconst 0, 0, [], false), (344, .ireturn, 1, [], false), (345, .aload_n 1, 0, [], true), (346, .invokevirtual 45, 69, [(1, 1), (0, 1)], false), (349, .aload_n 2, 0, [], false), (350, .invokevirtual 48, 145, [(1, 1), (0, 21)], false), (353, .if_icmp .eq 538, 575, [], false), (356, .iconst 0, 0, [], false), (357, .ireturn, 1, [], false), (358, .aload_n 1, 0, [], true), (359, .aload_n 0, 0, [], false), (360, .iload_n 3, 0, [], false), (361, .iconst 1, 0, [], false), (362, .iadd, 0, [], false), (363, .iaload, 0, [], false), (364, .invokevirtual 49, 70, [(2, 1), (0, 1)], false), (367, .aload_n 2, 0, [], false), (368, .aload_n 0, 0, [], false), (369, .iload_n 3, 0, [], false), (370, .iconst 1, 0, [], false), (371, .iadd, 0, [], false), (372, .iaload, 0, [], false), (373, .invokevirtual 52, 146, [(2, 1), (0, 21)], false), (376, .if_icmp .eq 515, 575, [], false), (379, .iconst 0, 0, [], false), (380, .ireturn, 1, [], false), (381, .aload_n 1, 0, [], true), (382, .invokevirtual 53, 71, [(1, 1), (0, 1)], false), (385, .aload_n 2, 0, [], false), (386, .invokevirtual 56, 147, [(1, 1), (0, 21)], false), (389, .if_icmp .eq 502, 575, [], false), (392, .iconst 0, 0, [], false), (393, .ireturn, 1, [], false), (394, .aload_n 1, 0, [], true), (395, .invokevirtual 57, 72, [(1, 1), (0, 1)], false), (398, .aload_n 2, 0, [], false), (399, .invokevirtual 60, 148, [(1, 1), (0, 21)], false), (402, .if_icmp .eq 489, 575, [], false), (405, .iconst 0, 0, [], false), (406, .ireturn, 1, [], false), (407, .aload_n 1, 0, [], true), (408, .invokevirtual 61, 73, [(1, 1), (0, 1)], false), (411, .aload_n 2, 0, [], false), (412, .invokevirtual 64, 152, [(1, 1), (0, 21)], false), (415, .if_icmp .eq 476, 575, [], false), (418, .iconst 0, 0, [], false), (419, .ireturn, 1, [], false), (420, .aload_n 1, 0, [], true), (421, .aload_n 0, 0, [], false), (422, .iload_n 3, 0, [], false), (423, .iconst 1, 0, [], false), (424, .iadd, 0, [], false), (425, .iaload, 0, [], false), (426, .aload_n 0, 0, [], false), (427, .iload_n 3, 0, [], false), (428, .iconst 2, 0, [], false), (429, .iadd, 0, [], false), (430, .iaload, 0, [], false), (431, .aload_n 0, 0, [], false), (432, .iload_n 3, 0, [], false), (433, .iconst 3, 0, [], false), (434, .iadd, 0, [], false), (435, .iaload, 0, [], false), (436, .invokevirtual 65, 74, [(4, 1), (0, 1)], false), (439, .aload_n 2, 0, [], false), (440, .aload_n 0, 0, [], false), (441, .iload_n 3, 0, [], false), (442, .iconst 1, 0, [], false), (443, .iadd, 0, [], false), (444, .iaload, 0, [], false), (445, .aload_n 0, 0, [], false), (446, .iload_n 3, 0, [], false), (447, .iconst 2, 0, [], false), (448, .iadd, 0, [], false), (449, .iaload, 0, [], false), (450, .aload_n 0, 0, [], false), (451, .iload_n 3, 0, [], false), (452, .iconst 3, 0, [], false), (453, .iadd, 0, [], false), (454, .iaload, 0, [], false), (455, .invokevirtual 68, 155, [(4, 1), (0, 21)], false), (458, .if_icmp .eq 433, 575, [], false), (461, .iconst 0, 0, [], false), (462, .ireturn, 1, [], false), (463, .aload_n 1, 0, [], true), (464, .aload_n 0, 0, [], false), (465, .iload_n 3, 0, [], false), (466, .iconst 1, 0, [], false), (467, .iadd, 0, [], false), (468, .iaload, 0, [], false), (469, .aload_n 0, 0, [], false), (470, .iload_n 3, 0, [], false), (471, .iconst 2, 0, [], false), (472, .iadd, 0, [], false), (473, .iaload, 0, [], false), (474, .invokevirtual 69, 75, [(3, 1), (0, 1)], false), (477, .aload_n 2, 0, [], false), (478, .aload_n 0, 0, [], false), (479, .iload_n 3, 0, [], false), (480, .iconst 1, 0, [], false), (481, .iadd, 0, [], false), (482, .iaload, 0, [], false), (483, .aload_n 0, 0, [], false), (484, .iload_n 3, 0, [], false), (485, .iconst 2, 0, [], false), (486, .iadd, 0, [], false), (487, .iaload, 0, [], false), (488, .invokevirtual 72, 156, [(3, 1), (0, 21)], false), (491, .if_icmp .eq 400, 575, [], false), (494, .iconst 0, 0, [], false), (495, .ireturn, 1, [], false), (496, .aload_n 1, 0, [], true), (497, .aload_n 0, 0, [], false), (498, .iload_n 3, 0, [], false), (499, .iconst 1, 0, [], false), (500, .iadd, 0, [], false), (501, .iaload, 0, [], false), (502, .aload_n 0, 0, [], false), (503, .iload_n 3, 0, [], false), (504, .iconst 2, 0, [], false), (505, .iadd, 0, [], false), (506, .iaload, 0, [], false), (507, .invokevirtual 73, 76, [(3, 1), (0, 1)], false), (510, .aload_n 2, 0, [], false), (511, .aload_n 0, 0, [], false), (512, .iload_n 3, 0, [], false), (513, .iconst 1, 0, [], false), (514, .iadd, 0, [], false), (515, .iaload, 0, [], false), (516, .aload_n 0, 0, [], false), (517, .iload_n 3, 0, [], false), (518, .iconst 2, 0, [], false), (519, .iadd, 0, [], false), (520, .iaload, 0, [], false), (521, .invokevirtual 76, 158, [(3, 1), (0, 21)], false), (524, .if_icmp .eq 367, 575, [], false), (527, .iconst 0, 0, [], false), (528, .ireturn, 1, [], false), (529, .aload_n 1, 0, [], true), (530, .aload_n 0, 0, [], false), (531, .iload_n 3, 0, [], false), (532, .iconst 1, 0, [], false), (533, .iadd, 0, [], false), (534, .iaload, 0, [], false), (535, .aload_n 0, 0, [], false), (536, .iload_n 3, 0, [], false), (537, .iconst 2, 0, [], false), (538, .iadd, 0, [], false), (539, .iaload, 0, [], false), (540, .aload_n 0, 0, [], false), (541, .iload_n 3, 0, [], false), (542, .iconst 3, 0, [], false), (543, .iadd, 0, [], false), (544, .iaload, 0, [], false), (545, .invokevirtual 77, 77, [(4, 1), (0, 1)], false), (548, .aload_n 2, 0, [], false), (549, .aload_n 0, 0, [], false), (550, .iload_n 3, 0, [], false), (551, .iconst 1, 0, [], false), (552, .iadd, 0, [], false), (553, .iaload, 0, [], false), (554, .aload_n 0, 0, [], false), (555, .iload_n 3, 0, [], false), (556, .iconst 2, 0, [], false), (557, .iadd, 0, [], false), (558, .iaload, 0, [], false), (559, .aload_n 0, 0, [], false), (560, .iload_n 3, 0, [], false), (561, .iconst 3, 0, [], false), (562, .iadd, 0, [], false), (563, .iaload, 0, [], false), (564, .invokevirtual 80, 160, [(4, 1), (0, 21)], false), (567, .if_icmp .eq 324, 575, [], false), (570, .iconst 0, 0, [], false), (571, .ireturn, 1, [], false), (572, .aload_n 1, 0, [], true), (573, .aload_n 0, 0, [], false), (574, .iload_n 3, 0, [], false), (575, .iconst 1, 0, [], false), (576, .iadd, 0, [], false), (577, .iaload, 0, [], false), (578, .aload_n 0, 0, [], false), (579, .iload_n 3, 0, [], false), (580, .iconst 2, 0, [], false), (581, .iadd, 0, [], false), (582, .iaload, 0, [], false), (583, .aload_n 0, 0, [], false), (584, .iload_n 3, 0, [], false), (585, .iconst 3, 0, [], false), (586, .iadd, 0, [], false), (587, .iaload, 0, [], false), (588, .aload_n 0, 0, [], false), (589, .iload_n 3, 0, [], false), (590, .iconst 4, 0, [], false), (591, .iadd, 0, [], false), (592, .iaload, 0, [], false), (593, .invokevirtual 81, 78, [(5, 1), (0, 1)], false), (596, .aload_n 2, 0, [], false), (597, .aload_n 0, 0, [], false), (598, .iload_n 3, 0, [], false), (599, .iconst 1, 0, [], false), (600, .iadd, 0, [], false), (601, .iaload, 0, [], false), (602, .aload_n 0, 0, [], false), (603, .iload_n 3, 0, [], false), (604, .iconst 2, 0, [], false), (605, .iadd, 0, [], false), (606, .iaload, 0, [], false), (607, .aload_n 0, 0, [], false), (608, .iload_n 3, 0, [], false), (609, .iconst 3, 0, [], false), (610, .iadd, 0, [], false), (611, .iaload, 0, [], false), (612, .aload_n 0, 0, [], false), (613, .iload_n 3, 0, [], false), (614, .iconst 4, 0, [], false), (615, .iadd, 0, [], false), (616, .iaload, 0, [], false), (617, .invokevirtual 85, 161, [(5, 1), (0, 21)], false), (620, .if_icmp .eq 271, 575, [], false), (623, .iconst 0, 0, [], false), (624, .ireturn, 1, [], false), (625, .aload_n 1, 0, [], true), (626, .aload_n 0, 0, [], false), (627, .iload_n 3, 0, [], false), (628, .iconst 1, 0, [], false), (629, .iadd, 0, [], false), (630, .iaload, 0, [], false), (631, .aload_n 0, 0, [], false), (632, .iload_n 3, 0, [], false), (633, .iconst 2, 0, [], false), (634, .iadd, 0, [], false), (635, .iaload, 0, [], false), (636, .invokevirtual 86, 79, [(3, 1), (0, 1)], false), (639, .aload_n 2, 0, [], false), (640, .aload_n 0, 0, [], false), (641, .iload_n 3, 0, [], false), (642, .iconst 1, 0, [], false), (643, .iadd, 0, [], false), (644, .iaload, 0, [], false), (645, .aload_n 0, 0, [], false), (646, .iload_n 3, 0, [], false), (647, .iconst 2, 0, [], false), (648, .iadd, 0, [], false), (649, .iaload, 0, [], false), (650, .invokevirtual 89, 162, [(3, 1), (0, 21)], false), (653, .if_icmp .eq 238, 575, [], false), (656, .iconst 0, 0, [], false), (657, .ireturn, 1, [], false), (658, .aload_n 1, 0, [], true), (659, .aload_n 0, 0, [], false), (660, .iload_n 3, 0, [], false), (661, .iconst 1, 0, [], false), (662, .iadd, 0, [], false), (663, .iaload, 0, [], false), (664, .invokevirtual 90, 80, [(2, 1), (0, 1)], false), (667, .aload_n 2, 0, [], false), (668, .aload_n 0, 0, [], false), (669, .iload_n 3, 0, [], false), (670, .iconst 1, 0, [], false), (671, .iadd, 0, [], false), (672, .iaload, 0, [], false), (673, .invokevirtual 93, 163, [(2, 1), (0, 21)], false), (676, .if_icmp .eq 215, 575, [], false), (679, .iconst 0, 0, [], false), (680, .ireturn, 1, [], false), (681, .aload_n 1, 0, [], true), (682, .aload_n 0, 0, [], false), (683, .iload_n 3, 0, [], false), (684, .iconst 1, 0, [], false), (685, .iadd, 0, [], false), (686, .iaload, 0, [], false), (687, .invokevirtual 94, 81, [(2, 1), (0, 1)], false), (690, .aload_n 2, 0, [], false), (691, .aload_n 0, 0, [], false), (692, .iload_n 3, 0, [], false), (693, .iconst 1, 0, [], false), (694, .iadd, 0, [], false), (695, .iaload, 0, [], false), (696, .invokevirtual 97, 164, [(2, 1), (0, 21)], false), (699, .if_icmp .eq 192, 575, [], false), (702, .iconst 0, 0, [], false), (703, .ireturn, 1, [], false), (704, .aload_n 1, 0, [], true), (705, .aload_n 0, 0, [], false), (706, .iload_n 3, 0, [], false), (707, .iconst 1, 0, [], false), (708, .iadd, 0, [], false), (709, .iaload, 0, [], false), (710, .aload_n 0, 0, [], false), (711, .iload_n 3, 0, [], false), (712, .iconst 2, 0, [], false), (713, .iadd, 0, [], false), (714, .iaload, 0, [], false), (715, .invokevirtual 98, 82, [(3, 1), (0, 1)], false), (718, .aload_n 2, 0, [], false), (719, .aload_n 0, 0, [], false), (720, .iload_n 3, 0, [], false), (721, .iconst 1, 0, [], false), (722, .iadd, 0, [], false), (723, .iaload, 0, [], false), (724, .aload_n 0, 0, [], false), (725, .iload_n 3, 0, [], false), (726, .iconst 2, 0, [], false), (727, .iadd, 0, [], false), (728, .iaload, 0, [], false), (729, .invokevirtual 101, 166, [(3, 1), (0, 21)], false), (732, .if_icmp .eq 159, 575, [], false), (735, .iconst 0, 0, [], false), (736, .ireturn, 1, [], false), (737, .aload_n 1, 0, [], true), (738, .aload_n 0, 0, [], false), (739, .iload_n 3, 0, [], false), (740, .iconst 1, 0, [], false), (741, .iadd, 0, [], false), (742, .iaload, 0, [], false), (743, .aload_n 0, 0, [], false), (744, .iload_n 3, 0, [], false), (745, .iconst 2, 0, [], false), (746, .iadd, 0, [], false), (747, .iaload, 0, [], false), (748, .invokevirtual 102, 83, [(3, 1), (0, 1)], false), (751, .aload_n 2, 0, [], false), (752, .aload_n 0, 0, [], false), (753, .iload_n 3, 0, [], false), (754, .iconst 1, 0, [], false), (755, .iadd, 0, [], false), (756, .iaload, 0, [], false), (757, .aload_n 0, 0, [], false), (758, .iload_n 3, 0, [], false), (759, .iconst 2, 0, [], false), (760, .iadd, 0, [], false), (761, .iaload, 0, [], false), (762, .invokevirtual 105, 168, [(3, 1), (0, 21)], false), (765, .if_icmp .eq 126, 575, [], false), (768, .iconst 0, 0, [], false), (769, .ireturn, 1, [], false), (770, .aload_n 1, 0, [], true), (771, .aload_n 0, 0, [], false), (772, .iload_n 3, 0, [], false), (773, .iconst 1, 0, [], false), (774, .iadd, 0, [], false), (775, .iaload, 0, [], false), (776, .invokevirtual 106, 84, [(2, 1), (0, 1)], false), (779, .aload_n 2, 0, [], false), (780, .aload_n 0, 0, [], false), (781, .iload_n 3, 0, [], false), (782, .iconst 1, 0, [], false), (783, .iadd, 0, [], false), (784, .iaload, 0, [], false), (785, .invokevirtual 109, 169, [(2, 1), (0, 21)], false), (788, .if_icmp .eq 103, 575, [], false), (791, .iconst 0, 0, [], false), (792, .ireturn, 1, [], false), (793, .aload_n 1, 0, [], true), (794, .invokevirtual 110, 85, [(1, 1), (0, 1)], false), (797, .aload_n 2, 0, [], false), (798, .invokevirtual 113, 170, [(1, 1), (0, 21)], false), (801, .if_icmp .eq 90, 575, [], false), (804, .iconst 0, 0, [], false), (805, .ireturn, 1, [], false), (806, .aload_n 1, 0, [], true), (807, .aload_n 0, 0, [], false), (808, .iload_n 3, 0, [], false), (809, .iconst 1, 0, [], false), (810, .iadd, 0, [], false), (811, .iaload, 0, [], false), (812, .invokevirtual 114, 86, [(2, 1), (0, 1)], false), (815, .aload_n 2, 0, [], false), (816, .aload_n 0, 0, [], false), (817, .iload_n 3, 0, [], false), (818, .iconst 1, 0, [], false), (819, .iadd, 0, [], false), (820, .iaload, 0, [], false), (821, .invokevirtual 117, 172, [(2, 1), (0, 21)], false), (824, .if_icmp .eq 67, 575, [], false), (827, .iconst 0, 0, [], false), (828, .ireturn, 1, [], false), (829, .aload_n 1, 0, [], true), (830, .aload_n 0, 0, [], false), (831, .iload_n 3, 0, [], false), (832, .iconst 1, 0, [], false), (833, .iadd, 0, [], false), (834, .iaload, 0, [], false), (835, .invokevirtual 118, 87, [(2, 1), (0, 1)], false), (838, .aload_n 2, 0, [], false), (839, .aload_n 0, 0, [], false), (840, .iload_n 3, 0, [], false), (841, .iconst 1, 0, [], false), (842, .iadd, 0, [], false), (843, .iaload, 0, [], false), (844, .invokevirtual 121, 173, [(2, 1), (0, 21)], false), (847, .if_icmp .eq 44, 575, [], false), (850, .iconst 0, 0, [], false), (851, .ireturn, 1, [], false), (852, .aload_n 1, 0, [], true), (853, .invokevirtual 122, 88, [(1, 1), (0, 1)], false), (856, .aload_n 2, 0, [], false), (857, .invokevirtual 125, 153, [(1, 1), (0, 21)], false), (860, .if_icmp .eq 31, 575, [], false), (863, .iconst 0, 0, [], false), (864, .ireturn, 1, [], false), (865, .aload_n 1, 0, [], true), (866, .invokevirtual 126, 89, [(1, 1), (0, 1)], false), (869, .aload_n 2, 0, [], false), (870, .invokevirtual 129, 154, [(1, 1), (0, 21)], false), (873, .if_icmp .eq 18, 575, [], false), (876, .iconst 0, 0, [], false), (877, .ireturn, 1, [], false), (878, .aload_n 1, 0, [], true), (879, .invokevirtual 130, 90, [(1, 1), (0, 1)], false), (882, .aload_n 2, 0, [], false), (883, .invokevirtual 133, 100, [(1, 1), (0, 21)], false), (886, .if_icmp .eq 5, 575, [], false), (889, .iconst 0, 0, [], false), (890, .ireturn, 1, [], false), (891, .iinc 3 5, 0, [], false), (894, .goto (-876), 10, [], false), (897, .iconst 1, 0, [], false), (898, .ireturn, 1, [], false)]
def zcd : Nat → List mzN
  | 0 => zc0
  | 1 => zc1
  | 2 => zc2
  | 3 => zc3
  | 4 => zc4
  | 5 => zc5
  | 6 => zc6
  | 7 => zc7
  | 8 => zc8
  | 9 => zc9
  | 10 => zc10
  | 11 => zc11
  | 12 => zc12
  | 13 => zc13
  | 14 => zc14
  | 15 => zc15
  | 16 => zc16
  | 17 => zc17
  | 18 => zc18
  | 19 => zc19
  | 20 => zc20
  | 21 => zc21
  | 22 => zc22
  | 23 => zc23
  | 24 => zc24
  | 25 => zc25
  | 26 => zc26
  | 27 => zc27
  | 28 => zc28
  | 29 => zc29
  | 30 => zc30
  | 31 => zc31
  | 32 => zc32
  | 33 => zc33
  | 34 => zc34
  | 35 => zc35
  | 36 => zc36
  | 37 => zc37
  | 38 => zc38
  | 39 => zc39
  | 40 => zc40
  | 41 => zc41
  | 42 => zc42
  | 43 => zc43
  | 44 => zc44
  | 45 => zc45
  | 46 => zc46
  | 47 => zc47
  | 48 => zc48
  | 49 => zc49
  | 50 => zc50
  | 51 => zc51
  | 52 => zc52
  | 53 => zc53
  | 54 => zc54
  | 55 => zc55
  | 56 => zc56
  | 57 => zc57
  | 58 => zc58
  | 59 => zc59
  | 60 => zc60
  | 61 => zc61
  | 62 => zc62
  | 63 => zc63
  | 64 => zc64
  | 65 => zc65
  | 66 => zc66
  | 67 => zc67
  | 68 => zc68
  | 69 => zc69
  | 70 => zc70
  | 71 => zc71
  | 72 => zc72
  | 73 => zc73
  | 74 => zc74
  | 75 => zc75
  | 76 => zc76
  | 77 => zc77
  | 78 => zc78
  | 79 => zc79
  | 80 => zc80
  | 81 => zc81
  | 82 => zc82
  | 83 => zc83
  | 84 => zc84
  | 85 => zc85
  | 86 => zc86
  | 87 => zc87
  | 88 => zc88
  | 89 => zc89
  | 90 => zc90
  | 91 => zc91
  | 92 => zc92
  | 93 => zc93
  | 94 => zc94
  | 95 => zc95
  | 96 => zc96
  | 97 => zc97
  | 98 => zc98
  | 99 => zc99
  | 100 => zc100
  | 101 => zc101
  | 102 => zc102
  | 103 => zc103
  | 104 => zc104
  | 105 => zc105
  | 106 => zc106
  | 107 => zc107
  | 108 => zc108
  | 109 => zc109
  | 110 => zc110
  | 111 => zc111
  | 112 => zc112
  | 113 => zc113
  | 114 => zc114
  | 115 => zc115
  | 116 => zc116
  | 117 => zc117
  | 118 => zc118
  | 119 => zc119
  | 120 => zc120
  | 121 => zc121
  | 122 => zc122
  | 123 => zc123
  | 124 => zc124
  | 125 => zc125
  | 126 => zc126
  | 127 => zc127
  | 128 => zc128
  | 129 => zc129
  | 130 => zc130
  | 131 => zc131
  | 132 => zc132
  | 133 => zc133
  | 134 => zc134
  | 135 => zc135
  | 136 => zc136
  | 137 => zc137
  | 138 => zc138
  | 139 => zc139
  | 140 => zc140
  | 141 => zc141
  | 142 => zc142
  | 143 => zc143
  | 144 => zc144
  | 145 => zc145
  | 146 => zc146
  | 147 => zc147
  | 148 => zc148
  | 149 => zc149
  | 150 => zc150
  | 151 => zc151
  | 152 => zc152
  | 153 => zc153
  | 154 => zc154
  | 155 => zc155
  | 156 => zc156
  | 157 => zc157
  | 158 => zc158
  | 159 => zc159
  | 160 => zc160
  | 161 => zc161
  | 162 => zc162
  | 163 => zc163
  | 164 => zc164
  | 165 => zc165
  | 166 => zc166
  | 167 => zc167
  | 168 => zc168
  | 169 => zc169
  | 170 => zc170
  | 171 => zc171
  | 172 => zc172
  | 173 => zc173
  | 174 => zc174
  | 175 => zc175
  | 176 => zc176
  | 177 => zc177
  | 178 => zc178
  | 179 => zc179
  | 180 => zc180
  | 181 => zc181
  | 182 => zc182
  | 183 => zc183
  | 184 => zc184
  | 185 => zc185
  | 186 => zc186
  | _ => []
def zml : Nat → Nat
  | 0 => 6
  | 1 => 3
  | 2 => 7
  | 3 => 10
  | 4 => 2
  | 5 => 4
  | 6 => 7
  | 7 => 4
  | 8 => 4
  | 9 => 2
  | 10 => 2
  | 11 => 2
  | 12 => 3
  | 13 => 4
  | 14 => 1
  | 15 => 2
  | 16 => 2
  | 17 => 2
  | 18 => 3
  | 19 => 5
  | 20 => 9
  | 21 => 4
  | 22 => 8
  | 23 => 6
  | 24 => 4
  | 25 => 8
  | 26 => 6
  | 27 => 10
  | 28 => 2
  | 29 => 10
  | 30 => 4
  | 31 => 2
  | 32 => 2
  | 33 => 2
  | 34 => 1
  | 35 => 1
  | 36 => 3
  | 37 => 5
  | 38 => 2
  | 39 => 2
  | 40 => 2
  | 41 => 1
  | 42 => 1
  | 43 => 2
  | 44 => 3
  | 45 => 3
  | 46 => 3
  | 47 => 6
  | 48 => 2
  | 49 => 8
  | 50 => 3
  | 51 => 2
  | 52 => 2
  | 53 => 2
  | 54 => 2
  | 55 => 4
  | 56 => 2
  | 57 => 5
  | 58 => 5
  | 59 => 5
  | 60 => 3
  | 61 => 3
  | 62 => 3
  | 63 => 4
  | 64 => 2
  | 65 => 2
  | 66 => 2
  | 67 => 3
  | 68 => 4
  | 69 => 1
  | 70 => 2
  | 71 => 1
  | 72 => 1
  | 73 => 2
  | 74 => 5
  | 75 => 4
  | 76 => 4
  | 77 => 6
  | 78 => 9
  | 79 => 3
  | 80 => 2
  | 81 => 2
  | 82 => 3
  | 83 => 8
  | 84 => 2
  | 85 => 3
  | 86 => 4
  | 87 => 7
  | 88 => 1
  | 89 => 1
  | 90 => 1
  | 91 => 1
  | 92 => 1
  | 93 => 2
  | 94 => 3
  | 95 => 2
  | 96 => 7
  | 97 => 7
  | 98 => 3
  | 99 => 2
  | 100 => 2
  | 101 => 1
  | 102 => 1
  | 103 => 2
  | 104 => 3
  | 105 => 2
  | 106 => 4
  | 107 => 4
  | 108 => 3
  | 109 => 4
  | 110 => 2
  | 111 => 4
  | 112 => 2
  | 113 => 2
  | 114 => 2
  | 115 => 1
  | 116 => 2
  | 117 => 2
  | 118 => 5
  | 119 => 3
  | 120 => 2
  | 121 => 9
  | 122 => 6
  | 123 => 11
  | 124 => 3
  | 125 => 2
  | 126 => 2
  | 127 => 2
  | 128 => 6
  | 129 => 4
  | 130 => 2
  | 131 => 2
  | 132 => 6
  | 133 => 6
  | 134 => 10
  | 135 => 1
  | 136 => 10
  | 137 => 6
  | 138 => 5
  | 139 => 3
  | 140 => 4
  | 141 => 5
  | 142 => 4
  | 143 => 4
  | 144 => 5
  | 145 => 1
  | 146 => 2
  | 147 => 8
  | 148 => 1
  | 149 => 8
  | 150 => 3
  | 151 => 5
  | 152 => 5
  | 153 => 1
  | 154 => 1
  | 155 => 5
  | 156 => 3
  | 157 => 5
  | 158 => 3
  | 159 => 2
  | 160 => 5
  | 161 => 11
  | 162 => 3
  | 163 => 4
  | 164 => 2
  | 165 => 5
  | 166 => 3
  | 167 => 9
  | 168 => 5
  | 169 => 8
  | 170 => 3
  | 171 => 4
  | 172 => 4
  | 173 => 5
  | 174 => 1
  | 175 => 3
  | 176 => 1
  | 177 => 2
  | 178 => 2
  | 179 => 1
  | 180 => 2
  | 181 => 1
  | 182 => 1
  | 183 => 2
  | 184 => 2
  | 185 => 3
  | 186 => 4
  | _ => 0
abbrev ZW (m k : Nat) (ls st : List mzV) (μ : mzM) (Q : Option mzV → mzM → Prop) : Prop := mW zcd zml m k ls st μ Q
abbrev ZI (f : Nat) (as : List mzV) (μ : mzM) (K : Int → mzM → Prop) : Prop := mCI zcd zml f as μ K
abbrev ZV (f : Nat) (as : List mzV) (μ : mzM) (K : mzM → Prop) : Prop := mCV zcd zml f as μ K
abbrev ZR (f t : Nat) (as : List mzV) (μ : mzM) (K : Int → mzM → Prop) : Prop := mCR zcd zml f t as μ K
end
section
/-- what the cell at place p is: its kind and number -/
def zsh : List (Nat × Nat) := [(0, 0), (1, 0), (3, 78), (4, 78), (6, 0), (2, 0), (3, 0), (4, 0), (5, 0), (2, 1), (3, 1), (4, 1), (5, 1), (2, 2), (3, 2), (4, 2), (5, 2), (2, 3), (3, 3), (4, 3), (5, 3), (2, 4), (3, 4), (4, 4), (5, 4), (2, 5), (3, 5), (4, 5), (5, 5), (2, 6), (3, 6), (4, 6), (5, 6), (2, 7), (3, 7), (4, 7), (5, 7), (2, 8), (3, 8), (4, 8), (5, 8), (2, 9), (3, 9), (4, 9), (5, 9), (2, 10), (3, 10), (4, 10), (5, 10), (7, 0), (1, 1), (3, 79), (4, 79), (6, 1), (2, 11), (3, 11), (4, 11), (5, 11), (2, 12), (3, 12), (4, 12), (5, 12), (2, 13), (3, 13), (4, 13), (5, 13), (2, 14), (3, 14), (4, 14), (5, 14), (2, 15), (3, 15), (4, 15), (5, 15), (2, 16), (3, 16), (4, 16), (5, 16), (2, 17), (3, 17), (4, 17), (5, 17), (2, 18), (3, 18), (4, 18), (5, 18), (2, 19), (3, 19), (4, 19), (5, 19), (2, 20), (3, 20), (4, 20), (5, 20), (2, 21), (3, 21), (4, 21), (5, 21), (1, 2), (3, 80), (4, 80), (6, 2), (2, 22), (3, 22), (4, 22), (5, 22), (2, 23), (3, 23), (4, 23), (5, 23), (2, 24), (3, 24), (4, 24), (5, 24), (2, 25), (3, 25), (4, 25), (5, 25), (2, 26), (3, 26), (4, 26), (5, 26), (2, 27), (3, 27), (4, 27), (5, 27), (2, 28), (3, 28), (4, 28), (5, 28), (2, 29), (3, 29), (4, 29), (5, 29), (2, 30), (3, 30), (4, 30), (5, 30), (2, 31), (3, 31), (4, 31), (5, 31), (2, 32), (3, 32), (4, 32), (5, 32), (1, 3), (3, 81), (4, 81), (6, 3), (2, 33), (3, 33), (4, 33), (5, 33), (2, 34), (3, 34), (4, 34), (5, 34), (2, 35), (3, 35), (4, 35), (5, 35), (2, 36), (3, 36), (4, 36), (5, 36), (2, 37), (3, 37), (4, 37), (5, 37), (2, 38), (3, 38), (4, 38), (5, 38), (2, 39), (3, 39), (4, 39), (5, 39), (2, 40), (3, 40), (4, 40), (5, 40), (2, 41), (3, 41), (4, 41), (5, 41), (2, 42), (3, 42), (4, 42), (5, 42), (2, 43), (3, 43), (4, 43), (5, 43), (1, 4), (3, 82), (4, 82), (6, 4), (2, 44), (3, 44), (4, 44), (5, 44), (2, 45), (3, 45), (4, 45), (5, 45), (2, 46), (3, 46), (4, 46), (5, 46), (2, 47), (3, 47), (4, 47), (5, 47), (2, 48), (3, 48), (4, 48), (5, 48), (2, 49), (3, 49), (4, 49), (5, 49), (2, 50), (3, 50), (4, 50), (5, 50), (2, 51), (3, 51), (4, 51), (5, 51), (2, 52), (3, 52), (4, 52), (5, 52), (2, 53), (3, 53), (4, 53), (5, 53), (2, 54), (3, 54), (4, 54), (5, 54), (1, 5), (3, 83), (4, 83), (6, 5), (2, 55), (3, 55), (4, 55), (5, 55), (2, 56), (3, 56), (4, 56), (5, 56), (2, 57), (3, 57), (4, 57), (5, 57), (2, 58), (3, 58), (4, 58), (5, 58), (2, 59), (3, 59), (4, 59), (5, 59), (2, 60), (3, 60), (4, 60), (5, 60), (2, 61), (3, 61), (4, 61), (5, 61), (2, 62), (3, 62), (4, 62), (5, 62), (2, 63), (3, 63), (4, 63), (5, 63), (2, 64), (3, 64), (4, 64), (5, 64), (2, 65), (3, 65), (4, 65), (5, 65), (1, 6), (3, 84), (4, 84), (6, 6), (2, 66), (3, 66), (4, 66), (5, 66), (2, 67), (3, 67), (4, 67), (5, 67), (2, 68), (3, 68), (4, 68), (5, 68), (2, 69), (3, 69), (4, 69), (5, 69), (2, 70), (3, 70), (4, 70), (5, 70), (2, 71), (3, 71), (4, 71), (5, 71), (2, 72), (3, 72), (4, 72), (5, 72), (2, 73), (3, 73), (4, 73), (5, 73), (2, 74), (3, 74), (4, 74), (5, 74), (2, 75), (3, 75), (4, 75), (5, 75), (2, 76), (3, 76), (4, 76), (5, 76), (8, 0), (9, 0), (10, 0), (11, 0), (12, 0), (13, 0), (14, 0), (12, 1), (13, 1), (14, 1), (15, 0), (16, 0), (17, 0), (2, 77), (3, 77), (4, 77), (5, 77), (3, 85), (4, 85), (18, 0), (20, 0), (21, 0), (22, 0), (23, 0), (24, 0), (25, 0), (26, 0), (27, 0), (28, 0), (29, 0)]
def zcnt : Nat → Nat
  | 0 => 1
  | 1 => 7
  | 2 => 78
  | 3 => 86
  | 4 => 86
  | 5 => 78
  | 6 => 7
  | 7 => 1
  | 8 => 1
  | 9 => 1
  | 10 => 1
  | 11 => 1
  | 12 => 2
  | 13 => 2
  | 14 => 2
  | 15 => 1
  | 16 => 1
  | 17 => 1
  | 18 => 1
  | 20 => 1
  | 21 => 1
  | 22 => 1
  | 23 => 1
  | 24 => 1
  | 25 => 1
  | 26 => 1
  | 27 => 1
  | 28 => 1
  | 29 => 1
  | _ => 0
def zstp (k : Nat) : Nat := match k with | 0 => 1 | k + 1 => 50 + 48 * k
def zfrp (k : Nat) : Nat := match Nat.beq k 77 with | true => 351 | false => zstp (k / 11) + 4 + 4 * (k % 11)
def zimp (i : Nat) : Nat := match Nat.beq i 85 with | true => 355 | false => (match Nat.ble i 77 with | true => zfrp i + 1 | false => zstp (i - 78) + 1)
/-- the place of a cell -/
def zpos (t i : Nat) : Nat := match t with
  | 0 => 0 | 1 => zstp i | 2 => zfrp i | 3 => zimp i | 4 => zimp i + 1 | 5 => zfrp i + 3 | 6 => zstp i + 3 | 7 => 49 | 8 => 338 | 9 => 339 | 10 => 340 | 11 => 341
  | 12 => 342 + 3 * i | 13 => 343 + 3 * i | 14 => 344 + 3 * i | 15 => 348 | 16 => 349 | 17 => 350 | 18 => 357 | 20 => 358 | 21 => 359 | 22 => 360 | 23 => 361
  | 24 => 362 | 25 => 363 | 26 => 364 | 27 => 365 | 28 => 366 | 29 => 367 | _ => 0
def zR_0 : String := "FrameDeltas"
def zF_0 : u_T := fun k => match k with
  | 0 => ("FrameDeltas", "state", "LFrameDeltas$State;", true)
  | 1 => ("FrameDeltas", "saved", "[LFrameDeltas$State;", true)
  | 2 => ("FrameDeltas", "oldestSaved", "I", false)
  | 3 => ("FrameDeltas", "savedStates", "I", false)
  | 4 => ("FrameDeltas", "script", "LFrameDeltas$Script;", true)
  | 5 => ("FrameDeltas", "coder", "LFrameDeltas$Coder;", true)
  | 6 => ("FrameDeltas", "planner", "LFrameDeltas$Planner;", true)
  | 7 => ("FrameDeltas", "trial", "LFrameDeltas$Frame;", true)
  | 8 => ("FrameDeltas", "spare", "LFrameDeltas$Image;", true)
  | _ => ("FrameDeltas", "digests", "[I", true)
def zty_0 : Nat → FieldType := fun k => match k with
  | 0 => .object "FrameDeltas$State"
  | 1 => .array (.object "FrameDeltas$State")
  | 2 => .int
  | 3 => .int
  | 4 => .object "FrameDeltas$Script"
  | 5 => .object "FrameDeltas$Coder"
  | 6 => .object "FrameDeltas$Planner"
  | 7 => .object "FrameDeltas$Frame"
  | 8 => .object "FrameDeltas$Image"
  | _ => .array .int
theorem znm_0 : ∀ a, a < 10 → ∀ b, b < 10 → a ≠ b → (zF_0 a).2.1 ≠ (zF_0 b).2.1 := by decide +kernel
theorem zty_0_ok : ∀ k, k < 10 → parseFieldDescriptor (zF_0 k).2.2.1 = some (zty_0 k) := by decide +kernel
theorem zin_0 : ∀ w ∈ u_ws zR_0 zF_0 10, w ∈ lw_tbl := by decide +kernel
theorem zgd_0 : (u_ws zR_0 zF_0 10).all goodWord = true := by decide +kernel
def zR_1 : String := "FrameDeltas$State"
def zF_1 : u_T := fun k => match k with
  | 0 => ("FrameDeltas$State", "canvas", "LFrameDeltas$Image;", true)
  | 1 => ("FrameDeltas$State", "frames", "[LFrameDeltas$Frame;", true)
  | 2 => ("FrameDeltas$State", "nowhere", "LFrameDeltas$Frame;", true)
  | 3 => ("FrameDeltas$State", "frameCount", "I", false)
  | 4 => ("FrameDeltas$State", "range", "I", false)
  | 5 => ("FrameDeltas$State", "depthLimit", "I", false)
  | _ => ("FrameDeltas$State", "rate", "I", false)
def zty_1 : Nat → FieldType := fun k => match k with
  | 0 => .object "FrameDeltas$Image"
  | 1 => .array (.object "FrameDeltas$Frame")
  | 2 => .object "FrameDeltas$Frame"
  | 3 => .int
  | 4 => .int
  | 5 => .int
  | _ => .int
theorem znm_1 : ∀ a, a < 7 → ∀ b, b < 7 → a ≠ b → (zF_1 a).2.1 ≠ (zF_1 b).2.1 := by decide +kernel
theorem zty_1_ok : ∀ k, k < 7 → parseFieldDescriptor (zF_1 k).2.2.1 = some (zty_1 k) := by decide +kernel
theorem zin_1 : ∀ w ∈ u_ws zR_1 zF_1 7, w ∈ lw_tbl := by decide +kernel
theorem zgd_1 : (u_ws zR_1 zF_1 7).all goodWord = true := by decide +kernel
def zR_2 : String := "FrameDeltas$Frame"
def zF_2 : u_T := fun k => match k with
  | 0 => ("FrameDeltas$Frame", "image", "LFrameDeltas$Image;", true)
  | 1 => ("FrameDeltas$Frame", "codes", "[I", true)
  | 2 => ("FrameDeltas$Frame", "reference", "I", false)
  | 3 => ("FrameDeltas$Frame", "cost", "I", false)
  | _ => ("FrameDeltas$Frame", "lost", "Z", false)
def zty_2 : Nat → FieldType := fun k => match k with
  | 0 => .object "FrameDeltas$Image"
  | 1 => .array .int
  | 2 => .int
  | 3 => .int
  | _ => .boolean
theorem znm_2 : ∀ a, a < 5 → ∀ b, b < 5 → a ≠ b → (zF_2 a).2.1 ≠ (zF_2 b).2.1 := by decide +kernel
theorem zty_2_ok : ∀ k, k < 5 → parseFieldDescriptor (zF_2 k).2.2.1 = some (zty_2 k) := by decide +kernel
theorem zin_2 : ∀ w ∈ u_ws zR_2 zF_2 5, w ∈ lw_tbl := by decide +kernel
theorem zgd_2 : (u_ws zR_2 zF_2 5).all goodWord = true := by decide +kernel
def zR_3 : String := "FrameDeltas$Image"
def zF_3 : u_T := fun k => match k with
  | 0 => ("FrameDeltas$Image", "cells", "[I", true)
  | 1 => ("FrameDeltas$Image", "width", "I", false)
  | _ => ("FrameDeltas$Image", "height", "I", false)
def zty_3 : Nat → FieldType := fun k => match k with
  | 0 => .array .int
  | 1 => .int
  | _ => .int
theorem znm_3 : ∀ a, a < 3 → ∀ b, b < 3 → a ≠ b → (zF_3 a).2.1 ≠ (zF_3 b).2.1 := by decide +kernel
theorem zty_3_ok : ∀ k, k < 3 → parseFieldDescriptor (zF_3 k).2.2.1 = some (zty_3 k) := by decide +kernel
theorem zin_3 : ∀ w ∈ u_ws zR_3 zF_3 3, w ∈ lw_tbl := by decide +kernel
theorem zgd_3 : (u_ws zR_3 zF_3 3).all goodWord = true := by decide +kernel
def zR_8 : String := "FrameDeltas$Script"
def zF_8 : u_T := fun k => match k with
  | 0 => ("FrameDeltas$Script", "text", "[C", true)
  | 1 => ("FrameDeltas$Script", "length", "I", false)
  | 2 => ("FrameDeltas$Script", "kind", "I", false)
  | 3 => ("FrameDeltas$Script", "start", "I", false)
  | 4 => ("FrameDeltas$Script", "behind", "I", false)
  | 5 => ("FrameDeltas$Script", "number", "I", false)
  | 6 => ("FrameDeltas$Script", "program", "[I", true)
  | _ => ("FrameDeltas$Script", "programLength", "I", false)
def zty_8 : Nat → FieldType := fun k => match k with
  | 0 => .array .char
  | 1 => .int
  | 2 => .int
  | 3 => .int
  | 4 => .int
  | 5 => .int
  | 6 => .array .int
  | _ => .int
theorem znm_8 : ∀ a, a < 8 → ∀ b, b < 8 → a ≠ b → (zF_8 a).2.1 ≠ (zF_8 b).2.1 := by decide +kernel
theorem zty_8_ok : ∀ k, k < 8 → parseFieldDescriptor (zF_8 k).2.2.1 = some (zty_8 k) := by decide +kernel
theorem zin_8 : ∀ w ∈ u_ws zR_8 zF_8 8, w ∈ lw_tbl := by decide +kernel
theorem zgd_8 : (u_ws zR_8 zF_8 8).all goodWord = true := by decide +kernel
def zR_11 : String := "FrameDeltas$Coder"
def zF_11 : u_T := fun k => match k with
  | 0 => ("FrameDeltas$Coder", "raw", "LFrameDeltas$RunList;", true)
  | 1 => ("FrameDeltas$Coder", "delta", "LFrameDeltas$RunList;", true)
  | 2 => ("FrameDeltas$Coder", "dx", "I", false)
  | _ => ("FrameDeltas$Coder", "dy", "I", false)
def zty_11 : Nat → FieldType := fun k => match k with
  | 0 => .object "FrameDeltas$RunList"
  | 1 => .object "FrameDeltas$RunList"
  | 2 => .int
  | _ => .int
theorem znm_11 : ∀ a, a < 4 → ∀ b, b < 4 → a ≠ b → (zF_11 a).2.1 ≠ (zF_11 b).2.1 := by decide +kernel
theorem zty_11_ok : ∀ k, k < 4 → parseFieldDescriptor (zF_11 k).2.2.1 = some (zty_11 k) := by decide +kernel
theorem zin_11 : ∀ w ∈ u_ws zR_11 zF_11 4, w ∈ lw_tbl := by decide +kernel
theorem zgd_11 : (u_ws zR_11 zF_11 4).all goodWord = true := by decide +kernel
def zR_12 : String := "FrameDeltas$RunList"
def zF_12 : u_T := fun k => match k with
  | 0 => ("FrameDeltas$RunList", "lengths", "[I", true)
  | 1 => ("FrameDeltas$RunList", "values", "[I", true)
  | _ => ("FrameDeltas$RunList", "size", "I", false)
def zty_12 : Nat → FieldType := fun k => match k with
  | 0 => .array .int
  | 1 => .array .int
  | _ => .int
theorem znm_12 : ∀ a, a < 3 → ∀ b, b < 3 → a ≠ b → (zF_12 a).2.1 ≠ (zF_12 b).2.1 := by decide +kernel
theorem zty_12_ok : ∀ k, k < 3 → parseFieldDescriptor (zF_12 k).2.2.1 = some (zty_12 k) := by decide +kernel
theorem zin_12 : ∀ w ∈ u_ws zR_12 zF_12 3, w ∈ lw_tbl := by decide +kernel
theorem zgd_12 : (u_ws zR_12 zF_12 3).all goodWord = true := by decide +kernel
def zR_15 : String := "FrameDeltas$Planner"
def zF_15 : u_T := fun k => match k with
  | 0 => ("FrameDeltas$Planner", "keyCosts", "[I", true)
  | 1 => ("FrameDeltas$Planner", "deltaCosts", "[I", true)
  | 2 => ("FrameDeltas$Planner", "cost", "I", false)
  | _ => ("FrameDeltas$Planner", "keys", "I", false)
def zty_15 : Nat → FieldType := fun k => match k with
  | 0 => .array .int
  | 1 => .array .int
  | 2 => .int
  | _ => .int
theorem znm_15 : ∀ a, a < 4 → ∀ b, b < 4 → a ≠ b → (zF_15 a).2.1 ≠ (zF_15 b).2.1 := by decide +kernel
theorem zty_15_ok : ∀ k, k < 4 → parseFieldDescriptor (zF_15 k).2.2.1 = some (zty_15 k) := by decide +kernel
theorem zin_15 : ∀ w ∈ u_ws zR_15 zF_15 4, w ∈ lw_tbl := by decide +kernel
theorem zgd_15 : (u_ws zR_15 zF_15 4).all goodWord = true := by decide +kernel
def zR_20 : String := "FrameDeltasModel"
def zF_20 : u_T := fun k => match k with
  | 0 => ("FrameDeltasModel", "s", "[I", true)
  | 1 => ("FrameDeltasModel", "past", "[I", true)
  | 2 => ("FrameDeltasModel", "pasts", "I", false)
  | 3 => ("FrameDeltasModel", "text", "[B", true)
  | 4 => ("FrameDeltasModel", "typed", "I", false)
  | 5 => ("FrameDeltasModel", "next", "I", false)
  | 6 => ("FrameDeltasModel", "begin", "I", false)
  | 7 => ("FrameDeltasModel", "kind", "I", false)
  | 8 => ("FrameDeltasModel", "told", "J", false)
  | 9 => ("FrameDeltasModel", "isMinus", "Z", false)
  | 10 => ("FrameDeltasModel", "isWrong", "Z", false)
  | 11 => ("FrameDeltasModel", "kept", "[I", true)
  | 12 => ("FrameDeltasModel", "before", "[I", true)
  | 13 => ("FrameDeltasModel", "made", "[I", true)
  | 14 => ("FrameDeltasModel", "keyCost", "[I", true)
  | 15 => ("FrameDeltasModel", "nextCost", "[I", true)
  | 16 => ("FrameDeltasModel", "bestKeys", "I", false)
  | _ => ("FrameDeltasModel", "digests", "[I", true)
def zty_20 : Nat → FieldType := fun k => match k with
  | 0 => .array .int
  | 1 => .array .int
  | 2 => .int
  | 3 => .array .byte
  | 4 => .int
  | 5 => .int
  | 6 => .int
  | 7 => .int
  | 8 => .long
  | 9 => .boolean
  | 10 => .boolean
  | 11 => .array .int
  | 12 => .array .int
  | 13 => .array .int
  | 14 => .array .int
  | 15 => .array .int
  | 16 => .int
  | _ => .array .int
theorem znm_20 : ∀ a, a < 18 → ∀ b, b < 18 → a ≠ b → (zF_20 a).2.1 ≠ (zF_20 b).2.1 := by decide +kernel
theorem zty_20_ok : ∀ k, k < 18 → parseFieldDescriptor (zF_20 k).2.2.1 = some (zty_20 k) := by decide +kernel
theorem zin_20 : ∀ w ∈ u_ws zR_20 zF_20 18, w ∈ lw_tbl := by decide +kernel
theorem zgd_20 : (u_ws zR_20 zF_20 18).all goodWord = true := by decide +kernel
def zcl : List vw_C := [(zR_0, zF_0, 10), (zR_1, zF_1, 7), (zR_2, zF_2, 5), (zR_3, zF_3, 3), (zR_8, zF_8, 8), (zR_11, zF_11, 4), (zR_12, zF_12, 3), (zR_15, zF_15, 4), (zR_20, zF_20, 18)]
/-- the number of an object kind among the classes; 99: no object -/
def zci : Nat → Nat
  | 0 => 0
  | 1 => 1
  | 2 => 2
  | 3 => 3
  | 8 => 4
  | 11 => 5
  | 12 => 6
  | 15 => 7
  | 20 => 8
  | _ => 99
/-- the fields of a kind: (sort, where kept or whither, mode, place) -/
def zfl : Nat → List (Nat × Nat × Nat × Int)
  | 0 => [(3, 1, 0, 0), (3, 7, 0, 0), (0, 0, 0, 2), (0, 0, 0, 3), (3, 8, 0, 0), (3, 11, 0, 0), (3, 15, 0, 0), (3, 2, 0, 77), (3, 3, 0, 85), (3, 18, 0, 0)]
  | 1 => [(3, 3, 2, 78), (3, 6, 1, 0), (3, 2, 3, 0), (0, 1, 0, 3), (0, 1, 0, 4), (0, 1, 0, 5), (0, 1, 0, 6)]
  | 2 => [(3, 3, 1, 0), (3, 5, 1, 0), (0, 2, 0, 2), (0, 2, 0, 3), (1, 2, 0, 4)]
  | 3 => [(3, 4, 1, 0), (0, 3, 0, 1), (0, 3, 0, 2)]
  | 8 => [(3, 9, 0, 0), (0, 8, 0, 1), (0, 8, 0, 2), (0, 8, 0, 3), (0, 8, 0, 4), (0, 8, 0, 5), (3, 10, 0, 0), (0, 8, 0, 7)]
  | 11 => [(3, 12, 0, 0), (3, 12, 0, 1), (0, 11, 0, 2), (0, 11, 0, 3)]
  | 12 => [(3, 13, 1, 0), (3, 14, 1, 0), (0, 12, 0, 2)]
  | 15 => [(3, 16, 0, 0), (3, 17, 0, 0), (0, 15, 0, 2), (0, 15, 0, 3)]
  | 20 => [(3, 21, 0, 0), (3, 22, 0, 0), (0, 20, 0, 2), (3, 23, 0, 0), (0, 20, 0, 4), (0, 20, 0, 5), (0, 20, 0, 6), (0, 20, 0, 7), (2, 33, 0, 0), (1, 20, 0, 9), (1, 20, 0, 10), (3, 24, 0, 0), (3, 25, 0, 0), (3, 26, 0, 0), (3, 27, 0, 0), (3, 28, 0, 0), (0, 20, 0, 16), (3, 29, 0, 0)]
  | _ => []
theorem zpos_ok : ∀ t, t < 30 → ∀ i, i < zcnt t → zpos t i < 368 ∧ zsh.getD (zpos t i) (0, 0) = (t, i) := by decide +kernel
theorem zsh_ok : ∀ q, q < 368 → (zsh.getD q (0, 0)).1 < 30 ∧ (zsh.getD q (0, 0)).2 < zcnt (zsh.getD q (0, 0)).1 ∧ zpos (zsh.getD q (0, 0)).1 (zsh.getD q (0, 0)).2 = q := by decide +kernel
theorem zcnt_lt {t i : Nat} (h : i < zcnt t) : t < 30 := by
  rcases Nat.lt_or_ge t 30 with q | q
  · exact q
  · exfalso
    have h0 : zcnt t = 0 := by
      obtain ⟨k, rfl⟩ := Nat.exists_eq_add_of_le q
      rw [Nat.add_comm]
      rfl
    omega
/-- which class of rows -/
def zac (t : Nat) : Nat := match t with | 6 => 4 | 7 => 3 | _ => (match zrow t with | 2 => 1 | 3 => 2 | _ => 0)
def zln (t : Nat) : Nat := (zlen t 0 (fun _ _ _ => 0)).toNat
/-- whose field is kept under a kind of memory -/
def zow (t : Nat) : Nat := match Nat.beq t 33 with | true => 20 | false => t
def zsee (t i j : Nat) : Nat := match t with | 6 => zpos 2 (11 * i + j) | _ => zpos 1 (1 + j)
def zval (b0 : Nat) (μ : mzM) (i : Int) (q : Nat × Nat × Nat × Int) : Value := match q.1 with
  | 3 => .ref (b0 + zpos q.2.1 (zlead q.2.2.1 q.2.2.2 i).toNat)
  | 2 => .long (Int64.ofInt (μ q.2.1 i q.2.2.2))
  | _ => .int (Int32.ofInt (μ q.2.1 i q.2.2.2))
def zcel (b0 : Nat) (ca : Nat → ClassId) (μ : mzM) (t i : Nat) : va_E := match zrow t with
  | 0 => .inr (zci t, (zfl t).map (zval b0 μ (i : Int)))
  | 4 => .inl (ca (zac t), zln t, .inr (.inr (.inr (.inr (fun j => some (b0 + zsee t i j))))))
  | _ => .inl (ca (zac t), zln t, .inl (fun j => Int32.ofInt (μ t (i : Int) (j : Int))))
def zws (b0 : Nat) (ca : Nat → ClassId) (μ : mzM) : va_W := (List.range 368).map fun q => (b0 + q, zcel b0 ca μ (zsh.getD q (0, 0)).1 (zsh.getD q (0, 0)).2)
theorem zws_q (b0 : Nat) (ca : Nat → ClassId) (μ : mzM) {q : Nat} (h : q < 368) : (zws b0 ca μ)[q]? = some (b0 + q, zcel b0 ca μ (zsh.getD q (0, 0)).1 (zsh.getD q (0, 0)).2) := by
  simp [zws, h]
theorem zws_at (b0 : Nat) (ca : Nat → ClassId) (μ : mzM) {t i : Nat} (h : i < zcnt t) : (zws b0 ca μ)[zpos t i]? = some (b0 + zpos t i, zcel b0 ca μ t i) := by
  obtain ⟨h1, h2⟩ := zpos_ok t (zcnt_lt h) i h
  rw [zws_q b0 ca μ h1, h2]
theorem zws_len (b0 : Nat) (ca : Nat → ClassId) (μ : mzM) : (zws b0 ca μ).length = 368 := by simp [zws]
theorem zws_set {b0 : Nat} {ca : Nat → ClassId} {μ μ' : mzM} {t i : Nat} (h : i < zcnt t) {x : va_E} (hx : zcel b0 ca μ' t i = x) (ho : ∀ t' i', i' < zcnt t' → (t' ≠ t ∨ i' ≠ i) → zcel b0 ca μ' t' i' = zcel b0 ca μ t' i') : (zws b0 ca μ).set (zpos t i) (b0 + zpos t i, x) = zws b0 ca μ' := by
  obtain ⟨h1, h2⟩ := zpos_ok t (zcnt_lt h) i h
  apply List.ext_getElem?
  intro q
  by_cases hq : q = zpos t i
  · rw [hq, List.getElem?_set_self (by rw [zws_len]; exact h1), zws_at b0 ca μ' h, hx]
  · rw [List.getElem?_set_ne (Ne.symm hq)]
    rcases Nat.lt_or_ge q 368 with hl | hl
    · obtain ⟨g1, g2, g3⟩ := zsh_ok q hl
      rw [zws_q b0 ca μ hl, zws_q b0 ca μ' hl, ho _ _ g2]
      by_cases ht : (zsh.getD q (0, 0)).1 = t
      · right
        intro hi
        rw [ht, hi] at g3
        exact hq g3.symm
      · exact Or.inl ht
    · rw [List.getElem?_eq_none (by rw [zws_len]; exact hl), List.getElem?_eq_none (by rw [zws_len]; exact hl)]
theorem zws_D (b0 : Nat) (ca : Nat → ClassId) (μ : mzM) : va_D (fun q => b0 ≤ q) (zws b0 ca μ) := by
  refine ⟨fun i j a b hi hj hab => ?_, fun k a hk => ?_⟩
  · have li : i < 368 := by have := (List.getElem?_eq_some_iff.mp hi).1; rwa [zws_len] at this
    have lj : j < 368 := by have := (List.getElem?_eq_some_iff.mp hj).1; rwa [zws_len] at this
    rw [zws_q b0 ca μ li] at hi
    rw [zws_q b0 ca μ lj] at hj
    cases hi
    cases hj
    exact Nat.add_left_cancel hab
  · have li : k < 368 := by have := (List.getElem?_eq_some_iff.mp hk).1; rwa [zws_len] at this
    rw [zws_q b0 ca μ li] at hk
    cases hk
    exact Nat.le_add_right _ _
theorem zfl_ow : ∀ t, t < 30 → ∀ q ∈ zfl t, q.1 ≠ 3 → zow q.2.1 = t := by decide +kernel
theorem zow_row : ∀ t, t < 30 → zow t = t := by decide +kernel
theorem mup_ne {μ : mzM} {t : Nat} {i k v : Int} {t' : Nat} {i' k' : Int} (h : ¬ (t' = t ∧ i' = i ∧ k' = k)) : mup μ t i k v t' i' k' = μ t' i' k' := by unfold mup; rw [if_neg h]
theorem mup_self (μ : mzM) (t : Nat) (i k v : Int) : mup μ t i k v t i k = v := by unfold mup; rw [if_pos ⟨rfl, rfl, rfl⟩]
/-- a cell that a store does not reach -/
theorem zcel_off {b0 : Nat} {ca : Nat → ClassId} {μ μ' : mzM} {x1 : Nat} {i : Nat} (hμ : ∀ t' i' k', ¬ (t' = x1 ∧ i' = (i : Int)) → μ' t' i' k' = μ t' i' k') {t' i' : Nat} (h : i' < zcnt t') (hne : t' ≠ zow x1 ∨ i' ≠ i) : zcel b0 ca μ' t' i' = zcel b0 ca μ t' i' := by
  have ht := zcnt_lt h
  unfold zcel
  split
  · congr 2
    apply List.map_congr_left
    intro q hq
    unfold zval
    have hm : q.1 ≠ 3 → μ' q.2.1 (i' : Int) q.2.2.2 = μ q.2.1 (i' : Int) q.2.2.2 := by
      intro h3
      apply hμ
      rintro ⟨h1, h2⟩
      have h4 := zfl_ow t' ht q hq h3
      rw [h1] at h4
      rcases hne with h5 | h5
      · exact h5 h4.symm
      · exact h5 (by omega)
    split
    · rfl
    · next h2 => rw [hm (by rw [h2]; decide)]
    · next h2 h3 => rw [hm h2]
  · rfl
  · congr 5
    funext j
    rw [hμ]
    rintro ⟨h1, h2⟩
    rcases hne with h5 | h5
    · apply h5; rw [← h1]; exact (zow_row t' ht).symm
    · exact h5 (by omega)
def zfa (t a : Nat) : Nat × Nat × Nat × Int := (zfl t).getD a (3, 0, 0, 0)
theorem zfl_apart0 : ∀ t, t < 30 → ∀ a, a < (zfl t).length → ∀ b, b < (zfl t).length → a = b ∨ (zfa t a).1 = 3 ∨ (zfa t b).1 = 3 ∨ (zfa t a).2.1 ≠ (zfa t b).2.1 ∨ (zfa t a).2.2.2 ≠ (zfa t b).2.2.2 := by decide +kernel
/-- the cell of an object behind a store into one of its fields -/
theorem zcel_put {b0 : Nat} {ca : Nat → ClassId} {μ : mzM} {t i k kd x1 md : Nat} {x2 v : Int} (h : i < zcnt t) (ho : zrow t = 0) (hk : (zfl t)[k]? = some (kd, x1, md, x2)) (h3 : kd ≠ 3) : zcel b0 ca (mup μ x1 (i : Int) x2 v) t i = .inr (zci t, ((zfl t).map (zval b0 μ (i : Int))).set k (zval b0 (fun _ _ _ => v) (i : Int) (kd, x1, md, x2))) := by
  have ht := zcnt_lt h
  have hl := (List.getElem?_eq_some_iff.mp hk).1
  unfold zcel
  rw [ho]
  show Sum.inr _ = Sum.inr _
  congr 2
  apply List.ext_getElem?
  intro j
  by_cases hj : j = k
  · rw [hj, List.getElem?_set_self (by simpa using hl), List.getElem?_map, hk]
    simp only [Option.map_some, zval]
    congr 1
    split <;> simp_all [mup_self]
  · rw [List.getElem?_set_ne (Ne.symm hj), List.getElem?_map, List.getElem?_map]
    cases hq : (zfl t)[j]? with
    | none => rfl
    | some q =>
      have hlj := (List.getElem?_eq_some_iff.mp hq).1
      simp only [Option.map_some]
      congr 1
      have hap := zfl_apart0 t ht j hlj k hl
      unfold zfa at hap
      rw [List.getD_eq_getElem?_getD, List.getD_eq_getElem?_getD, hq, hk] at hap
      simp only [Option.getD_some] at hap
      have hap2 : q.1 ≠ 3 → ¬ (q.2.1 = x1 ∧ q.2.2.2 = x2) := by
        rintro h5 ⟨g1, g2⟩
        rcases hap with h6 | h6 | h6 | h6 | h6
        · exact hj h6
        · exact h5 h6
        · exact h3 h6
        · exact h6 g1
        · exact h6 g2
      unfold zval
      split
      · rfl
      · next h2 => rw [mup_ne]; rintro ⟨g1, -, g2⟩; exact hap2 (by rw [h2]; decide) ⟨g1, g2⟩
      · next h2 h4 => rw [mup_ne]; rintro ⟨g1, -, g2⟩; exact hap2 h2 ⟨g1, g2⟩
end
section
def zy : Nat → MethodName
  | 0 => ⟨"FrameDeltas$Coder", "encode", "(LFrameDeltas$Frame;LFrameDeltas$State;I)V"⟩
  | 1 => ⟨"FrameDeltas$Coder", "encodeRaw", "(LFrameDeltas$Frame;I)I"⟩
  | 2 => ⟨"FrameDeltas$Coder", "encodeWith", "(LFrameDeltas$Frame;ILFrameDeltas$Image;I)I"⟩
  | 3 => ⟨"FrameDeltas$Coder", "findMove", "(LFrameDeltas$Image;IILFrameDeltas$Image;I)Z"⟩
  | 4 => ⟨"FrameDeltas$Frame", "take", "(LFrameDeltas$Frame;)V"⟩
  | 5 => ⟨"FrameDeltas$Frame", "codePart", "(II)I"⟩
  | 6 => ⟨"FrameDeltas$Frame", "setCode", "(IIIII)V"⟩
  | 7 => ⟨"FrameDeltas$Frame", "codesOfKind", "(I)I"⟩
  | 8 => ⟨"FrameDeltas$Image", "reset", "(II)V"⟩
  | 9 => ⟨"FrameDeltas$Image", "take", "(LFrameDeltas$Image;)V"⟩
  | 10 => ⟨"FrameDeltas$Image", "hasCell", "(I)Z"⟩
  | 11 => ⟨"FrameDeltas$Image", "numbered", "(I)I"⟩
  | 12 => ⟨"FrameDeltas$Image", "putNumbered", "(II)V"⟩
  | 13 => ⟨"FrameDeltas$Image", "at", "(II)I"⟩
  | 14 => ⟨"FrameDeltas$Image", "blocks", "()I"⟩
  | 15 => ⟨"FrameDeltas$Image", "hasBlock", "(I)Z"⟩
  | 16 => ⟨"FrameDeltas$Image", "left", "(I)I"⟩
  | 17 => ⟨"FrameDeltas$Image", "top", "(I)I"⟩
  | 18 => ⟨"FrameDeltas$Image", "hasPart", "(II)Z"⟩
  | 19 => ⟨"FrameDeltas$Image", "partDigest", "(II)I"⟩
  | 20 => ⟨"FrameDeltas$Image", "samePart", "(IILFrameDeltas$Image;II)Z"⟩
  | 21 => ⟨"FrameDeltas$Image", "cellsUnlike", "(LFrameDeltas$Image;)I"⟩
  | 22 => ⟨"FrameDeltas$Image", "fillBox", "(IIIII)V"⟩
  | 23 => ⟨"FrameDeltas$Image", "takeShifted", "(LFrameDeltas$Image;II)V"⟩
  | 24 => ⟨"FrameDeltas$Image", "swapValues", "(II)V"⟩
  | 25 => ⟨"FrameDeltas$Planner", "plan", "(LFrameDeltas$State;LFrameDeltas$Coder;LFrameDeltas$Frame;)V"⟩
  | 26 => ⟨"FrameDeltas$Planner", "measure", "(LFrameDeltas$State;LFrameDeltas$Coder;LFrameDeltas$Frame;I)V"⟩
  | 27 => ⟨"FrameDeltas$Planner", "costOf", "(III)I"⟩
  | 28 => ⟨"FrameDeltas$Planner", "referenceOf", "(I)I"⟩
  | 29 => ⟨"FrameDeltas$RunList", "read", "(LFrameDeltas$Image;LFrameDeltas$Image;I)V"⟩
  | 30 => ⟨"FrameDeltas$RunList", "addCell", "(I)V"⟩
  | 31 => ⟨"FrameDeltas$RunList", "lengthOf", "(I)I"⟩
  | 32 => ⟨"FrameDeltas$RunList", "valueOf", "(I)I"⟩
  | 33 => ⟨"FrameDeltas$Script", "append", "(C)I"⟩
  | 34 => ⟨"FrameDeltas$Script", "wordOf", "(I)Ljava/lang/String;"⟩
  | 35 => ⟨"FrameDeltas$Script", "argumentsOf", "(I)Ljava/lang/String;"⟩
  | 36 => ⟨"FrameDeltas$Script", "errorPosition", "(LFrameDeltas$State;)I"⟩
  | 37 => ⟨"FrameDeltas$Script", "readCommand", "(LFrameDeltas$State;)Z"⟩
  | 38 => ⟨"FrameDeltas$Script", "addToProgram", "(I)V"⟩
  | 39 => ⟨"FrameDeltas$Script", "nextToken", "()V"⟩
  | 40 => ⟨"FrameDeltas$Script", "signAt", "(I)C"⟩
  | 41 => ⟨"FrameDeltas$Script", "isLetter", "(C)Z"⟩
  | 42 => ⟨"FrameDeltas$Script", "isDigit", "(C)Z"⟩
  | 43 => ⟨"FrameDeltas$Script", "commandOfToken", "()I"⟩
  | 44 => ⟨"FrameDeltas$Script", "isToken", "(Ljava/lang/String;)Z"⟩
  | 45 => ⟨"FrameDeltas$Script", "readNumber", "()Z"⟩
  | 46 => ⟨"FrameDeltas$Script", "isAllowed", "(CLFrameDeltas$State;)Z"⟩
  | 47 => ⟨"FrameDeltas$Script", "carryOut", "(LFrameDeltas$State;LFrameDeltas$Image;)I"⟩
  | 48 => ⟨"FrameDeltas$Script", "programAt", "(I)I"⟩
  | 49 => ⟨"FrameDeltas$Script", "apply", "(IILFrameDeltas$State;LFrameDeltas$Image;)V"⟩
  | 50 => ⟨"FrameDeltas$State", "take", "(LFrameDeltas$State;)V"⟩
  | 51 => ⟨"FrameDeltas$State", "frameAt", "(I)LFrameDeltas$Frame;"⟩
  | 52 => ⟨"FrameDeltas$State", "isFrame", "(I)Z"⟩
  | 53 => ⟨"FrameDeltas$State", "isImage", "(I)Z"⟩
  | 54 => ⟨"FrameDeltas$State", "imageOf", "(I)LFrameDeltas$Image;"⟩
  | 55 => ⟨"FrameDeltas$State", "isReadable", "(I)Z"⟩
  | 56 => ⟨"FrameDeltas$State", "mayBeReference", "(I)Z"⟩
  | 57 => ⟨"FrameDeltas$State", "depthOf", "(I)I"⟩
  | 58 => ⟨"FrameDeltas$State", "seekCost", "(I)I"⟩
  | 59 => ⟨"FrameDeltas$State", "chainHas", "(II)Z"⟩
  | 60 => ⟨"FrameDeltas$State", "readableFrames", "()I"⟩
  | 61 => ⟨"FrameDeltas$State", "costOfRecords", "()I"⟩
  | 62 => ⟨"FrameDeltas", "setSize", "(II)I"⟩
  | 63 => ⟨"FrameDeltas", "setCell", "(II)I"⟩
  | 64 => ⟨"FrameDeltas", "cell", "(I)I"⟩
  | 65 => ⟨"FrameDeltas", "appendCharacter", "(I)I"⟩
  | 66 => ⟨"FrameDeltas", "clearText", "()I"⟩
  | 67 => ⟨"FrameDeltas", "draw", "()I"⟩
  | 68 => ⟨"FrameDeltas", "digest", "(III)I"⟩
  | 69 => ⟨"FrameDeltas", "addKey", "()I"⟩
  | 70 => ⟨"FrameDeltas", "addDelta", "(I)I"⟩
  | 71 => ⟨"FrameDeltas", "addChosen", "()I"⟩
  | 72 => ⟨"FrameDeltas", "removeLast", "()I"⟩
  | 73 => ⟨"FrameDeltas", "recode", "()I"⟩
  | 74 => ⟨"FrameDeltas", "setLimits", "(III)I"⟩
  | 75 => ⟨"FrameDeltas", "setLost", "(II)I"⟩
  | 76 => ⟨"FrameDeltas", "frame", "(II)I"⟩
  | 77 => ⟨"FrameDeltas", "code", "(III)I"⟩
  | 78 => ⟨"FrameDeltas", "run", "(IIII)I"⟩
  | 79 => ⟨"FrameDeltas", "pixel", "(II)I"⟩
  | 80 => ⟨"FrameDeltas", "count", "(I)I"⟩
  | 81 => ⟨"FrameDeltas", "costWith", "(I)I"⟩
  | 82 => ⟨"FrameDeltas", "difference", "(II)I"⟩
  | 83 => ⟨"FrameDeltas", "findBlock", "(II)I"⟩
  | 84 => ⟨"FrameDeltas", "falseMatches", "(I)I"⟩
  | 85 => ⟨"FrameDeltas", "greatestSeek", "()I"⟩
  | 86 => ⟨"FrameDeltas", "dependents", "(I)I"⟩
  | 87 => ⟨"FrameDeltas", "patch", "(I)I"⟩
  | 88 => ⟨"FrameDeltas", "planCost", "()I"⟩
  | 89 => ⟨"FrameDeltas", "planKeys", "()I"⟩
  | 90 => ⟨"FrameDeltas", "undo", "()I"⟩
  | 91 => ⟨"FrameDeltas", "isSize", "(I)Z"⟩
  | 92 => ⟨"FrameDeltas", "save", "()V"⟩
  | 93 => ⟨"FrameDeltas", "savedSlot", "(I)LFrameDeltas$State;"⟩
  | 94 => ⟨"FrameDeltas", "add", "(I)I"⟩
  | 95 => ⟨"FrameDeltas", "costOfCanvas", "(I)I"⟩
  | 96 => ⟨"FrameDeltas", "chosenReference", "()I"⟩
  | 97 => ⟨"FrameDeltas", "falsePairs", "(LFrameDeltas$Image;)I"⟩
  | 98 => ⟨"FrameDeltasModel", "in", "(III)Z"⟩
  | 99 => ⟨"FrameDeltasModel", "note", "()V"⟩
  | 100 => ⟨"FrameDeltasModel", "undo", "()I"⟩
  | 101 => ⟨"FrameDeltasModel", "cells", "()I"⟩
  | 102 => ⟨"FrameDeltasModel", "blocks", "()I"⟩
  | 103 => ⟨"FrameDeltasModel", "isFrame", "(I)Z"⟩
  | 104 => ⟨"FrameDeltasModel", "value", "(II)I"⟩
  | 105 => ⟨"FrameDeltasModel", "reference", "(I)I"⟩
  | 106 => ⟨"FrameDeltasModel", "depthOf", "(I)I"⟩
  | 107 => ⟨"FrameDeltasModel", "isGood", "(I)Z"⟩
  | 108 => ⟨"FrameDeltasModel", "goods", "()I"⟩
  | 109 => ⟨"FrameDeltasModel", "setSize", "(II)I"⟩
  | 110 => ⟨"FrameDeltasModel", "isCell", "(I)Z"⟩
  | 111 => ⟨"FrameDeltasModel", "setCell", "(II)I"⟩
  | 112 => ⟨"FrameDeltasModel", "cell", "(I)I"⟩
  | 113 => ⟨"FrameDeltasModel", "appendCharacter", "(I)I"⟩
  | 114 => ⟨"FrameDeltasModel", "clearText", "()I"⟩
  | 115 => ⟨"FrameDeltasModel", "here", "()I"⟩
  | 116 => ⟨"FrameDeltasModel", "readsToken", "()V"⟩
  | 117 => ⟨"FrameDeltasModel", "takes", "(Z)V"⟩
  | 118 => ⟨"FrameDeltasModel", "takesNumber", "(II)I"⟩
  | 119 => ⟨"FrameDeltasModel", "place", "(II)I"⟩
  | 120 => ⟨"FrameDeltasModel", "keeps", "()V"⟩
  | 121 => ⟨"FrameDeltasModel", "fillsBox", "(IIIII)V"⟩
  | 122 => ⟨"FrameDeltasModel", "shifts", "(II)V"⟩
  | 123 => ⟨"FrameDeltasModel", "readsCommand", "()V"⟩
  | 124 => ⟨"FrameDeltasModel", "exchanges", "()V"⟩
  | 125 => ⟨"FrameDeltasModel", "draw", "()I"⟩
  | 126 => ⟨"FrameDeltasModel", "isImage", "(I)Z"⟩
  | 127 => ⟨"FrameDeltasModel", "isKnown", "(I)Z"⟩
  | 128 => ⟨"FrameDeltasModel", "digestOf", "(III)I"⟩
  | 129 => ⟨"FrameDeltasModel", "digest", "(III)I"⟩
  | 130 => ⟨"FrameDeltasModel", "left", "(I)I"⟩
  | 131 => ⟨"FrameDeltasModel", "top", "(I)I"⟩
  | 132 => ⟨"FrameDeltasModel", "given", "(IIII)I"⟩
  | 133 => ⟨"FrameDeltasModel", "runsOf", "(III)I"⟩
  | 134 => ⟨"FrameDeltasModel", "isLike", "(IIIII)Z"⟩
  | 135 => ⟨"FrameDeltasModel", "size", "(I)I"⟩
  | 136 => ⟨"FrameDeltasModel", "finds", "(III)Z"⟩
  | 137 => ⟨"FrameDeltasModel", "codes", "(III)I"⟩
  | 138 => ⟨"FrameDeltasModel", "codesAll", "(II)I"⟩
  | 139 => ⟨"FrameDeltasModel", "codeAt", "(II)I"⟩
  | 140 => ⟨"FrameDeltasModel", "runsIn", "(II)I"⟩
  | 141 => ⟨"FrameDeltasModel", "costOf", "(I)I"⟩
  | 142 => ⟨"FrameDeltasModel", "seekOf", "(I)I"⟩
  | 143 => ⟨"FrameDeltasModel", "records", "(II)V"⟩
  | 144 => ⟨"FrameDeltasModel", "adds", "(I)I"⟩
  | 145 => ⟨"FrameDeltasModel", "addKey", "()I"⟩
  | 146 => ⟨"FrameDeltasModel", "addDelta", "(I)I"⟩
  | 147 => ⟨"FrameDeltasModel", "addChosen", "()I"⟩
  | 148 => ⟨"FrameDeltasModel", "removeLast", "()I"⟩
  | 149 => ⟨"FrameDeltasModel", "planOf", "(I)I"⟩
  | 150 => ⟨"FrameDeltasModel", "bits", "(I)I"⟩
  | 151 => ⟨"FrameDeltasModel", "plans", "()I"⟩
  | 152 => ⟨"FrameDeltasModel", "recode", "()I"⟩
  | 153 => ⟨"FrameDeltasModel", "planCost", "()I"⟩
  | 154 => ⟨"FrameDeltasModel", "planKeys", "()I"⟩
  | 155 => ⟨"FrameDeltasModel", "setLimits", "(III)I"⟩
  | 156 => ⟨"FrameDeltasModel", "setLost", "(II)I"⟩
  | 157 => ⟨"FrameDeltasModel", "codesOf", "(II)I"⟩
  | 158 => ⟨"FrameDeltasModel", "frame", "(II)I"⟩
  | 159 => ⟨"FrameDeltasModel", "isBlock", "(I)Z"⟩
  | 160 => ⟨"FrameDeltasModel", "code", "(III)I"⟩
  | 161 => ⟨"FrameDeltasModel", "run", "(IIII)I"⟩
  | 162 => ⟨"FrameDeltasModel", "pixel", "(II)I"⟩
  | 163 => ⟨"FrameDeltasModel", "count", "(I)I"⟩
  | 164 => ⟨"FrameDeltasModel", "costWith", "(I)I"⟩
  | 165 => ⟨"FrameDeltasModel", "differing", "(II)I"⟩
  | 166 => ⟨"FrameDeltasModel", "difference", "(II)I"⟩
  | 167 => ⟨"FrameDeltasModel", "areAlike", "(IIIIII)Z"⟩
  | 168 => ⟨"FrameDeltasModel", "findBlock", "(II)I"⟩
  | 169 => ⟨"FrameDeltasModel", "falseMatches", "(I)I"⟩
  | 170 => ⟨"FrameDeltasModel", "greatestSeek", "()I"⟩
  | 171 => ⟨"FrameDeltasModel", "isInChain", "(II)Z"⟩
  | 172 => ⟨"FrameDeltasModel", "dependents", "(I)I"⟩
  | 173 => ⟨"FrameDeltasModel", "patch", "(I)I"⟩
  | 174 => ⟨"java/lang/Integer", "bitCount", "(I)I"⟩
  | 175 => ⟨"java/lang/Math", "floorMod", "(II)I"⟩
  | 176 => ⟨"java/lang/Math", "abs", "(I)I"⟩
  | 177 => ⟨"java/lang/Math", "max", "(II)I"⟩
  | 178 => ⟨"java/lang/Math", "min", "(II)I"⟩
  | 179 => ⟨"java/lang/String", "length", "()I"⟩
  | 180 => ⟨"java/lang/String", "charAt", "(I)C"⟩
  | 181 => ⟨"java/lang/String", "coder", "()B"⟩
  | 182 => ⟨"java/lang/String", "isLatin1", "()Z"⟩
  | 183 => ⟨"java/lang/String", "checkIndex", "(II)V"⟩
  | 184 => ⟨"java/lang/StringLatin1", "charAt", "([BI)C"⟩
  | 185 => ⟨"jdk/internal/util/Preconditions", "checkIndex", "(IILjava/util/function/BiFunction;)I"⟩
  | 186 => ⟨"FrameDeltasLaw", "law", "([I)Z"⟩
  | _ => ⟨"", "", ""⟩
def zby : Nat → ByteArray
  | 0 => prog_2_method_2_code
  | 1 => prog_2_method_3_code
  | 2 => prog_2_method_4_code
  | 3 => prog_2_method_5_code
  | 4 => prog_3_method_2_code
  | 5 => prog_3_method_3_code
  | 6 => prog_3_method_4_code
  | 7 => prog_3_method_5_code
  | 8 => prog_4_method_2_code
  | 9 => prog_4_method_3_code
  | 10 => prog_4_method_4_code
  | 11 => prog_4_method_5_code
  | 12 => prog_4_method_6_code
  | 13 => prog_4_method_7_code
  | 14 => prog_4_method_8_code
  | 15 => prog_4_method_9_code
  | 16 => prog_4_method_10_code
  | 17 => prog_4_method_11_code
  | 18 => prog_4_method_12_code
  | 19 => prog_4_method_13_code
  | 20 => prog_4_method_14_code
  | 21 => prog_4_method_15_code
  | 22 => prog_4_method_16_code
  | 23 => prog_4_method_17_code
  | 24 => prog_4_method_18_code
  | 25 => prog_5_method_2_code
  | 26 => prog_5_method_3_code
  | 27 => prog_5_method_4_code
  | 28 => prog_5_method_5_code
  | 29 => prog_6_method_2_code
  | 30 => prog_6_method_3_code
  | 31 => prog_6_method_4_code
  | 32 => prog_6_method_5_code
  | 33 => prog_7_method_2_code
  | 34 => prog_7_method_3_code
  | 35 => prog_7_method_4_code
  | 36 => prog_7_method_5_code
  | 37 => prog_7_method_6_code
  | 38 => prog_7_method_7_code
  | 39 => prog_7_method_8_code
  | 40 => prog_7_method_9_code
  | 41 => prog_7_method_10_code
  | 42 => prog_7_method_11_code
  | 43 => prog_7_method_12_code
  | 44 => prog_7_method_13_code
  | 45 => prog_7_method_14_code
  | 46 => prog_7_method_15_code
  | 47 => prog_7_method_16_code
  | 48 => prog_7_method_17_code
  | 49 => prog_7_method_18_code
  | 50 => prog_8_method_2_code
  | 51 => prog_8_method_3_code
  | 52 => prog_8_method_4_code
  | 53 => prog_8_method_5_code
  | 54 => prog_8_method_6_code
  | 55 => prog_8_method_7_code
  | 56 => prog_8_method_8_code
  | 57 => prog_8_method_9_code
  | 58 => prog_8_method_10_code
  | 59 => prog_8_method_11_code
  | 60 => prog_8_method_12_code
  | 61 => prog_8_method_13_code
  | 62 => prog_1_method_2_code
  | 63 => prog_1_method_3_code
  | 64 => prog_1_method_4_code
  | 65 => prog_1_method_5_code
  | 66 => prog_1_method_6_code
  | 67 => prog_1_method_7_code
  | 68 => prog_1_method_8_code
  | 69 => prog_1_method_9_code
  | 70 => prog_1_method_10_code
  | 71 => prog_1_method_11_code
  | 72 => prog_1_method_12_code
  | 73 => prog_1_method_13_code
  | 74 => prog_1_method_14_code
  | 75 => prog_1_method_15_code
  | 76 => prog_1_method_16_code
  | 77 => prog_1_method_17_code
  | 78 => prog_1_method_18_code
  | 79 => prog_1_method_19_code
  | 80 => prog_1_method_20_code
  | 81 => prog_1_method_21_code
  | 82 => prog_1_method_22_code
  | 83 => prog_1_method_23_code
  | 84 => prog_1_method_24_code
  | 85 => prog_1_method_25_code
  | 86 => prog_1_method_26_code
  | 87 => prog_1_method_27_code
  | 88 => prog_1_method_28_code
  | 89 => prog_1_method_29_code
  | 90 => prog_1_method_30_code
  | 91 => prog_1_method_31_code
  | 92 => prog_1_method_32_code
  | 93 => prog_1_method_33_code
  | 94 => prog_1_method_34_code
  | 95 => prog_1_method_35_code
  | 96 => prog_1_method_36_code
  | 97 => prog_1_method_37_code
  | 98 => prog_10_method_3_code
  | 99 => prog_10_method_4_code
  | 100 => prog_10_method_5_code
  | 101 => prog_10_method_6_code
  | 102 => prog_10_method_7_code
  | 103 => prog_10_method_8_code
  | 104 => prog_10_method_9_code
  | 105 => prog_10_method_10_code
  | 106 => prog_10_method_11_code
  | 107 => prog_10_method_12_code
  | 108 => prog_10_method_13_code
  | 109 => prog_10_method_14_code
  | 110 => prog_10_method_15_code
  | 111 => prog_10_method_16_code
  | 112 => prog_10_method_17_code
  | 113 => prog_10_method_18_code
  | 114 => prog_10_method_19_code
  | 115 => prog_10_method_20_code
  | 116 => prog_10_method_21_code
  | 117 => prog_10_method_22_code
  | 118 => prog_10_method_23_code
  | 119 => prog_10_method_24_code
  | 120 => prog_10_method_25_code
  | 121 => prog_10_method_26_code
  | 122 => prog_10_method_27_code
  | 123 => prog_10_method_28_code
  | 124 => prog_10_method_29_code
  | 125 => prog_10_method_30_code
  | 126 => prog_10_method_31_code
  | 127 => prog_10_method_32_code
  | 128 => prog_10_method_33_code
  | 129 => prog_10_method_34_code
  | 130 => prog_10_method_35_code
  | 131 => prog_10_method_36_code
  | 132 => prog_10_method_37_code
  | 133 => prog_10_method_38_code
  | 134 => prog_10_method_39_code
  | 135 => prog_10_method_40_code
  | 136 => prog_10_method_41_code
  | 137 => prog_10_method_42_code
  | 138 => prog_10_method_43_code
  | 139 => prog_10_method_44_code
  | 140 => prog_10_method_45_code
  | 141 => prog_10_method_46_code
  | 142 => prog_10_method_47_code
  | 143 => prog_10_method_48_code
  | 144 => prog_10_method_49_code
  | 145 => prog_10_method_50_code
  | 146 => prog_10_method_51_code
  | 147 => prog_10_method_52_code
  | 148 => prog_10_method_53_code
  | 149 => prog_10_method_54_code
  | 150 => prog_10_method_55_code
  | 151 => prog_10_method_56_code
  | 152 => prog_10_method_57_code
  | 153 => prog_10_method_58_code
  | 154 => prog_10_method_59_code
  | 155 => prog_10_method_60_code
  | 156 => prog_10_method_61_code
  | 157 => prog_10_method_62_code
  | 158 => prog_10_method_63_code
  | 159 => prog_10_method_64_code
  | 160 => prog_10_method_65_code
  | 161 => prog_10_method_66_code
  | 162 => prog_10_method_67_code
  | 163 => prog_10_method_68_code
  | 164 => prog_10_method_69_code
  | 165 => prog_10_method_70_code
  | 166 => prog_10_method_71_code
  | 167 => prog_10_method_72_code
  | 168 => prog_10_method_73_code
  | 169 => prog_10_method_74_code
  | 170 => prog_10_method_75_code
  | 171 => prog_10_method_76_code
  | 172 => prog_10_method_77_code
  | 173 => prog_10_method_78_code
  | 174 => prog_11_method_49_code
  | 175 => prog_12_method_50_code
  | 176 => prog_12_method_59_code
  | 177 => prog_12_method_65_code
  | 178 => prog_12_method_69_code
  | 179 => prog_13_method_54_code
  | 180 => prog_13_method_56_code
  | 181 => prog_13_method_152_code
  | 182 => prog_13_method_154_code
  | 183 => prog_13_method_155_code
  | 184 => prog_14_method_2_code
  | 185 => prog_17_method_11_code
  | 186 => code
  | _ => .empty
def zrt : Nat → Option FieldType
  | 0 => none
  | 1 => (some .int)
  | 2 => (some .int)
  | 3 => (some .boolean)
  | 4 => none
  | 5 => (some .int)
  | 6 => none
  | 7 => (some .int)
  | 8 => none
  | 9 => none
  | 10 => (some .boolean)
  | 11 => (some .int)
  | 12 => none
  | 13 => (some .int)
  | 14 => (some .int)
  | 15 => (some .boolean)
  | 16 => (some .int)
  | 17 => (some .int)
  | 18 => (some .boolean)
  | 19 => (some .int)
  | 20 => (some .boolean)
  | 21 => (some .int)
  | 22 => none
  | 23 => none
  | 24 => none
  | 25 => none
  | 26 => none
  | 27 => (some .int)
  | 28 => (some .int)
  | 29 => none
  | 30 => none
  | 31 => (some .int)
  | 32 => (some .int)
  | 33 => (some .int)
  | 34 => (some (.object "java/lang/String"))
  | 35 => (some (.object "java/lang/String"))
  | 36 => (some .int)
  | 37 => (some .boolean)
  | 38 => none
  | 39 => none
  | 40 => (some .char)
  | 41 => (some .boolean)
  | 42 => (some .boolean)
  | 43 => (some .int)
  | 44 => (some .boolean)
  | 45 => (some .boolean)
  | 46 => (some .boolean)
  | 47 => (some .int)
  | 48 => (some .int)
  | 49 => none
  | 50 => none
  | 51 => (some (.object "FrameDeltas$Frame"))
  | 52 => (some .boolean)
  | 53 => (some .boolean)
  | 54 => (some (.object "FrameDeltas$Image"))
  | 55 => (some .boolean)
  | 56 => (some .boolean)
  | 57 => (some .int)
  | 58 => (some .int)
  | 59 => (some .boolean)
  | 60 => (some .int)
  | 61 => (some .int)
  | 62 => (some .int)
  | 63 => (some .int)
  | 64 => (some .int)
  | 65 => (some .int)
  | 66 => (some .int)
  | 67 => (some .int)
  | 68 => (some .int)
  | 69 => (some .int)
  | 70 => (some .int)
  | 71 => (some .int)
  | 72 => (some .int)
  | 73 => (some .int)
  | 74 => (some .int)
  | 75 => (some .int)
  | 76 => (some .int)
  | 77 => (some .int)
  | 78 => (some .int)
  | 79 => (some .int)
  | 80 => (some .int)
  | 81 => (some .int)
  | 82 => (some .int)
  | 83 => (some .int)
  | 84 => (some .int)
  | 85 => (some .int)
  | 86 => (some .int)
  | 87 => (some .int)
  | 88 => (some .int)
  | 89 => (some .int)
  | 90 => (some .int)
  | 91 => (some .boolean)
  | 92 => none
  | 93 => (some (.object "FrameDeltas$State"))
  | 94 => (some .int)
  | 95 => (some .int)
  | 96 => (some .int)
  | 97 => (some .int)
  | 98 => (some .boolean)
  | 99 => none
  | 100 => (some .int)
  | 101 => (some .int)
  | 102 => (some .int)
  | 103 => (some .boolean)
  | 104 => (some .int)
  | 105 => (some .int)
  | 106 => (some .int)
  | 107 => (some .boolean)
  | 108 => (some .int)
  | 109 => (some .int)
  | 110 => (some .boolean)
  | 111 => (some .int)
  | 112 => (some .int)
  | 113 => (some .int)
  | 114 => (some .int)
  | 115 => (some .int)
  | 116 => none
  | 117 => none
  | 118 => (some .int)
  | 119 => (some .int)
  | 120 => none
  | 121 => none
  | 122 => none
  | 123 => none
  | 124 => none
  | 125 => (some .int)
  | 126 => (some .boolean)
  | 127 => (some .boolean)
  | 128 => (some .int)
  | 129 => (some .int)
  | 130 => (some .int)
  | 131 => (some .int)
  | 132 => (some .int)
  | 133 => (some .int)
  | 134 => (some .boolean)
  | 135 => (some .int)
  | 136 => (some .boolean)
  | 137 => (some .int)
  | 138 => (some .int)
  | 139 => (some .int)
  | 140 => (some .int)
  | 141 => (some .int)
  | 142 => (some .int)
  | 143 => none
  | 144 => (some .int)
  | 145 => (some .int)
  | 146 => (some .int)
  | 147 => (some .int)
  | 148 => (some .int)
  | 149 => (some .int)
  | 150 => (some .int)
  | 151 => (some .int)
  | 152 => (some .int)
  | 153 => (some .int)
  | 154 => (some .int)
  | 155 => (some .int)
  | 156 => (some .int)
  | 157 => (some .int)
  | 158 => (some .int)
  | 159 => (some .boolean)
  | 160 => (some .int)
  | 161 => (some .int)
  | 162 => (some .int)
  | 163 => (some .int)
  | 164 => (some .int)
  | 165 => (some .int)
  | 166 => (some .int)
  | 167 => (some .boolean)
  | 168 => (some .int)
  | 169 => (some .int)
  | 170 => (some .int)
  | 171 => (some .boolean)
  | 172 => (some .int)
  | 173 => (some .int)
  | 174 => (some .int)
  | 175 => (some .int)
  | 176 => (some .int)
  | 177 => (some .int)
  | 178 => (some .int)
  | 179 => (some .int)
  | 180 => (some .char)
  | 181 => (some .byte)
  | 182 => (some .boolean)
  | 183 => none
  | 184 => (some .char)
  | 185 => (some .int)
  | 186 => (some .boolean)
  | _ => none
/-- frames and words of locals that a call takes at most -/
def zfr : Nat → Nat
  | 0 => 5
  | 1 => 4
  | 2 => 4
  | 3 => 2
  | 4 => 2
  | 5 => 1
  | 6 => 1
  | 7 => 2
  | 8 => 1
  | 9 => 1
  | 10 => 1
  | 11 => 1
  | 12 => 1
  | 13 => 1
  | 14 => 1
  | 15 => 2
  | 16 => 2
  | 17 => 2
  | 18 => 1
  | 19 => 2
  | 20 => 1
  | 21 => 2
  | 22 => 2
  | 23 => 2
  | 24 => 1
  | 25 => 7
  | 26 => 6
  | 27 => 2
  | 28 => 1
  | 29 => 3
  | 30 => 1
  | 31 => 1
  | 32 => 1
  | 33 => 1
  | 34 => 1
  | 35 => 1
  | 36 => 8
  | 37 => 7
  | 38 => 1
  | 39 => 2
  | 40 => 1
  | 41 => 1
  | 42 => 1
  | 43 => 6
  | 44 => 5
  | 45 => 2
  | 46 => 3
  | 47 => 4
  | 48 => 1
  | 49 => 3
  | 50 => 3
  | 51 => 1
  | 52 => 1
  | 53 => 2
  | 54 => 2
  | 55 => 2
  | 56 => 3
  | 57 => 2
  | 58 => 2
  | 59 => 2
  | 60 => 3
  | 61 => 2
  | 62 => 5
  | 63 => 5
  | 64 => 2
  | 65 => 2
  | 66 => 1
  | 67 => 9
  | 68 => 3
  | 69 => 7
  | 70 => 7
  | 71 => 8
  | 72 => 5
  | 73 => 8
  | 74 => 5
  | 75 => 5
  | 76 => 3
  | 77 => 3
  | 78 => 4
  | 79 => 3
  | 80 => 4
  | 81 => 7
  | 82 => 3
  | 83 => 3
  | 84 => 4
  | 85 => 3
  | 86 => 3
  | 87 => 3
  | 88 => 8
  | 89 => 8
  | 90 => 4
  | 91 => 1
  | 92 => 4
  | 93 => 2
  | 94 => 6
  | 95 => 6
  | 96 => 7
  | 97 => 3
  | 98 => 1
  | 99 => 1
  | 100 => 1
  | 101 => 1
  | 102 => 2
  | 103 => 2
  | 104 => 1
  | 105 => 1
  | 106 => 2
  | 107 => 2
  | 108 => 3
  | 109 => 3
  | 110 => 2
  | 111 => 3
  | 112 => 3
  | 113 => 2
  | 114 => 1
  | 115 => 1
  | 116 => 2
  | 117 => 3
  | 118 => 4
  | 119 => 1
  | 120 => 1
  | 121 => 2
  | 122 => 2
  | 123 => 5
  | 124 => 1
  | 125 => 6
  | 126 => 3
  | 127 => 3
  | 128 => 2
  | 129 => 4
  | 130 => 1
  | 131 => 1
  | 132 => 2
  | 133 => 3
  | 134 => 2
  | 135 => 1
  | 136 => 3
  | 137 => 4
  | 138 => 5
  | 139 => 1
  | 140 => 4
  | 141 => 5
  | 142 => 6
  | 143 => 1
  | 144 => 6
  | 145 => 7
  | 146 => 7
  | 147 => 7
  | 148 => 2
  | 149 => 1
  | 150 => 1
  | 151 => 6
  | 152 => 7
  | 153 => 7
  | 154 => 7
  | 155 => 2
  | 156 => 4
  | 157 => 3
  | 158 => 7
  | 159 => 3
  | 160 => 5
  | 161 => 5
  | 162 => 3
  | 163 => 6
  | 164 => 6
  | 165 => 2
  | 166 => 4
  | 167 => 2
  | 168 => 4
  | 169 => 4
  | 170 => 7
  | 171 => 2
  | 172 => 3
  | 173 => 3
  | 174 => 1
  | 175 => 1
  | 176 => 1
  | 177 => 1
  | 178 => 1
  | 179 => 2
  | 180 => 4
  | 181 => 1
  | 182 => 1
  | 183 => 2
  | 184 => 3
  | 185 => 1
  | 186 => 10
  | _ => 0
def zlo : Nat → Nat
  | 0 => 109
  | 1 => 83
  | 2 => 83
  | 3 => 40
  | 4 => 61
  | 5 => 12
  | 6 => 12
  | 7 => 35
  | 8 => 12
  | 9 => 40
  | 10 => 12
  | 11 => 12
  | 12 => 12
  | 13 => 12
  | 14 => 12
  | 15 => 32
  | 16 => 33
  | 17 => 33
  | 18 => 12
  | 19 => 35
  | 20 => 12
  | 21 => 33
  | 22 => 34
  | 23 => 35
  | 24 => 12
  | 25 => 159
  | 26 => 134
  | 27 => 33
  | 28 => 12
  | 29 => 54
  | 30 => 12
  | 31 => 12
  | 32 => 12
  | 33 => 12
  | 34 => 12
  | 35 => 12
  | 36 => 164
  | 37 => 140
  | 38 => 12
  | 39 => 33
  | 40 => 12
  | 41 => 12
  | 42 => 12
  | 43 => 119
  | 44 => 97
  | 45 => 33
  | 46 => 56
  | 47 => 88
  | 48 => 12
  | 49 => 61
  | 50 => 82
  | 51 => 12
  | 52 => 12
  | 53 => 33
  | 54 => 33
  | 55 => 33
  | 56 => 57
  | 57 => 33
  | 58 => 33
  | 59 => 33
  | 60 => 56
  | 61 => 33
  | 62 => 124
  | 63 => 124
  | 64 => 33
  | 65 => 33
  | 66 => 12
  | 67 => 186
  | 68 => 59
  | 69 => 156
  | 70 => 156
  | 71 => 181
  | 72 => 124
  | 73 => 186
  | 74 => 124
  | 75 => 124
  | 76 => 58
  | 77 => 53
  | 78 => 83
  | 79 => 56
  | 80 => 78
  | 81 => 155
  | 82 => 56
  | 83 => 56
  | 84 => 85
  | 85 => 57
  | 86 => 57
  | 87 => 56
  | 88 => 186
  | 89 => 186
  | 90 => 104
  | 91 => 12
  | 92 => 104
  | 93 => 34
  | 94 => 134
  | 95 => 134
  | 96 => 155
  | 97 => 59
  | 98 => 12
  | 99 => 12
  | 100 => 12
  | 101 => 12
  | 102 => 32
  | 103 => 34
  | 104 => 12
  | 105 => 12
  | 106 => 33
  | 107 => 33
  | 108 => 56
  | 109 => 52
  | 110 => 34
  | 111 => 55
  | 112 => 55
  | 113 => 34
  | 114 => 12
  | 115 => 12
  | 116 => 34
  | 117 => 55
  | 118 => 76
  | 119 => 12
  | 120 => 12
  | 121 => 34
  | 122 => 34
  | 123 => 100
  | 124 => 12
  | 125 => 130
  | 126 => 55
  | 127 => 56
  | 128 => 34
  | 129 => 77
  | 130 => 12
  | 131 => 12
  | 132 => 34
  | 133 => 59
  | 134 => 34
  | 135 => 12
  | 136 => 63
  | 137 => 92
  | 138 => 117
  | 139 => 12
  | 140 => 84
  | 141 => 107
  | 142 => 131
  | 143 => 12
  | 144 => 141
  | 145 => 165
  | 146 => 165
  | 147 => 165
  | 148 => 33
  | 149 => 12
  | 150 => 12
  | 151 => 141
  | 152 => 165
  | 153 => 165
  | 154 => 165
  | 155 => 34
  | 156 => 78
  | 157 => 52
  | 158 => 154
  | 159 => 52
  | 160 => 107
  | 161 => 107
  | 162 => 56
  | 163 => 131
  | 164 => 141
  | 165 => 34
  | 166 => 77
  | 167 => 34
  | 168 => 73
  | 169 => 77
  | 170 => 154
  | 171 => 33
  | 172 => 56
  | 173 => 58
  | 174 => 12
  | 175 => 12
  | 176 => 12
  | 177 => 12
  | 178 => 12
  | 179 => 32
  | 180 => 76
  | 181 => 12
  | 182 => 12
  | 183 => 34
  | 184 => 55
  | 185 => 12
  | 186 => 208
  | _ => 0
def zcname : Nat → String
  | 0 => "FrameDeltas"
  | 1 => "FrameDeltas$State"
  | 2 => "FrameDeltas$Frame"
  | 3 => "FrameDeltas$Image"
  | 8 => "FrameDeltas$Script"
  | 11 => "FrameDeltas$Coder"
  | 12 => "FrameDeltas$RunList"
  | 15 => "FrameDeltas$Planner"
  | 20 => "FrameDeltasModel"
  | 30 => "java/lang/String"
  | _ => ""
def zstx : Nat → Nat
  | 0 => 38
  | 1 => 40
  | 2 => 42
  | 3 => 44
  | 4 => 46
  | 5 => 48
  | 6 => 50
  | 7 => 52
  | 8 => 54
  | 9 => 56
  | _ => 0
/-- where a method keeps longs -/
def zlg (m i : Nat) : Bool := match m with
  | 123 => Nat.beq i 1
  | _ => false

def zML (own : String) (idx f : Nat) (n : Int) (tg : Nat) : Prop :=
  (zy f).cls ≠ "java/lang/invoke/MethodHandle" ∧ (zy f).cls ≠ "java/lang/invoke/VarHandle" ∧ (parseMethodDescriptor (zy f).desc).map (fun d => d.parameters.length) = some (n.toNat - (match tg with | 0 => 0 | _ => 1)) ∧ Cond.initialized (zy f).cls ∈ zTs ∧
  (match tg with
   | 0 => Cond.methodLink own idx (zy f) ∈ zTs ∧ Cond.static (zy f) ∈ zTs
   | g + 1 => Cond.instanceMethod (zy f) ∈ zTs ∧ Cond.selects (zy f).cls (zy f) (zy f) ∈ zTs ∧ zcname g = (zy f).cls ∧ (Cond.methodLink own idx (zy f) ∈ zTs ∨ Cond.methodLinkNest own idx (zy f) "FrameDeltas" ∈ zNs))
/-- a kind's class, its field table, how many fields -/
def zrec (o : Nat) : vw_C := (zcl[zci o]?).getD ("", (fun _ => ("", "", "", false)), 0)
def zFL (own : String) (idx o k : Nat) : Prop := Cond.fieldLink own idx (zrec o).1 ((zrec o).2.1 k).2.1 ((zrec o).2.1 k).2.2.1 ∈ zTs ∨ Cond.fieldLinkNest own idx (zrec o).1 ((zrec o).2.1 k).2.1 ((zrec o).2.1 k).2.2.1 "FrameDeltas" ∈ zNs
/-- what an instruction links, among the words -/
def zOK2 (own : String) (I : Instr) (a : Nat) (cs : List (Int × Nat)) : Prop := match I with
  | .getfield idx => (match cs with
    | (_, 4) :: (_, 30) :: _ => Cond.fieldLink own idx "java/lang/String" "coder" "B" ∈ zTs
    | _ :: (_, 30) :: _ => Cond.fieldLink own idx "java/lang/String" "value" "[B" ∈ zTs
    | _ :: (_, o) :: _ => zFL own idx o a
    | _ => True)
  | .putfield idx => (match cs with
    | _ :: (_, o) :: _ => zFL own idx o a
    | _ => True)
  | .invokevirtual idx => (match cs with
    | (n, _) :: (_, tg) :: _ => zML own idx a n tg
    | _ => True)
  | .invokestatic idx => (match a with
    | 999 => Cond.methodLink own idx arraycopyName ∈ zTs ∧ Cond.native arraycopyName ∈ zTs ∧ Cond.static arraycopyName ∈ zTs ∧ Cond.initialized "java/lang/System" ∈ zTs
    | _ => (match cs with
      | (n, _) :: (_, tg) :: _ => zML own idx a n tg
      | _ => True))
  | .ldc idx => own = "FrameDeltas$Script" ∧ idx = zstx a
  | .ldc2_w idx => (match cs with | (v, _) :: _ => Cond.constantLong own idx (Int64.ofInt v) ∈ zTs | _ => True)
  | .ldc_w idx => (match cs with | (v, _) :: _ => Cond.constant own idx (Int32.ofInt v) ∈ zTs | _ => True)
  | .getstatic idx => (match a with | 0 => Cond.fieldLink own idx "java/lang/String" "COMPACT_STRINGS" "Z" ∈ zTs | _ => Cond.fieldLink own idx "jdk/internal/util/Preconditions" "SIOOBE_FORMATTER" "Ljava/util/function/BiFunction;" ∈ zTs)
  | _ => True
def zall2 (own : String) : List mzN → Prop
  | [] => True
  | (_, I, a, cs, _) :: rest => zOK2 own I a cs ∧ zall2 own rest
def zil : Instr → Nat
  | .bipush _ => 2 | .sipush _ => 3 | .ldc _ => 2 | .ldc_w _ => 3 | .ldc2_w _ => 3 | .iload _ => 2 | .lload _ => 2 | .aload _ => 2 | .istore _ => 2 | .lstore _ => 2 | .astore _ => 2
  | .iinc _ _ => 3 | .ifCond _ _ => 3 | .if_icmp _ _ => 3 | .ifnull _ => 3 | .ifnonnull _ => 3 | .goto _ => 3 | .getfield _ => 3 | .putfield _ => 3 | .getstatic _ => 3 | .invokevirtual _ => 3
  | .invokestatic _ => 3 | .invokespecial _ => 3 | .new _ => 3 | .newarray _ => 2 | .anewarray _ => 3 | _ => 1
def zpcs (C : List mzN) (k : Nat) : Nat := match C[k]? with | some q => q.1 | none => 0
def zdk (bs : ByteArray) (pc : Nat) (I : Instr) : Bool := match I with
  | .tableswitch _ _ _ _ => (match decode bs pc with | .ok (J, _) => decide (J = I) | _ => false)
  | _ => decide (decode bs pc = .ok (I, zil I))
def zgt (C : List mzN) (pc : Nat) (off : Int) (a : Nat) : Bool := decide ((pc : Int) + off = (zpcs C a : Int)) && Nat.blt a C.length
def zsw (C : List mzN) (pc : Nat) (lo : Int) : List Int → List (Int × Nat) → Bool
  | [], [] => true
  | o :: os, (v, a) :: cs => decide (v = lo) && zgt C pc o a && zsw C pc (lo + 1) os cs
  | _, _ => false
def zsto (m i : Nat) : Bool := Nat.blt i (zml m) && (match i with | 0 => true | j + 1 => !(zlg m j))
/-- no fall over the end -/
def zfall (C : List mzN) (k : Nat) (pc : Nat) (I : Instr) : Bool := match I with
  | .goto _ => true | .ireturn => true | .areturn => true | .return_ => true | .athrow => true | .tableswitch _ _ _ _ => true
  | _ => decide (zpcs C (k + 1) = pc + zil I) && Nat.blt (k + 1) C.length
def zchk1 (m : Nat) (C : List mzN) (pc : Nat) (I : Instr) (a : Nat) (cs : List (Int × Nat)) : Bool := match I with
  | .iconst n => decide (-1 ≤ n) && decide (n ≤ 5)
  | .bipush n => decide (-128 ≤ n) && decide (n ≤ 127)
  | .sipush n => decide (-32768 ≤ n) && decide (n ≤ 32767)
  | .ldc_w _ => (match cs with | (v, _) :: _ => decide (-2147483648 ≤ v) && decide (v ≤ 2147483647) | _ => true)
  | .ldc2_w _ => (match cs with | (v, _) :: _ => decide (-9223372036854775808 ≤ v) && decide (v ≤ 9223372036854775807) | _ => true)
  | .ldc _ => Nat.blt a 10
  | .istore i => zsto m i
  | .istore_n i => zsto m i.val
  | .astore i => zsto m i
  | .astore_n i => zsto m i.val
  | .lstore_n i => zsto m i.val && zlg m i.val && Nat.blt (i.val + 1) (zml m)
  | .iinc i n => zsto m i && decide (-32768 ≤ n) && decide (n ≤ 32767)
  | .goto o => zgt C pc o a
  | .if_icmp _ o => zgt C pc o a
  | .ifCond _ o => zgt C pc o a
  | .ifnull o => zgt C pc o a
  | .ifnonnull o => zgt C pc o a
  | .tableswitch d lo hi os => zgt C pc d a && zsw C pc lo os.toList cs && decide (hi = lo + (os.size : Int) - 1)
  | .getfield _ => (match cs with
    | (x2, kd) :: (_, o) :: (_, x1) :: (_, md) :: _ => (match Nat.beq o 30 with | true => (Nat.beq kd 4 && decide (x2 = 0)) || (Nat.beq kd 3 && Nat.beq x1 31 && Nat.beq md 1) | false => decide ((zfl o)[a]? = some (kd, x1, md, x2)) && Nat.blt 0 (zcnt o) && Nat.beq (zrow o) 0)
    | _ => true)
  | .putfield _ => (match cs with
    | (x2, kd) :: (_, o) :: (_, x1) :: (_, md) :: _ => decide ((zfl o)[a]? = some (kd, x1, md, x2)) && Nat.blt 0 (zcnt o) && Nat.beq (zrow o) 0 && Nat.blt kd 3
    | _ => false)
  | .invokevirtual _ => (match cs with | (n, _) :: (_, g) :: _ => Nat.ble (zfr a + 1) (zfr m) && Nat.ble (8 + (zml a + 11) + zlo a) (zlo m) && Nat.blt 0 g && Nat.blt 0 n.toNat && Nat.blt a 186 && Nat.ble n.toNat (zml a) && ((Nat.beq (zrow (g - 1)) 0 && Nat.blt 0 (zcnt (g - 1))) || Nat.beq g 31) | _ => true)
  | .invokestatic _ => (match cs with | (n, _) :: (_, g) :: _ => Nat.ble (zfr a + 1) (zfr m) && Nat.ble (8 + (zml a + 11) + zlo a) (zlo m) && Nat.beq g 0 && Nat.blt a 186 && Nat.ble n.toNat (zml a) | _ => true)
  | .ireturn => (match a with | 0 => decide (zrt m = some .int) | 1 => decide (zrt m = some .boolean) | 2 => decide (zrt m = some .char) | _ => decide (zrt m = some .byte))
  | .areturn => (match zrt m with | some (.object _) => true | _ => false)
  | .return_ => decide (zrt m = none)
  | _ => true
def zchk0 (m : Nat) (C : List mzN) : Nat → List mzN → Bool
  | _, [] => true
  | k, (pc, I, a, cs, _) :: rest => zdk (zby m) pc I && zfall C k pc I && zchk1 m C pc I a cs && zchk0 m C (k + 1) rest
def zchk (m : Nat) (C D : List mzN) : Bool := zchk0 m C 0 D && (match C with | [] => true | (pc, _) :: _ => Nat.beq pc 0) && Nat.ble 40 (match D.any (fun q => Nat.beq q.2.2.1 999) with | true => zlo m | false => 40)

theorem zm_0_28 : zML "FrameDeltas$Coder" 28 54 2 2 := ⟨by decide +kernel, by decide +kernel, by decide +kernel, zl_2, zl_482, zs_30, rfl, Or.inr zl_518⟩
theorem zm_0_50 : zML "FrameDeltas$Coder" 50 14 1 4 := ⟨by decide +kernel, by decide +kernel, by decide +kernel, zl_3, zl_295, zs_7, rfl, Or.inr zl_519⟩
theorem zm_0_56 : zML "FrameDeltas$Coder" 56 1 3 12 := ⟨by decide +kernel, by decide +kernel, by decide +kernel, zl_6, zl_522, zs_36, rfl, Or.inl zl_520⟩
theorem zm_0_63 : zML "FrameDeltas$Coder" 63 2 5 12 := ⟨by decide +kernel, by decide +kernel, by decide +kernel, zl_6, zl_550, zs_42, rfl, Or.inl zl_548⟩
theorem zm_0_67 : zML "FrameDeltas$Coder" 67 29 4 13 := ⟨by decide +kernel, by decide +kernel, by decide +kernel, zl_7, zl_526, zs_37, rfl, Or.inr zl_524⟩
theorem zm_0_74 : zML "FrameDeltas$Coder" 74 6 6 3 := ⟨by decide +kernel, by decide +kernel, by decide +kernel, zl_4, zl_546, zs_41, rfl, Or.inr zl_544⟩
theorem zm_0_78 : zML "FrameDeltas$Coder" 78 16 2 4 := ⟨by decide +kernel, by decide +kernel, by decide +kernel, zl_3, zl_530, zs_38, rfl, Or.inr zl_552⟩
theorem zm_0_82 : zML "FrameDeltas$Coder" 82 17 2 4 := ⟨by decide +kernel, by decide +kernel, by decide +kernel, zl_3, zl_537, zs_39, rfl, Or.inr zl_553⟩
theorem zm_0_85 : zML "FrameDeltas$Coder" 85 20 6 4 := ⟨by decide +kernel, by decide +kernel, by decide +kernel, zl_3, zl_556, zs_43, rfl, Or.inr zl_554⟩
theorem zm_0_89 : zML "FrameDeltas$Coder" 89 3 6 12 := ⟨by decide +kernel, by decide +kernel, by decide +kernel, zl_6, zl_560, zs_44, rfl, Or.inl zl_558⟩
theorem zm_0_93 : zML "FrameDeltas$Coder" 93 176 1 0 := ⟨by decide +kernel, by decide +kernel, by decide +kernel, zl_10, zl_562, zl_563⟩
theorem zm_0_98 : zML "FrameDeltas$Coder" 98 18 3 4 := ⟨by decide +kernel, by decide +kernel, by decide +kernel, zl_3, zl_496, zs_32, rfl, Or.inr zl_565⟩
theorem zm_0_102 : zML "FrameDeltas$Coder" 102 177 2 0 := ⟨by decide +kernel, by decide +kernel, by decide +kernel, zl_10, zl_566, zl_533⟩
theorem zm_1_33 : zML "FrameDeltas$Frame" 33 9 2 4 := ⟨by decide +kernel, by decide +kernel, by decide +kernel, zl_3, zl_274, zs_3, rfl, Or.inr zl_287⟩
theorem zm_1_43 : zML "FrameDeltas$Frame" 43 14 1 4 := ⟨by decide +kernel, by decide +kernel, by decide +kernel, zl_3, zl_295, zs_7, rfl, Or.inr zl_653⟩
theorem zm_1_47 : zML "FrameDeltas$Frame" 47 5 3 3 := ⟨by decide +kernel, by decide +kernel, by decide +kernel, zl_4, zl_656, zs_56, rfl, Or.inl zl_654⟩
theorem zm_2_28 : zML "FrameDeltas$Image" 28 14 1 4 := ⟨by decide +kernel, by decide +kernel, by decide +kernel, zl_3, zl_295, zs_7, rfl, Or.inl zl_666⟩
theorem zm_2_32 : zML "FrameDeltas$Image" 32 177 2 0 := ⟨by decide +kernel, by decide +kernel, by decide +kernel, zl_10, zl_532, zl_533⟩
theorem zm_2_38 : zML "FrameDeltas$Image" 38 13 3 4 := ⟨by decide +kernel, by decide +kernel, by decide +kernel, zl_3, zl_474, zs_28, rfl, Or.inl zl_472⟩
theorem zm_2_41 : zML "FrameDeltas$Image" 41 11 2 4 := ⟨by decide +kernel, by decide +kernel, by decide +kernel, zl_3, zl_307, zs_9, rfl, Or.inl zl_705⟩
theorem zm_2_45 : zML "FrameDeltas$Image" 45 178 2 0 := ⟨by decide +kernel, by decide +kernel, by decide +kernel, zl_10, zl_463, zl_464⟩
theorem zm_2_48 : zML "FrameDeltas$Image" 48 12 3 4 := ⟨by decide +kernel, by decide +kernel, by decide +kernel, zl_3, zl_311, zs_10, rfl, Or.inl zl_466⟩
theorem zm_3_30 : zML "FrameDeltas$Planner" 30 178 2 0 := ⟨by decide +kernel, by decide +kernel, by decide +kernel, zl_10, zl_606, zl_464⟩
theorem zm_3_36 : zML "FrameDeltas$Planner" 36 26 5 16 := ⟨by decide +kernel, by decide +kernel, by decide +kernel, zl_8, zl_609, zs_50, rfl, Or.inl zl_607⟩
theorem zm_3_43 : zML "FrameDeltas$Planner" 43 27 4 16 := ⟨by decide +kernel, by decide +kernel, by decide +kernel, zl_8, zl_616, zs_51, rfl, Or.inl zl_614⟩
theorem zm_3_47 : zML "FrameDeltas$Planner" 47 174 1 0 := ⟨by decide +kernel, by decide +kernel, by decide +kernel, zl_16, zl_619, zl_620⟩
theorem zm_3_59 : zML "FrameDeltas$Planner" 59 54 2 2 := ⟨by decide +kernel, by decide +kernel, by decide +kernel, zl_2, zl_482, zs_30, rfl, Or.inr zl_611⟩
theorem zm_3_63 : zML "FrameDeltas$Planner" 63 9 2 4 := ⟨by decide +kernel, by decide +kernel, by decide +kernel, zl_3, zl_274, zs_3, rfl, Or.inr zl_612⟩
theorem zm_3_69 : zML "FrameDeltas$Planner" 69 0 4 12 := ⟨by decide +kernel, by decide +kernel, by decide +kernel, zl_6, zl_516, zs_35, rfl, Or.inr zl_613⟩
theorem zm_3_76 : zML "FrameDeltas$Planner" 76 177 2 0 := ⟨by decide +kernel, by decide +kernel, by decide +kernel, zl_10, zl_618, zl_533⟩
theorem zm_4_22 : zML "FrameDeltas$RunList" 22 16 2 4 := ⟨by decide +kernel, by decide +kernel, by decide +kernel, zl_3, zl_530, zs_38, rfl, Or.inr zl_528⟩
theorem zm_4_28 : zML "FrameDeltas$RunList" 28 17 2 4 := ⟨by decide +kernel, by decide +kernel, by decide +kernel, zl_3, zl_537, zs_39, rfl, Or.inr zl_535⟩
theorem zm_4_31 : zML "FrameDeltas$RunList" 31 13 3 4 := ⟨by decide +kernel, by decide +kernel, by decide +kernel, zl_3, zl_474, zs_28, rfl, Or.inr zl_539⟩
theorem zm_4_35 : zML "FrameDeltas$RunList" 35 30 2 13 := ⟨by decide +kernel, by decide +kernel, by decide +kernel, zl_7, zl_542, zs_40, rfl, Or.inl zl_540⟩
theorem zm_5_58 : zML "FrameDeltas$Script" 58 39 1 9 := ⟨by decide +kernel, by decide +kernel, by decide +kernel, zl_5, zl_339, zs_13, rfl, Or.inl zl_337⟩
theorem zm_5_61 : zML "FrameDeltas$Script" 61 37 2 9 := ⟨by decide +kernel, by decide +kernel, by decide +kernel, zl_5, zl_353, zs_15, rfl, Or.inl zl_351⟩
theorem zm_5_65 : zML "FrameDeltas$Script" 65 43 1 9 := ⟨by decide +kernel, by decide +kernel, by decide +kernel, zl_5, zl_357, zs_16, rfl, Or.inl zl_355⟩
theorem zm_5_69 : zML "FrameDeltas$Script" 69 38 2 9 := ⟨by decide +kernel, by decide +kernel, by decide +kernel, zl_5, zl_421, zs_18, rfl, Or.inl zl_419⟩
theorem zm_5_73 : zML "FrameDeltas$Script" 73 35 1 0 := ⟨by decide +kernel, by decide +kernel, by decide +kernel, zl_5, zl_423, zl_424⟩
theorem zm_5_77 : zML "FrameDeltas$Script" 77 179 1 31 := ⟨by decide +kernel, by decide +kernel, by decide +kernel, zl_12, zl_372, zl_373, rfl, Or.inl zl_371⟩
theorem zm_5_81 : zML "FrameDeltas$Script" 81 45 1 9 := ⟨by decide +kernel, by decide +kernel, by decide +kernel, zl_5, zl_433, zs_19, rfl, Or.inl zl_431⟩
theorem zm_5_85 : zML "FrameDeltas$Script" 85 180 2 31 := ⟨by decide +kernel, by decide +kernel, by decide +kernel, zl_12, zl_382, zl_383, rfl, Or.inl zl_381⟩
theorem zm_5_89 : zML "FrameDeltas$Script" 89 46 3 9 := ⟨by decide +kernel, by decide +kernel, by decide +kernel, zl_5, zl_437, zs_20, rfl, Or.inl zl_435⟩
theorem zm_5_93 : zML "FrameDeltas$Script" 93 40 2 9 := ⟨by decide +kernel, by decide +kernel, by decide +kernel, zl_5, zl_343, zs_14, rfl, Or.inl zl_341⟩
theorem zm_5_96 : zML "FrameDeltas$Script" 96 41 1 0 := ⟨by decide +kernel, by decide +kernel, by decide +kernel, zl_5, zl_345, zl_346⟩
theorem zm_5_100 : zML "FrameDeltas$Script" 100 42 1 0 := ⟨by decide +kernel, by decide +kernel, by decide +kernel, zl_5, zl_348, zl_349⟩
theorem zm_5_103 : zML "FrameDeltas$Script" 103 34 1 0 := ⟨by decide +kernel, by decide +kernel, by decide +kernel, zl_5, zl_359, zl_360⟩
theorem zm_5_106 : zML "FrameDeltas$Script" 106 44 2 9 := ⟨by decide +kernel, by decide +kernel, by decide +kernel, zl_5, zl_369, zs_17, rfl, Or.inl zl_367⟩
theorem zm_5_110 : zML "FrameDeltas$Script" 110 52 2 2 := ⟨by decide +kernel, by decide +kernel, by decide +kernel, zl_2, zl_441, zs_21, rfl, Or.inr zl_439⟩
theorem zm_5_116 : zML "FrameDeltas$Script" 116 55 2 2 := ⟨by decide +kernel, by decide +kernel, by decide +kernel, zl_2, zl_445, zs_22, rfl, Or.inr zl_443⟩
theorem zm_5_119 : zML "FrameDeltas$Script" 119 48 2 9 := ⟨by decide +kernel, by decide +kernel, by decide +kernel, zl_5, zl_453, zs_24, rfl, Or.inl zl_451⟩
theorem zm_5_123 : zML "FrameDeltas$Script" 123 49 5 9 := ⟨by decide +kernel, by decide +kernel, by decide +kernel, zl_5, zl_457, zs_25, rfl, Or.inl zl_455⟩
theorem zm_5_139 : zML "FrameDeltas$Script" 139 22 6 4 := ⟨by decide +kernel, by decide +kernel, by decide +kernel, zl_3, zl_461, zs_26, rfl, Or.inr zl_459⟩
theorem zm_5_143 : zML "FrameDeltas$Script" 143 9 2 4 := ⟨by decide +kernel, by decide +kernel, by decide +kernel, zl_3, zl_274, zs_3, rfl, Or.inr zl_467⟩
theorem zm_5_147 : zML "FrameDeltas$Script" 147 23 4 4 := ⟨by decide +kernel, by decide +kernel, by decide +kernel, zl_3, zl_470, zs_27, rfl, Or.inr zl_468⟩
theorem zm_5_151 : zML "FrameDeltas$Script" 151 24 3 4 := ⟨by decide +kernel, by decide +kernel, by decide +kernel, zl_3, zl_478, zs_29, rfl, Or.inr zl_476⟩
theorem zm_5_155 : zML "FrameDeltas$Script" 155 54 2 2 := ⟨by decide +kernel, by decide +kernel, by decide +kernel, zl_2, zl_482, zs_30, rfl, Or.inr zl_480⟩
theorem zm_6_42 : zML "FrameDeltas$State" 42 9 2 4 := ⟨by decide +kernel, by decide +kernel, by decide +kernel, zl_3, zl_274, zs_3, rfl, Or.inr zl_272⟩
theorem zm_6_46 : zML "FrameDeltas$State" 46 51 2 2 := ⟨by decide +kernel, by decide +kernel, by decide +kernel, zl_2, zl_281, zs_4, rfl, Or.inl zl_279⟩
theorem zm_6_50 : zML "FrameDeltas$State" 50 4 2 3 := ⟨by decide +kernel, by decide +kernel, by decide +kernel, zl_4, zl_285, zs_5, rfl, Or.inr zl_283⟩
theorem zm_6_53 : zML "FrameDeltas$State" 53 52 2 2 := ⟨by decide +kernel, by decide +kernel, by decide +kernel, zl_2, zl_441, zs_21, rfl, Or.inl zl_493⟩
theorem zm_6_67 : zML "FrameDeltas$State" 67 55 2 2 := ⟨by decide +kernel, by decide +kernel, by decide +kernel, zl_2, zl_445, zs_22, rfl, Or.inl zl_576⟩
theorem zm_6_70 : zML "FrameDeltas$State" 70 57 2 2 := ⟨by decide +kernel, by decide +kernel, by decide +kernel, zl_2, zl_579, zs_46, rfl, Or.inl zl_577⟩
theorem zm_7_66 : zML "FrameDeltas" 66 91 1 0 := ⟨by decide +kernel, by decide +kernel, by decide +kernel, zl_1, zl_254, zl_255⟩
theorem zm_7_70 : zML "FrameDeltas" 70 92 1 1 := ⟨by decide +kernel, by decide +kernel, by decide +kernel, zl_1, zl_259, zs_0, rfl, Or.inl zl_257⟩
theorem zm_7_79 : zML "FrameDeltas" 79 8 3 4 := ⟨by decide +kernel, by decide +kernel, by decide +kernel, zl_3, zl_291, zs_6, rfl, Or.inr zl_289⟩
theorem zm_7_83 : zML "FrameDeltas" 83 14 1 4 := ⟨by decide +kernel, by decide +kernel, by decide +kernel, zl_3, zl_295, zs_7, rfl, Or.inr zl_293⟩
theorem zm_7_87 : zML "FrameDeltas" 87 10 2 4 := ⟨by decide +kernel, by decide +kernel, by decide +kernel, zl_3, zl_303, zs_8, rfl, Or.inr zl_301⟩
theorem zm_7_90 : zML "FrameDeltas" 90 11 2 4 := ⟨by decide +kernel, by decide +kernel, by decide +kernel, zl_3, zl_307, zs_9, rfl, Or.inr zl_305⟩
theorem zm_7_94 : zML "FrameDeltas" 94 12 3 4 := ⟨by decide +kernel, by decide +kernel, by decide +kernel, zl_3, zl_311, zs_10, rfl, Or.inr zl_309⟩
theorem zm_7_100 : zML "FrameDeltas" 100 33 2 9 := ⟨by decide +kernel, by decide +kernel, by decide +kernel, zl_5, zl_323, zs_11, rfl, Or.inr zl_321⟩
theorem zm_7_104 : zML "FrameDeltas" 104 36 2 9 := ⟨by decide +kernel, by decide +kernel, by decide +kernel, zl_5, zl_335, zs_12, rfl, Or.inr zl_333⟩
theorem zm_7_108 : zML "FrameDeltas" 108 47 3 9 := ⟨by decide +kernel, by decide +kernel, by decide +kernel, zl_5, zl_449, zs_23, rfl, Or.inr zl_447⟩
theorem zm_7_112 : zML "FrameDeltas" 112 53 2 2 := ⟨by decide +kernel, by decide +kernel, by decide +kernel, zl_2, zl_491, zs_31, rfl, Or.inr zl_489⟩
theorem zm_7_115 : zML "FrameDeltas" 115 18 3 4 := ⟨by decide +kernel, by decide +kernel, by decide +kernel, zl_3, zl_496, zs_32, rfl, Or.inr zl_494⟩
theorem zm_7_119 : zML "FrameDeltas" 119 55 2 2 := ⟨by decide +kernel, by decide +kernel, by decide +kernel, zl_2, zl_445, zs_22, rfl, Or.inr zl_498⟩
theorem zm_7_122 : zML "FrameDeltas" 122 54 2 2 := ⟨by decide +kernel, by decide +kernel, by decide +kernel, zl_2, zl_482, zs_30, rfl, Or.inr zl_499⟩
theorem zm_7_126 : zML "FrameDeltas" 126 19 3 4 := ⟨by decide +kernel, by decide +kernel, by decide +kernel, zl_3, zl_502, zs_33, rfl, Or.inr zl_500⟩
theorem zm_7_130 : zML "FrameDeltas" 130 94 2 1 := ⟨by decide +kernel, by decide +kernel, by decide +kernel, zl_1, zl_510, zs_34, rfl, Or.inl zl_508⟩
theorem zm_7_133 : zML "FrameDeltas" 133 52 2 2 := ⟨by decide +kernel, by decide +kernel, by decide +kernel, zl_2, zl_441, zs_21, rfl, Or.inr zl_571⟩
theorem zm_7_136 : zML "FrameDeltas" 136 56 2 2 := ⟨by decide +kernel, by decide +kernel, by decide +kernel, zl_2, zl_574, zs_45, rfl, Or.inr zl_572⟩
theorem zm_7_139 : zML "FrameDeltas" 139 96 1 1 := ⟨by decide +kernel, by decide +kernel, by decide +kernel, zl_1, zl_587, zs_47, rfl, Or.inl zl_585⟩
theorem zm_7_142 : zML "FrameDeltas" 142 25 4 16 := ⟨by decide +kernel, by decide +kernel, by decide +kernel, zl_8, zl_604, zs_49, rfl, Or.inr zl_602⟩
theorem zm_7_146 : zML "FrameDeltas" 146 51 2 2 := ⟨by decide +kernel, by decide +kernel, by decide +kernel, zl_2, zl_281, zs_4, rfl, Or.inr zl_512⟩
theorem zm_7_150 : zML "FrameDeltas" 150 28 2 16 := ⟨by decide +kernel, by decide +kernel, by decide +kernel, zl_8, zl_627, zs_52, rfl, Or.inr zl_625⟩
theorem zm_7_153 : zML "FrameDeltas" 153 0 4 12 := ⟨by decide +kernel, by decide +kernel, by decide +kernel, zl_6, zl_516, zs_35, rfl, Or.inr zl_514⟩
theorem zm_7_173 : zML "FrameDeltas" 173 60 1 2 := ⟨by decide +kernel, by decide +kernel, by decide +kernel, zl_2, zl_639, zs_53, rfl, Or.inr zl_637⟩
theorem zm_7_180 : zML "FrameDeltas" 180 58 2 2 := ⟨by decide +kernel, by decide +kernel, by decide +kernel, zl_2, zl_647, zs_54, rfl, Or.inr zl_645⟩
theorem zm_7_183 : zML "FrameDeltas" 183 57 2 2 := ⟨by decide +kernel, by decide +kernel, by decide +kernel, zl_2, zl_579, zs_46, rfl, Or.inr zl_593⟩
theorem zm_7_186 : zML "FrameDeltas" 186 7 2 3 := ⟨by decide +kernel, by decide +kernel, by decide +kernel, zl_4, zl_651, zs_55, rfl, Or.inr zl_649⟩
theorem zm_7_189 : zML "FrameDeltas" 189 15 2 4 := ⟨by decide +kernel, by decide +kernel, by decide +kernel, zl_3, zl_664, zs_57, rfl, Or.inr zl_662⟩
theorem zm_7_192 : zML "FrameDeltas" 192 5 3 3 := ⟨by decide +kernel, by decide +kernel, by decide +kernel, zl_4, zl_656, zs_56, rfl, Or.inr zl_667⟩
theorem zm_7_202 : zML "FrameDeltas" 202 29 4 13 := ⟨by decide +kernel, by decide +kernel, by decide +kernel, zl_7, zl_526, zs_37, rfl, Or.inr zl_672⟩
theorem zm_7_211 : zML "FrameDeltas" 211 31 2 13 := ⟨by decide +kernel, by decide +kernel, by decide +kernel, zl_7, zl_675, zs_58, rfl, Or.inr zl_673⟩
theorem zm_7_214 : zML "FrameDeltas" 214 32 2 13 := ⟨by decide +kernel, by decide +kernel, by decide +kernel, zl_7, zl_679, zs_59, rfl, Or.inr zl_677⟩
theorem zm_7_223 : zML "FrameDeltas" 223 61 1 2 := ⟨by decide +kernel, by decide +kernel, by decide +kernel, zl_2, zl_691, zs_60, rfl, Or.inr zl_689⟩
theorem zm_7_226 : zML "FrameDeltas" 226 95 2 1 := ⟨by decide +kernel, by decide +kernel, by decide +kernel, zl_1, zl_591, zs_48, rfl, Or.inl zl_589⟩
theorem zm_7_229 : zML "FrameDeltas" 229 21 2 4 := ⟨by decide +kernel, by decide +kernel, by decide +kernel, zl_3, zl_703, zs_61, rfl, Or.inr zl_701⟩
theorem zm_7_233 : zML "FrameDeltas" 233 16 2 4 := ⟨by decide +kernel, by decide +kernel, by decide +kernel, zl_3, zl_530, zs_38, rfl, Or.inr zl_710⟩
theorem zm_7_236 : zML "FrameDeltas" 236 17 2 4 := ⟨by decide +kernel, by decide +kernel, by decide +kernel, zl_3, zl_537, zs_39, rfl, Or.inr zl_711⟩
theorem zm_7_239 : zML "FrameDeltas" 239 20 6 4 := ⟨by decide +kernel, by decide +kernel, by decide +kernel, zl_3, zl_556, zs_43, rfl, Or.inr zl_712⟩
theorem zm_7_243 : zML "FrameDeltas" 243 97 2 1 := ⟨by decide +kernel, by decide +kernel, by decide +kernel, zl_1, zl_719, zs_62, rfl, Or.inl zl_717⟩
theorem zm_7_246 : zML "FrameDeltas" 246 177 2 0 := ⟨by decide +kernel, by decide +kernel, by decide +kernel, zl_10, zl_726, zl_533⟩
theorem zm_7_251 : zML "FrameDeltas" 251 59 3 2 := ⟨by decide +kernel, by decide +kernel, by decide +kernel, zl_2, zl_733, zs_63, rfl, Or.inr zl_731⟩
theorem zm_7_257 : zML "FrameDeltas" 257 93 2 1 := ⟨by decide +kernel, by decide +kernel, by decide +kernel, zl_1, zl_263, zs_1, rfl, Or.inl zl_261⟩
theorem zm_7_261 : zML "FrameDeltas" 261 50 2 2 := ⟨by decide +kernel, by decide +kernel, by decide +kernel, zl_2, zl_270, zs_2, rfl, Or.inr zl_268⟩
theorem zm_7_265 : zML "FrameDeltas" 265 175 2 0 := ⟨by decide +kernel, by decide +kernel, by decide +kernel, zl_10, zl_265, zl_266⟩
theorem zm_7_268 : zML "FrameDeltas" 268 9 2 4 := ⟨by decide +kernel, by decide +kernel, by decide +kernel, zl_3, zl_274, zs_3, rfl, Or.inr zl_513⟩
theorem zm_7_271 : zML "FrameDeltas" 271 178 2 0 := ⟨by decide +kernel, by decide +kernel, by decide +kernel, zl_10, zl_721, zl_464⟩
theorem zm_8_42 : zML "FrameDeltasModel" 42 101 1 21 := ⟨by decide +kernel, by decide +kernel, by decide +kernel, zl_9, zl_833, zs_66, rfl, Or.inl zl_831⟩
theorem zm_8_46 : zML "FrameDeltasModel" 46 98 3 0 := ⟨by decide +kernel, by decide +kernel, by decide +kernel, zl_9, zl_820, zl_821⟩
theorem zm_8_50 : zML "FrameDeltasModel" 50 105 2 21 := ⟨by decide +kernel, by decide +kernel, by decide +kernel, zl_9, zl_916, zs_79, rfl, Or.inl zl_914⟩
theorem zm_8_54 : zML "FrameDeltasModel" 54 107 2 21 := ⟨by decide +kernel, by decide +kernel, by decide +kernel, zl_9, zl_912, zs_78, rfl, Or.inl zl_910⟩
theorem zm_8_58 : zML "FrameDeltasModel" 58 99 1 21 := ⟨by decide +kernel, by decide +kernel, by decide +kernel, zl_9, zl_825, zs_64, rfl, Or.inl zl_823⟩
theorem zm_8_61 : zML "FrameDeltasModel" 61 102 1 21 := ⟨by decide +kernel, by decide +kernel, by decide +kernel, zl_9, zl_829, zs_65, rfl, Or.inl zl_827⟩
theorem zm_8_64 : zML "FrameDeltasModel" 64 110 2 21 := ⟨by decide +kernel, by decide +kernel, by decide +kernel, zl_9, zl_841, zs_67, rfl, Or.inl zl_839⟩
theorem zm_8_73 : zML "FrameDeltasModel" 73 115 1 21 := ⟨by decide +kernel, by decide +kernel, by decide +kernel, zl_9, zl_865, zs_69, rfl, Or.inl zl_863⟩
theorem zm_8_105 : zML "FrameDeltasModel" 105 116 1 21 := ⟨by decide +kernel, by decide +kernel, by decide +kernel, zl_9, zl_861, zs_68, rfl, Or.inl zl_859⟩
theorem zm_8_108 : zML "FrameDeltasModel" 108 117 2 21 := ⟨by decide +kernel, by decide +kernel, by decide +kernel, zl_9, zl_884, zs_71, rfl, Or.inl zl_882⟩
theorem zm_8_112 : zML "FrameDeltasModel" 112 120 1 21 := ⟨by decide +kernel, by decide +kernel, by decide +kernel, zl_9, zl_900, zs_75, rfl, Or.inl zl_898⟩
theorem zm_8_115 : zML "FrameDeltasModel" 115 119 3 21 := ⟨by decide +kernel, by decide +kernel, by decide +kernel, zl_9, zl_904, zs_76, rfl, Or.inl zl_902⟩
theorem zm_8_129 : zML "FrameDeltasModel" 129 118 3 21 := ⟨by decide +kernel, by decide +kernel, by decide +kernel, zl_9, zl_888, zs_72, rfl, Or.inl zl_886⟩
theorem zm_8_132 : zML "FrameDeltasModel" 132 121 6 21 := ⟨by decide +kernel, by decide +kernel, by decide +kernel, zl_9, zl_892, zs_73, rfl, Or.inl zl_890⟩
theorem zm_8_136 : zML "FrameDeltasModel" 136 122 3 21 := ⟨by decide +kernel, by decide +kernel, by decide +kernel, zl_9, zl_896, zs_74, rfl, Or.inl zl_894⟩
theorem zm_8_140 : zML "FrameDeltasModel" 140 103 2 21 := ⟨by decide +kernel, by decide +kernel, by decide +kernel, zl_9, zl_908, zs_77, rfl, Or.inl zl_906⟩
theorem zm_8_143 : zML "FrameDeltasModel" 143 104 3 21 := ⟨by decide +kernel, by decide +kernel, by decide +kernel, zl_9, zl_920, zs_80, rfl, Or.inl zl_918⟩
theorem zm_8_146 : zML "FrameDeltasModel" 146 123 1 21 := ⟨by decide +kernel, by decide +kernel, by decide +kernel, zl_9, zl_875, zs_70, rfl, Or.inl zl_873⟩
theorem zm_8_149 : zML "FrameDeltasModel" 149 124 1 21 := ⟨by decide +kernel, by decide +kernel, by decide +kernel, zl_9, zl_924, zs_81, rfl, Or.inl zl_922⟩
theorem zm_8_152 : zML "FrameDeltasModel" 152 126 2 21 := ⟨by decide +kernel, by decide +kernel, by decide +kernel, zl_9, zl_932, zs_82, rfl, Or.inl zl_930⟩
theorem zm_8_155 : zML "FrameDeltasModel" 155 127 2 21 := ⟨by decide +kernel, by decide +kernel, by decide +kernel, zl_9, zl_936, zs_83, rfl, Or.inl zl_934⟩
theorem zm_8_158 : zML "FrameDeltasModel" 158 128 4 21 := ⟨by decide +kernel, by decide +kernel, by decide +kernel, zl_9, zl_940, zs_84, rfl, Or.inl zl_938⟩
theorem zm_8_162 : zML "FrameDeltasModel" 162 130 2 21 := ⟨by decide +kernel, by decide +kernel, by decide +kernel, zl_9, zl_968, zs_90, rfl, Or.inl zl_966⟩
theorem zm_8_165 : zML "FrameDeltasModel" 165 131 2 21 := ⟨by decide +kernel, by decide +kernel, by decide +kernel, zl_9, zl_972, zs_91, rfl, Or.inl zl_970⟩
theorem zm_8_168 : zML "FrameDeltasModel" 168 132 5 21 := ⟨by decide +kernel, by decide +kernel, by decide +kernel, zl_9, zl_964, zs_89, rfl, Or.inl zl_962⟩
theorem zm_8_172 : zML "FrameDeltasModel" 172 135 1 0 := ⟨by decide +kernel, by decide +kernel, by decide +kernel, zl_9, zl_982, zl_983⟩
theorem zm_8_175 : zML "FrameDeltasModel" 175 134 6 21 := ⟨by decide +kernel, by decide +kernel, by decide +kernel, zl_9, zl_976, zs_92, rfl, Or.inl zl_974⟩
theorem zm_8_179 : zML "FrameDeltasModel" 179 133 4 21 := ⟨by decide +kernel, by decide +kernel, by decide +kernel, zl_9, zl_960, zs_88, rfl, Or.inl zl_958⟩
theorem zm_8_182 : zML "FrameDeltasModel" 182 136 4 21 := ⟨by decide +kernel, by decide +kernel, by decide +kernel, zl_9, zl_980, zs_93, rfl, Or.inl zl_978⟩
theorem zm_8_185 : zML "FrameDeltasModel" 185 137 4 21 := ⟨by decide +kernel, by decide +kernel, by decide +kernel, zl_9, zl_956, zs_87, rfl, Or.inl zl_954⟩
theorem zm_8_188 : zML "FrameDeltasModel" 188 139 3 21 := ⟨by decide +kernel, by decide +kernel, by decide +kernel, zl_9, zl_1050, zs_100, rfl, Or.inl zl_1048⟩
theorem zm_8_191 : zML "FrameDeltasModel" 191 140 3 21 := ⟨by decide +kernel, by decide +kernel, by decide +kernel, zl_9, zl_1054, zs_101, rfl, Or.inl zl_1052⟩
theorem zm_8_194 : zML "FrameDeltasModel" 194 141 2 21 := ⟨by decide +kernel, by decide +kernel, by decide +kernel, zl_9, zl_1046, zs_99, rfl, Or.inl zl_1044⟩
theorem zm_8_197 : zML "FrameDeltasModel" 197 138 3 21 := ⟨by decide +kernel, by decide +kernel, by decide +kernel, zl_9, zl_952, zs_86, rfl, Or.inl zl_950⟩
theorem zm_8_200 : zML "FrameDeltasModel" 200 143 3 21 := ⟨by decide +kernel, by decide +kernel, by decide +kernel, zl_9, zl_987, zs_94, rfl, Or.inl zl_985⟩
theorem zm_8_203 : zML "FrameDeltasModel" 203 144 2 21 := ⟨by decide +kernel, by decide +kernel, by decide +kernel, zl_9, zl_948, zs_85, rfl, Or.inl zl_946⟩
theorem zm_8_206 : zML "FrameDeltasModel" 206 106 2 21 := ⟨by decide +kernel, by decide +kernel, by decide +kernel, zl_9, zl_995, zs_95, rfl, Or.inl zl_993⟩
theorem zm_8_212 : zML "FrameDeltasModel" 212 149 2 21 := ⟨by decide +kernel, by decide +kernel, by decide +kernel, zl_9, zl_1015, zs_97, rfl, Or.inl zl_1013⟩
theorem zm_8_215 : zML "FrameDeltasModel" 215 150 1 0 := ⟨by decide +kernel, by decide +kernel, by decide +kernel, zl_9, zl_1017, zl_1018⟩
theorem zm_8_218 : zML "FrameDeltasModel" 218 151 1 21 := ⟨by decide +kernel, by decide +kernel, by decide +kernel, zl_9, zl_1011, zs_96, rfl, Or.inl zl_1009⟩
theorem zm_8_221 : zML "FrameDeltasModel" 221 108 1 21 := ⟨by decide +kernel, by decide +kernel, by decide +kernel, zl_9, zl_1038, zs_98, rfl, Or.inl zl_1036⟩
theorem zm_8_224 : zML "FrameDeltasModel" 224 142 2 21 := ⟨by decide +kernel, by decide +kernel, by decide +kernel, zl_9, zl_1058, zs_102, rfl, Or.inl zl_1056⟩
theorem zm_8_227 : zML "FrameDeltasModel" 227 157 3 21 := ⟨by decide +kernel, by decide +kernel, by decide +kernel, zl_9, zl_1062, zs_103, rfl, Or.inl zl_1060⟩
theorem zm_8_230 : zML "FrameDeltasModel" 230 159 2 21 := ⟨by decide +kernel, by decide +kernel, by decide +kernel, zl_9, zl_1070, zs_104, rfl, Or.inl zl_1068⟩
theorem zm_8_233 : zML "FrameDeltasModel" 233 165 3 21 := ⟨by decide +kernel, by decide +kernel, by decide +kernel, zl_9, zl_1094, zs_105, rfl, Or.inl zl_1092⟩
theorem zm_8_236 : zML "FrameDeltasModel" 236 167 7 21 := ⟨by decide +kernel, by decide +kernel, by decide +kernel, zl_9, zl_1102, zs_106, rfl, Or.inl zl_1100⟩
theorem zm_8_240 : zML "FrameDeltasModel" 240 171 3 21 := ⟨by decide +kernel, by decide +kernel, by decide +kernel, zl_9, zl_1118, zs_107, rfl, Or.inl zl_1116⟩
theorem zm_11_335 : zML "java/lang/String" 335 181 1 31 := ⟨by decide +kernel, by decide +kernel, by decide +kernel, zl_12, zl_376, zl_377, rfl, Or.inl zl_375⟩
theorem zm_11_492 : zML "java/lang/String" 492 182 1 31 := ⟨by decide +kernel, by decide +kernel, by decide +kernel, zl_12, zl_386, zl_387, rfl, Or.inl zl_385⟩
theorem zm_11_495 : zML "java/lang/String" 495 184 2 0 := ⟨by decide +kernel, by decide +kernel, by decide +kernel, zl_13, zl_389, zl_390⟩
theorem zm_11_1059 : zML "java/lang/String" 1059 185 3 0 := ⟨by decide +kernel, by decide +kernel, by decide +kernel, zl_14, zl_397, zl_398⟩
theorem zm_12_9 : zML "java/lang/StringLatin1" 9 183 2 0 := ⟨by decide +kernel, by decide +kernel, by decide +kernel, zl_12, zl_392, zl_393⟩
theorem zm_16_13 : zML "FrameDeltasLaw" 13 62 3 1 := ⟨by decide +kernel, by decide +kernel, by decide +kernel, zl_1, zl_251, zl_252, rfl, Or.inl zl_250⟩
theorem zm_16_17 : zML "FrameDeltasLaw" 17 109 3 21 := ⟨by decide +kernel, by decide +kernel, by decide +kernel, zl_9, zl_817, zl_818, rfl, Or.inl zl_816⟩
theorem zm_16_18 : zML "FrameDeltasLaw" 18 63 3 1 := ⟨by decide +kernel, by decide +kernel, by decide +kernel, zl_1, zl_298, zl_299, rfl, Or.inl zl_297⟩
theorem zm_16_21 : zML "FrameDeltasLaw" 21 111 3 21 := ⟨by decide +kernel, by decide +kernel, by decide +kernel, zl_9, zl_836, zl_837, rfl, Or.inl zl_835⟩
theorem zm_16_22 : zML "FrameDeltasLaw" 22 64 2 1 := ⟨by decide +kernel, by decide +kernel, by decide +kernel, zl_1, zl_314, zl_315, rfl, Or.inl zl_313⟩
theorem zm_16_26 : zML "FrameDeltasLaw" 26 112 2 21 := ⟨by decide +kernel, by decide +kernel, by decide +kernel, zl_9, zl_844, zl_845, rfl, Or.inl zl_843⟩
theorem zm_16_27 : zML "FrameDeltasLaw" 27 65 2 1 := ⟨by decide +kernel, by decide +kernel, by decide +kernel, zl_1, zl_318, zl_319, rfl, Or.inl zl_317⟩
theorem zm_16_30 : zML "FrameDeltasLaw" 30 113 2 21 := ⟨by decide +kernel, by decide +kernel, by decide +kernel, zl_9, zl_848, zl_849, rfl, Or.inl zl_847⟩
theorem zm_16_31 : zML "FrameDeltasLaw" 31 66 1 1 := ⟨by decide +kernel, by decide +kernel, by decide +kernel, zl_1, zl_326, zl_327, rfl, Or.inl zl_325⟩
theorem zm_16_35 : zML "FrameDeltasLaw" 35 114 1 21 := ⟨by decide +kernel, by decide +kernel, by decide +kernel, zl_9, zl_852, zl_853, rfl, Or.inl zl_851⟩
theorem zm_16_36 : zML "FrameDeltasLaw" 36 67 1 1 := ⟨by decide +kernel, by decide +kernel, by decide +kernel, zl_1, zl_330, zl_331, rfl, Or.inl zl_329⟩
theorem zm_16_39 : zML "FrameDeltasLaw" 39 125 1 21 := ⟨by decide +kernel, by decide +kernel, by decide +kernel, zl_9, zl_856, zl_857, rfl, Or.inl zl_855⟩
theorem zm_16_40 : zML "FrameDeltasLaw" 40 68 4 1 := ⟨by decide +kernel, by decide +kernel, by decide +kernel, zl_1, zl_486, zl_487, rfl, Or.inl zl_485⟩
theorem zm_16_44 : zML "FrameDeltasLaw" 44 129 4 21 := ⟨by decide +kernel, by decide +kernel, by decide +kernel, zl_9, zl_927, zl_928, rfl, Or.inl zl_926⟩
theorem zm_16_45 : zML "FrameDeltasLaw" 45 69 1 1 := ⟨by decide +kernel, by decide +kernel, by decide +kernel, zl_1, zl_505, zl_506, rfl, Or.inl zl_504⟩
theorem zm_16_48 : zML "FrameDeltasLaw" 48 145 1 21 := ⟨by decide +kernel, by decide +kernel, by decide +kernel, zl_9, zl_943, zl_944, rfl, Or.inl zl_942⟩
theorem zm_16_49 : zML "FrameDeltasLaw" 49 70 2 1 := ⟨by decide +kernel, by decide +kernel, by decide +kernel, zl_1, zl_568, zl_569, rfl, Or.inl zl_567⟩
theorem zm_16_52 : zML "FrameDeltasLaw" 52 146 2 21 := ⟨by decide +kernel, by decide +kernel, by decide +kernel, zl_9, zl_990, zl_991, rfl, Or.inl zl_989⟩
theorem zm_16_53 : zML "FrameDeltasLaw" 53 71 1 1 := ⟨by decide +kernel, by decide +kernel, by decide +kernel, zl_1, zl_582, zl_583, rfl, Or.inl zl_581⟩
theorem zm_16_56 : zML "FrameDeltasLaw" 56 147 1 21 := ⟨by decide +kernel, by decide +kernel, by decide +kernel, zl_9, zl_998, zl_999, rfl, Or.inl zl_997⟩
theorem zm_16_57 : zML "FrameDeltasLaw" 57 72 1 1 := ⟨by decide +kernel, by decide +kernel, by decide +kernel, zl_1, zl_595, zl_596, rfl, Or.inl zl_594⟩
theorem zm_16_60 : zML "FrameDeltasLaw" 60 148 1 21 := ⟨by decide +kernel, by decide +kernel, by decide +kernel, zl_9, zl_1002, zl_1003, rfl, Or.inl zl_1001⟩
theorem zm_16_61 : zML "FrameDeltasLaw" 61 73 1 1 := ⟨by decide +kernel, by decide +kernel, by decide +kernel, zl_1, zl_599, zl_600, rfl, Or.inl zl_598⟩
theorem zm_16_64 : zML "FrameDeltasLaw" 64 152 1 21 := ⟨by decide +kernel, by decide +kernel, by decide +kernel, zl_9, zl_1006, zl_1007, rfl, Or.inl zl_1005⟩
theorem zm_16_65 : zML "FrameDeltasLaw" 65 74 4 1 := ⟨by decide +kernel, by decide +kernel, by decide +kernel, zl_1, zl_630, zl_631, rfl, Or.inl zl_629⟩
theorem zm_16_68 : zML "FrameDeltasLaw" 68 155 4 21 := ⟨by decide +kernel, by decide +kernel, by decide +kernel, zl_9, zl_1029, zl_1030, rfl, Or.inl zl_1028⟩
theorem zm_16_69 : zML "FrameDeltasLaw" 69 75 3 1 := ⟨by decide +kernel, by decide +kernel, by decide +kernel, zl_1, zl_634, zl_635, rfl, Or.inl zl_633⟩
theorem zm_16_72 : zML "FrameDeltasLaw" 72 156 3 21 := ⟨by decide +kernel, by decide +kernel, by decide +kernel, zl_9, zl_1033, zl_1034, rfl, Or.inl zl_1032⟩
theorem zm_16_73 : zML "FrameDeltasLaw" 73 76 3 1 := ⟨by decide +kernel, by decide +kernel, by decide +kernel, zl_1, zl_642, zl_643, rfl, Or.inl zl_641⟩
theorem zm_16_76 : zML "FrameDeltasLaw" 76 158 3 21 := ⟨by decide +kernel, by decide +kernel, by decide +kernel, zl_9, zl_1041, zl_1042, rfl, Or.inl zl_1040⟩
theorem zm_16_77 : zML "FrameDeltasLaw" 77 77 4 1 := ⟨by decide +kernel, by decide +kernel, by decide +kernel, zl_1, zl_659, zl_660, rfl, Or.inl zl_658⟩
theorem zm_16_80 : zML "FrameDeltasLaw" 80 160 4 21 := ⟨by decide +kernel, by decide +kernel, by decide +kernel, zl_9, zl_1065, zl_1066, rfl, Or.inl zl_1064⟩
theorem zm_16_81 : zML "FrameDeltasLaw" 81 78 5 1 := ⟨by decide +kernel, by decide +kernel, by decide +kernel, zl_1, zl_669, zl_670, rfl, Or.inl zl_668⟩
theorem zm_16_85 : zML "FrameDeltasLaw" 85 161 5 21 := ⟨by decide +kernel, by decide +kernel, by decide +kernel, zl_9, zl_1073, zl_1074, rfl, Or.inl zl_1072⟩
theorem zm_16_86 : zML "FrameDeltasLaw" 86 79 3 1 := ⟨by decide +kernel, by decide +kernel, by decide +kernel, zl_1, zl_682, zl_683, rfl, Or.inl zl_681⟩
theorem zm_16_89 : zML "FrameDeltasLaw" 89 162 3 21 := ⟨by decide +kernel, by decide +kernel, by decide +kernel, zl_9, zl_1077, zl_1078, rfl, Or.inl zl_1076⟩
theorem zm_16_90 : zML "FrameDeltasLaw" 90 80 2 1 := ⟨by decide +kernel, by decide +kernel, by decide +kernel, zl_1, zl_686, zl_687, rfl, Or.inl zl_685⟩
theorem zm_16_93 : zML "FrameDeltasLaw" 93 163 2 21 := ⟨by decide +kernel, by decide +kernel, by decide +kernel, zl_9, zl_1081, zl_1082, rfl, Or.inl zl_1080⟩
theorem zm_16_94 : zML "FrameDeltasLaw" 94 81 2 1 := ⟨by decide +kernel, by decide +kernel, by decide +kernel, zl_1, zl_694, zl_695, rfl, Or.inl zl_693⟩
theorem zm_16_97 : zML "FrameDeltasLaw" 97 164 2 21 := ⟨by decide +kernel, by decide +kernel, by decide +kernel, zl_9, zl_1085, zl_1086, rfl, Or.inl zl_1084⟩
theorem zm_16_98 : zML "FrameDeltasLaw" 98 82 3 1 := ⟨by decide +kernel, by decide +kernel, by decide +kernel, zl_1, zl_698, zl_699, rfl, Or.inl zl_697⟩
theorem zm_16_101 : zML "FrameDeltasLaw" 101 166 3 21 := ⟨by decide +kernel, by decide +kernel, by decide +kernel, zl_9, zl_1089, zl_1090, rfl, Or.inl zl_1088⟩
theorem zm_16_102 : zML "FrameDeltasLaw" 102 83 3 1 := ⟨by decide +kernel, by decide +kernel, by decide +kernel, zl_1, zl_707, zl_708, rfl, Or.inl zl_706⟩
theorem zm_16_105 : zML "FrameDeltasLaw" 105 168 3 21 := ⟨by decide +kernel, by decide +kernel, by decide +kernel, zl_9, zl_1097, zl_1098, rfl, Or.inl zl_1096⟩
theorem zm_16_106 : zML "FrameDeltasLaw" 106 84 2 1 := ⟨by decide +kernel, by decide +kernel, by decide +kernel, zl_1, zl_714, zl_715, rfl, Or.inl zl_713⟩
theorem zm_16_109 : zML "FrameDeltasLaw" 109 169 2 21 := ⟨by decide +kernel, by decide +kernel, by decide +kernel, zl_9, zl_1105, zl_1106, rfl, Or.inl zl_1104⟩
theorem zm_16_110 : zML "FrameDeltasLaw" 110 85 1 1 := ⟨by decide +kernel, by decide +kernel, by decide +kernel, zl_1, zl_723, zl_724, rfl, Or.inl zl_722⟩
theorem zm_16_113 : zML "FrameDeltasLaw" 113 170 1 21 := ⟨by decide +kernel, by decide +kernel, by decide +kernel, zl_9, zl_1109, zl_1110, rfl, Or.inl zl_1108⟩
theorem zm_16_114 : zML "FrameDeltasLaw" 114 86 2 1 := ⟨by decide +kernel, by decide +kernel, by decide +kernel, zl_1, zl_728, zl_729, rfl, Or.inl zl_727⟩
theorem zm_16_117 : zML "FrameDeltasLaw" 117 172 2 21 := ⟨by decide +kernel, by decide +kernel, by decide +kernel, zl_9, zl_1113, zl_1114, rfl, Or.inl zl_1112⟩
theorem zm_16_118 : zML "FrameDeltasLaw" 118 87 2 1 := ⟨by decide +kernel, by decide +kernel, by decide +kernel, zl_1, zl_736, zl_737, rfl, Or.inl zl_735⟩
theorem zm_16_121 : zML "FrameDeltasLaw" 121 173 2 21 := ⟨by decide +kernel, by decide +kernel, by decide +kernel, zl_9, zl_1121, zl_1122, rfl, Or.inl zl_1120⟩
theorem zm_16_122 : zML "FrameDeltasLaw" 122 88 1 1 := ⟨by decide +kernel, by decide +kernel, by decide +kernel, zl_1, zl_740, zl_741, rfl, Or.inl zl_739⟩
theorem zm_16_125 : zML "FrameDeltasLaw" 125 153 1 21 := ⟨by decide +kernel, by decide +kernel, by decide +kernel, zl_9, zl_1021, zl_1022, rfl, Or.inl zl_1020⟩
theorem zm_16_126 : zML "FrameDeltasLaw" 126 89 1 1 := ⟨by decide +kernel, by decide +kernel, by decide +kernel, zl_1, zl_744, zl_745, rfl, Or.inl zl_743⟩
theorem zm_16_129 : zML "FrameDeltasLaw" 129 154 1 21 := ⟨by decide +kernel, by decide +kernel, by decide +kernel, zl_9, zl_1025, zl_1026, rfl, Or.inl zl_1024⟩
theorem zm_16_130 : zML "FrameDeltasLaw" 130 90 1 1 := ⟨by decide +kernel, by decide +kernel, by decide +kernel, zl_1, zl_748, zl_749, rfl, Or.inl zl_747⟩
theorem zm_16_133 : zML "FrameDeltasLaw" 133 100 1 21 := ⟨by decide +kernel, by decide +kernel, by decide +kernel, zl_9, zl_813, zl_814, rfl, Or.inl zl_812⟩
theorem zcw_0 : Cond.code (zy 0) (zby 0) (zml 0) (zrt 0) ∈ zTs := zl_517
theorem zcw_1 : Cond.code (zy 1) (zby 1) (zml 1) (zrt 1) ∈ zTs := zl_523
theorem zcw_2 : Cond.code (zy 2) (zby 2) (zml 2) (zrt 2) ∈ zTs := zl_551
theorem zcw_3 : Cond.code (zy 3) (zby 3) (zml 3) (zrt 3) ∈ zTs := zl_561
theorem zcw_4 : Cond.code (zy 4) (zby 4) (zml 4) (zrt 4) ∈ zTs := zl_286
theorem zcw_5 : Cond.code (zy 5) (zby 5) (zml 5) (zrt 5) ∈ zTs := zl_657
theorem zcw_6 : Cond.code (zy 6) (zby 6) (zml 6) (zrt 6) ∈ zTs := zl_547
theorem zcw_7 : Cond.code (zy 7) (zby 7) (zml 7) (zrt 7) ∈ zTs := zl_652
theorem zcw_8 : Cond.code (zy 8) (zby 8) (zml 8) (zrt 8) ∈ zTs := zl_292
theorem zcw_9 : Cond.code (zy 9) (zby 9) (zml 9) (zrt 9) ∈ zTs := zl_275
theorem zcw_10 : Cond.code (zy 10) (zby 10) (zml 10) (zrt 10) ∈ zTs := zl_304
theorem zcw_11 : Cond.code (zy 11) (zby 11) (zml 11) (zrt 11) ∈ zTs := zl_308
theorem zcw_12 : Cond.code (zy 12) (zby 12) (zml 12) (zrt 12) ∈ zTs := zl_312
theorem zcw_13 : Cond.code (zy 13) (zby 13) (zml 13) (zrt 13) ∈ zTs := zl_475
theorem zcw_14 : Cond.code (zy 14) (zby 14) (zml 14) (zrt 14) ∈ zTs := zl_296
theorem zcw_15 : Cond.code (zy 15) (zby 15) (zml 15) (zrt 15) ∈ zTs := zl_665
theorem zcw_16 : Cond.code (zy 16) (zby 16) (zml 16) (zrt 16) ∈ zTs := zl_531
theorem zcw_17 : Cond.code (zy 17) (zby 17) (zml 17) (zrt 17) ∈ zTs := zl_538
theorem zcw_18 : Cond.code (zy 18) (zby 18) (zml 18) (zrt 18) ∈ zTs := zl_497
theorem zcw_19 : Cond.code (zy 19) (zby 19) (zml 19) (zrt 19) ∈ zTs := zl_503
theorem zcw_20 : Cond.code (zy 20) (zby 20) (zml 20) (zrt 20) ∈ zTs := zl_557
theorem zcw_21 : Cond.code (zy 21) (zby 21) (zml 21) (zrt 21) ∈ zTs := zl_704
theorem zcw_22 : Cond.code (zy 22) (zby 22) (zml 22) (zrt 22) ∈ zTs := zl_462
theorem zcw_23 : Cond.code (zy 23) (zby 23) (zml 23) (zrt 23) ∈ zTs := zl_471
theorem zcw_24 : Cond.code (zy 24) (zby 24) (zml 24) (zrt 24) ∈ zTs := zl_479
theorem zcw_25 : Cond.code (zy 25) (zby 25) (zml 25) (zrt 25) ∈ zTs := zl_605
theorem zcw_26 : Cond.code (zy 26) (zby 26) (zml 26) (zrt 26) ∈ zTs := zl_610
theorem zcw_27 : Cond.code (zy 27) (zby 27) (zml 27) (zrt 27) ∈ zTs := zl_617
theorem zcw_28 : Cond.code (zy 28) (zby 28) (zml 28) (zrt 28) ∈ zTs := zl_628
theorem zcw_29 : Cond.code (zy 29) (zby 29) (zml 29) (zrt 29) ∈ zTs := zl_527
theorem zcw_30 : Cond.code (zy 30) (zby 30) (zml 30) (zrt 30) ∈ zTs := zl_543
theorem zcw_31 : Cond.code (zy 31) (zby 31) (zml 31) (zrt 31) ∈ zTs := zl_676
theorem zcw_32 : Cond.code (zy 32) (zby 32) (zml 32) (zrt 32) ∈ zTs := zl_680
theorem zcw_33 : Cond.code (zy 33) (zby 33) (zml 33) (zrt 33) ∈ zTs := zl_324
theorem zcw_34 : Cond.code (zy 34) (zby 34) (zml 34) (zrt 34) ∈ zTs := zl_361
theorem zcw_35 : Cond.code (zy 35) (zby 35) (zml 35) (zrt 35) ∈ zTs := zl_425
theorem zcw_36 : Cond.code (zy 36) (zby 36) (zml 36) (zrt 36) ∈ zTs := zl_336
theorem zcw_37 : Cond.code (zy 37) (zby 37) (zml 37) (zrt 37) ∈ zTs := zl_354
theorem zcw_38 : Cond.code (zy 38) (zby 38) (zml 38) (zrt 38) ∈ zTs := zl_422
theorem zcw_39 : Cond.code (zy 39) (zby 39) (zml 39) (zrt 39) ∈ zTs := zl_340
theorem zcw_40 : Cond.code (zy 40) (zby 40) (zml 40) (zrt 40) ∈ zTs := zl_344
theorem zcw_41 : Cond.code (zy 41) (zby 41) (zml 41) (zrt 41) ∈ zTs := zl_347
theorem zcw_42 : Cond.code (zy 42) (zby 42) (zml 42) (zrt 42) ∈ zTs := zl_350
theorem zcw_43 : Cond.code (zy 43) (zby 43) (zml 43) (zrt 43) ∈ zTs := zl_358
theorem zcw_44 : Cond.code (zy 44) (zby 44) (zml 44) (zrt 44) ∈ zTs := zl_370
theorem zcw_45 : Cond.code (zy 45) (zby 45) (zml 45) (zrt 45) ∈ zTs := zl_434
theorem zcw_46 : Cond.code (zy 46) (zby 46) (zml 46) (zrt 46) ∈ zTs := zl_438
theorem zcw_47 : Cond.code (zy 47) (zby 47) (zml 47) (zrt 47) ∈ zTs := zl_450
theorem zcw_48 : Cond.code (zy 48) (zby 48) (zml 48) (zrt 48) ∈ zTs := zl_454
theorem zcw_49 : Cond.code (zy 49) (zby 49) (zml 49) (zrt 49) ∈ zTs := zl_458
theorem zcw_50 : Cond.code (zy 50) (zby 50) (zml 50) (zrt 50) ∈ zTs := zl_271
theorem zcw_51 : Cond.code (zy 51) (zby 51) (zml 51) (zrt 51) ∈ zTs := zl_282
theorem zcw_52 : Cond.code (zy 52) (zby 52) (zml 52) (zrt 52) ∈ zTs := zl_442
theorem zcw_53 : Cond.code (zy 53) (zby 53) (zml 53) (zrt 53) ∈ zTs := zl_492
theorem zcw_54 : Cond.code (zy 54) (zby 54) (zml 54) (zrt 54) ∈ zTs := zl_483
theorem zcw_55 : Cond.code (zy 55) (zby 55) (zml 55) (zrt 55) ∈ zTs := zl_446
theorem zcw_56 : Cond.code (zy 56) (zby 56) (zml 56) (zrt 56) ∈ zTs := zl_575
theorem zcw_57 : Cond.code (zy 57) (zby 57) (zml 57) (zrt 57) ∈ zTs := zl_580
theorem zcw_58 : Cond.code (zy 58) (zby 58) (zml 58) (zrt 58) ∈ zTs := zl_648
theorem zcw_59 : Cond.code (zy 59) (zby 59) (zml 59) (zrt 59) ∈ zTs := zl_734
theorem zcw_60 : Cond.code (zy 60) (zby 60) (zml 60) (zrt 60) ∈ zTs := zl_640
theorem zcw_61 : Cond.code (zy 61) (zby 61) (zml 61) (zrt 61) ∈ zTs := zl_692
theorem zcw_62 : Cond.code (zy 62) (zby 62) (zml 62) (zrt 62) ∈ zTs := zl_253
theorem zcw_63 : Cond.code (zy 63) (zby 63) (zml 63) (zrt 63) ∈ zTs := zl_300
theorem zcw_64 : Cond.code (zy 64) (zby 64) (zml 64) (zrt 64) ∈ zTs := zl_316
theorem zcw_65 : Cond.code (zy 65) (zby 65) (zml 65) (zrt 65) ∈ zTs := zl_320
theorem zcw_66 : Cond.code (zy 66) (zby 66) (zml 66) (zrt 66) ∈ zTs := zl_328
theorem zcw_67 : Cond.code (zy 67) (zby 67) (zml 67) (zrt 67) ∈ zTs := zl_332
theorem zcw_68 : Cond.code (zy 68) (zby 68) (zml 68) (zrt 68) ∈ zTs := zl_488
theorem zcw_69 : Cond.code (zy 69) (zby 69) (zml 69) (zrt 69) ∈ zTs := zl_507
theorem zcw_70 : Cond.code (zy 70) (zby 70) (zml 70) (zrt 70) ∈ zTs := zl_570
theorem zcw_71 : Cond.code (zy 71) (zby 71) (zml 71) (zrt 71) ∈ zTs := zl_584
theorem zcw_72 : Cond.code (zy 72) (zby 72) (zml 72) (zrt 72) ∈ zTs := zl_597
theorem zcw_73 : Cond.code (zy 73) (zby 73) (zml 73) (zrt 73) ∈ zTs := zl_601
theorem zcw_74 : Cond.code (zy 74) (zby 74) (zml 74) (zrt 74) ∈ zTs := zl_632
theorem zcw_75 : Cond.code (zy 75) (zby 75) (zml 75) (zrt 75) ∈ zTs := zl_636
theorem zcw_76 : Cond.code (zy 76) (zby 76) (zml 76) (zrt 76) ∈ zTs := zl_644
theorem zcw_77 : Cond.code (zy 77) (zby 77) (zml 77) (zrt 77) ∈ zTs := zl_661
theorem zcw_78 : Cond.code (zy 78) (zby 78) (zml 78) (zrt 78) ∈ zTs := zl_671
theorem zcw_79 : Cond.code (zy 79) (zby 79) (zml 79) (zrt 79) ∈ zTs := zl_684
theorem zcw_80 : Cond.code (zy 80) (zby 80) (zml 80) (zrt 80) ∈ zTs := zl_688
theorem zcw_81 : Cond.code (zy 81) (zby 81) (zml 81) (zrt 81) ∈ zTs := zl_696
theorem zcw_82 : Cond.code (zy 82) (zby 82) (zml 82) (zrt 82) ∈ zTs := zl_700
theorem zcw_83 : Cond.code (zy 83) (zby 83) (zml 83) (zrt 83) ∈ zTs := zl_709
theorem zcw_84 : Cond.code (zy 84) (zby 84) (zml 84) (zrt 84) ∈ zTs := zl_716
theorem zcw_85 : Cond.code (zy 85) (zby 85) (zml 85) (zrt 85) ∈ zTs := zl_725
theorem zcw_86 : Cond.code (zy 86) (zby 86) (zml 86) (zrt 86) ∈ zTs := zl_730
theorem zcw_87 : Cond.code (zy 87) (zby 87) (zml 87) (zrt 87) ∈ zTs := zl_738
theorem zcw_88 : Cond.code (zy 88) (zby 88) (zml 88) (zrt 88) ∈ zTs := zl_742
theorem zcw_89 : Cond.code (zy 89) (zby 89) (zml 89) (zrt 89) ∈ zTs := zl_746
theorem zcw_90 : Cond.code (zy 90) (zby 90) (zml 90) (zrt 90) ∈ zTs := zl_750
theorem zcw_91 : Cond.code (zy 91) (zby 91) (zml 91) (zrt 91) ∈ zTs := zl_256
theorem zcw_92 : Cond.code (zy 92) (zby 92) (zml 92) (zrt 92) ∈ zTs := zl_260
theorem zcw_93 : Cond.code (zy 93) (zby 93) (zml 93) (zrt 93) ∈ zTs := zl_264
theorem zcw_94 : Cond.code (zy 94) (zby 94) (zml 94) (zrt 94) ∈ zTs := zl_511
theorem zcw_95 : Cond.code (zy 95) (zby 95) (zml 95) (zrt 95) ∈ zTs := zl_592
theorem zcw_96 : Cond.code (zy 96) (zby 96) (zml 96) (zrt 96) ∈ zTs := zl_588
theorem zcw_97 : Cond.code (zy 97) (zby 97) (zml 97) (zrt 97) ∈ zTs := zl_720
theorem zcw_98 : Cond.code (zy 98) (zby 98) (zml 98) (zrt 98) ∈ zTs := zl_822
theorem zcw_99 : Cond.code (zy 99) (zby 99) (zml 99) (zrt 99) ∈ zTs := zl_826
theorem zcw_100 : Cond.code (zy 100) (zby 100) (zml 100) (zrt 100) ∈ zTs := zl_815
theorem zcw_101 : Cond.code (zy 101) (zby 101) (zml 101) (zrt 101) ∈ zTs := zl_834
theorem zcw_102 : Cond.code (zy 102) (zby 102) (zml 102) (zrt 102) ∈ zTs := zl_830
theorem zcw_103 : Cond.code (zy 103) (zby 103) (zml 103) (zrt 103) ∈ zTs := zl_909
theorem zcw_104 : Cond.code (zy 104) (zby 104) (zml 104) (zrt 104) ∈ zTs := zl_921
theorem zcw_105 : Cond.code (zy 105) (zby 105) (zml 105) (zrt 105) ∈ zTs := zl_917
theorem zcw_106 : Cond.code (zy 106) (zby 106) (zml 106) (zrt 106) ∈ zTs := zl_996
theorem zcw_107 : Cond.code (zy 107) (zby 107) (zml 107) (zrt 107) ∈ zTs := zl_913
theorem zcw_108 : Cond.code (zy 108) (zby 108) (zml 108) (zrt 108) ∈ zTs := zl_1039
theorem zcw_109 : Cond.code (zy 109) (zby 109) (zml 109) (zrt 109) ∈ zTs := zl_819
theorem zcw_110 : Cond.code (zy 110) (zby 110) (zml 110) (zrt 110) ∈ zTs := zl_842
theorem zcw_111 : Cond.code (zy 111) (zby 111) (zml 111) (zrt 111) ∈ zTs := zl_838
theorem zcw_112 : Cond.code (zy 112) (zby 112) (zml 112) (zrt 112) ∈ zTs := zl_846
theorem zcw_113 : Cond.code (zy 113) (zby 113) (zml 113) (zrt 113) ∈ zTs := zl_850
theorem zcw_114 : Cond.code (zy 114) (zby 114) (zml 114) (zrt 114) ∈ zTs := zl_854
theorem zcw_115 : Cond.code (zy 115) (zby 115) (zml 115) (zrt 115) ∈ zTs := zl_866
theorem zcw_116 : Cond.code (zy 116) (zby 116) (zml 116) (zrt 116) ∈ zTs := zl_862
theorem zcw_117 : Cond.code (zy 117) (zby 117) (zml 117) (zrt 117) ∈ zTs := zl_885
theorem zcw_118 : Cond.code (zy 118) (zby 118) (zml 118) (zrt 118) ∈ zTs := zl_889
theorem zcw_119 : Cond.code (zy 119) (zby 119) (zml 119) (zrt 119) ∈ zTs := zl_905
theorem zcw_120 : Cond.code (zy 120) (zby 120) (zml 120) (zrt 120) ∈ zTs := zl_901
theorem zcw_121 : Cond.code (zy 121) (zby 121) (zml 121) (zrt 121) ∈ zTs := zl_893
theorem zcw_122 : Cond.code (zy 122) (zby 122) (zml 122) (zrt 122) ∈ zTs := zl_897
theorem zcw_123 : Cond.code (zy 123) (zby 123) (zml 123) (zrt 123) ∈ zTs := zl_876
theorem zcw_124 : Cond.code (zy 124) (zby 124) (zml 124) (zrt 124) ∈ zTs := zl_925
theorem zcw_125 : Cond.code (zy 125) (zby 125) (zml 125) (zrt 125) ∈ zTs := zl_858
theorem zcw_126 : Cond.code (zy 126) (zby 126) (zml 126) (zrt 126) ∈ zTs := zl_933
theorem zcw_127 : Cond.code (zy 127) (zby 127) (zml 127) (zrt 127) ∈ zTs := zl_937
theorem zcw_128 : Cond.code (zy 128) (zby 128) (zml 128) (zrt 128) ∈ zTs := zl_941
theorem zcw_129 : Cond.code (zy 129) (zby 129) (zml 129) (zrt 129) ∈ zTs := zl_929
theorem zcw_130 : Cond.code (zy 130) (zby 130) (zml 130) (zrt 130) ∈ zTs := zl_969
theorem zcw_131 : Cond.code (zy 131) (zby 131) (zml 131) (zrt 131) ∈ zTs := zl_973
theorem zcw_132 : Cond.code (zy 132) (zby 132) (zml 132) (zrt 132) ∈ zTs := zl_965
theorem zcw_133 : Cond.code (zy 133) (zby 133) (zml 133) (zrt 133) ∈ zTs := zl_961
theorem zcw_134 : Cond.code (zy 134) (zby 134) (zml 134) (zrt 134) ∈ zTs := zl_977
theorem zcw_135 : Cond.code (zy 135) (zby 135) (zml 135) (zrt 135) ∈ zTs := zl_984
theorem zcw_136 : Cond.code (zy 136) (zby 136) (zml 136) (zrt 136) ∈ zTs := zl_981
theorem zcw_137 : Cond.code (zy 137) (zby 137) (zml 137) (zrt 137) ∈ zTs := zl_957
theorem zcw_138 : Cond.code (zy 138) (zby 138) (zml 138) (zrt 138) ∈ zTs := zl_953
theorem zcw_139 : Cond.code (zy 139) (zby 139) (zml 139) (zrt 139) ∈ zTs := zl_1051
theorem zcw_140 : Cond.code (zy 140) (zby 140) (zml 140) (zrt 140) ∈ zTs := zl_1055
theorem zcw_141 : Cond.code (zy 141) (zby 141) (zml 141) (zrt 141) ∈ zTs := zl_1047
theorem zcw_142 : Cond.code (zy 142) (zby 142) (zml 142) (zrt 142) ∈ zTs := zl_1059
theorem zcw_143 : Cond.code (zy 143) (zby 143) (zml 143) (zrt 143) ∈ zTs := zl_988
theorem zcw_144 : Cond.code (zy 144) (zby 144) (zml 144) (zrt 144) ∈ zTs := zl_949
theorem zcw_145 : Cond.code (zy 145) (zby 145) (zml 145) (zrt 145) ∈ zTs := zl_945
theorem zcw_146 : Cond.code (zy 146) (zby 146) (zml 146) (zrt 146) ∈ zTs := zl_992
theorem zcw_147 : Cond.code (zy 147) (zby 147) (zml 147) (zrt 147) ∈ zTs := zl_1000
theorem zcw_148 : Cond.code (zy 148) (zby 148) (zml 148) (zrt 148) ∈ zTs := zl_1004
theorem zcw_149 : Cond.code (zy 149) (zby 149) (zml 149) (zrt 149) ∈ zTs := zl_1016
theorem zcw_150 : Cond.code (zy 150) (zby 150) (zml 150) (zrt 150) ∈ zTs := zl_1019
theorem zcw_151 : Cond.code (zy 151) (zby 151) (zml 151) (zrt 151) ∈ zTs := zl_1012
theorem zcw_152 : Cond.code (zy 152) (zby 152) (zml 152) (zrt 152) ∈ zTs := zl_1008
theorem zcw_153 : Cond.code (zy 153) (zby 153) (zml 153) (zrt 153) ∈ zTs := zl_1023
theorem zcw_154 : Cond.code (zy 154) (zby 154) (zml 154) (zrt 154) ∈ zTs := zl_1027
theorem zcw_155 : Cond.code (zy 155) (zby 155) (zml 155) (zrt 155) ∈ zTs := zl_1031
theorem zcw_156 : Cond.code (zy 156) (zby 156) (zml 156) (zrt 156) ∈ zTs := zl_1035
theorem zcw_157 : Cond.code (zy 157) (zby 157) (zml 157) (zrt 157) ∈ zTs := zl_1063
theorem zcw_158 : Cond.code (zy 158) (zby 158) (zml 158) (zrt 158) ∈ zTs := zl_1043
theorem zcw_159 : Cond.code (zy 159) (zby 159) (zml 159) (zrt 159) ∈ zTs := zl_1071
theorem zcw_160 : Cond.code (zy 160) (zby 160) (zml 160) (zrt 160) ∈ zTs := zl_1067
theorem zcw_161 : Cond.code (zy 161) (zby 161) (zml 161) (zrt 161) ∈ zTs := zl_1075
theorem zcw_162 : Cond.code (zy 162) (zby 162) (zml 162) (zrt 162) ∈ zTs := zl_1079
theorem zcw_163 : Cond.code (zy 163) (zby 163) (zml 163) (zrt 163) ∈ zTs := zl_1083
theorem zcw_164 : Cond.code (zy 164) (zby 164) (zml 164) (zrt 164) ∈ zTs := zl_1087
theorem zcw_165 : Cond.code (zy 165) (zby 165) (zml 165) (zrt 165) ∈ zTs := zl_1095
theorem zcw_166 : Cond.code (zy 166) (zby 166) (zml 166) (zrt 166) ∈ zTs := zl_1091
theorem zcw_167 : Cond.code (zy 167) (zby 167) (zml 167) (zrt 167) ∈ zTs := zl_1103
theorem zcw_168 : Cond.code (zy 168) (zby 168) (zml 168) (zrt 168) ∈ zTs := zl_1099
theorem zcw_169 : Cond.code (zy 169) (zby 169) (zml 169) (zrt 169) ∈ zTs := zl_1107
theorem zcw_170 : Cond.code (zy 170) (zby 170) (zml 170) (zrt 170) ∈ zTs := zl_1111
theorem zcw_171 : Cond.code (zy 171) (zby 171) (zml 171) (zrt 171) ∈ zTs := zl_1119
theorem zcw_172 : Cond.code (zy 172) (zby 172) (zml 172) (zrt 172) ∈ zTs := zl_1115
theorem zcw_173 : Cond.code (zy 173) (zby 173) (zml 173) (zrt 173) ∈ zTs := zl_1123
theorem zcw_174 : Cond.code (zy 174) (zby 174) (zml 174) (zrt 174) ∈ zTs := zl_621
theorem zcw_175 : Cond.code (zy 175) (zby 175) (zml 175) (zrt 175) ∈ zTs := zl_267
theorem zcw_176 : Cond.code (zy 176) (zby 176) (zml 176) (zrt 176) ∈ zTs := zl_564
theorem zcw_177 : Cond.code (zy 177) (zby 177) (zml 177) (zrt 177) ∈ zTs := zl_534
theorem zcw_178 : Cond.code (zy 178) (zby 178) (zml 178) (zrt 178) ∈ zTs := zl_465
theorem zcw_179 : Cond.code (zy 179) (zby 179) (zml 179) (zrt 179) ∈ zTs := zl_374
theorem zcw_180 : Cond.code (zy 180) (zby 180) (zml 180) (zrt 180) ∈ zTs := zl_384
theorem zcw_181 : Cond.code (zy 181) (zby 181) (zml 181) (zrt 181) ∈ zTs := zl_378
theorem zcw_182 : Cond.code (zy 182) (zby 182) (zml 182) (zrt 182) ∈ zTs := zl_388
theorem zcw_183 : Cond.code (zy 183) (zby 183) (zml 183) (zrt 183) ∈ zTs := zl_394
theorem zcw_184 : Cond.code (zy 184) (zby 184) (zml 184) (zrt 184) ∈ zTs := zl_391
theorem zcw_185 : Cond.code (zy 185) (zby 185) (zml 185) (zrt 185) ∈ zTs := zl_399
theorem zchk0_split (m : Nat) (C : List mzN) (n : Nat) : ∀ (k : Nat) (D : List mzN), zchk0 m C k (D.take n) = true → zchk0 m C (k + n) (D.drop n) = true → zchk0 m C k D = true := by
  induction n with
  | zero => intro k D _ h; exact h
  | succ n ih =>
    intro k D h1 h2
    cases D with
    | nil => rfl
    | cons x D =>
      obtain ⟨pc, I, a, cs, b⟩ := x
      simp only [List.take_succ_cons, zchk0, Bool.and_eq_true] at h1
      simp only [zchk0, Bool.and_eq_true]
      refine ⟨h1.1, ih (k + 1) D h1.2 ?_⟩
      rw [Nat.add_assoc, Nat.add_comm 1 n]
      exact h2
set_option maxRecDepth 100000 in
theorem zok1_0 : zchk 0 zc0 zc0 = true := by decide +kernel
set_option maxRecDepth 100000 in
theorem zok2_0 : zall2 "FrameDeltas$Coder" zc0 := ⟨trivial, trivial, trivial, trivial, trivial, trivial, trivial, zm_0_28, trivial, trivial, trivial, Or.inr zl_68, trivial, trivial, Or.inr zl_77, trivial, trivial, Or.inr zl_72, trivial, trivial, trivial, trivial, Or.inr zl_62, zm_0_50, trivial, trivial, trivial, Or.inr zl_72, trivial, trivial, trivial, trivial, trivial, zm_0_56, trivial, trivial, trivial, trivial, trivial, trivial, Or.inr zl_100, zm_0_63, trivial, Or.inr zl_72, trivial, trivial, trivial, trivial⟩
set_option maxRecDepth 100000 in
theorem zok1_1 : zchk 1 zc1 zc1 = true := by decide +kernel
set_option maxRecDepth 100000 in
theorem zok2_1 : zall2 "FrameDeltas$Coder" zc1 := ⟨trivial, Or.inl zl_180, trivial, Or.inr zl_62, trivial, trivial, zm_0_67, trivial, trivial, trivial, trivial, trivial, trivial, Or.inl zl_180, Or.inr zl_171, zm_0_74, trivial, trivial, trivial, Or.inl zl_180, Or.inr zl_171, trivial, trivial, trivial, trivial⟩
set_option maxRecDepth 100000 in
theorem zok1_2 : zchk 2 zc2 zc2 = true := by decide +kernel
set_option maxRecDepth 100000 in
theorem zok2_2 : zall2 "FrameDeltas$Coder" zc2 := ⟨trivial, Or.inr zl_62, trivial, zm_0_78, trivial, trivial, Or.inr zl_62, trivial, zm_0_82, trivial, trivial, Or.inr zl_62, trivial, trivial, trivial, trivial, trivial, zm_0_85, trivial, trivial, trivial, trivial, trivial, trivial, trivial, zm_0_74, trivial, trivial, trivial, trivial, Or.inr zl_62, trivial, trivial, trivial, trivial, zm_0_89, trivial, trivial, trivial, trivial, trivial, Or.inl zl_183, trivial, Or.inl zl_184, trivial, zm_0_74, trivial, trivial, trivial, Or.inl zl_180, trivial, Or.inr zl_62, trivial, trivial, zm_0_67, trivial, Or.inl zl_182, trivial, Or.inr zl_62, trivial, trivial, zm_0_67, trivial, Or.inl zl_180, Or.inr zl_171, trivial, Or.inl zl_182, Or.inr zl_171, trivial, trivial, trivial, trivial, trivial, trivial, trivial, Or.inl zl_180, Or.inr zl_171, zm_0_74, trivial, trivial, trivial, Or.inl zl_180, Or.inr zl_171, trivial, trivial, trivial, trivial, trivial, trivial, trivial, trivial, trivial, Or.inl zl_182, Or.inr zl_171, zm_0_74, trivial, trivial, trivial, Or.inl zl_182, Or.inr zl_171, trivial, trivial, trivial, trivial⟩
set_option maxRecDepth 100000 in
theorem zok1_3 : zchk 3 zc3 zc3 = true := by decide +kernel
set_option maxRecDepth 100000 in
theorem zok2_3 : zall2 "FrameDeltas$Coder" zc3 := ⟨trivial, trivial, trivial, trivial, trivial, trivial, trivial, trivial, trivial, trivial, trivial, trivial, trivial, trivial, trivial, zm_0_93, trivial, trivial, trivial, trivial, trivial, trivial, trivial, trivial, trivial, trivial, trivial, trivial, trivial, trivial, trivial, trivial, trivial, trivial, trivial, trivial, trivial, zm_0_98, trivial, trivial, trivial, trivial, trivial, trivial, trivial, trivial, trivial, trivial, trivial, zm_0_85, trivial, trivial, trivial, Or.inl zl_183, trivial, trivial, Or.inl zl_184, trivial, trivial, trivial, trivial, trivial, trivial, trivial, zm_0_102, trivial, trivial, trivial, trivial, trivial, trivial, trivial, trivial, trivial, trivial⟩
set_option maxRecDepth 100000 in
theorem zok1_4 : zchk 4 zc4 zc4 = true := by decide +kernel
set_option maxRecDepth 100000 in
theorem zok2_4 : zall2 "FrameDeltas$Frame" zc4 := ⟨trivial, Or.inl zl_61, trivial, Or.inl zl_61, zm_1_33, trivial, Or.inl zl_66, trivial, trivial, Or.inl zl_66, trivial, trivial, ⟨zl_288, zl_278, zl_277, zl_11⟩, trivial, trivial, Or.inl zl_67, Or.inl zl_67, trivial, trivial, Or.inl zl_71, Or.inl zl_71, trivial, trivial, Or.inl zl_76, Or.inl zl_76, trivial, trivial⟩
set_option maxRecDepth 100000 in
theorem zok1_5 : zchk 5 zc5 zc5 = true := by decide +kernel
set_option maxRecDepth 100000 in
theorem zok2_5 : zall2 "FrameDeltas$Frame" zc5 := ⟨trivial, trivial, trivial, trivial, trivial, trivial, trivial, trivial, trivial, trivial, Or.inl zl_66, trivial, trivial, trivial, Or.inl zl_66, trivial, trivial, trivial, trivial, trivial, trivial⟩
set_option maxRecDepth 100000 in
theorem zok1_6 : zchk 6 zc6 zc6 = true := by decide +kernel
set_option maxRecDepth 100000 in
theorem zok2_6 : zall2 "FrameDeltas$Frame" zc6 := ⟨trivial, trivial, trivial, trivial, trivial, trivial, trivial, trivial, trivial, trivial, Or.inl zl_66, trivial, trivial, trivial, Or.inl zl_66, trivial, trivial, trivial, trivial, trivial, trivial, Or.inl zl_66, trivial, trivial, trivial, trivial, trivial, trivial, Or.inl zl_66, trivial, trivial, trivial, trivial, trivial, trivial, Or.inl zl_66, trivial, trivial, trivial, trivial, trivial, trivial, trivial⟩
set_option maxRecDepth 100000 in
theorem zok1_7 : zchk 7 zc7 zc7 = true := by decide +kernel
set_option maxRecDepth 100000 in
theorem zok2_7 : zall2 "FrameDeltas$Frame" zc7 := ⟨trivial, trivial, trivial, trivial, trivial, trivial, Or.inl zl_61, zm_1_43, trivial, trivial, trivial, trivial, zm_1_47, trivial, trivial, trivial, trivial, trivial, trivial, trivial, trivial⟩
set_option maxRecDepth 100000 in
theorem zok1_8 : zchk 8 zc8 zc8 = true := by decide +kernel
set_option maxRecDepth 100000 in
theorem zok2_8 : zall2 "FrameDeltas$Image" zc8 := ⟨trivial, trivial, Or.inl zl_38, trivial, trivial, Or.inl zl_41, trivial, trivial, trivial, trivial, Or.inl zl_37, trivial, trivial, trivial, Or.inl zl_37, trivial, trivial, trivial, trivial, trivial, trivial, trivial⟩
set_option maxRecDepth 100000 in
theorem zok1_9 : zchk 9 zc9 zc9 = true := by decide +kernel
set_option maxRecDepth 100000 in
theorem zok2_9 : zall2 "FrameDeltas$Image" zc9 := ⟨trivial, trivial, Or.inl zl_38, Or.inl zl_38, trivial, trivial, Or.inl zl_41, Or.inl zl_41, trivial, Or.inl zl_37, trivial, trivial, Or.inl zl_37, trivial, trivial, ⟨zl_276, zl_278, zl_277, zl_11⟩, trivial, trivial⟩
set_option maxRecDepth 100000 in
theorem zok1_10 : zchk 10 zc10 zc10 = true := by decide +kernel
set_option maxRecDepth 100000 in
theorem zok2_10 : zall2 "FrameDeltas$Image" zc10 := ⟨trivial, trivial, trivial, trivial, Or.inl zl_38, trivial, Or.inl zl_41, trivial, trivial, trivial, trivial, trivial, trivial, trivial⟩
set_option maxRecDepth 100000 in
theorem zok1_11 : zchk 11 zc11 zc11 = true := by decide +kernel
set_option maxRecDepth 100000 in
theorem zok2_11 : zall2 "FrameDeltas$Image" zc11 := ⟨trivial, trivial, trivial, trivial, Or.inl zl_37, trivial, trivial, trivial, Or.inl zl_37, trivial, trivial, trivial, trivial, trivial, trivial⟩
set_option maxRecDepth 100000 in
theorem zok1_12 : zchk 12 zc12 zc12 = true := by decide +kernel
set_option maxRecDepth 100000 in
theorem zok2_12 : zall2 "FrameDeltas$Image" zc12 := ⟨trivial, trivial, trivial, trivial, Or.inl zl_37, trivial, trivial, trivial, Or.inl zl_37, trivial, trivial, trivial, trivial, trivial⟩
set_option maxRecDepth 100000 in
theorem zok1_13 : zchk 13 zc13 zc13 = true := by decide +kernel
set_option maxRecDepth 100000 in
theorem zok2_13 : zall2 "FrameDeltas$Image" zc13 := ⟨trivial, trivial, trivial, trivial, Or.inl zl_38, trivial, trivial, trivial, trivial, trivial, Or.inl zl_41, trivial, trivial, trivial, trivial, trivial, Or.inl zl_38, trivial, trivial, trivial, trivial, trivial, trivial, Or.inl zl_37, trivial, trivial, trivial, Or.inl zl_37, trivial, trivial, trivial, trivial, trivial, trivial⟩
set_option maxRecDepth 100000 in
theorem zok1_14 : zchk 14 zc14 zc14 = true := by decide +kernel
set_option maxRecDepth 100000 in
theorem zok2_14 : zall2 "FrameDeltas$Image" zc14 := ⟨trivial, Or.inl zl_38, trivial, trivial, trivial, Or.inl zl_41, trivial, trivial, trivial, trivial, trivial⟩
set_option maxRecDepth 100000 in
theorem zok1_15 : zchk 15 zc15 zc15 = true := by decide +kernel
set_option maxRecDepth 100000 in
theorem zok2_15 : zall2 "FrameDeltas$Image" zc15 := ⟨trivial, trivial, trivial, trivial, zm_2_28, trivial, trivial, trivial, trivial, trivial, trivial⟩
set_option maxRecDepth 100000 in
theorem zok1_16 : zchk 16 zc16 zc16 = true := by decide +kernel
set_option maxRecDepth 100000 in
theorem zok2_16 : zall2 "FrameDeltas$Image" zc16 := ⟨trivial, trivial, trivial, trivial, Or.inl zl_38, trivial, trivial, zm_2_32, trivial, trivial, trivial, trivial⟩
set_option maxRecDepth 100000 in
theorem zok1_17 : zchk 17 zc17 zc17 = true := by decide +kernel
set_option maxRecDepth 100000 in
theorem zok2_17 : zall2 "FrameDeltas$Image" zc17 := ⟨trivial, trivial, trivial, trivial, Or.inl zl_38, trivial, trivial, zm_2_32, trivial, trivial, trivial, trivial⟩
set_option maxRecDepth 100000 in
theorem zok1_18 : zchk 18 zc18 zc18 = true := by decide +kernel
set_option maxRecDepth 100000 in
theorem zok2_18 : zall2 "FrameDeltas$Image" zc18 := ⟨trivial, trivial, trivial, trivial, Or.inl zl_38, trivial, trivial, trivial, trivial, trivial, trivial, trivial, Or.inl zl_41, trivial, trivial, trivial, trivial, trivial, trivial, trivial, trivial⟩
set_option maxRecDepth 100000 in
theorem zok1_19 : zchk 19 zc19 zc19 = true := by decide +kernel
set_option maxRecDepth 100000 in
theorem zok2_19 : zall2 "FrameDeltas$Image" zc19 := ⟨trivial, trivial, trivial, trivial, trivial, trivial, trivial, trivial, trivial, trivial, trivial, trivial, trivial, trivial, trivial, trivial, trivial, trivial, trivial, trivial, trivial, zm_2_38, trivial, trivial, trivial, trivial, trivial, trivial, trivial, trivial, trivial⟩
set_option maxRecDepth 100000 in
theorem zok1_20 : zchk 20 zc20 zc20 = true := by decide +kernel
set_option maxRecDepth 100000 in
theorem zok2_20 : zall2 "FrameDeltas$Image" zc20 := ⟨trivial, trivial, trivial, trivial, trivial, trivial, trivial, trivial, trivial, trivial, trivial, Or.inl zl_38, trivial, trivial, trivial, trivial, trivial, trivial, trivial, trivial, trivial, trivial, trivial, trivial, trivial, trivial, Or.inl zl_38, trivial, trivial, trivial, trivial, trivial, trivial, trivial, trivial, trivial, trivial, trivial, trivial, Or.inl zl_37, trivial, trivial, trivial, trivial, trivial, trivial, Or.inl zl_37, trivial, trivial, trivial, trivial, trivial, Or.inl zl_37, trivial, trivial, trivial, Or.inl zl_37, trivial, trivial, trivial, trivial, trivial, trivial, trivial, trivial, trivial, trivial⟩
set_option maxRecDepth 100000 in
theorem zok1_21 : zchk 21 zc21 zc21 = true := by decide +kernel
set_option maxRecDepth 100000 in
theorem zok2_21 : zall2 "FrameDeltas$Image" zc21 := ⟨trivial, trivial, trivial, trivial, trivial, trivial, Or.inl zl_38, trivial, Or.inl zl_41, trivial, trivial, trivial, trivial, zm_2_41, trivial, trivial, zm_2_41, trivial, trivial, trivial, trivial, trivial, trivial, trivial⟩
set_option maxRecDepth 100000 in
theorem zok1_22 : zchk 22 zc22 zc22 = true := by decide +kernel
set_option maxRecDepth 100000 in
theorem zok2_22 : zall2 "FrameDeltas$Image" zc22 := ⟨trivial, trivial, trivial, trivial, Or.inl zl_41, trivial, trivial, trivial, zm_2_45, trivial, trivial, trivial, trivial, trivial, Or.inl zl_38, trivial, trivial, trivial, zm_2_45, trivial, trivial, trivial, trivial, Or.inl zl_38, trivial, trivial, trivial, trivial, zm_2_48, trivial, trivial, trivial, trivial, trivial, trivial⟩
set_option maxRecDepth 100000 in
theorem zok1_23 : zchk 23 zc23 zc23 = true := by decide +kernel
set_option maxRecDepth 100000 in
theorem zok2_23 : zall2 "FrameDeltas$Image" zc23 := ⟨trivial, trivial, trivial, trivial, Or.inl zl_41, trivial, trivial, trivial, trivial, trivial, Or.inl zl_38, trivial, trivial, trivial, trivial, Or.inl zl_38, trivial, trivial, trivial, trivial, trivial, trivial, trivial, trivial, trivial, trivial, zm_2_38, zm_2_48, trivial, trivial, trivial, trivial, trivial, trivial⟩
set_option maxRecDepth 100000 in
theorem zok1_24 : zchk 24 zc24 zc24 = true := by decide +kernel
set_option maxRecDepth 100000 in
theorem zok2_24 : zall2 "FrameDeltas$Image" zc24 := ⟨trivial, trivial, trivial, trivial, Or.inl zl_37, trivial, trivial, trivial, Or.inl zl_37, trivial, trivial, trivial, trivial, trivial, Or.inl zl_37, trivial, trivial, trivial, trivial, trivial, Or.inl zl_37, trivial, trivial, trivial, trivial, trivial, Or.inl zl_37, trivial, trivial, trivial, trivial, trivial, trivial, trivial⟩
set_option maxRecDepth 100000 in
theorem zok1_25 : zchk 25 zc25 zc25 = true := by decide +kernel
set_option maxRecDepth 100000 in
theorem zok2_25 : zall2 "FrameDeltas$Planner" zc25 := ⟨trivial, Or.inr zl_97, trivial, zm_3_30, trivial, trivial, trivial, trivial, trivial, trivial, zm_3_36, trivial, trivial, trivial, trivial, trivial, Or.inr zl_105, zm_3_43, Or.inl zl_202, trivial, trivial, Or.inl zl_204, trivial, trivial, trivial, trivial, trivial, trivial, trivial, trivial, trivial, trivial, trivial, Or.inr zl_105, zm_3_43, trivial, trivial, zm_3_47, trivial, Or.inl zl_204, zm_3_47, trivial, trivial, trivial, trivial, trivial, trivial, trivial, Or.inl zl_202, trivial, trivial, trivial, Or.inl zl_202, trivial, trivial, trivial, trivial, trivial, Or.inl zl_202, trivial, trivial, Or.inl zl_204, trivial, trivial, trivial, trivial⟩
set_option maxRecDepth 100000 in
theorem zok1_26 : zchk 26 zc26 zc26 = true := by decide +kernel
set_option maxRecDepth 100000 in
theorem zok2_26 : zall2 "FrameDeltas$Planner" zc26 := ⟨trivial, trivial, trivial, trivial, trivial, trivial, trivial, Or.inl zl_200, trivial, trivial, trivial, trivial, Or.inl zl_201, trivial, trivial, trivial, Or.inr zl_63, trivial, trivial, zm_3_59, zm_3_63, trivial, trivial, trivial, trivial, zm_3_69, trivial, Or.inl zl_200, trivial, trivial, Or.inr zl_73, trivial, trivial, trivial, trivial, trivial, trivial, trivial, trivial, trivial, zm_3_69, trivial, Or.inl zl_201, trivial, trivial, Or.inr zl_73, trivial, trivial, trivial, trivial, trivial⟩
set_option maxRecDepth 100000 in
theorem zok1_27 : zchk 27 zc27 zc27 = true := by decide +kernel
set_option maxRecDepth 100000 in
theorem zok2_27 : zall2 "FrameDeltas$Planner" zc27 := ⟨trivial, trivial, trivial, trivial, trivial, trivial, trivial, trivial, trivial, trivial, trivial, trivial, trivial, Or.inl zl_200, trivial, trivial, trivial, trivial, Or.inl zl_201, trivial, trivial, trivial, trivial, trivial, trivial, trivial, trivial, trivial, trivial, trivial, trivial, trivial, trivial, trivial, trivial, Or.inl zl_200, trivial, trivial, trivial, trivial, Or.inl zl_201, trivial, trivial, trivial, trivial, trivial, trivial, trivial, trivial, trivial, trivial, trivial, trivial, trivial, trivial, trivial, trivial, trivial, zm_3_76, trivial, trivial, trivial, trivial, trivial, trivial, trivial, trivial, trivial, trivial⟩
set_option maxRecDepth 100000 in
theorem zok1_28 : zchk 28 zc28 zc28 = true := by decide +kernel
set_option maxRecDepth 100000 in
theorem zok2_28 : zall2 "FrameDeltas$Planner" zc28 := ⟨trivial, Or.inl zl_204, trivial, trivial, trivial, trivial, trivial, trivial, trivial, trivial, trivial, trivial, trivial, trivial, trivial⟩
set_option maxRecDepth 100000 in
theorem zok1_29 : zchk 29 zc29 zc29 = true := by decide +kernel
set_option maxRecDepth 100000 in
theorem zok2_29 : zall2 "FrameDeltas$RunList" zc29 := ⟨trivial, trivial, zm_4_22, trivial, trivial, trivial, zm_4_28, trivial, trivial, trivial, Or.inl zl_170, trivial, trivial, trivial, trivial, trivial, trivial, trivial, trivial, trivial, trivial, trivial, trivial, trivial, trivial, trivial, trivial, trivial, trivial, trivial, trivial, zm_4_31, trivial, trivial, trivial, trivial, trivial, trivial, trivial, zm_4_31, trivial, trivial, trivial, trivial, trivial, trivial, zm_4_35, trivial, trivial, trivial, trivial⟩
set_option maxRecDepth 100000 in
theorem zok1_30 : zchk 30 zc30 zc30 = true := by decide +kernel
set_option maxRecDepth 100000 in
theorem zok2_30 : zall2 "FrameDeltas$RunList" zc30 := ⟨trivial, Or.inl zl_170, trivial, trivial, trivial, trivial, trivial, trivial, trivial, Or.inl zl_169, trivial, trivial, trivial, Or.inl zl_169, trivial, trivial, trivial, trivial, trivial, trivial, trivial, trivial, trivial, trivial, trivial, trivial, Or.inl zl_168, trivial, trivial, trivial, Or.inl zl_168, trivial, trivial, trivial, trivial, trivial, trivial, trivial, trivial, Or.inl zl_170, trivial, trivial, Or.inl zl_170, trivial, Or.inl zl_168, trivial, trivial, trivial, Or.inl zl_170, trivial, Or.inl zl_169, trivial, trivial, trivial, Or.inl zl_168, trivial, Or.inl zl_170, trivial, trivial, trivial, Or.inl zl_169, trivial, Or.inl zl_170, trivial, trivial, trivial, trivial, Or.inl zl_170, trivial, trivial, Or.inl zl_170, trivial, trivial⟩
set_option maxRecDepth 100000 in
theorem zok1_31 : zchk 31 zc31 zc31 = true := by decide +kernel
set_option maxRecDepth 100000 in
theorem zok2_31 : zall2 "FrameDeltas$RunList" zc31 := ⟨trivial, trivial, trivial, trivial, Or.inl zl_168, trivial, trivial, trivial, Or.inl zl_168, trivial, trivial, trivial, trivial, trivial, trivial⟩
set_option maxRecDepth 100000 in
theorem zok1_32 : zchk 32 zc32 zc32 = true := by decide +kernel
set_option maxRecDepth 100000 in
theorem zok2_32 : zall2 "FrameDeltas$RunList" zc32 := ⟨trivial, trivial, trivial, trivial, Or.inl zl_169, trivial, trivial, trivial, Or.inl zl_169, trivial, trivial, trivial, trivial, trivial, trivial⟩
set_option maxRecDepth 100000 in
theorem zok1_33 : zchk 33 zc33 zc33 = true := by decide +kernel
set_option maxRecDepth 100000 in
theorem zok2_33 : zall2 "FrameDeltas$Script" zc33 := ⟨trivial, Or.inl zl_130, trivial, trivial, Or.inl zl_130, trivial, Or.inl zl_129, trivial, trivial, trivial, Or.inl zl_129, trivial, Or.inl zl_130, trivial, trivial, trivial, trivial, Or.inl zl_130, trivial, trivial, Or.inl zl_130, trivial, Or.inl zl_130, trivial, trivial⟩
set_option maxRecDepth 100000 in
theorem zok1_34 : zchk 34 zc34 zc34 = true := by decide +kernel
set_option maxRecDepth 100000 in
theorem zok2_34 : zall2 "FrameDeltas$Script" zc34 := ⟨trivial, trivial, ⟨rfl, rfl⟩, trivial, ⟨rfl, rfl⟩, trivial, ⟨rfl, rfl⟩, trivial, ⟨rfl, rfl⟩, trivial, ⟨rfl, rfl⟩, trivial, trivial⟩
set_option maxRecDepth 100000 in
theorem zok1_35 : zchk 35 zc35 zc35 = true := by decide +kernel
set_option maxRecDepth 100000 in
theorem zok2_35 : zall2 "FrameDeltas$Script" zc35 := ⟨trivial, trivial, ⟨rfl, rfl⟩, trivial, ⟨rfl, rfl⟩, trivial, ⟨rfl, rfl⟩, trivial, ⟨rfl, rfl⟩, trivial, ⟨rfl, rfl⟩, trivial, trivial⟩
set_option maxRecDepth 100000 in
theorem zok1_36 : zchk 36 zc36 zc36 = true := by decide +kernel
set_option maxRecDepth 100000 in
theorem zok2_36 : zall2 "FrameDeltas$Script" zc36 := ⟨trivial, trivial, Or.inl zl_134, trivial, trivial, Or.inl zl_137, trivial, trivial, trivial, trivial, trivial, trivial, zm_5_58, trivial, Or.inl zl_132, trivial, trivial, trivial, trivial, trivial, zm_5_61, trivial, trivial, Or.inl zl_133, trivial, trivial, trivial, trivial, Or.inl zl_133, trivial, trivial⟩
set_option maxRecDepth 100000 in
theorem zok1_37 : zchk 37 zc37 zc37 = true := by decide +kernel
set_option maxRecDepth 100000 in
theorem zok2_37 : zall2 "FrameDeltas$Script" zc37 := ⟨trivial, zm_5_65, trivial, trivial, trivial, trivial, trivial, trivial, trivial, zm_5_69, trivial, zm_5_73, trivial, trivial, trivial, trivial, trivial, zm_5_77, trivial, trivial, zm_5_58, trivial, zm_5_81, trivial, trivial, trivial, trivial, zm_5_85, trivial, zm_5_89, trivial, trivial, trivial, trivial, trivial, Or.inl zl_135, zm_5_69, trivial, trivial, trivial, zm_5_58, trivial, Or.inl zl_132, trivial, trivial, trivial, trivial, Or.inl zl_133, zm_5_93, trivial, trivial, trivial, trivial, trivial, trivial, trivial⟩
set_option maxRecDepth 100000 in
theorem zok1_38 : zchk 38 zc38 zc38 = true := by decide +kernel
set_option maxRecDepth 100000 in
theorem zok2_38 : zall2 "FrameDeltas$Script" zc38 := ⟨trivial, Or.inl zl_137, trivial, trivial, Or.inl zl_137, trivial, Or.inl zl_136, trivial, trivial, trivial, Or.inl zl_136, trivial, Or.inl zl_137, trivial, trivial, trivial, trivial, Or.inl zl_137, trivial, trivial, Or.inl zl_137, trivial, trivial⟩
set_option maxRecDepth 100000 in
theorem zok1_39 : zchk 39 zc39 zc39 = true := by decide +kernel
set_option maxRecDepth 100000 in
theorem zok2_39 : zall2 "FrameDeltas$Script" zc39 := ⟨trivial, trivial, Or.inl zl_134, Or.inl zl_133, trivial, Or.inl zl_133, trivial, Or.inl zl_130, trivial, trivial, trivial, Or.inl zl_133, zm_5_93, trivial, trivial, trivial, trivial, Or.inl zl_133, trivial, trivial, Or.inl zl_133, trivial, trivial, trivial, Or.inl zl_133, Or.inl zl_134, trivial, Or.inl zl_133, trivial, Or.inl zl_130, trivial, trivial, trivial, Or.inl zl_132, trivial, trivial, trivial, Or.inl zl_134, trivial, trivial, Or.inl zl_134, trivial, trivial, Or.inl zl_133, zm_5_93, trivial, trivial, zm_5_96, trivial, trivial, trivial, Or.inl zl_132, trivial, Or.inl zl_134, trivial, Or.inl zl_130, trivial, trivial, trivial, Or.inl zl_134, zm_5_93, zm_5_96, trivial, trivial, trivial, Or.inl zl_134, trivial, trivial, Or.inl zl_134, trivial, trivial, trivial, trivial, trivial, zm_5_100, trivial, trivial, trivial, Or.inl zl_132, trivial, Or.inl zl_134, trivial, Or.inl zl_130, trivial, trivial, trivial, Or.inl zl_134, zm_5_93, zm_5_100, trivial, trivial, trivial, Or.inl zl_134, trivial, trivial, Or.inl zl_134, trivial, trivial, trivial, Or.inl zl_132, trivial, trivial⟩
set_option maxRecDepth 100000 in
theorem zok1_40 : zchk 40 zc40 zc40 = true := by decide +kernel
set_option maxRecDepth 100000 in
theorem zok2_40 : zall2 "FrameDeltas$Script" zc40 := ⟨trivial, trivial, trivial, trivial, Or.inl zl_130, trivial, trivial, trivial, Or.inl zl_129, trivial, trivial, trivial, Or.inl zl_129, trivial, trivial, trivial, trivial, trivial, trivial⟩
set_option maxRecDepth 100000 in
theorem zok1_41 : zchk 41 zc41 zc41 = true := by decide +kernel
set_option maxRecDepth 100000 in
theorem zok2_41 : zall2 "FrameDeltas$Script" zc41 := ⟨trivial, trivial, trivial, trivial, trivial, trivial, trivial, trivial, trivial, trivial, trivial⟩
set_option maxRecDepth 100000 in
theorem zok1_42 : zchk 42 zc42 zc42 = true := by decide +kernel
set_option maxRecDepth 100000 in
theorem zok2_42 : zall2 "FrameDeltas$Script" zc42 := ⟨trivial, trivial, trivial, trivial, trivial, trivial, trivial, trivial, trivial, trivial, trivial⟩
set_option maxRecDepth 100000 in
theorem zok1_43 : zchk 43 zc43 zc43 = true := by decide +kernel
set_option maxRecDepth 100000 in
theorem zok2_43 : zall2 "FrameDeltas$Script" zc43 := ⟨trivial, trivial, trivial, trivial, trivial, trivial, Or.inl zl_132, trivial, trivial, trivial, trivial, zm_5_103, zm_5_106, trivial, trivial, trivial, trivial, trivial, trivial, trivial, trivial⟩
set_option maxRecDepth 100000 in
theorem zok1_44 : zchk 44 zc44 zc44 = true := by decide +kernel
set_option maxRecDepth 100000 in
theorem zok2_44 : zall2 "FrameDeltas$Script" zc44 := ⟨trivial, Or.inl zl_134, trivial, Or.inl zl_133, trivial, trivial, zm_5_77, trivial, trivial, trivial, trivial, trivial, trivial, trivial, zm_5_77, trivial, trivial, trivial, Or.inl zl_133, trivial, trivial, zm_5_93, trivial, trivial, zm_5_85, trivial, trivial, trivial, trivial, trivial, trivial, trivial, trivial⟩
set_option maxRecDepth 100000 in
theorem zok1_45 : zchk 45 zc45 zc45 = true := by decide +kernel
set_option maxRecDepth 100000 in
theorem zok2_45 : zall2 "FrameDeltas$Script" zc45 := ⟨trivial, Or.inl zl_132, trivial, trivial, trivial, trivial, trivial, trivial, Or.inl zl_133, zm_5_93, trivial, trivial, trivial, Or.inl zl_133, trivial, trivial, trivial, trivial, Or.inl zl_133, trivial, trivial, Or.inl zl_134, trivial, trivial, trivial, trivial, trivial, trivial, trivial, trivial, trivial, trivial, trivial, trivial, trivial, trivial, zm_5_93, trivial, trivial, trivial, trivial, trivial, trivial, trivial, zm_5_93, trivial, trivial, Or.inl zl_135, trivial, trivial, trivial, trivial, trivial, trivial, Or.inl zl_135, trivial, trivial, trivial, trivial, trivial, zm_5_93, trivial, trivial, trivial, Or.inl zl_135, trivial, trivial, Or.inl zl_133, trivial, trivial, trivial, Or.inl zl_135, trivial, Or.inl zl_135, trivial, trivial, trivial⟩
set_option maxRecDepth 100000 in
theorem zok1_46 : zchk 46 zc46 zc46 = true := by decide +kernel
set_option maxRecDepth 100000 in
theorem zok2_46 : zall2 "FrameDeltas$Script" zc46 := ⟨trivial, trivial, trivial, trivial, Or.inl zl_135, trivial, trivial, trivial, Or.inl zl_135, trivial, trivial, trivial, trivial, trivial, trivial, trivial, trivial, Or.inl zl_133, zm_5_93, trivial, trivial, trivial, trivial, trivial, trivial, trivial, trivial, trivial, Or.inl zl_135, zm_5_110, trivial, trivial, trivial, Or.inl zl_135, zm_5_116, trivial, trivial, trivial, trivial, trivial, trivial, Or.inl zl_135, trivial, trivial, trivial, trivial, trivial, trivial, trivial, trivial, trivial, trivial, trivial, trivial⟩
set_option maxRecDepth 100000 in
theorem zok1_47 : zchk 47 zc47 zc47 = true := by decide +kernel
set_option maxRecDepth 100000 in
theorem zok2_47 : zall2 "FrameDeltas$Script" zc47 := ⟨trivial, trivial, trivial, trivial, trivial, trivial, Or.inl zl_137, trivial, trivial, trivial, zm_5_119, trivial, trivial, trivial, trivial, trivial, trivial, trivial, trivial, zm_5_123, trivial, trivial, trivial, zm_5_73, zm_5_77, trivial, trivial, trivial, trivial, trivial, trivial, trivial, trivial⟩
set_option maxRecDepth 100000 in
theorem zok1_48 : zchk 48 zc48 zc48 = true := by decide +kernel
set_option maxRecDepth 100000 in
theorem zok2_48 : zall2 "FrameDeltas$Script" zc48 := ⟨trivial, trivial, trivial, trivial, Or.inl zl_136, trivial, trivial, trivial, Or.inl zl_136, trivial, trivial, trivial, trivial, trivial, trivial⟩
set_option maxRecDepth 100000 in
theorem zok1_49 : zchk 49 zc49 zc49 = true := by decide +kernel
set_option maxRecDepth 100000 in
theorem zok2_49 : zall2 "FrameDeltas$Script" zc49 := ⟨trivial, Or.inr zl_93, trivial, trivial, trivial, zm_5_119, trivial, trivial, trivial, trivial, trivial, zm_5_119, trivial, trivial, trivial, trivial, trivial, trivial, trivial, Or.inr zl_39, trivial, Or.inr zl_42, trivial, zm_5_139, trivial, trivial, trivial, trivial, trivial, trivial, trivial, trivial, zm_5_119, trivial, trivial, trivial, trivial, zm_5_119, trivial, trivial, trivial, trivial, zm_5_119, zm_5_139, trivial, trivial, trivial, zm_5_143, trivial, trivial, trivial, trivial, zm_5_147, trivial, trivial, trivial, trivial, zm_5_151, trivial, trivial, trivial, trivial, zm_5_155, zm_5_143, trivial, trivial⟩
set_option maxRecDepth 100000 in
theorem zok1_50 : zchk 50 zc50 zc50 = true := by decide +kernel
set_option maxRecDepth 100000 in
theorem zok2_50 : zall2 "FrameDeltas$State" zc50 := ⟨trivial, Or.inl zl_91, trivial, Or.inl zl_91, zm_6_42, trivial, trivial, Or.inl zl_96, Or.inl zl_96, trivial, trivial, Or.inl zl_99, Or.inl zl_99, trivial, trivial, Or.inl zl_102, Or.inl zl_102, trivial, trivial, Or.inl zl_104, Or.inl zl_104, trivial, trivial, trivial, trivial, Or.inl zl_96, trivial, trivial, trivial, zm_6_46, trivial, trivial, zm_6_46, zm_6_50, trivial, trivial, trivial, trivial⟩
set_option maxRecDepth 100000 in
theorem zok1_51 : zchk 51 zc51 zc51 = true := by decide +kernel
set_option maxRecDepth 100000 in
theorem zok2_51 : zall2 "FrameDeltas$State" zc51 := ⟨trivial, trivial, trivial, trivial, Or.inl zl_94, trivial, trivial, trivial, Or.inl zl_94, trivial, trivial, trivial, trivial, Or.inl zl_95, trivial, trivial⟩
set_option maxRecDepth 100000 in
theorem zok1_52 : zchk 52 zc52 zc52 = true := by decide +kernel
set_option maxRecDepth 100000 in
theorem zok2_52 : zall2 "FrameDeltas$State" zc52 := ⟨trivial, trivial, trivial, trivial, Or.inl zl_96, trivial, trivial, trivial, trivial, trivial, trivial⟩
set_option maxRecDepth 100000 in
theorem zok1_53 : zchk 53 zc53 zc53 = true := by decide +kernel
set_option maxRecDepth 100000 in
theorem zok2_53 : zall2 "FrameDeltas$State" zc53 := ⟨trivial, trivial, trivial, trivial, trivial, zm_6_53, trivial, trivial, trivial, trivial, trivial, trivial⟩
set_option maxRecDepth 100000 in
theorem zok1_54 : zchk 54 zc54 zc54 = true := by decide +kernel
set_option maxRecDepth 100000 in
theorem zok2_54 : zall2 "FrameDeltas$State" zc54 := ⟨trivial, trivial, trivial, trivial, Or.inl zl_91, trivial, trivial, trivial, zm_6_46, Or.inr zl_64, trivial, trivial⟩
set_option maxRecDepth 100000 in
theorem zok1_55 : zchk 55 zc55 zc55 = true := by decide +kernel
set_option maxRecDepth 100000 in
theorem zok2_55 : zall2 "FrameDeltas$State" zc55 := ⟨trivial, trivial, trivial, trivial, trivial, trivial, trivial, trivial, trivial, trivial, trivial, zm_6_46, Or.inr zl_78, trivial, trivial, trivial, trivial, trivial, zm_6_46, Or.inr zl_69, trivial, trivial, trivial, trivial, trivial, trivial⟩
set_option maxRecDepth 100000 in
theorem zok1_56 : zchk 56 zc56 zc56 = true := by decide +kernel
set_option maxRecDepth 100000 in
theorem zok2_56 : zall2 "FrameDeltas$State" zc56 := ⟨trivial, trivial, zm_6_67, trivial, trivial, trivial, zm_6_70, trivial, Or.inl zl_102, trivial, trivial, trivial, trivial, trivial, trivial⟩
set_option maxRecDepth 100000 in
theorem zok1_57 : zchk 57 zc57 zc57 = true := by decide +kernel
set_option maxRecDepth 100000 in
theorem zok2_57 : zall2 "FrameDeltas$State" zc57 := ⟨trivial, trivial, trivial, trivial, zm_6_46, Or.inr zl_69, trivial, trivial, trivial, trivial, trivial, trivial, trivial, trivial, trivial, trivial, trivial, zm_6_46, Or.inr zl_69, trivial, trivial, trivial, trivial, trivial, trivial⟩
set_option maxRecDepth 100000 in
theorem zok1_58 : zchk 58 zc58 zc58 = true := by decide +kernel
set_option maxRecDepth 100000 in
theorem zok2_58 : zall2 "FrameDeltas$State" zc58 := ⟨trivial, trivial, trivial, trivial, trivial, trivial, trivial, trivial, trivial, trivial, trivial, trivial, trivial, trivial, zm_6_46, Or.inr zl_74, trivial, trivial, trivial, trivial, zm_6_46, Or.inr zl_69, trivial, trivial, trivial, trivial, trivial, trivial⟩
set_option maxRecDepth 100000 in
theorem zok1_59 : zchk 59 zc59 zc59 = true := by decide +kernel
set_option maxRecDepth 100000 in
theorem zok2_59 : zall2 "FrameDeltas$State" zc59 := ⟨trivial, trivial, trivial, trivial, trivial, trivial, trivial, trivial, trivial, trivial, trivial, trivial, trivial, trivial, trivial, trivial, zm_6_46, Or.inr zl_69, trivial, trivial, trivial, trivial, trivial, trivial⟩
set_option maxRecDepth 100000 in
theorem zok1_60 : zchk 60 zc60 zc60 = true := by decide +kernel
set_option maxRecDepth 100000 in
theorem zok2_60 : zall2 "FrameDeltas$State" zc60 := ⟨trivial, trivial, trivial, trivial, trivial, trivial, Or.inl zl_96, trivial, trivial, trivial, zm_6_67, trivial, trivial, trivial, trivial, trivial, trivial, trivial⟩
set_option maxRecDepth 100000 in
theorem zok1_61 : zchk 61 zc61 zc61 = true := by decide +kernel
set_option maxRecDepth 100000 in
theorem zok2_61 : zall2 "FrameDeltas$State" zc61 := ⟨trivial, trivial, trivial, trivial, trivial, trivial, Or.inl zl_96, trivial, trivial, trivial, trivial, zm_6_46, Or.inr zl_74, trivial, trivial, trivial, trivial, trivial, trivial, trivial⟩
set_option maxRecDepth 100000 in
theorem zok1_62 : zchk 62 zc62 zc62 = true := by decide +kernel
set_option maxRecDepth 100000 in
theorem zok2_62 : zall2 "FrameDeltas" zc62 := ⟨trivial, zm_7_66, trivial, trivial, zm_7_66, trivial, trivial, trivial, trivial, zm_7_70, trivial, Or.inl zl_219, trivial, Or.inr zl_98, trivial, Or.inl zl_219, Or.inr zl_92, trivial, trivial, zm_7_79, trivial, Or.inl zl_219, Or.inr zl_92, zm_7_83, trivial, trivial⟩
set_option maxRecDepth 100000 in
theorem zok1_63 : zchk 63 zc63 zc63 = true := by decide +kernel
set_option maxRecDepth 100000 in
theorem zok2_63 : zall2 "FrameDeltas" zc63 := ⟨trivial, Or.inl zl_219, Or.inr zl_92, trivial, zm_7_87, trivial, trivial, trivial, trivial, trivial, trivial, trivial, trivial, trivial, zm_7_70, trivial, Or.inl zl_219, Or.inr zl_92, trivial, zm_7_90, trivial, trivial, Or.inl zl_219, Or.inr zl_92, trivial, trivial, zm_7_94, trivial, trivial, trivial⟩
set_option maxRecDepth 100000 in
theorem zok1_64 : zchk 64 zc64 zc64 = true := by decide +kernel
set_option maxRecDepth 100000 in
theorem zok2_64 : zall2 "FrameDeltas" zc64 := ⟨trivial, Or.inl zl_219, Or.inr zl_92, trivial, zm_7_87, trivial, trivial, trivial, trivial, Or.inl zl_219, Or.inr zl_92, trivial, zm_7_90, trivial, trivial⟩
set_option maxRecDepth 100000 in
theorem zok1_65 : zchk 65 zc65 zc65 = true := by decide +kernel
set_option maxRecDepth 100000 in
theorem zok2_65 : zall2 "FrameDeltas" zc65 := ⟨trivial, trivial, trivial, trivial, trivial, trivial, trivial, trivial, Or.inl zl_223, Or.inr zl_131, trivial, trivial, trivial, trivial, trivial, Or.inl zl_223, trivial, trivial, zm_7_100, trivial, trivial⟩
set_option maxRecDepth 100000 in
theorem zok1_66 : zchk 66 zc66 zc66 = true := by decide +kernel
set_option maxRecDepth 100000 in
theorem zok2_66 : zall2 "FrameDeltas" zc66 := ⟨trivial, Or.inl zl_223, Or.inr zl_131, trivial, trivial, Or.inl zl_223, trivial, Or.inr zl_131, trivial, trivial, trivial⟩
set_option maxRecDepth 100000 in
theorem zok1_67 : zchk 67 zc67 zc67 = true := by decide +kernel
set_option maxRecDepth 100000 in
theorem zok2_67 : zall2 "FrameDeltas" zc67 := ⟨trivial, Or.inl zl_223, trivial, Or.inl zl_219, zm_7_104, trivial, trivial, trivial, trivial, trivial, trivial, trivial, trivial, zm_7_70, trivial, Or.inl zl_223, trivial, Or.inl zl_219, trivial, Or.inl zl_227, zm_7_108, trivial, trivial, Or.inl zl_223, trivial, Or.inr zl_131, trivial, trivial, trivial⟩
set_option maxRecDepth 100000 in
theorem zok1_68 : zchk 68 zc68 zc68 = true := by decide +kernel
set_option maxRecDepth 100000 in
theorem zok2_68 : zall2 "FrameDeltas" zc68 := ⟨trivial, Or.inl zl_219, trivial, zm_7_112, trivial, trivial, Or.inl zl_219, Or.inr zl_92, trivial, trivial, zm_7_115, trivial, trivial, trivial, trivial, Or.inl zl_219, trivial, zm_7_119, trivial, trivial, trivial, trivial, Or.inl zl_219, trivial, zm_7_122, trivial, trivial, zm_7_126, trivial, trivial⟩
set_option maxRecDepth 100000 in
theorem zok1_69 : zchk 69 zc69 zc69 = true := by decide +kernel
set_option maxRecDepth 100000 in
theorem zok2_69 : zall2 "FrameDeltas" zc69 := ⟨trivial, Or.inl zl_219, Or.inr zl_98, trivial, trivial, trivial, trivial, trivial, trivial, zm_7_130, trivial, trivial⟩
set_option maxRecDepth 100000 in
theorem zok1_70 : zchk 70 zc70 zc70 = true := by decide +kernel
set_option maxRecDepth 100000 in
theorem zok2_70 : zall2 "FrameDeltas" zc70 := ⟨trivial, Or.inl zl_219, trivial, zm_7_133, trivial, trivial, trivial, trivial, Or.inl zl_219, trivial, zm_7_136, trivial, trivial, trivial, trivial, Or.inl zl_219, Or.inr zl_98, trivial, trivial, trivial, trivial, trivial, trivial, zm_7_130, trivial, trivial⟩
set_option maxRecDepth 100000 in
theorem zok1_71 : zchk 71 zc71 zc71 = true := by decide +kernel
set_option maxRecDepth 100000 in
theorem zok2_71 : zall2 "FrameDeltas" zc71 := ⟨trivial, Or.inl zl_219, Or.inr zl_98, trivial, trivial, trivial, trivial, trivial, trivial, zm_7_139, zm_7_130, trivial, trivial⟩
set_option maxRecDepth 100000 in
theorem zok1_72 : zchk 72 zc72 zc72 = true := by decide +kernel
set_option maxRecDepth 100000 in
theorem zok2_72 : zall2 "FrameDeltas" zc72 := ⟨trivial, Or.inl zl_219, Or.inr zl_98, trivial, trivial, trivial, trivial, trivial, zm_7_70, trivial, Or.inl zl_219, trivial, Or.inr zl_98, trivial, trivial, Or.inr zl_98, trivial, Or.inl zl_219, Or.inr zl_98, trivial, trivial⟩
set_option maxRecDepth 100000 in
theorem zok1_73 : zchk 73 zc73 zc73 = true := by decide +kernel
set_option maxRecDepth 100000 in
theorem zok2_73 : zall2 "FrameDeltas" zc73 := ⟨trivial, Or.inl zl_219, Or.inr zl_98, trivial, trivial, trivial, trivial, trivial, zm_7_70, trivial, Or.inl zl_225, trivial, Or.inl zl_219, trivial, Or.inl zl_224, trivial, Or.inl zl_226, zm_7_142, trivial, trivial, trivial, trivial, Or.inl zl_219, Or.inr zl_98, trivial, trivial, Or.inl zl_224, trivial, Or.inl zl_219, trivial, zm_7_146, trivial, Or.inl zl_219, trivial, Or.inl zl_225, trivial, zm_7_150, zm_7_153, trivial, trivial, trivial, Or.inl zl_225, Or.inr zl_203, trivial, trivial⟩
set_option maxRecDepth 100000 in
theorem zok1_74 : zchk 74 zc74 zc74 = true := by decide +kernel
set_option maxRecDepth 100000 in
theorem zok2_74 : zall2 "FrameDeltas" zc74 := ⟨trivial, trivial, trivial, trivial, trivial, trivial, trivial, trivial, trivial, trivial, trivial, trivial, trivial, trivial, trivial, trivial, trivial, trivial, trivial, trivial, zm_7_70, trivial, Or.inl zl_219, Or.inr zl_101, trivial, trivial, trivial, Or.inl zl_219, Or.inr zl_103, trivial, trivial, trivial, Or.inl zl_219, Or.inr zl_106, trivial, trivial, trivial, trivial, trivial, trivial, trivial, Or.inl zl_219, trivial, Or.inr zl_101, trivial, Or.inl zl_219, trivial, Or.inr zl_103, trivial, Or.inl zl_219, trivial, Or.inr zl_106, trivial, trivial, trivial, trivial, trivial, trivial, trivial⟩
set_option maxRecDepth 100000 in
theorem zok1_75 : zchk 75 zc75 zc75 = true := by decide +kernel
set_option maxRecDepth 100000 in
theorem zok2_75 : zall2 "FrameDeltas" zc75 := ⟨trivial, Or.inl zl_219, trivial, zm_7_133, trivial, trivial, trivial, trivial, trivial, trivial, trivial, trivial, trivial, trivial, trivial, trivial, trivial, trivial, trivial, trivial, Or.inl zl_219, trivial, zm_7_146, Or.inr zl_79, trivial, trivial, trivial, trivial, trivial, zm_7_70, trivial, Or.inl zl_219, trivial, zm_7_146, trivial, Or.inr zl_79, trivial, Or.inl zl_219, zm_7_173, trivial, trivial⟩
set_option maxRecDepth 100000 in
theorem zok1_76 : zchk 76 zc76 zc76 = true := by decide +kernel
set_option maxRecDepth 100000 in
theorem zok2_76 : zall2 "FrameDeltas" zc76 := ⟨trivial, Or.inl zl_219, trivial, zm_7_133, trivial, trivial, trivial, trivial, Or.inl zl_219, trivial, zm_7_146, trivial, trivial, trivial, trivial, Or.inr zl_70, trivial, trivial, trivial, trivial, trivial, Or.inr zl_70, trivial, trivial, Or.inr zl_75, trivial, trivial, Or.inl zl_219, trivial, zm_7_180, trivial, trivial, Or.inl zl_219, trivial, zm_7_183, trivial, trivial, Or.inl zl_219, trivial, zm_7_119, trivial, trivial, trivial, trivial, trivial, trivial, trivial, zm_7_186, trivial, trivial, trivial, zm_7_186, trivial, trivial, trivial, zm_7_186, trivial, trivial, trivial, zm_7_186, trivial, trivial, trivial, trivial⟩
set_option maxRecDepth 100000 in
theorem zok1_77 : zchk 77 zc77 zc77 = true := by decide +kernel
set_option maxRecDepth 100000 in
theorem zok2_77 : zall2 "FrameDeltas" zc77 := ⟨trivial, Or.inl zl_219, trivial, zm_7_133, trivial, trivial, Or.inl zl_219, Or.inr zl_92, trivial, zm_7_189, trivial, trivial, trivial, trivial, trivial, trivial, trivial, trivial, trivial, trivial, trivial, Or.inl zl_219, trivial, zm_7_146, trivial, trivial, trivial, trivial, zm_7_192, trivial, trivial, trivial, trivial, trivial, trivial, trivial, trivial, trivial, trivial, trivial, trivial, trivial, trivial, trivial, trivial, trivial, trivial, trivial, trivial, trivial, trivial, trivial, trivial, trivial, trivial, zm_7_192, trivial, trivial⟩
set_option maxRecDepth 100000 in
theorem zok1_78 : zchk 78 zc78 zc78 = true := by decide +kernel
set_option maxRecDepth 100000 in
theorem zok2_78 : zall2 "FrameDeltas" zc78 := ⟨trivial, Or.inl zl_219, trivial, zm_7_133, trivial, trivial, Or.inl zl_219, Or.inr zl_92, trivial, zm_7_189, trivial, trivial, trivial, trivial, trivial, trivial, trivial, trivial, trivial, trivial, trivial, trivial, trivial, Or.inl zl_219, trivial, zm_7_146, trivial, trivial, trivial, trivial, zm_7_192, trivial, trivial, trivial, trivial, trivial, trivial, trivial, trivial, trivial, trivial, trivial, trivial, trivial, Or.inl zl_219, trivial, Or.inr zl_70, zm_7_146, Or.inr zl_65, trivial, trivial, trivial, trivial, Or.inl zl_224, Or.inr zl_181, trivial, trivial, trivial, Or.inr zl_65, trivial, trivial, zm_7_202, trivial, trivial, Or.inr zl_172, trivial, trivial, trivial, trivial, trivial, trivial, trivial, zm_7_211, trivial, trivial, trivial, zm_7_214, trivial, trivial⟩
set_option maxRecDepth 100000 in
theorem zok1_79 : zchk 79 zc79 zc79 = true := by decide +kernel
set_option maxRecDepth 100000 in
theorem zok2_79 : zall2 "FrameDeltas" zc79 := ⟨trivial, Or.inl zl_219, trivial, zm_7_133, trivial, trivial, Or.inl zl_219, Or.inr zl_92, trivial, zm_7_87, trivial, trivial, trivial, trivial, Or.inl zl_219, trivial, zm_7_119, trivial, trivial, trivial, trivial, Or.inl zl_219, trivial, zm_7_122, trivial, zm_7_90, trivial, trivial⟩
set_option maxRecDepth 100000 in
theorem zok1_80 : zchk 80 zc80 zc80 = true := by decide +kernel
set_option maxRecDepth 100000 in
theorem zok2_80 : zall2 "FrameDeltas" zc80 := ⟨trivial, trivial, trivial, Or.inl zl_219, Or.inr zl_92, Or.inr zl_40, trivial, trivial, Or.inl zl_219, Or.inr zl_92, Or.inr zl_43, trivial, trivial, Or.inl zl_219, Or.inr zl_98, trivial, trivial, Or.inl zl_219, Or.inr zl_101, trivial, trivial, Or.inl zl_219, Or.inr zl_103, trivial, trivial, Or.inl zl_219, Or.inr zl_106, trivial, trivial, Or.inl zl_219, zm_7_223, trivial, trivial, Or.inl zl_219, zm_7_173, trivial, trivial, Or.inl zl_223, Or.inr zl_131, trivial, trivial, Or.inl zl_222, trivial, trivial, trivial, trivial⟩
set_option maxRecDepth 100000 in
theorem zok1_81 : zchk 81 zc81 zc81 = true := by decide +kernel
set_option maxRecDepth 100000 in
theorem zok2_81 : zall2 "FrameDeltas" zc81 := ⟨trivial, Or.inl zl_219, trivial, zm_7_112, trivial, trivial, trivial, trivial, Or.inl zl_219, trivial, zm_7_119, trivial, trivial, trivial, trivial, trivial, zm_7_226, trivial, trivial⟩
set_option maxRecDepth 100000 in
theorem zok1_82 : zchk 82 zc82 zc82 = true := by decide +kernel
set_option maxRecDepth 100000 in
theorem zok2_82 : zall2 "FrameDeltas" zc82 := ⟨trivial, Or.inl zl_219, trivial, zm_7_112, trivial, trivial, Or.inl zl_219, trivial, zm_7_112, trivial, trivial, trivial, trivial, Or.inl zl_219, trivial, zm_7_119, trivial, trivial, Or.inl zl_219, trivial, zm_7_119, trivial, trivial, trivial, trivial, Or.inl zl_219, trivial, zm_7_122, trivial, Or.inl zl_219, trivial, zm_7_122, zm_7_229, trivial, trivial⟩
set_option maxRecDepth 100000 in
theorem zok1_83 : zchk 83 zc83 zc83 = true := by decide +kernel
set_option maxRecDepth 100000 in
theorem zok2_83 : zall2 "FrameDeltas" zc83 := ⟨trivial, Or.inl zl_219, trivial, zm_7_133, trivial, trivial, Or.inl zl_219, Or.inr zl_92, trivial, zm_7_189, trivial, trivial, trivial, trivial, Or.inl zl_219, trivial, zm_7_119, trivial, trivial, trivial, trivial, Or.inl zl_219, trivial, zm_7_122, trivial, trivial, Or.inl zl_219, Or.inr zl_92, trivial, zm_7_233, trivial, trivial, Or.inl zl_219, Or.inr zl_92, trivial, zm_7_236, trivial, trivial, trivial, trivial, trivial, Or.inr zl_43, trivial, trivial, trivial, trivial, trivial, trivial, trivial, Or.inr zl_40, trivial, trivial, trivial, trivial, Or.inl zl_219, Or.inr zl_92, trivial, trivial, trivial, trivial, trivial, zm_7_239, trivial, trivial, trivial, trivial, trivial, trivial, trivial, trivial, trivial, trivial, trivial, trivial, trivial, trivial⟩
set_option maxRecDepth 100000 in
theorem zok1_84 : zchk 84 zc84 zc84 = true := by decide +kernel
set_option maxRecDepth 100000 in
theorem zok2_84 : zall2 "FrameDeltas" zc84 := ⟨trivial, Or.inl zl_219, trivial, zm_7_112, trivial, trivial, trivial, trivial, Or.inl zl_219, trivial, zm_7_119, trivial, trivial, trivial, trivial, trivial, Or.inl zl_219, trivial, zm_7_122, zm_7_243, trivial, trivial⟩
set_option maxRecDepth 100000 in
theorem zok1_85 : zchk 85 zc85 zc85 = true := by decide +kernel
set_option maxRecDepth 100000 in
theorem zok2_85 : zall2 "FrameDeltas" zc85 := ⟨trivial, Or.inl zl_219, Or.inr zl_98, trivial, trivial, trivial, trivial, trivial, trivial, trivial, trivial, trivial, trivial, Or.inl zl_219, Or.inr zl_98, trivial, trivial, trivial, Or.inl zl_219, trivial, zm_7_180, zm_7_246, trivial, trivial, trivial, trivial, trivial, trivial⟩
set_option maxRecDepth 100000 in
theorem zok1_86 : zchk 86 zc86 zc86 = true := by decide +kernel
set_option maxRecDepth 100000 in
theorem zok2_86 : zall2 "FrameDeltas" zc86 := ⟨trivial, Or.inl zl_219, trivial, zm_7_133, trivial, trivial, trivial, trivial, trivial, trivial, trivial, trivial, trivial, Or.inl zl_219, Or.inr zl_98, trivial, trivial, Or.inl zl_219, trivial, trivial, zm_7_251, trivial, trivial, trivial, trivial, trivial, trivial, trivial⟩
set_option maxRecDepth 100000 in
theorem zok1_87 : zchk 87 zc87 zc87 = true := by decide +kernel
set_option maxRecDepth 100000 in
theorem zok2_87 : zall2 "FrameDeltas" zc87 := ⟨trivial, Or.inl zl_219, trivial, zm_7_133, trivial, trivial, trivial, trivial, Or.inl zl_219, trivial, zm_7_146, Or.inr zl_79, trivial, trivial, trivial, trivial, Or.inl zl_219, trivial, zm_7_122, trivial, trivial, trivial, trivial, trivial, trivial, trivial, trivial, trivial, Or.inl zl_219, Or.inr zl_98, trivial, trivial, Or.inl zl_219, trivial, zm_7_119, trivial, trivial, trivial, Or.inl zl_219, trivial, zm_7_122, zm_7_229, trivial, trivial, trivial, trivial, trivial, trivial, trivial, trivial, trivial, trivial, trivial, trivial, trivial⟩
set_option maxRecDepth 100000 in
theorem zok1_88 : zchk 88 zc88 zc88 = true := by decide +kernel
set_option maxRecDepth 100000 in
theorem zok2_88 : zall2 "FrameDeltas" zc88 := ⟨trivial, Or.inl zl_219, Or.inr zl_98, trivial, trivial, trivial, trivial, trivial, Or.inl zl_225, trivial, Or.inl zl_219, trivial, Or.inl zl_224, trivial, Or.inl zl_226, zm_7_142, trivial, Or.inl zl_225, Or.inr zl_203, trivial, trivial⟩
set_option maxRecDepth 100000 in
theorem zok1_89 : zchk 89 zc89 zc89 = true := by decide +kernel
set_option maxRecDepth 100000 in
theorem zok2_89 : zall2 "FrameDeltas" zc89 := ⟨trivial, Or.inl zl_219, Or.inr zl_98, trivial, trivial, trivial, trivial, trivial, Or.inl zl_225, trivial, Or.inl zl_219, trivial, Or.inl zl_224, trivial, Or.inl zl_226, zm_7_142, trivial, Or.inl zl_225, Or.inr zl_205, trivial, trivial⟩
set_option maxRecDepth 100000 in
theorem zok1_90 : zchk 90 zc90 zc90 = true := by decide +kernel
set_option maxRecDepth 100000 in
theorem zok2_90 : zall2 "FrameDeltas" zc90 := ⟨trivial, Or.inl zl_222, trivial, trivial, trivial, trivial, trivial, trivial, Or.inl zl_222, trivial, trivial, Or.inl zl_222, trivial, Or.inl zl_219, trivial, trivial, Or.inl zl_222, zm_7_257, zm_7_261, trivial, Or.inl zl_222, trivial, trivial⟩
set_option maxRecDepth 100000 in
theorem zok1_91 : zchk 91 zc91 zc91 = true := by decide +kernel
set_option maxRecDepth 100000 in
theorem zok2_91 : zall2 "FrameDeltas" zc91 := ⟨trivial, trivial, trivial, trivial, trivial, trivial, trivial, trivial, trivial, trivial, trivial, trivial, trivial, trivial⟩
set_option maxRecDepth 100000 in
theorem zok1_92 : zchk 92 zc92 zc92 = true := by decide +kernel
set_option maxRecDepth 100000 in
theorem zok2_92 : zall2 "FrameDeltas" zc92 := ⟨trivial, trivial, Or.inl zl_222, zm_7_257, trivial, Or.inl zl_219, zm_7_261, trivial, Or.inl zl_222, trivial, trivial, trivial, trivial, Or.inl zl_222, trivial, trivial, Or.inl zl_222, trivial, trivial, trivial, Or.inl zl_221, trivial, trivial, trivial, trivial, Or.inl zl_221, trivial, trivial⟩
set_option maxRecDepth 100000 in
theorem zok1_93 : zchk 93 zc93 zc93 = true := by decide +kernel
set_option maxRecDepth 100000 in
theorem zok2_93 : zall2 "FrameDeltas" zc93 := ⟨trivial, Or.inl zl_220, trivial, Or.inl zl_221, trivial, trivial, trivial, zm_7_265, trivial, trivial, trivial⟩
set_option maxRecDepth 100000 in
theorem zok1_94 : zchk 94 zc94 zc94 = true := by decide +kernel
set_option maxRecDepth 100000 in
theorem zok2_94 : zall2 "FrameDeltas" zc94 := ⟨trivial, zm_7_70, trivial, Or.inl zl_219, trivial, Or.inl zl_219, Or.inr zl_98, zm_7_146, trivial, trivial, Or.inr zl_65, trivial, Or.inl zl_219, Or.inr zl_92, zm_7_268, trivial, Or.inl zl_224, trivial, trivial, Or.inl zl_219, trivial, zm_7_153, trivial, Or.inl zl_219, trivial, Or.inr zl_98, trivial, trivial, Or.inr zl_98, trivial, Or.inr zl_75, trivial, trivial⟩
set_option maxRecDepth 100000 in
theorem zok1_95 : zchk 95 zc95 zc95 = true := by decide +kernel
set_option maxRecDepth 100000 in
theorem zok2_95 : zall2 "FrameDeltas" zc95 := ⟨trivial, Or.inl zl_226, Or.inr zl_65, trivial, Or.inl zl_219, Or.inr zl_92, zm_7_268, trivial, Or.inl zl_224, trivial, Or.inl zl_226, trivial, Or.inl zl_219, trivial, zm_7_153, trivial, Or.inl zl_226, Or.inr zl_75, trivial, trivial⟩
set_option maxRecDepth 100000 in
theorem zok1_96 : zchk 96 zc96 zc96 = true := by decide +kernel
set_option maxRecDepth 100000 in
theorem zok2_96 : zall2 "FrameDeltas" zc96 := ⟨trivial, trivial, trivial, trivial, zm_7_226, trivial, trivial, trivial, trivial, trivial, trivial, trivial, Or.inl zl_219, Or.inr zl_98, trivial, trivial, Or.inl zl_219, trivial, zm_7_136, trivial, trivial, trivial, trivial, zm_7_226, trivial, trivial, Or.inl zl_219, trivial, zm_7_183, trivial, trivial, trivial, trivial, trivial, trivial, trivial, trivial, trivial, trivial, trivial, trivial, trivial, trivial, trivial, trivial, trivial, trivial, trivial, trivial, trivial, trivial, trivial⟩
set_option maxRecDepth 100000 in
theorem zok1_97 : zchk 97 zc97 zc97 = true := by decide +kernel
set_option maxRecDepth 100000 in
theorem zok2_97 : zall2 "FrameDeltas" zc97 := ⟨trivial, Or.inr zl_40, trivial, trivial, trivial, trivial, trivial, trivial, Or.inl zl_228, trivial, trivial, trivial, Or.inr zl_43, trivial, trivial, trivial, trivial, trivial, zm_7_271, trivial, trivial, trivial, trivial, trivial, trivial, trivial, trivial, trivial, trivial, trivial, trivial, Or.inl zl_228, trivial, trivial, trivial, trivial, trivial, trivial, trivial, trivial, zm_7_126, trivial, trivial, trivial, trivial, trivial, trivial, trivial, trivial, trivial, trivial, trivial, trivial, trivial, trivial, trivial, trivial, trivial, trivial, Or.inl zl_228, trivial, trivial, trivial, Or.inl zl_228, trivial, trivial, trivial, trivial, trivial, trivial, trivial, trivial, trivial, trivial, trivial, trivial, trivial, trivial, trivial, trivial, trivial, zm_7_239, trivial, trivial, trivial, trivial, trivial, trivial, trivial, trivial, trivial⟩
set_option maxRecDepth 100000 in
theorem zok1_98 : zchk 98 zc98 zc98 = true := by decide +kernel
set_option maxRecDepth 100000 in
theorem zok2_98 : zall2 "FrameDeltasModel" zc98 := ⟨trivial, trivial, trivial, trivial, trivial, trivial, trivial, trivial, trivial, trivial, trivial⟩
set_option maxRecDepth 100000 in
theorem zok1_99 : zchk 99 zc99 zc99 = true := by decide +kernel
set_option maxRecDepth 100000 in
theorem zok2_99 : zall2 "FrameDeltasModel" zc99 := ⟨trivial, Or.inl zl_759, trivial, trivial, trivial, trivial, trivial, trivial, trivial, trivial, Or.inl zl_758, trivial, trivial, Or.inl zl_758, trivial, trivial, trivial, trivial, trivial, trivial, trivial, trivial, trivial, Or.inl zl_759, trivial, trivial, Or.inl zl_759, trivial, trivial, trivial, trivial, trivial, trivial, Or.inl zl_758, trivial, trivial, Or.inl zl_759, trivial, trivial, trivial, trivial, Or.inl zl_757, trivial, trivial, trivial, trivial, trivial, trivial, trivial, Or.inl zl_759, trivial, trivial, Or.inl zl_759, trivial, trivial⟩
set_option maxRecDepth 100000 in
theorem zok1_100 : zchk 100 zc100 zc100 = true := by decide +kernel
set_option maxRecDepth 100000 in
theorem zok2_100 : zall2 "FrameDeltasModel" zc100 := ⟨trivial, Or.inl zl_759, trivial, trivial, trivial, trivial, trivial, Or.inl zl_759, trivial, trivial, Or.inl zl_759, trivial, trivial, trivial, trivial, trivial, trivial, Or.inl zl_757, trivial, trivial, Or.inl zl_758, trivial, trivial, Or.inl zl_759, trivial, trivial, trivial, trivial, trivial, trivial, trivial, trivial, Or.inl zl_759, trivial, trivial⟩
set_option maxRecDepth 100000 in
theorem zok1_101 : zchk 101 zc101 zc101 = true := by decide +kernel
set_option maxRecDepth 100000 in
theorem zok2_101 : zall2 "FrameDeltasModel" zc101 := ⟨trivial, Or.inl zl_757, trivial, trivial, trivial, Or.inl zl_757, trivial, trivial, trivial, trivial, trivial⟩
set_option maxRecDepth 100000 in
theorem zok1_102 : zchk 102 zc102 zc102 = true := by decide +kernel
set_option maxRecDepth 100000 in
theorem zok2_102 : zall2 "FrameDeltasModel" zc102 := ⟨trivial, zm_8_42, trivial, trivial, trivial, trivial⟩
set_option maxRecDepth 100000 in
theorem zok1_103 : zchk 103 zc103 zc103 = true := by decide +kernel
set_option maxRecDepth 100000 in
theorem zok2_103 : zall2 "FrameDeltasModel" zc103 := ⟨trivial, trivial, trivial, Or.inl zl_757, trivial, trivial, trivial, trivial, zm_8_46, trivial, trivial⟩
set_option maxRecDepth 100000 in
theorem zok1_104 : zchk 104 zc104 zc104 = true := by decide +kernel
set_option maxRecDepth 100000 in
theorem zok2_104 : zall2 "FrameDeltasModel" zc104 := ⟨trivial, trivial, trivial, Or.inl zl_757, trivial, trivial, trivial, trivial, trivial, trivial, Or.inl zl_757, trivial, trivial, trivial, trivial, trivial, trivial, trivial, trivial, trivial, trivial⟩
set_option maxRecDepth 100000 in
theorem zok1_105 : zchk 105 zc105 zc105 = true := by decide +kernel
set_option maxRecDepth 100000 in
theorem zok2_105 : zall2 "FrameDeltasModel" zc105 := ⟨trivial, Or.inl zl_757, trivial, trivial, trivial, trivial, trivial, trivial⟩
set_option maxRecDepth 100000 in
theorem zok1_106 : zchk 106 zc106 zc106 = true := by decide +kernel
set_option maxRecDepth 100000 in
theorem zok2_106 : zall2 "FrameDeltasModel" zc106 := ⟨trivial, trivial, trivial, trivial, trivial, trivial, zm_8_50, trivial, trivial, trivial, trivial, trivial, zm_8_50, trivial, trivial, trivial, trivial, trivial⟩
set_option maxRecDepth 100000 in
theorem zok1_107 : zchk 107 zc107 zc107 = true := by decide +kernel
set_option maxRecDepth 100000 in
theorem zok2_107 : zall2 "FrameDeltasModel" zc107 := ⟨trivial, Or.inl zl_757, trivial, trivial, trivial, trivial, trivial, trivial, trivial, trivial, trivial, trivial, trivial, trivial, trivial, zm_8_50, trivial, trivial, trivial, trivial, trivial, Or.inl zl_757, trivial, trivial, trivial, zm_8_50, trivial, trivial, trivial, trivial, trivial, trivial, trivial, trivial, trivial, zm_8_50, trivial, trivial, trivial, trivial, trivial⟩
set_option maxRecDepth 100000 in
theorem zok1_108 : zchk 108 zc108 zc108 = true := by decide +kernel
set_option maxRecDepth 100000 in
theorem zok2_108 : zall2 "FrameDeltasModel" zc108 := ⟨trivial, trivial, trivial, trivial, trivial, trivial, Or.inl zl_757, trivial, trivial, trivial, trivial, trivial, trivial, zm_8_54, trivial, trivial, trivial, trivial, trivial, trivial, trivial, trivial, trivial, trivial, trivial⟩
set_option maxRecDepth 100000 in
theorem zok1_109 : zchk 109 zc109 zc109 = true := by decide +kernel
set_option maxRecDepth 100000 in
theorem zok2_109 : zall2 "FrameDeltasModel" zc109 := ⟨trivial, trivial, trivial, trivial, trivial, trivial, trivial, trivial, trivial, trivial, trivial, zm_8_46, trivial, trivial, trivial, trivial, zm_8_46, trivial, trivial, trivial, trivial, zm_8_58, trivial, Or.inl zl_757, trivial, trivial, trivial, trivial, Or.inl zl_757, trivial, trivial, trivial, trivial, Or.inl zl_757, trivial, trivial, trivial, trivial, trivial, trivial, trivial, trivial, trivial, Or.inl zl_757, trivial, trivial, trivial, trivial, trivial, trivial, zm_8_61, trivial, trivial⟩
set_option maxRecDepth 100000 in
theorem zok1_110 : zchk 110 zc110 zc110 = true := by decide +kernel
set_option maxRecDepth 100000 in
theorem zok2_110 : zall2 "FrameDeltasModel" zc110 := ⟨trivial, trivial, trivial, zm_8_42, trivial, trivial, zm_8_46, trivial, trivial⟩
set_option maxRecDepth 100000 in
theorem zok1_111 : zchk 111 zc111 zc111 = true := by decide +kernel
set_option maxRecDepth 100000 in
theorem zok2_111 : zall2 "FrameDeltasModel" zc111 := ⟨trivial, trivial, zm_8_64, trivial, trivial, trivial, trivial, zm_8_46, trivial, trivial, trivial, trivial, zm_8_58, trivial, Or.inl zl_757, trivial, trivial, trivial, trivial, trivial, trivial, Or.inl zl_757, trivial, trivial, trivial, trivial, trivial, trivial, trivial, trivial⟩
set_option maxRecDepth 100000 in
theorem zok1_112 : zchk 112 zc112 zc112 = true := by decide +kernel
set_option maxRecDepth 100000 in
theorem zok2_112 : zall2 "FrameDeltasModel" zc112 := ⟨trivial, trivial, zm_8_64, trivial, trivial, Or.inl zl_757, trivial, trivial, trivial, trivial, trivial, trivial, trivial, trivial⟩
set_option maxRecDepth 100000 in
theorem zok1_113 : zchk 113 zc113 zc113 = true := by decide +kernel
set_option maxRecDepth 100000 in
theorem zok2_113 : zall2 "FrameDeltasModel" zc113 := ⟨trivial, trivial, trivial, zm_8_46, trivial, trivial, trivial, trivial, Or.inl zl_761, trivial, trivial, trivial, trivial, trivial, Or.inl zl_760, trivial, Or.inl zl_761, trivial, trivial, trivial, trivial, trivial, Or.inl zl_761, trivial, trivial, Or.inl zl_761, trivial, Or.inl zl_761, trivial, trivial⟩
set_option maxRecDepth 100000 in
theorem zok1_114 : zchk 114 zc114 zc114 = true := by decide +kernel
set_option maxRecDepth 100000 in
theorem zok2_114 : zall2 "FrameDeltasModel" zc114 := ⟨trivial, Or.inl zl_761, trivial, trivial, trivial, Or.inl zl_761, trivial, trivial, trivial⟩
set_option maxRecDepth 100000 in
theorem zok1_115 : zchk 115 zc115 zc115 = true := by decide +kernel
set_option maxRecDepth 100000 in
theorem zok2_115 : zall2 "FrameDeltasModel" zc115 := ⟨trivial, Or.inl zl_762, trivial, Or.inl zl_761, trivial, trivial, Or.inl zl_760, trivial, Or.inl zl_762, trivial, trivial, trivial, trivial, trivial, trivial, trivial⟩
set_option maxRecDepth 100000 in
theorem zok1_116 : zchk 116 zc116 zc116 = true := by decide +kernel
set_option maxRecDepth 100000 in
theorem zok2_116 : zall2 "FrameDeltasModel" zc116 := ⟨trivial, zm_8_73, trivial, trivial, trivial, trivial, Or.inl zl_762, trivial, trivial, Or.inl zl_762, trivial, trivial, trivial, Or.inl zl_762, Or.inl zl_763, trivial, trivial, Or.inl zl_765, trivial, trivial, zm_8_73, trivial, trivial, trivial, trivial, trivial, Or.inl zl_766, trivial, trivial, Or.inl zl_762, trivial, Or.inl zl_766, trivial, trivial, trivial, trivial, trivial, Or.inl zl_762, trivial, Or.inl zl_766, trivial, trivial, zm_8_73, trivial, trivial, zm_8_46, trivial, trivial, trivial, Or.inl zl_764, trivial, zm_8_73, trivial, trivial, zm_8_46, trivial, trivial, trivial, Or.inl zl_762, trivial, Or.inl zl_763, trivial, trivial, trivial, zl_867, trivial, Or.inl zl_765, trivial, trivial, zm_8_73, trivial, trivial, zl_868, trivial, trivial, trivial, trivial, zl_869, Or.inl zl_765, trivial, trivial, Or.inl zl_762, trivial, trivial, Or.inl zl_762, trivial, trivial, zm_8_73, trivial, trivial, zm_8_46, trivial, trivial, Or.inl zl_762, trivial, trivial, zm_8_73, trivial, trivial, zm_8_46, trivial, trivial, trivial, Or.inl zl_765, zl_870, trivial, trivial, zl_871, trivial, Or.inl zl_765, trivial, trivial, zm_8_73, trivial, trivial, zl_872, trivial, trivial, trivial, Or.inl zl_765, Or.inl zl_765, trivial, trivial, Or.inl zl_762, trivial, trivial, Or.inl zl_762, trivial, trivial, trivial, Or.inl zl_762, trivial, trivial, trivial, trivial, trivial, Or.inl zl_760, trivial, trivial, trivial, trivial, trivial, Or.inl zl_762, trivial, trivial, trivial, trivial, trivial, trivial, trivial, Or.inl zl_764, trivial, trivial, trivial, Or.inl zl_766, trivial, trivial, trivial, trivial, zm_8_73, trivial, trivial, trivial, trivial, zm_8_73, trivial, trivial, trivial, trivial, trivial, Or.inl zl_764, trivial, trivial, Or.inl zl_762, trivial, Or.inl zl_766, trivial, trivial, zm_8_73, trivial, trivial, trivial, trivial, trivial, Or.inl zl_762, trivial, trivial⟩
set_option maxRecDepth 100000 in
theorem zok1_117 : zchk 117 zc117 zc117 = true := by decide +kernel
set_option maxRecDepth 100000 in
theorem zok2_117 : zall2 "FrameDeltasModel" zc117 := ⟨trivial, trivial, Or.inl zl_767, trivial, trivial, trivial, trivial, trivial, trivial, Or.inl zl_767, trivial, Or.inl zl_767, trivial, trivial, zm_8_105, trivial, trivial⟩
set_option maxRecDepth 100000 in
theorem zok1_118 : zchk 118 zc118 zc118 = true := by decide +kernel
set_option maxRecDepth 100000 in
theorem zok2_118 : zall2 "FrameDeltasModel" zc118 := ⟨trivial, Or.inl zl_766, trivial, trivial, Or.inl zl_765, trivial, trivial, trivial, trivial, Or.inl zl_765, trivial, trivial, trivial, Or.inl zl_764, trivial, trivial, trivial, trivial, trivial, zm_8_46, trivial, trivial, Or.inl zl_766, trivial, trivial, trivial, trivial, trivial, trivial, trivial, trivial, trivial, zm_8_108, trivial, trivial, trivial, trivial, trivial, trivial, trivial⟩
set_option maxRecDepth 100000 in
theorem zok1_119 : zchk 119 zc119 zc119 = true := by decide +kernel
set_option maxRecDepth 100000 in
theorem zok2_119 : zall2 "FrameDeltasModel" zc119 := ⟨trivial, trivial, Or.inl zl_757, trivial, trivial, trivial, trivial, trivial, trivial, trivial⟩
set_option maxRecDepth 100000 in
theorem zok1_120 : zchk 120 zc120 zc120 = true := by decide +kernel
set_option maxRecDepth 100000 in
theorem zok2_120 : zall2 "FrameDeltasModel" zc120 := ⟨trivial, trivial, trivial, trivial, trivial, trivial, Or.inl zl_768, trivial, trivial, Or.inl zl_757, trivial, trivial, trivial, trivial, trivial, trivial, trivial, trivial, trivial⟩
set_option maxRecDepth 100000 in
theorem zok1_121 : zchk 121 zc121 zc121 = true := by decide +kernel
set_option maxRecDepth 100000 in
theorem zok2_121 : zall2 "FrameDeltasModel" zc121 := ⟨trivial, trivial, trivial, trivial, zm_8_42, trivial, trivial, Or.inl zl_767, trivial, trivial, trivial, Or.inl zl_757, trivial, trivial, trivial, trivial, trivial, trivial, Or.inl zl_757, trivial, trivial, trivial, trivial, trivial, Or.inl zl_757, trivial, trivial, trivial, trivial, trivial, trivial, trivial, trivial, trivial, trivial, zm_8_46, trivial, trivial, trivial, trivial, trivial, trivial, trivial, trivial, zm_8_46, trivial, trivial, trivial, trivial, Or.inl zl_757, trivial, trivial, trivial, trivial, trivial, trivial, trivial, trivial, trivial⟩
set_option maxRecDepth 100000 in
theorem zok1_122 : zchk 122 zc122 zc122 = true := by decide +kernel
set_option maxRecDepth 100000 in
theorem zok2_122 : zall2 "FrameDeltasModel" zc122 := ⟨trivial, zm_8_112, trivial, trivial, trivial, trivial, zm_8_42, trivial, trivial, Or.inl zl_767, trivial, trivial, trivial, Or.inl zl_757, trivial, trivial, trivial, trivial, trivial, trivial, trivial, trivial, Or.inl zl_757, trivial, trivial, trivial, trivial, trivial, trivial, trivial, Or.inl zl_757, trivial, trivial, trivial, trivial, trivial, trivial, Or.inl zl_757, trivial, trivial, trivial, trivial, zm_8_46, trivial, trivial, trivial, trivial, Or.inl zl_757, trivial, trivial, trivial, trivial, zm_8_46, trivial, trivial, Or.inl zl_768, trivial, trivial, trivial, zm_8_115, trivial, trivial, trivial, trivial, trivial, trivial, trivial, trivial⟩
set_option maxRecDepth 100000 in
theorem zok1_123 : zchk 123 zc123 zc123 = true := by decide +kernel
set_option maxRecDepth 100000 in
theorem zok2_123 : zall2 "FrameDeltasModel" zc123 := ⟨trivial, Or.inl zl_764, trivial, trivial, trivial, Or.inl zl_765, trivial, zl_869, trivial, trivial, zl_877, trivial, trivial, trivial, trivial, trivial, trivial, trivial, zl_878, trivial, trivial, trivial, trivial, trivial, trivial, trivial, zl_879, trivial, trivial, trivial, trivial, trivial, trivial, trivial, zl_880, trivial, trivial, trivial, trivial, trivial, trivial, trivial, trivial, trivial, trivial, trivial, trivial, trivial, trivial, trivial, trivial, zl_881, trivial, trivial, trivial, trivial, trivial, zm_8_108, trivial, Or.inl zl_767, trivial, trivial, trivial, trivial, trivial, trivial, trivial, trivial, trivial, trivial, trivial, trivial, zm_8_129, zm_8_132, trivial, trivial, trivial, trivial, trivial, trivial, zm_8_129, trivial, trivial, trivial, trivial, zm_8_129, trivial, trivial, trivial, trivial, zm_8_129, trivial, trivial, trivial, trivial, zm_8_129, trivial, trivial, trivial, trivial, trivial, trivial, trivial, trivial, trivial, zm_8_129, zm_8_132, trivial, trivial, trivial, trivial, trivial, trivial, zm_8_129, trivial, trivial, trivial, trivial, trivial, trivial, zm_8_129, zm_8_136, trivial, trivial, trivial, trivial, trivial, trivial, zm_8_129, trivial, trivial, trivial, trivial, zm_8_129, trivial, trivial, trivial, trivial, trivial, zm_8_42, trivial, trivial, Or.inl zl_767, trivial, trivial, Or.inl zl_757, trivial, trivial, trivial, trivial, trivial, trivial, Or.inl zl_757, trivial, trivial, trivial, trivial, trivial, trivial, trivial, trivial, trivial, trivial, trivial, trivial, trivial, trivial, trivial, trivial, trivial, trivial, trivial, Or.inl zl_764, trivial, trivial, trivial, Or.inl zl_766, trivial, trivial, Or.inl zl_765, trivial, trivial, trivial, trivial, trivial, trivial, trivial, zm_8_140, trivial, trivial, trivial, zm_8_54, trivial, trivial, trivial, trivial, zm_8_108, trivial, trivial, trivial, trivial, zm_8_42, trivial, trivial, Or.inl zl_767, trivial, trivial, Or.inl zl_757, trivial, trivial, trivial, trivial, trivial, trivial, zm_8_143, trivial, trivial, trivial, trivial, trivial, Or.inl zl_764, trivial, trivial, trivial, trivial, trivial, zm_8_108, trivial, trivial⟩
set_option maxRecDepth 100000 in
theorem zok1_124 : zchk 124 zc124 zc124 = true := by decide +kernel
set_option maxRecDepth 100000 in
theorem zok2_124 : zall2 "FrameDeltasModel" zc124 := ⟨trivial, trivial, trivial, trivial, trivial, trivial, Or.inl zl_757, trivial, trivial, trivial, trivial, trivial, trivial, Or.inl zl_757, trivial, trivial, trivial, trivial, Or.inl zl_769, trivial, trivial, trivial, trivial, Or.inl zl_769, trivial, trivial, trivial, trivial, trivial, trivial, trivial⟩
set_option maxRecDepth 100000 in
theorem zok1_125 : zchk 125 zc125 zc125 = true := by decide +kernel
set_option maxRecDepth 100000 in
theorem zok2_125 : zall2 "FrameDeltasModel" zc125 := ⟨trivial, trivial, trivial, trivial, trivial, trivial, Or.inl zl_769, trivial, trivial, Or.inl zl_757, trivial, trivial, trivial, trivial, trivial, trivial, trivial, trivial, trivial, Or.inl zl_762, trivial, trivial, Or.inl zl_767, trivial, trivial, trivial, zm_8_105, trivial, Or.inl zl_767, trivial, trivial, Or.inl zl_764, trivial, trivial, zm_8_146, trivial, trivial, trivial, zm_8_149, trivial, Or.inl zl_767, trivial, trivial, trivial, Or.inl zl_763, trivial, trivial, trivial, zm_8_58, trivial, zm_8_149, trivial, trivial, Or.inl zl_761, trivial, trivial, trivial⟩
set_option maxRecDepth 100000 in
theorem zok1_126 : zchk 126 zc126 zc126 = true := by decide +kernel
set_option maxRecDepth 100000 in
theorem zok2_126 : zall2 "FrameDeltasModel" zc126 := ⟨trivial, trivial, trivial, trivial, trivial, zm_8_140, trivial, trivial, trivial, trivial, trivial, trivial⟩
set_option maxRecDepth 100000 in
theorem zok1_127 : zchk 127 zc127 zc127 = true := by decide +kernel
set_option maxRecDepth 100000 in
theorem zok2_127 : zall2 "FrameDeltasModel" zc127 := ⟨trivial, trivial, trivial, trivial, zm_8_54, trivial, trivial, trivial, trivial, trivial, trivial⟩
set_option maxRecDepth 100000 in
theorem zok1_128 : zchk 128 zc128 zc128 = true := by decide +kernel
set_option maxRecDepth 100000 in
theorem zok2_128 : zall2 "FrameDeltasModel" zc128 := ⟨trivial, trivial, trivial, trivial, trivial, trivial, trivial, trivial, trivial, trivial, trivial, trivial, trivial, trivial, trivial, trivial, trivial, trivial, trivial, trivial, trivial, trivial, trivial, zm_8_115, zm_8_143, trivial, trivial, trivial, trivial, trivial, trivial, trivial, trivial, trivial⟩
set_option maxRecDepth 100000 in
theorem zok1_129 : zchk 129 zc129 zc129 = true := by decide +kernel
set_option maxRecDepth 100000 in
theorem zok2_129 : zall2 "FrameDeltasModel" zc129 := ⟨trivial, trivial, zm_8_152, trivial, trivial, trivial, trivial, Or.inl zl_757, trivial, trivial, trivial, trivial, zm_8_46, trivial, trivial, trivial, trivial, Or.inl zl_757, trivial, trivial, trivial, trivial, zm_8_46, trivial, trivial, trivial, trivial, trivial, zm_8_155, trivial, trivial, trivial, trivial, trivial, zm_8_158, trivial, trivial, trivial, trivial⟩
set_option maxRecDepth 100000 in
theorem zok1_130 : zchk 130 zc130 zc130 = true := by decide +kernel
set_option maxRecDepth 100000 in
theorem zok2_130 : zall2 "FrameDeltasModel" zc130 := ⟨trivial, trivial, trivial, Or.inl zl_757, trivial, trivial, trivial, trivial, trivial, trivial, trivial, trivial⟩
set_option maxRecDepth 100000 in
theorem zok1_131 : zchk 131 zc131 zc131 = true := by decide +kernel
set_option maxRecDepth 100000 in
theorem zok2_131 : zall2 "FrameDeltasModel" zc131 := ⟨trivial, trivial, trivial, Or.inl zl_757, trivial, trivial, trivial, trivial, trivial, trivial, trivial, trivial⟩
set_option maxRecDepth 100000 in
theorem zok1_132 : zchk 132 zc132 zc132 = true := by decide +kernel
set_option maxRecDepth 100000 in
theorem zok2_132 : zall2 "FrameDeltasModel" zc132 := ⟨trivial, trivial, trivial, zm_8_162, trivial, trivial, trivial, trivial, trivial, trivial, zm_8_165, trivial, trivial, trivial, trivial, zm_8_115, trivial, trivial, trivial, trivial, trivial, trivial, trivial, zm_8_143, trivial, trivial, trivial, trivial, zm_8_143, trivial, trivial, trivial, zm_8_143, trivial, trivial, trivial, trivial, trivial, trivial, trivial⟩
set_option maxRecDepth 100000 in
theorem zok1_133 : zchk 133 zc133 zc133 = true := by decide +kernel
set_option maxRecDepth 100000 in
theorem zok2_133 : zall2 "FrameDeltasModel" zc133 := ⟨trivial, trivial, trivial, trivial, trivial, trivial, trivial, trivial, trivial, trivial, trivial, trivial, trivial, zm_8_168, trivial, trivial, trivial, trivial, trivial, trivial, trivial, zm_8_168, trivial, trivial, trivial, trivial, trivial, trivial, trivial, trivial, trivial, trivial, trivial⟩
set_option maxRecDepth 100000 in
theorem zok1_134 : zchk 134 zc134 zc134 = true := by decide +kernel
set_option maxRecDepth 100000 in
theorem zok2_134 : zall2 "FrameDeltasModel" zc134 := ⟨trivial, trivial, zm_8_162, trivial, trivial, trivial, trivial, trivial, zm_8_165, trivial, trivial, trivial, trivial, trivial, trivial, Or.inl zl_757, trivial, trivial, trivial, trivial, zm_8_46, trivial, trivial, trivial, trivial, Or.inl zl_757, trivial, trivial, trivial, trivial, zm_8_46, trivial, trivial, trivial, trivial, trivial, trivial, trivial, trivial, trivial, trivial, trivial, trivial, trivial, trivial, trivial, trivial, trivial, zm_8_162, trivial, trivial, trivial, trivial, trivial, trivial, zm_8_165, trivial, trivial, trivial, trivial, zm_8_115, zm_8_143, trivial, trivial, trivial, trivial, trivial, trivial, trivial, trivial, trivial, trivial, trivial, trivial, trivial, zm_8_115, zm_8_143, trivial, trivial, trivial, trivial, trivial, trivial, trivial, trivial, trivial, trivial⟩
set_option maxRecDepth 100000 in
theorem zok1_135 : zchk 135 zc135 zc135 = true := by decide +kernel
set_option maxRecDepth 100000 in
theorem zok2_135 : zall2 "FrameDeltasModel" zc135 := ⟨trivial, trivial, trivial, trivial, trivial, trivial, trivial, trivial⟩
set_option maxRecDepth 100000 in
theorem zok1_136 : zchk 136 zc136 zc136 = true := by decide +kernel
set_option maxRecDepth 100000 in
theorem zok2_136 : zall2 "FrameDeltasModel" zc136 := ⟨trivial, trivial, trivial, Or.inl zl_757, trivial, trivial, trivial, trivial, trivial, trivial, trivial, trivial, trivial, trivial, trivial, trivial, trivial, trivial, trivial, trivial, zm_8_172, trivial, zm_8_172, trivial, trivial, trivial, trivial, trivial, trivial, Or.inl zl_770, trivial, trivial, trivial, trivial, trivial, trivial, zm_8_172, trivial, Or.inl zl_770, trivial, trivial, trivial, trivial, trivial, trivial, zm_8_172, trivial, trivial, trivial, trivial, trivial, trivial, trivial, trivial, trivial, trivial, trivial, trivial, trivial, trivial, trivial, trivial, zm_8_175, trivial, trivial, trivial, trivial, Or.inl zl_770, trivial, trivial, trivial, trivial, trivial, trivial, trivial, trivial, Or.inl zl_770, trivial, trivial, trivial, trivial, trivial, trivial, trivial, trivial, trivial, trivial, trivial, trivial, trivial, trivial⟩
set_option maxRecDepth 100000 in
theorem zok1_137 : zchk 137 zc137 zc137 = true := by decide +kernel
set_option maxRecDepth 100000 in
theorem zok2_137 : zall2 "FrameDeltasModel" zc137 := ⟨trivial, Or.inl zl_770, trivial, trivial, trivial, trivial, trivial, trivial, trivial, trivial, Or.inl zl_770, trivial, trivial, trivial, trivial, trivial, trivial, trivial, trivial, trivial, trivial, trivial, trivial, trivial, zm_8_179, trivial, trivial, trivial, trivial, trivial, trivial, trivial, Or.inl zl_770, trivial, trivial, trivial, trivial, trivial, trivial, trivial, trivial, trivial, trivial, trivial, trivial, trivial, zm_8_175, trivial, trivial, Or.inl zl_770, trivial, trivial, trivial, trivial, trivial, trivial, trivial, trivial, trivial, trivial, trivial, zm_8_182, trivial, trivial, Or.inl zl_770, trivial, trivial, trivial, trivial, trivial, trivial, trivial, trivial, trivial, trivial, trivial, trivial, trivial, zm_8_179, trivial, trivial, trivial, trivial, Or.inl zl_770, trivial, trivial, trivial, trivial, trivial, trivial, trivial, trivial, trivial, trivial, trivial, trivial, trivial, trivial, trivial, trivial, trivial, trivial⟩
set_option maxRecDepth 100000 in
theorem zok1_138 : zchk 138 zc138 zc138 = true := by decide +kernel
set_option maxRecDepth 100000 in
theorem zok2_138 : zall2 "FrameDeltasModel" zc138 := ⟨trivial, trivial, trivial, trivial, trivial, trivial, zm_8_61, trivial, trivial, trivial, trivial, trivial, trivial, zm_8_185, trivial, trivial, trivial, trivial, trivial, trivial, trivial⟩
set_option maxRecDepth 100000 in
theorem zok1_139 : zchk 139 zc139 zc139 = true := by decide +kernel
set_option maxRecDepth 100000 in
theorem zok2_139 : zall2 "FrameDeltasModel" zc139 := ⟨trivial, trivial, trivial, trivial, trivial, trivial, trivial, trivial, trivial, trivial, trivial⟩
set_option maxRecDepth 100000 in
theorem zok1_140 : zchk 140 zc140 zc140 = true := by decide +kernel
set_option maxRecDepth 100000 in
theorem zok2_140 : zall2 "FrameDeltasModel" zc140 := ⟨trivial, Or.inl zl_757, trivial, trivial, trivial, zm_8_188, trivial, trivial, trivial, trivial, trivial, trivial, trivial, trivial, trivial, zm_8_50, trivial, zm_8_179, trivial, trivial, trivial, trivial, trivial, trivial, trivial, trivial, zm_8_179, trivial, trivial, trivial, trivial⟩
set_option maxRecDepth 100000 in
theorem zok1_141 : zchk 141 zc141 zc141 = true := by decide +kernel
set_option maxRecDepth 100000 in
theorem zok2_141 : zall2 "FrameDeltasModel" zc141 := ⟨trivial, trivial, trivial, trivial, trivial, trivial, zm_8_61, trivial, trivial, Or.inl zl_757, trivial, trivial, trivial, zm_8_188, trivial, trivial, trivial, trivial, trivial, trivial, trivial, trivial, trivial, trivial, trivial, trivial, trivial, trivial, trivial, trivial, trivial, zm_8_191, trivial, trivial, trivial, trivial, trivial, trivial, trivial, trivial, trivial⟩
set_option maxRecDepth 100000 in
theorem zok1_142 : zchk 142 zc142 zc142 = true := by decide +kernel
set_option maxRecDepth 100000 in
theorem zok2_142 : zall2 "FrameDeltasModel" zc142 := ⟨trivial, trivial, zm_8_194, trivial, trivial, trivial, trivial, trivial, zm_8_50, trivial, trivial, trivial, trivial, trivial, trivial, zm_8_50, zm_8_194, trivial, trivial, trivial, trivial, zm_8_50, trivial, trivial, trivial, trivial, trivial⟩
set_option maxRecDepth 100000 in
theorem zok1_143 : zchk 143 zc143 zc143 = true := by decide +kernel
set_option maxRecDepth 100000 in
theorem zok2_143 : zall2 "FrameDeltasModel" zc143 := ⟨trivial, Or.inl zl_757, trivial, trivial, trivial, trivial, trivial, trivial, Or.inl zl_757, trivial, trivial, trivial, trivial, trivial, trivial, trivial, trivial, trivial, trivial, trivial, Or.inl zl_757, trivial, trivial, trivial, trivial, trivial, trivial, trivial, trivial, Or.inl zl_770, trivial, trivial, trivial, trivial, trivial, trivial, trivial⟩
set_option maxRecDepth 100000 in
theorem zok1_144 : zchk 144 zc144 zc144 = true := by decide +kernel
set_option maxRecDepth 100000 in
theorem zok2_144 : zall2 "FrameDeltasModel" zc144 := ⟨trivial, zm_8_58, trivial, Or.inl zl_757, trivial, trivial, trivial, trivial, trivial, trivial, zm_8_197, trivial, trivial, trivial, trivial, trivial, trivial, trivial, Or.inl zl_757, trivial, trivial, trivial, trivial, trivial, trivial, trivial, trivial, Or.inl zl_757, trivial, trivial, trivial, trivial, trivial, trivial, trivial, trivial, trivial, trivial, zm_8_200, trivial, Or.inl zl_757, trivial, trivial, trivial, trivial, trivial, trivial, trivial, trivial, trivial⟩
set_option maxRecDepth 100000 in
theorem zok1_145 : zchk 145 zc145 zc145 = true := by decide +kernel
set_option maxRecDepth 100000 in
theorem zok2_145 : zall2 "FrameDeltasModel" zc145 := ⟨trivial, Or.inl zl_757, trivial, trivial, trivial, trivial, trivial, trivial, trivial, trivial, zm_8_203, trivial, trivial⟩
set_option maxRecDepth 100000 in
theorem zok1_146 : zchk 146 zc146 zc146 = true := by decide +kernel
set_option maxRecDepth 100000 in
theorem zok2_146 : zall2 "FrameDeltasModel" zc146 := ⟨trivial, trivial, zm_8_140, trivial, trivial, trivial, trivial, trivial, zm_8_54, trivial, trivial, trivial, zm_8_206, trivial, Or.inl zl_757, trivial, trivial, trivial, trivial, trivial, trivial, Or.inl zl_757, trivial, trivial, trivial, trivial, trivial, trivial, trivial, trivial, zm_8_203, trivial, trivial⟩
set_option maxRecDepth 100000 in
theorem zok1_147 : zchk 147 zc147 zc147 = true := by decide +kernel
set_option maxRecDepth 100000 in
theorem zok2_147 : zall2 "FrameDeltasModel" zc147 := ⟨trivial, Or.inl zl_757, trivial, trivial, trivial, trivial, trivial, trivial, trivial, trivial, trivial, trivial, trivial, zm_8_197, trivial, trivial, trivial, trivial, trivial, trivial, trivial, Or.inl zl_757, trivial, trivial, trivial, trivial, trivial, zm_8_54, trivial, trivial, trivial, zm_8_206, trivial, Or.inl zl_757, trivial, trivial, trivial, trivial, trivial, trivial, zm_8_197, trivial, trivial, trivial, zm_8_206, trivial, trivial, trivial, trivial, trivial, trivial, trivial, trivial, trivial, trivial, trivial, trivial, trivial, trivial, trivial, trivial, trivial, trivial, trivial, trivial, trivial, trivial, trivial, trivial, trivial, trivial, trivial, trivial, trivial, trivial, trivial, trivial, trivial, trivial, trivial, trivial, trivial, trivial, zm_8_203, trivial, trivial⟩
set_option maxRecDepth 100000 in
theorem zok1_148 : zchk 148 zc148 zc148 = true := by decide +kernel
set_option maxRecDepth 100000 in
theorem zok2_148 : zall2 "FrameDeltasModel" zc148 := ⟨trivial, Or.inl zl_757, trivial, trivial, trivial, trivial, trivial, trivial, zm_8_58, trivial, Or.inl zl_757, trivial, trivial, trivial, trivial, trivial, trivial, trivial, Or.inl zl_757, trivial, trivial, trivial, trivial⟩
set_option maxRecDepth 100000 in
theorem zok1_149 : zchk 149 zc149 zc149 = true := by decide +kernel
set_option maxRecDepth 100000 in
theorem zok2_149 : zall2 "FrameDeltasModel" zc149 := ⟨trivial, trivial, trivial, trivial, trivial, trivial, trivial, trivial, trivial, trivial, Or.inl zl_757, trivial, trivial, trivial, trivial, trivial, trivial, trivial, trivial, trivial, trivial, trivial, trivial, trivial, trivial, trivial, trivial, trivial, Or.inl zl_771, trivial, trivial, trivial, trivial, Or.inl zl_772, trivial, trivial, trivial, trivial, trivial, trivial, trivial, trivial, trivial, trivial, trivial, trivial, trivial, trivial, trivial, trivial, trivial, trivial, trivial, trivial, trivial, trivial, trivial, trivial, trivial, trivial, Or.inl zl_757, trivial, trivial, trivial, trivial, trivial, trivial, trivial⟩
set_option maxRecDepth 100000 in
theorem zok1_150 : zchk 150 zc150 zc150 = true := by decide +kernel
set_option maxRecDepth 100000 in
theorem zok2_150 : zall2 "FrameDeltasModel" zc150 := ⟨trivial, trivial, trivial, trivial, trivial, trivial, trivial, trivial, trivial, trivial, trivial, trivial, trivial, trivial, trivial, trivial, trivial, trivial, trivial, trivial⟩
set_option maxRecDepth 100000 in
theorem zok1_151 : zchk 151 zc151 zc151 = true := by decide +kernel
set_option maxRecDepth 100000 in
theorem zok2_151 : zall2 "FrameDeltasModel" zc151 := ⟨trivial, trivial, trivial, trivial, Or.inl zl_757, trivial, trivial, trivial, trivial, Or.inl zl_771, trivial, trivial, trivial, trivial, zm_8_197, trivial, trivial, Or.inl zl_772, trivial, trivial, trivial, trivial, trivial, trivial, trivial, trivial, trivial, trivial, zm_8_197, trivial, trivial, trivial, trivial, trivial, Or.inl zl_773, trivial, trivial, zm_8_212, trivial, trivial, trivial, trivial, trivial, trivial, Or.inl zl_757, trivial, trivial, trivial, trivial, trivial, trivial, zm_8_212, trivial, trivial, trivial, trivial, trivial, trivial, trivial, trivial, zm_8_215, trivial, Or.inl zl_773, zm_8_215, trivial, trivial, trivial, trivial, trivial, trivial, trivial, trivial, trivial, trivial, trivial, Or.inl zl_773, Or.inl zl_773, trivial, trivial, trivial, trivial, trivial, trivial, trivial, trivial, trivial, trivial, trivial⟩
set_option maxRecDepth 100000 in
theorem zok1_152 : zchk 152 zc152 zc152 = true := by decide +kernel
set_option maxRecDepth 100000 in
theorem zok2_152 : zall2 "FrameDeltasModel" zc152 := ⟨trivial, Or.inl zl_757, trivial, trivial, trivial, trivial, trivial, trivial, zm_8_58, trivial, zm_8_218, trivial, trivial, trivial, trivial, trivial, Or.inl zl_757, trivial, trivial, trivial, trivial, Or.inl zl_773, trivial, trivial, trivial, trivial, trivial, trivial, trivial, trivial, trivial, trivial, trivial, trivial, trivial, trivial, trivial, zm_8_197, trivial, trivial, trivial, trivial, trivial, trivial, trivial, trivial, zm_8_200, trivial, trivial, trivial, trivial, trivial⟩
set_option maxRecDepth 100000 in
theorem zok1_153 : zchk 153 zc153 zc153 = true := by decide +kernel
set_option maxRecDepth 100000 in
theorem zok2_153 : zall2 "FrameDeltasModel" zc153 := ⟨trivial, Or.inl zl_757, trivial, trivial, trivial, trivial, trivial, trivial, zm_8_218, trivial, trivial⟩
set_option maxRecDepth 100000 in
theorem zok1_154 : zchk 154 zc154 zc154 = true := by decide +kernel
set_option maxRecDepth 100000 in
theorem zok2_154 : zall2 "FrameDeltasModel" zc154 := ⟨trivial, Or.inl zl_757, trivial, trivial, trivial, trivial, trivial, trivial, zm_8_218, trivial, trivial, trivial, trivial, Or.inl zl_773, trivial, trivial⟩
set_option maxRecDepth 100000 in
theorem zok1_155 : zchk 155 zc155 zc155 = true := by decide +kernel
set_option maxRecDepth 100000 in
theorem zok2_155 : zall2 "FrameDeltasModel" zc155 := ⟨trivial, trivial, trivial, zm_8_46, trivial, trivial, trivial, trivial, zm_8_46, trivial, trivial, trivial, trivial, zm_8_46, trivial, trivial, trivial, trivial, zm_8_58, trivial, Or.inl zl_757, trivial, trivial, trivial, trivial, trivial, Or.inl zl_757, trivial, trivial, trivial, trivial, trivial, Or.inl zl_757, trivial, trivial, trivial, trivial, trivial, trivial, trivial, trivial, trivial, Or.inl zl_757, trivial, trivial, trivial, trivial, Or.inl zl_757, trivial, trivial, trivial, trivial, Or.inl zl_757, trivial, trivial, trivial, trivial, trivial, trivial, trivial, trivial, trivial, trivial⟩
set_option maxRecDepth 100000 in
theorem zok1_156 : zchk 156 zc156 zc156 = true := by decide +kernel
set_option maxRecDepth 100000 in
theorem zok2_156 : zall2 "FrameDeltasModel" zc156 := ⟨trivial, trivial, zm_8_140, trivial, trivial, trivial, trivial, zm_8_46, trivial, trivial, trivial, trivial, Or.inl zl_757, trivial, trivial, trivial, trivial, trivial, trivial, trivial, trivial, trivial, zm_8_58, trivial, Or.inl zl_757, trivial, trivial, trivial, trivial, trivial, trivial, zm_8_221, trivial, trivial⟩
set_option maxRecDepth 100000 in
theorem zok1_157 : zchk 157 zc157 zc157 = true := by decide +kernel
set_option maxRecDepth 100000 in
theorem zok2_157 : zall2 "FrameDeltasModel" zc157 := ⟨trivial, trivial, trivial, trivial, trivial, trivial, zm_8_61, trivial, trivial, trivial, Or.inl zl_757, trivial, trivial, trivial, zm_8_188, trivial, trivial, trivial, trivial, trivial, trivial, trivial, trivial, trivial, trivial, trivial, trivial, trivial⟩
set_option maxRecDepth 100000 in
theorem zok1_158 : zchk 158 zc158 zc158 = true := by decide +kernel
set_option maxRecDepth 100000 in
theorem zok2_158 : zall2 "FrameDeltasModel" zc158 := ⟨trivial, trivial, zm_8_140, trivial, trivial, trivial, trivial, zm_8_46, trivial, trivial, trivial, trivial, trivial, trivial, trivial, zm_8_50, trivial, trivial, trivial, trivial, trivial, trivial, zm_8_50, trivial, trivial, trivial, zm_8_194, trivial, trivial, trivial, zm_8_224, trivial, trivial, trivial, zm_8_206, trivial, trivial, trivial, zm_8_54, trivial, trivial, trivial, trivial, trivial, trivial, trivial, trivial, trivial, trivial, zm_8_227, trivial, trivial⟩
set_option maxRecDepth 100000 in
theorem zok1_159 : zchk 159 zc159 zc159 = true := by decide +kernel
set_option maxRecDepth 100000 in
theorem zok2_159 : zall2 "FrameDeltasModel" zc159 := ⟨trivial, trivial, trivial, zm_8_61, trivial, trivial, zm_8_46, trivial, trivial⟩
set_option maxRecDepth 100000 in
theorem zok1_160 : zchk 160 zc160 zc160 = true := by decide +kernel
set_option maxRecDepth 100000 in
theorem zok2_160 : zall2 "FrameDeltasModel" zc160 := ⟨trivial, trivial, zm_8_140, trivial, trivial, trivial, zm_8_230, trivial, trivial, trivial, trivial, zm_8_46, trivial, trivial, trivial, trivial, Or.inl zl_757, trivial, trivial, trivial, zm_8_188, trivial, trivial, trivial, trivial, trivial, trivial, trivial, trivial, trivial, trivial, trivial, trivial, trivial, trivial, trivial, zm_8_191, trivial, trivial, trivial, trivial, trivial, trivial, trivial, Or.inl zl_757, trivial, trivial, trivial, zm_8_188, trivial, trivial, trivial, trivial, trivial, trivial, trivial⟩
set_option maxRecDepth 100000 in
theorem zok1_161 : zchk 161 zc161 zc161 = true := by decide +kernel
set_option maxRecDepth 100000 in
theorem zok2_161 : zall2 "FrameDeltasModel" zc161 := ⟨trivial, trivial, zm_8_140, trivial, trivial, trivial, zm_8_230, trivial, trivial, trivial, trivial, trivial, trivial, zm_8_46, trivial, trivial, trivial, trivial, Or.inl zl_757, trivial, trivial, trivial, zm_8_188, trivial, trivial, trivial, trivial, trivial, trivial, zm_8_191, trivial, trivial, trivial, trivial, trivial, trivial, trivial, trivial, zm_8_50, trivial, trivial, trivial, trivial, trivial, trivial, trivial, trivial, trivial, trivial, trivial, trivial, trivial, trivial, trivial, trivial, trivial, trivial, trivial, trivial, trivial, trivial, zm_8_168, trivial, trivial, trivial, trivial, trivial, trivial, trivial, zm_8_168, trivial, trivial, trivial, trivial, trivial, trivial, trivial, trivial, trivial, trivial, trivial, trivial, trivial, trivial, trivial, trivial, trivial, trivial, trivial, trivial, trivial, trivial, trivial, zm_8_168, trivial, trivial, trivial, trivial, trivial, trivial, trivial, trivial, trivial, trivial, trivial, trivial⟩
set_option maxRecDepth 100000 in
theorem zok1_162 : zchk 162 zc162 zc162 = true := by decide +kernel
set_option maxRecDepth 100000 in
theorem zok2_162 : zall2 "FrameDeltasModel" zc162 := ⟨trivial, trivial, zm_8_140, trivial, trivial, trivial, zm_8_64, trivial, trivial, trivial, trivial, trivial, zm_8_54, trivial, trivial, trivial, trivial, zm_8_143, trivial, trivial, trivial, trivial⟩
set_option maxRecDepth 100000 in
theorem zok1_163 : zchk 163 zc163 zc163 = true := by decide +kernel
set_option maxRecDepth 100000 in
theorem zok2_163 : zall2 "FrameDeltasModel" zc163 := ⟨trivial, trivial, trivial, trivial, trivial, Or.inl zl_757, trivial, trivial, trivial, trivial, trivial, trivial, trivial, Or.inl zl_757, trivial, trivial, trivial, trivial, trivial, trivial, zm_8_194, trivial, trivial, trivial, trivial, trivial, trivial, trivial, zm_8_221, trivial, trivial, Or.inl zl_761, trivial, trivial, Or.inl zl_759, trivial, trivial, trivial, trivial⟩
set_option maxRecDepth 100000 in
theorem zok1_164 : zchk 164 zc164 zc164 = true := by decide +kernel
set_option maxRecDepth 100000 in
theorem zok2_164 : zall2 "FrameDeltasModel" zc164 := ⟨trivial, trivial, zm_8_152, trivial, trivial, trivial, trivial, trivial, zm_8_155, trivial, trivial, trivial, trivial, zm_8_197, trivial, trivial, trivial, trivial⟩
set_option maxRecDepth 100000 in
theorem zok1_165 : zchk 165 zc165 zc165 = true := by decide +kernel
set_option maxRecDepth 100000 in
theorem zok2_165 : zall2 "FrameDeltasModel" zc165 := ⟨trivial, trivial, trivial, trivial, trivial, trivial, zm_8_42, trivial, trivial, trivial, trivial, trivial, zm_8_143, trivial, trivial, trivial, zm_8_143, trivial, trivial, trivial, trivial, trivial, trivial, trivial, trivial, trivial, trivial, trivial⟩
set_option maxRecDepth 100000 in
theorem zok1_166 : zchk 166 zc166 zc166 = true := by decide +kernel
set_option maxRecDepth 100000 in
theorem zok2_166 : zall2 "FrameDeltasModel" zc166 := ⟨trivial, trivial, zm_8_152, trivial, trivial, trivial, zm_8_152, trivial, trivial, trivial, trivial, trivial, zm_8_155, trivial, trivial, trivial, zm_8_155, trivial, trivial, trivial, trivial, zm_8_233, trivial, trivial, trivial, trivial⟩
set_option maxRecDepth 100000 in
theorem zok1_167 : zchk 167 zc167 zc167 = true := by decide +kernel
set_option maxRecDepth 100000 in
theorem zok2_167 : zall2 "FrameDeltasModel" zc167 := ⟨trivial, trivial, trivial, trivial, trivial, trivial, trivial, trivial, trivial, trivial, trivial, trivial, trivial, trivial, trivial, trivial, trivial, trivial, trivial, trivial, trivial, trivial, zm_8_115, zm_8_143, trivial, trivial, trivial, trivial, trivial, trivial, trivial, trivial, trivial, trivial, trivial, trivial, trivial, zm_8_115, zm_8_143, trivial, trivial, trivial, trivial, trivial, trivial, trivial, trivial, trivial, trivial⟩
set_option maxRecDepth 100000 in
theorem zok1_168 : zchk 168 zc168 zc168 = true := by decide +kernel
set_option maxRecDepth 100000 in
theorem zok2_168 : zall2 "FrameDeltasModel" zc168 := ⟨trivial, trivial, zm_8_140, trivial, trivial, trivial, zm_8_230, trivial, trivial, trivial, trivial, trivial, zm_8_54, trivial, trivial, trivial, trivial, trivial, trivial, trivial, Or.inl zl_757, trivial, trivial, trivial, trivial, trivial, trivial, trivial, trivial, trivial, Or.inl zl_757, trivial, trivial, trivial, trivial, trivial, trivial, trivial, trivial, trivial, zm_8_162, trivial, trivial, zm_8_165, trivial, trivial, trivial, zm_8_236, trivial, trivial, trivial, trivial, trivial, trivial, trivial, trivial, trivial, trivial, trivial, trivial, trivial, trivial⟩
set_option maxRecDepth 100000 in
theorem zok1_169 : zchk 169 zc169 zc169 = true := by decide +kernel
set_option maxRecDepth 100000 in
theorem zok2_169 : zall2 "FrameDeltasModel" zc169 := ⟨trivial, trivial, zm_8_152, trivial, trivial, trivial, trivial, trivial, zm_8_155, trivial, trivial, trivial, trivial, Or.inl zl_757, trivial, trivial, trivial, trivial, trivial, trivial, trivial, Or.inl zl_757, trivial, trivial, trivial, trivial, trivial, trivial, trivial, trivial, trivial, trivial, trivial, trivial, trivial, trivial, Or.inl zl_774, trivial, trivial, trivial, trivial, trivial, trivial, trivial, trivial, trivial, zm_8_158, trivial, trivial, trivial, trivial, trivial, trivial, trivial, Or.inl zl_774, trivial, trivial, trivial, Or.inl zl_774, trivial, trivial, trivial, trivial, trivial, trivial, trivial, trivial, trivial, trivial, trivial, trivial, trivial, trivial, trivial, trivial, trivial, trivial, zm_8_236, trivial, trivial, trivial, trivial, trivial, trivial, trivial, trivial, trivial, trivial, trivial, trivial, trivial, trivial, trivial, trivial, trivial, trivial, trivial, trivial⟩
set_option maxRecDepth 100000 in
theorem zok1_170 : zchk 170 zc170 zc170 = true := by decide +kernel
set_option maxRecDepth 100000 in
theorem zok2_170 : zall2 "FrameDeltasModel" zc170 := ⟨trivial, trivial, trivial, trivial, trivial, trivial, Or.inl zl_757, trivial, trivial, trivial, trivial, trivial, zm_8_224, trivial, trivial, trivial, trivial, zm_8_224, trivial, trivial, trivial, trivial, trivial, trivial, trivial, trivial⟩
set_option maxRecDepth 100000 in
theorem zok1_171 : zchk 171 zc171 zc171 = true := by decide +kernel
set_option maxRecDepth 100000 in
theorem zok2_171 : zall2 "FrameDeltasModel" zc171 := ⟨trivial, trivial, trivial, trivial, trivial, trivial, trivial, zm_8_50, trivial, trivial, trivial, trivial, zm_8_50, trivial, trivial, trivial, trivial, trivial, trivial, trivial, trivial, trivial, trivial⟩
set_option maxRecDepth 100000 in
theorem zok1_172 : zchk 172 zc172 zc172 = true := by decide +kernel
set_option maxRecDepth 100000 in
theorem zok2_172 : zall2 "FrameDeltasModel" zc172 := ⟨trivial, trivial, zm_8_140, trivial, trivial, trivial, trivial, trivial, trivial, trivial, trivial, trivial, Or.inl zl_757, trivial, trivial, trivial, trivial, trivial, trivial, trivial, zm_8_240, trivial, trivial, trivial, trivial, trivial, trivial, trivial, trivial, trivial, trivial, trivial⟩
set_option maxRecDepth 100000 in
theorem zok1_173 : zchk 173 zc173 zc173 = true := by decide +kernel
set_option maxRecDepth 100000 in
theorem zok2_173 : zall2 "FrameDeltasModel" zc173 := ⟨trivial, trivial, zm_8_140, trivial, trivial, trivial, trivial, Or.inl zl_757, trivial, trivial, trivial, trivial, trivial, trivial, trivial, trivial, trivial, trivial, trivial, trivial, trivial, Or.inl zl_757, trivial, trivial, trivial, trivial, trivial, zm_8_54, trivial, trivial, trivial, trivial, trivial, trivial, trivial, zm_8_233, trivial, trivial, trivial, zm_8_233, trivial, trivial, trivial, trivial, trivial, trivial, trivial, trivial, trivial, trivial, trivial, trivial, trivial, trivial, trivial, trivial⟩
set_option maxRecDepth 100000 in
theorem zok1_174 : zchk 174 zc174 zc174 = true := by decide +kernel
set_option maxRecDepth 100000 in
theorem zok2_174 : zall2 "java/lang/Integer" zc174 := ⟨trivial, trivial, trivial, trivial, zl_622, trivial, trivial, trivial, trivial, zl_623, trivial, trivial, trivial, trivial, zl_623, trivial, trivial, trivial, trivial, trivial, trivial, trivial, trivial, zl_624, trivial, trivial, trivial, trivial, trivial, trivial, trivial, trivial, trivial, trivial, trivial, trivial, trivial, trivial, trivial, trivial, trivial, trivial, trivial⟩
set_option maxRecDepth 100000 in
theorem zok1_175 : zchk 175 zc175 zc175 = true := by decide +kernel
set_option maxRecDepth 100000 in
theorem zok2_175 : zall2 "java/lang/Math" zc175 := ⟨trivial, trivial, trivial, trivial, trivial, trivial, trivial, trivial, trivial, trivial, trivial, trivial, trivial, trivial, trivial, trivial, trivial⟩
set_option maxRecDepth 100000 in
theorem zok1_176 : zchk 176 zc176 zc176 = true := by decide +kernel
set_option maxRecDepth 100000 in
theorem zok2_176 : zall2 "java/lang/Math" zc176 := ⟨trivial, trivial, trivial, trivial, trivial, trivial, trivial, trivial⟩
set_option maxRecDepth 100000 in
theorem zok1_177 : zchk 177 zc177 zc177 = true := by decide +kernel
set_option maxRecDepth 100000 in
theorem zok2_177 : zall2 "java/lang/Math" zc177 := ⟨trivial, trivial, trivial, trivial, trivial, trivial, trivial, trivial⟩
set_option maxRecDepth 100000 in
theorem zok1_178 : zchk 178 zc178 zc178 = true := by decide +kernel
set_option maxRecDepth 100000 in
theorem zok2_178 : zall2 "java/lang/Math" zc178 := ⟨trivial, trivial, trivial, trivial, trivial, trivial, trivial, trivial⟩
set_option maxRecDepth 100000 in
theorem zok1_179 : zchk 179 zc179 zc179 = true := by decide +kernel
set_option maxRecDepth 100000 in
theorem zok2_179 : zall2 "java/lang/String" zc179 := ⟨trivial, zl_1124, trivial, trivial, zm_11_335, trivial, trivial, trivial⟩
set_option maxRecDepth 100000 in
theorem zok1_180 : zchk 180 zc180 zc180 = true := by decide +kernel
set_option maxRecDepth 100000 in
theorem zok2_180 : zall2 "java/lang/String" zc180 := ⟨trivial, zm_11_492, trivial, trivial, zl_1124, trivial, zm_11_495, trivial, trivial, zl_1124, trivial, trivial, trivial, trivial⟩
set_option maxRecDepth 100000 in
theorem zok1_181 : zchk 181 zc181 zc181 = true := by decide +kernel
set_option maxRecDepth 100000 in
theorem zok2_181 : zall2 "java/lang/String" zc181 := ⟨zl_379, trivial, trivial, zl_1125, trivial, trivial, trivial, trivial⟩
set_option maxRecDepth 100000 in
theorem zok1_182 : zchk 182 zc182 zc182 = true := by decide +kernel
set_option maxRecDepth 100000 in
theorem zok2_182 : zall2 "java/lang/String" zc182 := ⟨zl_379, trivial, trivial, zl_1125, trivial, trivial, trivial, trivial, trivial, trivial⟩
set_option maxRecDepth 100000 in
theorem zok1_183 : zchk 183 zc183 zc183 = true := by decide +kernel
set_option maxRecDepth 100000 in
theorem zok2_183 : zall2 "java/lang/String" zc183 := ⟨trivial, trivial, zl_395, zm_11_1059, trivial, trivial, trivial⟩
set_option maxRecDepth 100000 in
theorem zok1_184 : zchk 184 zc184 zc184 = true := by decide +kernel
set_option maxRecDepth 100000 in
theorem zok2_184 : zall2 "java/lang/StringLatin1" zc184 := ⟨trivial, trivial, trivial, zm_12_9, trivial, trivial, trivial, trivial, trivial, trivial, trivial, trivial⟩
set_option maxRecDepth 100000 in
theorem zok1_185 : zchk 185 zc185 zc185 = true := by decide +kernel
set_option maxRecDepth 100000 in
theorem zok2_185 : zall2 "jdk/internal/util/Preconditions" zc185 := ⟨trivial, trivial, trivial, trivial, trivial, trivial, trivial, trivial, trivial, trivial, trivial, trivial, trivial⟩
set_option maxRecDepth 100000 in
theorem zok1_186_0 : zchk0 186 zc186 0 ((zc186.drop 0).take 50) = true := by decide +kernel
set_option maxRecDepth 100000 in
theorem zok1_186_50 : zchk0 186 zc186 50 ((zc186.drop 50).take 50) = true := by decide +kernel
set_option maxRecDepth 100000 in
theorem zok1_186_100 : zchk0 186 zc186 100 ((zc186.drop 100).take 50) = true := by decide +kernel
set_option maxRecDepth 100000 in
theorem zok1_186_150 : zchk0 186 zc186 150 ((zc186.drop 150).take 50) = true := by decide +kernel
set_option maxRecDepth 100000 in
theorem zok1_186_200 : zchk0 186 zc186 200 ((zc186.drop 200).take 50) = true := by decide +kernel
set_option maxRecDepth 100000 in
theorem zok1_186_250 : zchk0 186 zc186 250 ((zc186.drop 250).take 50) = true := by decide +kernel
set_option maxRecDepth 100000 in
theorem zok1_186_300 : zchk0 186 zc186 300 ((zc186.drop 300).take 50) = true := by decide +kernel
set_option maxRecDepth 100000 in
theorem zok1_186_350 : zchk0 186 zc186 350 ((zc186.drop 350).take 50) = true := by decide +kernel
set_option maxRecDepth 100000 in
theorem zok1_186_400 : zchk0 186 zc186 400 ((zc186.drop 400).take 50) = true := by decide +kernel
set_option maxRecDepth 100000 in
theorem zok1_186_450 : zchk0 186 zc186 450 ((zc186.drop 450).take 50) = true := by decide +kernel
set_option maxRecDepth 100000 in
theorem zok1_186_500 : zchk0 186 zc186 500 ((zc186.drop 500).take 50) = true := by decide +kernel
set_option maxRecDepth 100000 in
theorem zok1_186_550 : zchk0 186 zc186 550 ((zc186.drop 550).take 50) = true := by decide +kernel
theorem zok1_186_e : zchk0 186 zc186 600 (zc186.drop 600) = true := by decide +kernel
theorem zok1_186_r550 : zchk0 186 zc186 550 (zc186.drop 550) = true := zchk0_split _ _ 50 _ _ zok1_186_550 (by rw [List.drop_drop]; exact zok1_186_e)
theorem zok1_186_r500 : zchk0 186 zc186 500 (zc186.drop 500) = true := zchk0_split _ _ 50 _ _ zok1_186_500 (by rw [List.drop_drop]; exact zok1_186_r550)
theorem zok1_186_r450 : zchk0 186 zc186 450 (zc186.drop 450) = true := zchk0_split _ _ 50 _ _ zok1_186_450 (by rw [List.drop_drop]; exact zok1_186_r500)
theorem zok1_186_r400 : zchk0 186 zc186 400 (zc186.drop 400) = true := zchk0_split _ _ 50 _ _ zok1_186_400 (by rw [List.drop_drop]; exact zok1_186_r450)
theorem zok1_186_r350 : zchk0 186 zc186 350 (zc186.drop 350) = true := zchk0_split _ _ 50 _ _ zok1_186_350 (by rw [List.drop_drop]; exact zok1_186_r400)
theorem zok1_186_r300 : zchk0 186 zc186 300 (zc186.drop 300) = true := zchk0_split _ _ 50 _ _ zok1_186_300 (by rw [List.drop_drop]; exact zok1_186_r350)
theorem zok1_186_r250 : zchk0 186 zc186 250 (zc186.drop 250) = true := zchk0_split _ _ 50 _ _ zok1_186_250 (by rw [List.drop_drop]; exact zok1_186_r300)
theorem zok1_186_r200 : zchk0 186 zc186 200 (zc186.drop 200) = true := zchk0_split _ _ 50 _ _ zok1_186_200 (by rw [List.drop_drop]; exact zok1_186_r250)
theorem zok1_186_r150 : zchk0 186 zc186 150 (zc186.drop 150) = true := zchk0_split _ _ 50 _ _ zok1_186_150 (by rw [List.drop_drop]; exact zok1_186_r200)
theorem zok1_186_r100 : zchk0 186 zc186 100 (zc186.drop 100) = true := zchk0_split _ _ 50 _ _ zok1_186_100 (by rw [List.drop_drop]; exact zok1_186_r150)
theorem zok1_186_r50 : zchk0 186 zc186 50 (zc186.drop 50) = true := zchk0_split _ _ 50 _ _ zok1_186_50 (by rw [List.drop_drop]; exact zok1_186_r100)
theorem zok1_186_r0 : zchk0 186 zc186 0 (zc186.drop 0) = true := zchk0_split _ _ 50 _ _ zok1_186_0 (by rw [List.drop_drop]; exact zok1_186_r50)
set_option maxRecDepth 100000 in
theorem zok1_186 : zchk 186 zc186 zc186 = true := by
  unfold zchk
  rw [show zchk0 186 zc186 0 zc186 = true from zok1_186_r0]
  decide +kernel
set_option maxRecDepth 100000 in
theorem zok2_186 : zall2 "FrameDeltasLaw" zc186 := ⟨trivial, trivial, trivial, trivial, trivial, trivial, trivial, trivial, trivial, trivial, trivial, trivial, trivial, trivial, trivial, trivial, trivial, trivial, trivial, trivial, trivial, trivial, trivial, trivial, trivial, trivial, trivial, trivial, trivial, trivial, trivial, trivial, trivial, zm_16_13, trivial, trivial, trivial, trivial, trivial, trivial, trivial, trivial, trivial, trivial, trivial, zm_16_17, trivial, trivial, trivial, trivial, trivial, trivial, trivial, trivial, trivial, trivial, trivial, trivial, trivial, trivial, zm_16_18, trivial, trivial, trivial, trivial, trivial, trivial, trivial, trivial, trivial, trivial, trivial, zm_16_21, trivial, trivial, trivial, trivial, trivial, trivial, trivial, trivial, trivial, zm_16_22, trivial, trivial, trivial, trivial, trivial, trivial, zm_16_26, trivial, trivial, trivial, trivial, trivial, trivial, trivial, trivial, trivial, zm_16_27, trivial, trivial, trivial, trivial, trivial, trivial, zm_16_30, trivial, trivial, trivial, trivial, zm_16_31, trivial, zm_16_35, trivial, trivial, trivial, trivial, zm_16_36, trivial, zm_16_39, trivial, trivial, trivial, trivial, trivial, trivial, trivial, trivial, trivial, trivial, trivial, trivial, trivial, trivial, trivial, trivial, trivial, trivial, trivial, zm_16_40, trivial, trivial, trivial, trivial, trivial, trivial, trivial, trivial, trivial, trivial, trivial, trivial, trivial, trivial, trivial, trivial, zm_16_44, trivial, trivial, trivial, trivial, zm_16_45, trivial, zm_16_48, trivial, trivial, trivial, trivial, trivial, trivial, trivial, trivial, trivial, zm_16_49, trivial, trivial, trivial, trivial, trivial, trivial, zm_16_52, trivial, trivial, trivial, trivial, zm_16_53, trivial, zm_16_56, trivial, trivial, trivial, trivial, zm_16_57, trivial, zm_16_60, trivial, trivial, trivial, trivial, zm_16_61, trivial, zm_16_64, trivial, trivial, trivial, trivial, trivial, trivial, trivial, trivial, trivial, trivial, trivial, trivial, trivial, trivial, trivial, trivial, trivial, trivial, trivial, zm_16_65, trivial, trivial, trivial, trivial, trivial, trivial, trivial, trivial, trivial, trivial, trivial, trivial, trivial, trivial, trivial, trivial, zm_16_68, trivial, trivial, trivial, trivial, trivial, trivial, trivial, trivial, trivial, trivial, trivial, trivial, trivial, trivial, zm_16_69, trivial, trivial, trivial, trivial, trivial, trivial, trivial, trivial, trivial, trivial, trivial, zm_16_72, trivial, trivial, trivial, trivial, trivial, trivial, trivial, trivial, trivial, trivial, trivial, trivial, trivial, trivial, zm_16_73, trivial, trivial, trivial, trivial, trivial, trivial, trivial, trivial, trivial, trivial, trivial, zm_16_76, trivial, trivial, trivial, trivial, trivial, trivial, trivial, trivial, trivial, trivial, trivial, trivial, trivial, trivial, trivial, trivial, trivial, trivial, trivial, zm_16_77, trivial, trivial, trivial, trivial, trivial, trivial, trivial, trivial, trivial, trivial, trivial, trivial, trivial, trivial, trivial, trivial, zm_16_80, trivial, trivial, trivial, trivial, trivial, trivial, trivial, trivial, trivial, trivial, trivial, trivial, trivial, trivial, trivial, trivial, trivial, trivial, trivial, trivial, trivial, trivial, trivial, trivial, zm_16_81, trivial, trivial, trivial, trivial, trivial, trivial, trivial, trivial, trivial, trivial, trivial, trivial, trivial, trivial, trivial, trivial, trivial, trivial, trivial, trivial, trivial, zm_16_85, trivial, trivial, trivial, trivial, trivial, trivial, trivial, trivial, trivial, trivial, trivial, trivial, trivial, trivial, zm_16_86, trivial, trivial, trivial, trivial, trivial, trivial, trivial, trivial, trivial, trivial, trivial, zm_16_89, trivial, trivial, trivial, trivial, trivial, trivial, trivial, trivial, trivial, zm_16_90, trivial, trivial, trivial, trivial, trivial, trivial, zm_16_93, trivial, trivial, trivial, trivial, trivial, trivial, trivial, trivial, trivial, zm_16_94, trivial, trivial, trivial, trivial, trivial, trivial, zm_16_97, trivial, trivial, trivial, trivial, trivial, trivial, trivial, trivial, trivial, trivial, trivial, trivial, trivial, trivial, zm_16_98, trivial, trivial, trivial, trivial, trivial, trivial, trivial, trivial, trivial, trivial, trivial, zm_16_101, trivial, trivial, trivial, trivial, trivial, trivial, trivial, trivial, trivial, trivial, trivial, trivial, trivial, trivial, zm_16_102, trivial, trivial, trivial, trivial, trivial, trivial, trivial, trivial, trivial, trivial, trivial, zm_16_105, trivial, trivial, trivial, trivial, trivial, trivial, trivial, trivial, trivial, zm_16_106, trivial, trivial, trivial, trivial, trivial, trivial, zm_16_109, trivial, trivial, trivial, trivial, zm_16_110, trivial, zm_16_113, trivial, trivial, trivial, trivial, trivial, trivial, trivial, trivial, trivial, zm_16_114, trivial, trivial, trivial, trivial, trivial, trivial, zm_16_117, trivial, trivial, trivial, trivial, trivial, trivial, trivial, trivial, trivial, zm_16_118, trivial, trivial, trivial, trivial, trivial, trivial, zm_16_121, trivial, trivial, trivial, trivial, zm_16_122, trivial, zm_16_125, trivial, trivial, trivial, trivial, zm_16_126, trivial, zm_16_129, trivial, trivial, trivial, trivial, zm_16_130, trivial, zm_16_133, trivial, trivial, trivial, trivial, trivial, trivial, trivial, trivial⟩
theorem zok1_all (m : Nat) : zchk m (zcd m) (zcd m) = true := match m with
  | 0 => zok1_0
  | 1 => zok1_1
  | 2 => zok1_2
  | 3 => zok1_3
  | 4 => zok1_4
  | 5 => zok1_5
  | 6 => zok1_6
  | 7 => zok1_7
  | 8 => zok1_8
  | 9 => zok1_9
  | 10 => zok1_10
  | 11 => zok1_11
  | 12 => zok1_12
  | 13 => zok1_13
  | 14 => zok1_14
  | 15 => zok1_15
  | 16 => zok1_16
  | 17 => zok1_17
  | 18 => zok1_18
  | 19 => zok1_19
  | 20 => zok1_20
  | 21 => zok1_21
  | 22 => zok1_22
  | 23 => zok1_23
  | 24 => zok1_24
  | 25 => zok1_25
  | 26 => zok1_26
  | 27 => zok1_27
  | 28 => zok1_28
  | 29 => zok1_29
  | 30 => zok1_30
  | 31 => zok1_31
  | 32 => zok1_32
  | 33 => zok1_33
  | 34 => zok1_34
  | 35 => zok1_35
  | 36 => zok1_36
  | 37 => zok1_37
  | 38 => zok1_38
  | 39 => zok1_39
  | 40 => zok1_40
  | 41 => zok1_41
  | 42 => zok1_42
  | 43 => zok1_43
  | 44 => zok1_44
  | 45 => zok1_45
  | 46 => zok1_46
  | 47 => zok1_47
  | 48 => zok1_48
  | 49 => zok1_49
  | 50 => zok1_50
  | 51 => zok1_51
  | 52 => zok1_52
  | 53 => zok1_53
  | 54 => zok1_54
  | 55 => zok1_55
  | 56 => zok1_56
  | 57 => zok1_57
  | 58 => zok1_58
  | 59 => zok1_59
  | 60 => zok1_60
  | 61 => zok1_61
  | 62 => zok1_62
  | 63 => zok1_63
  | 64 => zok1_64
  | 65 => zok1_65
  | 66 => zok1_66
  | 67 => zok1_67
  | 68 => zok1_68
  | 69 => zok1_69
  | 70 => zok1_70
  | 71 => zok1_71
  | 72 => zok1_72
  | 73 => zok1_73
  | 74 => zok1_74
  | 75 => zok1_75
  | 76 => zok1_76
  | 77 => zok1_77
  | 78 => zok1_78
  | 79 => zok1_79
  | 80 => zok1_80
  | 81 => zok1_81
  | 82 => zok1_82
  | 83 => zok1_83
  | 84 => zok1_84
  | 85 => zok1_85
  | 86 => zok1_86
  | 87 => zok1_87
  | 88 => zok1_88
  | 89 => zok1_89
  | 90 => zok1_90
  | 91 => zok1_91
  | 92 => zok1_92
  | 93 => zok1_93
  | 94 => zok1_94
  | 95 => zok1_95
  | 96 => zok1_96
  | 97 => zok1_97
  | 98 => zok1_98
  | 99 => zok1_99
  | 100 => zok1_100
  | 101 => zok1_101
  | 102 => zok1_102
  | 103 => zok1_103
  | 104 => zok1_104
  | 105 => zok1_105
  | 106 => zok1_106
  | 107 => zok1_107
  | 108 => zok1_108
  | 109 => zok1_109
  | 110 => zok1_110
  | 111 => zok1_111
  | 112 => zok1_112
  | 113 => zok1_113
  | 114 => zok1_114
  | 115 => zok1_115
  | 116 => zok1_116
  | 117 => zok1_117
  | 118 => zok1_118
  | 119 => zok1_119
  | 120 => zok1_120
  | 121 => zok1_121
  | 122 => zok1_122
  | 123 => zok1_123
  | 124 => zok1_124
  | 125 => zok1_125
  | 126 => zok1_126
  | 127 => zok1_127
  | 128 => zok1_128
  | 129 => zok1_129
  | 130 => zok1_130
  | 131 => zok1_131
  | 132 => zok1_132
  | 133 => zok1_133
  | 134 => zok1_134
  | 135 => zok1_135
  | 136 => zok1_136
  | 137 => zok1_137
  | 138 => zok1_138
  | 139 => zok1_139
  | 140 => zok1_140
  | 141 => zok1_141
  | 142 => zok1_142
  | 143 => zok1_143
  | 144 => zok1_144
  | 145 => zok1_145
  | 146 => zok1_146
  | 147 => zok1_147
  | 148 => zok1_148
  | 149 => zok1_149
  | 150 => zok1_150
  | 151 => zok1_151
  | 152 => zok1_152
  | 153 => zok1_153
  | 154 => zok1_154
  | 155 => zok1_155
  | 156 => zok1_156
  | 157 => zok1_157
  | 158 => zok1_158
  | 159 => zok1_159
  | 160 => zok1_160
  | 161 => zok1_161
  | 162 => zok1_162
  | 163 => zok1_163
  | 164 => zok1_164
  | 165 => zok1_165
  | 166 => zok1_166
  | 167 => zok1_167
  | 168 => zok1_168
  | 169 => zok1_169
  | 170 => zok1_170
  | 171 => zok1_171
  | 172 => zok1_172
  | 173 => zok1_173
  | 174 => zok1_174
  | 175 => zok1_175
  | 176 => zok1_176
  | 177 => zok1_177
  | 178 => zok1_178
  | 179 => zok1_179
  | 180 => zok1_180
  | 181 => zok1_181
  | 182 => zok1_182
  | 183 => zok1_183
  | 184 => zok1_184
  | 185 => zok1_185
  | 186 => zok1_186
  | _ + 187 => rfl
theorem zok2_all (m : Nat) : zall2 (zy m).cls (zcd m) := match m with
  | 0 => zok2_0
  | 1 => zok2_1
  | 2 => zok2_2
  | 3 => zok2_3
  | 4 => zok2_4
  | 5 => zok2_5
  | 6 => zok2_6
  | 7 => zok2_7
  | 8 => zok2_8
  | 9 => zok2_9
  | 10 => zok2_10
  | 11 => zok2_11
  | 12 => zok2_12
  | 13 => zok2_13
  | 14 => zok2_14
  | 15 => zok2_15
  | 16 => zok2_16
  | 17 => zok2_17
  | 18 => zok2_18
  | 19 => zok2_19
  | 20 => zok2_20
  | 21 => zok2_21
  | 22 => zok2_22
  | 23 => zok2_23
  | 24 => zok2_24
  | 25 => zok2_25
  | 26 => zok2_26
  | 27 => zok2_27
  | 28 => zok2_28
  | 29 => zok2_29
  | 30 => zok2_30
  | 31 => zok2_31
  | 32 => zok2_32
  | 33 => zok2_33
  | 34 => zok2_34
  | 35 => zok2_35
  | 36 => zok2_36
  | 37 => zok2_37
  | 38 => zok2_38
  | 39 => zok2_39
  | 40 => zok2_40
  | 41 => zok2_41
  | 42 => zok2_42
  | 43 => zok2_43
  | 44 => zok2_44
  | 45 => zok2_45
  | 46 => zok2_46
  | 47 => zok2_47
  | 48 => zok2_48
  | 49 => zok2_49
  | 50 => zok2_50
  | 51 => zok2_51
  | 52 => zok2_52
  | 53 => zok2_53
  | 54 => zok2_54
  | 55 => zok2_55
  | 56 => zok2_56
  | 57 => zok2_57
  | 58 => zok2_58
  | 59 => zok2_59
  | 60 => zok2_60
  | 61 => zok2_61
  | 62 => zok2_62
  | 63 => zok2_63
  | 64 => zok2_64
  | 65 => zok2_65
  | 66 => zok2_66
  | 67 => zok2_67
  | 68 => zok2_68
  | 69 => zok2_69
  | 70 => zok2_70
  | 71 => zok2_71
  | 72 => zok2_72
  | 73 => zok2_73
  | 74 => zok2_74
  | 75 => zok2_75
  | 76 => zok2_76
  | 77 => zok2_77
  | 78 => zok2_78
  | 79 => zok2_79
  | 80 => zok2_80
  | 81 => zok2_81
  | 82 => zok2_82
  | 83 => zok2_83
  | 84 => zok2_84
  | 85 => zok2_85
  | 86 => zok2_86
  | 87 => zok2_87
  | 88 => zok2_88
  | 89 => zok2_89
  | 90 => zok2_90
  | 91 => zok2_91
  | 92 => zok2_92
  | 93 => zok2_93
  | 94 => zok2_94
  | 95 => zok2_95
  | 96 => zok2_96
  | 97 => zok2_97
  | 98 => zok2_98
  | 99 => zok2_99
  | 100 => zok2_100
  | 101 => zok2_101
  | 102 => zok2_102
  | 103 => zok2_103
  | 104 => zok2_104
  | 105 => zok2_105
  | 106 => zok2_106
  | 107 => zok2_107
  | 108 => zok2_108
  | 109 => zok2_109
  | 110 => zok2_110
  | 111 => zok2_111
  | 112 => zok2_112
  | 113 => zok2_113
  | 114 => zok2_114
  | 115 => zok2_115
  | 116 => zok2_116
  | 117 => zok2_117
  | 118 => zok2_118
  | 119 => zok2_119
  | 120 => zok2_120
  | 121 => zok2_121
  | 122 => zok2_122
  | 123 => zok2_123
  | 124 => zok2_124
  | 125 => zok2_125
  | 126 => zok2_126
  | 127 => zok2_127
  | 128 => zok2_128
  | 129 => zok2_129
  | 130 => zok2_130
  | 131 => zok2_131
  | 132 => zok2_132
  | 133 => zok2_133
  | 134 => zok2_134
  | 135 => zok2_135
  | 136 => zok2_136
  | 137 => zok2_137
  | 138 => zok2_138
  | 139 => zok2_139
  | 140 => zok2_140
  | 141 => zok2_141
  | 142 => zok2_142
  | 143 => zok2_143
  | 144 => zok2_144
  | 145 => zok2_145
  | 146 => zok2_146
  | 147 => zok2_147
  | 148 => zok2_148
  | 149 => zok2_149
  | 150 => zok2_150
  | 151 => zok2_151
  | 152 => zok2_152
  | 153 => zok2_153
  | 154 => zok2_154
  | 155 => zok2_155
  | 156 => zok2_156
  | 157 => zok2_157
  | 158 => zok2_158
  | 159 => zok2_159
  | 160 => zok2_160
  | 161 => zok2_161
  | 162 => zok2_162
  | 163 => zok2_163
  | 164 => zok2_164
  | 165 => zok2_165
  | 166 => zok2_166
  | 167 => zok2_167
  | 168 => zok2_168
  | 169 => zok2_169
  | 170 => zok2_170
  | 171 => zok2_171
  | 172 => zok2_172
  | 173 => zok2_173
  | 174 => zok2_174
  | 175 => zok2_175
  | 176 => zok2_176
  | 177 => zok2_177
  | 178 => zok2_178
  | 179 => zok2_179
  | 180 => zok2_180
  | 181 => zok2_181
  | 182 => zok2_182
  | 183 => zok2_183
  | 184 => zok2_184
  | 185 => zok2_185
  | 186 => zok2_186
  | _ + 187 => trivial
theorem zcw_all (m : Nat) (h : m < 186) : Cond.code (zy m) (zby m) (zml m) (zrt m) ∈ zTs := match m, h with
  | 0, _ => zcw_0
  | 1, _ => zcw_1
  | 2, _ => zcw_2
  | 3, _ => zcw_3
  | 4, _ => zcw_4
  | 5, _ => zcw_5
  | 6, _ => zcw_6
  | 7, _ => zcw_7
  | 8, _ => zcw_8
  | 9, _ => zcw_9
  | 10, _ => zcw_10
  | 11, _ => zcw_11
  | 12, _ => zcw_12
  | 13, _ => zcw_13
  | 14, _ => zcw_14
  | 15, _ => zcw_15
  | 16, _ => zcw_16
  | 17, _ => zcw_17
  | 18, _ => zcw_18
  | 19, _ => zcw_19
  | 20, _ => zcw_20
  | 21, _ => zcw_21
  | 22, _ => zcw_22
  | 23, _ => zcw_23
  | 24, _ => zcw_24
  | 25, _ => zcw_25
  | 26, _ => zcw_26
  | 27, _ => zcw_27
  | 28, _ => zcw_28
  | 29, _ => zcw_29
  | 30, _ => zcw_30
  | 31, _ => zcw_31
  | 32, _ => zcw_32
  | 33, _ => zcw_33
  | 34, _ => zcw_34
  | 35, _ => zcw_35
  | 36, _ => zcw_36
  | 37, _ => zcw_37
  | 38, _ => zcw_38
  | 39, _ => zcw_39
  | 40, _ => zcw_40
  | 41, _ => zcw_41
  | 42, _ => zcw_42
  | 43, _ => zcw_43
  | 44, _ => zcw_44
  | 45, _ => zcw_45
  | 46, _ => zcw_46
  | 47, _ => zcw_47
  | 48, _ => zcw_48
  | 49, _ => zcw_49
  | 50, _ => zcw_50
  | 51, _ => zcw_51
  | 52, _ => zcw_52
  | 53, _ => zcw_53
  | 54, _ => zcw_54
  | 55, _ => zcw_55
  | 56, _ => zcw_56
  | 57, _ => zcw_57
  | 58, _ => zcw_58
  | 59, _ => zcw_59
  | 60, _ => zcw_60
  | 61, _ => zcw_61
  | 62, _ => zcw_62
  | 63, _ => zcw_63
  | 64, _ => zcw_64
  | 65, _ => zcw_65
  | 66, _ => zcw_66
  | 67, _ => zcw_67
  | 68, _ => zcw_68
  | 69, _ => zcw_69
  | 70, _ => zcw_70
  | 71, _ => zcw_71
  | 72, _ => zcw_72
  | 73, _ => zcw_73
  | 74, _ => zcw_74
  | 75, _ => zcw_75
  | 76, _ => zcw_76
  | 77, _ => zcw_77
  | 78, _ => zcw_78
  | 79, _ => zcw_79
  | 80, _ => zcw_80
  | 81, _ => zcw_81
  | 82, _ => zcw_82
  | 83, _ => zcw_83
  | 84, _ => zcw_84
  | 85, _ => zcw_85
  | 86, _ => zcw_86
  | 87, _ => zcw_87
  | 88, _ => zcw_88
  | 89, _ => zcw_89
  | 90, _ => zcw_90
  | 91, _ => zcw_91
  | 92, _ => zcw_92
  | 93, _ => zcw_93
  | 94, _ => zcw_94
  | 95, _ => zcw_95
  | 96, _ => zcw_96
  | 97, _ => zcw_97
  | 98, _ => zcw_98
  | 99, _ => zcw_99
  | 100, _ => zcw_100
  | 101, _ => zcw_101
  | 102, _ => zcw_102
  | 103, _ => zcw_103
  | 104, _ => zcw_104
  | 105, _ => zcw_105
  | 106, _ => zcw_106
  | 107, _ => zcw_107
  | 108, _ => zcw_108
  | 109, _ => zcw_109
  | 110, _ => zcw_110
  | 111, _ => zcw_111
  | 112, _ => zcw_112
  | 113, _ => zcw_113
  | 114, _ => zcw_114
  | 115, _ => zcw_115
  | 116, _ => zcw_116
  | 117, _ => zcw_117
  | 118, _ => zcw_118
  | 119, _ => zcw_119
  | 120, _ => zcw_120
  | 121, _ => zcw_121
  | 122, _ => zcw_122
  | 123, _ => zcw_123
  | 124, _ => zcw_124
  | 125, _ => zcw_125
  | 126, _ => zcw_126
  | 127, _ => zcw_127
  | 128, _ => zcw_128
  | 129, _ => zcw_129
  | 130, _ => zcw_130
  | 131, _ => zcw_131
  | 132, _ => zcw_132
  | 133, _ => zcw_133
  | 134, _ => zcw_134
  | 135, _ => zcw_135
  | 136, _ => zcw_136
  | 137, _ => zcw_137
  | 138, _ => zcw_138
  | 139, _ => zcw_139
  | 140, _ => zcw_140
  | 141, _ => zcw_141
  | 142, _ => zcw_142
  | 143, _ => zcw_143
  | 144, _ => zcw_144
  | 145, _ => zcw_145
  | 146, _ => zcw_146
  | 147, _ => zcw_147
  | 148, _ => zcw_148
  | 149, _ => zcw_149
  | 150, _ => zcw_150
  | 151, _ => zcw_151
  | 152, _ => zcw_152
  | 153, _ => zcw_153
  | 154, _ => zcw_154
  | 155, _ => zcw_155
  | 156, _ => zcw_156
  | 157, _ => zcw_157
  | 158, _ => zcw_158
  | 159, _ => zcw_159
  | 160, _ => zcw_160
  | 161, _ => zcw_161
  | 162, _ => zcw_162
  | 163, _ => zcw_163
  | 164, _ => zcw_164
  | 165, _ => zcw_165
  | 166, _ => zcw_166
  | 167, _ => zcw_167
  | 168, _ => zcw_168
  | 169, _ => zcw_169
  | 170, _ => zcw_170
  | 171, _ => zcw_171
  | 172, _ => zcw_172
  | 173, _ => zcw_173
  | 174, _ => zcw_174
  | 175, _ => zcw_175
  | 176, _ => zcw_176
  | 177, _ => zcw_177
  | 178, _ => zcw_178
  | 179, _ => zcw_179
  | 180, _ => zcw_180
  | 181, _ => zcw_181
  | 182, _ => zcw_182
  | 183, _ => zcw_183
  | 184, _ => zcw_184
  | 185, _ => zcw_185
  | n + 186, h => absurd h (by omega)
end
section
/-! ===== numbers ===== -/
theorem zi_of {a : Int32} {n : Int} (h : a.toInt = n) : a = Int32.ofInt n := by rw [← h, Int32.ofInt_toInt]
theorem zl_of {a : Int64} {n : Int} (h : a.toInt = n) : a = Int64.ofInt n := by rw [← h, Int64.ofInt_toInt]
theorem zi_to {n : Int} (h : zin n) : (Int32.ofInt n).toInt = n := Int32.toInt_ofInt_of_le (by have := h.1; omega) (by have := h.2; omega)
theorem zl_to {n : Int} (h : zin6 n) : (Int64.ofInt n).toInt = n := Int64.toInt_ofInt_of_le (by have := h.1; omega) (by have := h.2; omega)
theorem zin_32 (a : Int32) : zin a.toInt := ⟨by have := Int32.le_toInt a; omega, by have := Int32.toInt_lt a; omega⟩
theorem zbm {n : Int} (h : zin n) : n.bmod (2 ^ 32) = n := by
  have h1 := h.1
  have h2 := h.2
  rw [Int.bmod_def]
  split <;> omega
theorem zbm6 {n : Int} (h : zin6 n) : n.bmod (2 ^ 64) = n := by
  have h1 := h.1
  have h2 := h.2
  rw [Int.bmod_def]
  split <;> omega
theorem zw_bm (n : Int) : zw n = n.bmod (2 ^ 32) := by
  unfold zw
  rw [Int.bmod_def]
  split <;> omega
theorem zw_in (n : Int) : zin (zw n) := by unfold zw; constructor <;> omega
theorem zb_bm (n : Int) : zb n = n.bmod (2 ^ 8) := by
  unfold zb
  rw [Int.bmod_def]
  split <;> omega
theorem zb_in (n : Int) : zin (zb n) := by unfold zb; constructor <;> omega
theorem zn_add {a b : Int} (ha : zin a) (hb : zin b) (h : zin (a + b)) : Int32.ofInt a + Int32.ofInt b = Int32.ofInt (a + b) := zi_of (by rw [Int32.toInt_add, zi_to ha, zi_to hb, zbm h])
theorem zn_sub {a b : Int} (ha : zin a) (hb : zin b) (h : zin (a - b)) : Int32.ofInt a - Int32.ofInt b = Int32.ofInt (a - b) := zi_of (by rw [Int32.toInt_sub, zi_to ha, zi_to hb, zbm h])
theorem zn_mul {a b : Int} (ha : zin a) (hb : zin b) (h : zin (a * b)) : Int32.ofInt a * Int32.ofInt b = Int32.ofInt (a * b) := zi_of (by rw [Int32.toInt_mul, zi_to ha, zi_to hb, zbm h])
theorem zn_div {a b : Int} (ha : zin a) (hb : zin b) (h : zin (a.tdiv b)) : Int32.ofInt a / Int32.ofInt b = Int32.ofInt (a.tdiv b) := zi_of (by rw [Int32.toInt_div, zi_to ha, zi_to hb, zbm h])
theorem zin_tmod {a b : Int} (ha : zin a) (hb : zin b) (h : b ≠ 0) : zin (a.tmod b) := by
  have h1 : (a.tmod b).natAbs ≤ a.natAbs := by
    rw [Int.natAbs_tmod]
    exact Nat.mod_le _ _
  have h2 : (a.tmod b).natAbs < b.natAbs := by
    rw [Int.natAbs_tmod]
    exact Nat.mod_lt _ (by omega)
  have h3 := ha.1; have h4 := ha.2; have h5 := hb.1; have h6 := hb.2
  constructor <;> omega
theorem zn_rem {a b : Int} (ha : zin a) (hb : zin b) (h : b ≠ 0) : Int32.ofInt a - Int32.ofInt a / Int32.ofInt b * Int32.ofInt b = Int32.ofInt (a.tmod b) := zi_of (by
  have h1 := zbm (zin_tmod ha hb h)
  rw [Int32.toInt_sub, Int32.toInt_mul, Int32.toInt_div, zi_to ha, zi_to hb]
  rw [Int.bmod_mul_bmod, Int.sub_bmod_bmod, Int.mul_comm, ← Int.tmod_def, h1])
theorem zn_neg {a : Int} (ha : zin a) : -(Int32.ofInt a) = Int32.ofInt (zw (-a)) := zi_of (by rw [Int32.toInt_neg, zi_to ha, zw_bm])
theorem zl_add {a b : Int} (ha : zin6 a) (hb : zin6 b) (h : zin6 (a + b)) : Int64.ofInt a + Int64.ofInt b = Int64.ofInt (a + b) := zl_of (by rw [Int64.toInt_add, zl_to ha, zl_to hb, zbm6 h])
theorem zl_sub {a b : Int} (ha : zin6 a) (hb : zin6 b) (h : zin6 (a - b)) : Int64.ofInt a - Int64.ofInt b = Int64.ofInt (a - b) := zl_of (by rw [Int64.toInt_sub, zl_to ha, zl_to hb, zbm6 h])
theorem zl_mul {a b : Int} (ha : zin6 a) (hb : zin6 b) (h : zin6 (a * b)) : Int64.ofInt a * Int64.ofInt b = Int64.ofInt (a * b) := zl_of (by rw [Int64.toInt_mul, zl_to ha, zl_to hb, zbm6 h])
theorem zl_cmp {a b : Int} (ha : zin6 a) (hb : zin6 b) : lg_cmp (Int64.ofInt a) (Int64.ofInt b) = Int32.ofInt (zcmp a b) := by
  unfold lg_cmp zcmp
  simp only [gt_iff_lt, Int64.lt_iff_toInt_lt, ← Int64.toInt_inj, zl_to ha, zl_to hb]
  by_cases h1 : a < b
  · rw [if_pos h1, if_neg (by omega), if_neg (by omega)]; rfl
  · rw [if_neg h1]
    by_cases h2 : a = b
    · rw [if_pos h2, if_neg (by omega), if_pos h2]; rfl
    · rw [if_pos (by omega), if_neg h2]; rfl
theorem zn_i2l {a : Int} (ha : zin a) : (Int32.ofInt a).toInt64 = Int64.ofInt a := zl_of (by rw [Int32.toInt_toInt64, zi_to ha])
theorem zn_l2i {a : Int} (ha : zin6 a) : (Int64.ofInt a).toInt32 = Int32.ofInt (zw a) := zi_of (by rw [Int64.toInt_toInt32, zl_to ha, zw_bm])
theorem zn_i2b {a : Int} (ha : zin a) : (Int32.ofInt a).toInt8.toInt32 = Int32.ofInt (zb a) := zi_of (by rw [Int8.toInt_toInt32, Int32.toInt_toInt8, zi_to ha, zb_bm])
theorem zn_u16 (x : Int32) : (x.toUInt32 % 65536).toInt32.toInt = x.toInt % 65536 := by
  have h1 : (x.toUInt32 % 65536).toInt32.toInt = ((x.toUInt32 % 65536).toInt32.toBitVec).toInt := rfl
  have h2 : (x.toUInt32 % 65536).toInt32.toBitVec = x.toBitVec % 65536#32 := rfl
  have h3 : x.toInt = x.toBitVec.toInt := rfl
  rw [h1, h2, h3, BitVec.toInt_eq_toNat_cond, BitVec.toInt_eq_toNat_cond, BitVec.toNat_umod]
  have h4 := x.toBitVec.isLt
  have h5 : (65536#32).toNat = 65536 := rfl
  rw [h5]
  split <;> split <;> omega
theorem zn_i2c {a : Int} (ha : zin a) : ((Int32.ofInt a).toUInt32 % 65536).toInt32 = Int32.ofInt (a % 65536) := zi_of (by rw [zn_u16, zi_to ha])
theorem zn_char (x : Int32) : x.toUInt32.toUInt16.toUInt32.toInt32 = (x.toUInt32 % 65536).toInt32 := by
  congr 1
theorem zn_bool (x : Int32) : (x &&& 1).toInt = x.toInt % 2 := by
  have h1 : (x &&& 1).toInt = (x.toBitVec &&& 1#32).toInt := rfl
  have h3 : x.toInt = x.toBitVec.toInt := rfl
  have h6 : (x.toBitVec &&& 1#32).toNat = x.toBitVec.toNat % 2 := by
    rw [BitVec.toNat_and]
    exact Nat.and_one_is_mod _
  rw [h1, h3, BitVec.toInt_eq_toNat_cond, BitVec.toInt_eq_toNat_cond, h6]
  have h4 := x.toBitVec.isLt
  split <;> split <;> omega
theorem zn_lt {a b : Int} (ha : zin a) (hb : zin b) : Int32.ofInt a < Int32.ofInt b ↔ a < b := by rw [Int32.lt_iff_toInt_lt, zi_to ha, zi_to hb]
theorem zn_le {a b : Int} (ha : zin a) (hb : zin b) : Int32.ofInt a ≤ Int32.ofInt b ↔ a ≤ b := by rw [Int32.le_iff_toInt_le, zi_to ha, zi_to hb]
theorem zn_eq {a b : Int} (ha : zin a) (hb : zin b) : Int32.ofInt a = Int32.ofInt b ↔ a = b := by rw [← Int32.toInt_inj, zi_to ha, zi_to hb]
theorem zn_nat {a : Int} (ha : zin a) : (Int32.ofInt a).toNatClampNeg = a.toNat := by
  show (Int32.ofInt a).toInt.toNat = a.toNat
  rw [zi_to ha]
theorem zn_vin {a : Int} {n : Nat} (ha : zin a) (h0 : 0 ≤ a) (h1 : a < n) : vp_in (Int32.ofInt a) n := vp_in_iff.mpr (by rw [zi_to ha]; exact ⟨h0, h1⟩)
theorem zin_z : zin 0 := ⟨by decide, by decide⟩
end
section
/-! ===== what a value, the locals, the stack, the heap are to the small machine ===== -/
def zarr (ca : Nat → ClassId) : List (ClassId × FieldType) := [(ca 0, .int), (ca 1, .char), (ca 2, .byte), (ca 3, .object "FrameDeltas$State"), (ca 4, .object "FrameDeltas$Frame")]
def ztl : List Nat := (List.range 10).map fun i => (ztext i).length
def ztb : List (List Int32) := (List.range 10).map fun i => (ztext i).map Int32.ofInt
def ztx : Nat → String
  | 0 => "fill" | 1 => "box" | 2 => "shift" | 3 => "swap" | 4 => "frame" | 5 => "v" | 6 => "llllv" | 7 => "ww" | 8 => "vv" | _ => "f"
def zrv (b0 : Nat) (adK adV : Nat → Nat) (bS : Nat) (w : mzV) (v : Value) : Prop := match w with
  | none => False
  | some (.inl n) => zin n ∧ v = .int (Int32.ofInt n)
  | some (.inr (.inl n)) => zin6 n ∧ v = .long (Int64.ofInt n)
  | some (.inr (.inr (t, i))) => (t = 99 ∧ v = .null) ∨ (t = 98 ∧ (v = .null ∨ ∃ a, v = .ref a)) ∨ (t = 30 ∧ 0 ≤ i ∧ i < 10 ∧ v = .ref (adK i.toNat)) ∨ (t = 31 ∧ 0 ≤ i ∧ i < 10 ∧ v = .ref (adV i.toNat)) ∨ (t = 32 ∧ i = 0 ∧ v = .ref bS) ∨ (0 ≤ i ∧ i.toNat < zcnt t ∧ v = .ref (b0 + zpos t i.toNat))
def zrs (b0 : Nat) (adK adV : Nat → Nat) (bS : Nat) (st : List mzV) (sa : List Value) : Prop := st.length = sa.length ∧ ∀ (i : Nat) (w : mzV) (v : Value), st[i]? = some w → sa[i]? = some v → zrv b0 adK adV bS w v
def zrl (b0 : Nat) (adK adV : Nat → Nat) (bS : Nat) (ls : List mzV) (la : Array Slot) : Prop := la.size = ls.length ∧ lv_wf la ∧ ∀ (i : Nat) (w : Int ⊕ (Int ⊕ (Nat × Int))), ls[i]? = some (some w) → ∃ v, zrv b0 adK adV bS (some w) v ∧ la[i]? = some (.val v)
def zlgo (mi : Nat) (ls : List mzV) : Prop := ls.length = zml mi ∧ ∀ (i : Nat) (n : Int), ls[i]? = some (some (.inr (.inl n))) → zlg mi i = true
/-- the numbers of a memory, and the script in it -/
def zM (L : Nat) (xs : Nat → Int32) (μ : mzM) : Prop := (∀ t i k, t ≠ 33 → zin (μ t i k)) ∧ (∀ i k, zin6 (μ 33 i k)) ∧ μ 33 0 1 = (L : Int) ∧ ∀ j : Nat, j < L → μ 32 0 (j : Int) = (xs j).toInt
/-- what stays as it is, at a state: the classes, the texts, the script, the statics, the nest mates' words -/
def zBk (b0 : Nat) (D : va_G) (ca : Nat → ClassId) (adK adV : Nat → Nat) (bS L : Nat) (xs : Nat → Int32) (U : State) : Prop :=
  va_K D zcl (zarr ca) U ∧ vk_S 10 ztl ztb adK adV (fun q => b0 ≤ q) U U.heap ∧ va_X bS L xs U U.heap ∧ (bS < b0 ∧ b0 ≤ U.heap.size ∧ L < 2 ^ 31) ∧ va_Z "java/lang/String" "COMPACT_STRINGS" "Z" (.int 1) (fun q => b0 ≤ q) U U.heap ∧
  va_Zq "jdk/internal/util/Preconditions" "SIOOBE_FORMATTER" "Ljava/util/function/BiFunction;" (fun q => b0 ≤ q) U U.heap ∧ (∀ i : Nat, i < 10 → vk_R "FrameDeltas$Script" (zstx i) (ztx i) (adK i) U) ∧ ∀ w ∈ zNs, va_Nw w U
def zB (b0 : Nat) (D : va_G) (ca : Nat → ClassId) (adK adV : Nat → Nat) (bS L : Nat) (xs : Nat → Int32) (μ : mzM) (U : State) : Prop := zBk b0 D ca adK adV bS L xs U ∧ va_P D zcl (zws b0 ca μ) U.heap ∧ zM L xs μ
def zrO (b0 : Nat) (adK adV : Nat → Nat) (bS : Nat) (r : Option mzV) (v : Option Value) : Prop := match r, v with
  | none, none => True
  | some w, some v => zrv b0 adK adV bS w v
  | _, _ => False
def zQc (b0 : Nat) (D : va_G) (ca : Nat → ClassId) (adK adV : Nat → Nat) (bS L : Nat) (xs : Nat → Int32) (r : Option mzV) (ν : mzM) : Array Value → State → Outcome → State → Prop := fun _ st o t =>
  (∃ v : Option Value, o = .returned v ∧ zrO b0 adK adV bS r v) ∧ va_P D zcl (zws b0 ca ν) t.heap ∧ zM L xs ν ∧ va_F (fun q => b0 ≤ q) st t
def zwf (f : Nat) : List Cond := .code (zy f) (zby f) (zml f) (zrt f) :: zTs
def zrm (f : Nat) : Room := { frames := zfr f, cells := 0, slots := 0, locals := zlo f }
/-- the contract of method f on these arguments and this memory -/
def zMet (l : Launch) (b0 : Nat) (D : va_G) (ca : Nat → ClassId) (adK adV : Nat → Nat) (bS L : Nat) (xs : Nat → Int32) (f : Nat) (as : List mzV) (μ : mzM) (r : Option mzV) (ν : mzM) : Prop :=
  ∀ av : List Value, zrs b0 adK adV bS as av → Met l (zy f) (zwf f) (zrm f) (va_Pc av (zB b0 D ca adK adV bS L xs μ)) (zQc b0 D ca adK adV bS L xs r ν) 0 0 (fun q => b0 ≤ q)
section Rel
variable {b0 : Nat} {D : va_G} {ca : Nat → ClassId} {adK adV : Nat → Nat} {bS L : Nat} {xs : Nat → Int32}
theorem zrs_nil : zrs b0 adK adV bS [] [] := ⟨rfl, fun i w v h _ => by simp at h⟩
theorem zrs_cons {w : mzV} {v : Value} {st : List mzV} {sa : List Value} (h : zrv b0 adK adV bS w v) (hs : zrs b0 adK adV bS st sa) : zrs b0 adK adV bS (w :: st) (v :: sa) := by
  refine ⟨by simp [hs.1], fun i w' v' h1 h2 => ?_⟩
  cases i with
  | zero => simp at h1 h2; rw [← h1, ← h2]; exact h
  | succ i => simp at h1 h2; exact hs.2 i w' v' h1 h2
theorem zrs_un {w : mzV} {st : List mzV} {sa : List Value} (h : zrs b0 adK adV bS (w :: st) sa) : ∃ v ra, sa = v :: ra ∧ zrv b0 adK adV bS w v ∧ zrs b0 adK adV bS st ra := by
  cases sa with
  | nil => have := h.1; simp at this
  | cons v ra => exact ⟨v, ra, rfl, h.2 0 w v rfl rfl, by have := h.1; simpa using this, fun i w' v' h1 h2 => h.2 (i + 1) w' v' (by simpa using h1) (by simpa using h2)⟩
theorem zrs_unI {n : Int} {st : List mzV} {sa : List Value} (h : zrs b0 adK adV bS (some (.inl n) :: st) sa) : ∃ ra, sa = .int (Int32.ofInt n) :: ra ∧ zin n ∧ zrs b0 adK adV bS st ra := by
  obtain ⟨v, ra, h1, h2, h3⟩ := zrs_un h
  exact ⟨ra, by rw [h1, h2.2], h2.1, h3⟩
theorem zrs_unL {n : Int} {st : List mzV} {sa : List Value} (h : zrs b0 adK adV bS (some (.inr (.inl n)) :: st) sa) : ∃ ra, sa = .long (Int64.ofInt n) :: ra ∧ zin6 n ∧ zrs b0 adK adV bS st ra := by
  obtain ⟨v, ra, h1, h2, h3⟩ := zrs_un h
  exact ⟨ra, by rw [h1, h2.2], h2.1, h3⟩
theorem zrv_I {n : Int} (h : zin n) : zrv b0 adK adV bS (vI n) (.int (Int32.ofInt n)) := ⟨h, rfl⟩
theorem zrv_L {n : Int} (h : zin6 n) : zrv b0 adK adV bS (vL n) (.long (Int64.ofInt n)) := ⟨h, rfl⟩
theorem zrv_R {t : Nat} {i : Int} (h0 : 0 ≤ i) (h : i.toNat < zcnt t) : zrv b0 adK adV bS (vR t i) (.ref (b0 + zpos t i.toNat)) := Or.inr (Or.inr (Or.inr (Or.inr (Or.inr ⟨h0, h, rfl⟩))))
theorem zcnt_hi {t : Nat} (h : 30 ≤ t) : zcnt t = 0 := by
  obtain ⟨k, rfl⟩ := Nat.exists_eq_add_of_le h
  rw [Nat.add_comm]
  rfl
/-- a place of the heap's own kinds -/
theorem zrv_unR {t : Nat} {i : Int} {v : Value} (h : zrv b0 adK adV bS (some (.inr (.inr (t, i)))) v) (ht : t < 30) : 0 ≤ i ∧ i.toNat < zcnt t ∧ v = .ref (b0 + zpos t i.toNat) := by
  rcases h with h | h | h | h | h | h
  · omega
  · omega
  · omega
  · omega
  · omega
  · exact h
theorem zrv_un30 {i : Int} {v : Value} (h : zrv b0 adK adV bS (some (.inr (.inr (30, i)))) v) : 0 ≤ i ∧ i < 10 ∧ v = .ref (adK i.toNat) := by
  rcases h with h | h | h | h | h | h
  · omega
  · omega
  · exact h.2
  · omega
  · omega
  · exact absurd h.2.1 (by rw [zcnt_hi (Nat.le_refl 30)]; omega)
theorem zrv_un31 {i : Int} {v : Value} (h : zrv b0 adK adV bS (some (.inr (.inr (31, i)))) v) : 0 ≤ i ∧ i < 10 ∧ v = .ref (adV i.toNat) := by
  rcases h with h | h | h | h | h | h
  · omega
  · omega
  · omega
  · exact h.2
  · omega
  · exact absurd h.2.1 (by rw [zcnt_hi (by omega)]; omega)
theorem zrv_un32 {i : Int} {v : Value} (h : zrv b0 adK adV bS (some (.inr (.inr (32, i)))) v) : i = 0 ∧ v = .ref bS := by
  rcases h with h | h | h | h | h | h
  · omega
  · omega
  · omega
  · omega
  · exact h.2
  · exact absurd h.2.1 (by rw [zcnt_hi (by omega)]; omega)
/-- null, or a reference -/
theorem zrv_ref {t : Nat} {i : Int} {v : Value} (h : zrv b0 adK adV bS (some (.inr (.inr (t, i)))) v) : v = .null ∨ ∃ a, v = .ref a := by
  rcases h with h | h | h | h | h | h
  · exact Or.inl h.2
  · exact h.2
  · exact Or.inr ⟨_, h.2.2.2⟩
  · exact Or.inr ⟨_, h.2.2.2⟩
  · exact Or.inr ⟨_, h.2.2⟩
  · exact Or.inr ⟨_, h.2.2⟩
theorem zrv_null {t : Nat} {i : Int} {v : Value} (h : zrv b0 adK adV bS (some (.inr (.inr (t, i)))) v) (h1 : t = 99) : v = .null := by
  subst h1
  rcases h with h | h | h | h | h | h
  · exact h.2
  · omega
  · omega
  · omega
  · omega
  · exact absurd h.2.1 (by rw [zcnt_hi (by omega)]; omega)
theorem zrv_nn {t : Nat} {i : Int} {v : Value} (h : zrv b0 adK adV bS (some (.inr (.inr (t, i)))) v) (h1 : t ≠ 99) (h2 : t ≠ 98) : ∃ a, v = .ref a := by
  rcases h with h | h | h | h | h | h
  · exact absurd h.1 h1
  · exact absurd h.1 h2
  · exact ⟨_, h.2.2.2⟩
  · exact ⟨_, h.2.2.2⟩
  · exact ⟨_, h.2.2⟩
  · exact ⟨_, h.2.2⟩
theorem zrv_cat {w : mzV} {v : Value} (h : zrv b0 adK adV bS w v) : v.category = (match zisL w with | true => 2 | false => 1) := by
  rcases w with _ | n | n | ⟨t, i⟩
  · exact absurd h id
  · rw [h.2]; rfl
  · rw [h.2]; rfl
  · rcases zrv_ref h with h | ⟨a, h⟩ <;> rw [h] <;> rfl
theorem zrs_words : ∀ {st : List mzV} {sa : List Value}, zrs b0 adK adV bS st sa → (sa.map fun v => v.category).sum = zwords st
  | [], sa, h => by
    have h0 : sa = [] := by have := h.1; cases sa with | nil => rfl | cons _ _ => simp at this
    subst h0
    rfl
  | w :: st, sa, h => by
    obtain ⟨v, ra, rfl, h1, h2⟩ := zrs_un h
    simp only [List.map_cons, List.sum_cons, zwords]
    rw [zrs_words h2, zrv_cat h1]
    cases zisL w <;> rfl
theorem zrs_take {st : List mzV} {sa : List Value} (n : Nat) (h : zrs b0 adK adV bS st sa) : zrs b0 adK adV bS (st.take n) (sa.take n) := by
  refine ⟨by simp [h.1], fun i w v h1 h2 => ?_⟩
  rw [List.getElem?_take] at h1 h2
  split at h1
  · next hi => rw [if_pos hi] at h2; exact h.2 i w v h1 h2
  · cases h1
theorem zrs_drop {st : List mzV} {sa : List Value} (n : Nat) (h : zrs b0 adK adV bS st sa) : zrs b0 adK adV bS (st.drop n) (sa.drop n) := by
  refine ⟨by simp [h.1], fun i w v h1 h2 => ?_⟩
  rw [List.getElem?_drop] at h1 h2
  exact h.2 _ w v h1 h2
theorem zrs_rev {st : List mzV} {sa : List Value} (h : zrs b0 adK adV bS st sa) : zrs b0 adK adV bS st.reverse sa.reverse := by
  refine ⟨by simp [h.1], fun i w v h1 h2 => ?_⟩
  have hi : i < st.length := by have := (List.getElem?_eq_some_iff.mp h1).1; simpa using this
  rw [List.getElem?_reverse hi] at h1
  rw [List.getElem?_reverse (by rw [← h.1]; exact hi)] at h2
  rw [← h.1] at h2
  exact h.2 _ w v h1 h2
theorem zrs_push {r : Option mzV} {v : Option Value} {st : List mzV} {sa : List Value} (h : zrO b0 adK adV bS r v) (hs : zrs b0 adK adV bS st sa) : zrs b0 adK adV bS (zpush r st) (v.toList ++ sa) := by
  cases r with
  | none => cases v with
    | none => exact hs
    | some v => exact absurd h id
  | some w => cases v with
    | none => exact absurd h id
    | some v => exact zrs_cons h hs
/-- the listed values of some locals -/
def zlv (la : Array Slot) : List (Nat × Value) := (List.range la.size).filterMap fun i => match la[i]? with | some (Slot.val v) => some (i, v) | _ => none
theorem zlv_mem {la : Array Slot} {i : Nat} {v : Value} : (i, v) ∈ zlv la ↔ la[i]? = some (.val v) := by
  unfold zlv
  rw [List.mem_filterMap]
  constructor
  · rintro ⟨j, -, h⟩
    split at h
    · next v' hv => cases h; exact hv
    · cases h
  · intro h
    refine ⟨i, List.mem_range.mpr (Array.getElem?_eq_some_iff.mp h).1, ?_⟩
    rw [h]
theorem zlv_has {la : Array Slot} (h : lv_wf la) : lv_has la la.size (zlv la) := ⟨rfl, h, fun q hq => zlv_mem.mp hq⟩
/-- a store of one word into a local -/
theorem zrl_set {mi : Nat} {ls : List mzV} {la la' : Array Slot} {i : Nat} {v : Value} {w : Int ⊕ (Int ⊕ (Nat × Int))} (h : zrl b0 adK adV bS ls la) (hg : zlgo mi ls) (hi : zsto mi i = true) (hv : zrv b0 adK adV bS (some w) v) (hw : zisL (some w) = false)
    (h' : lv_has la' la.size ((i, v) :: (zlv la).filter (fun q => !(q.1 == i) && !(q.1 + 1 == i && q.2.category == 2)))) : zrl b0 adK adV bS (ls.set i (some w)) la' ∧ zlgo mi (ls.set i (some w)) := by
  have hil : i < ls.length := by
    rw [hg.1]
    unfold zsto at hi
    simp only [Bool.and_eq_true] at hi
    exact Nat.blt_eq.mp hi.1
  refine ⟨⟨by rw [List.length_set, ← h.1]; exact h'.1, h'.2.1, fun j x hj => ?_⟩, by rw [List.length_set]; exact hg.1, fun j n hj => ?_⟩
  · by_cases hji : j = i
    · subst hji
      rw [List.getElem?_set_self hil] at hj
      cases hj
      exact ⟨v, hv, h'.2.2 (j, v) List.mem_cons_self⟩
    · rw [List.getElem?_set_ne (Ne.symm hji)] at hj
      obtain ⟨u, hu, hl⟩ := h.2.2 j x hj
      refine ⟨u, hu, h'.2.2 (j, u) (List.mem_cons_of_mem _ (List.mem_filter.mpr ⟨zlv_mem.mpr hl, ?_⟩))⟩
      simp only [Bool.and_eq_true, Bool.not_eq_true', beq_eq_false_iff_ne, ne_eq, Bool.and_eq_false_iff]
      refine ⟨hji, ?_⟩
      by_cases hj1 : j + 1 = i
      · right
        intro hc
        rw [zrv_cat hu] at hc
        have hl2 : zisL (some x) = true := by
          cases hx : zisL (some x) with
          | true => rfl
          | false => rw [hx] at hc; exact absurd hc (by decide)
        rcases x with n | n | ⟨t, k⟩
        · cases hl2
        · have := hg.2 j n hj
          subst hj1
          unfold zsto at hi
          simp only [Bool.and_eq_true, Bool.not_eq_true'] at hi
          rw [this] at hi
          exact absurd hi.2 (by decide)
        · cases hl2
      · exact Or.inl hj1
  · by_cases hji : j = i
    · subst hji
      rw [List.getElem?_set_self hil] at hj
      cases hj
      cases hw
    · rw [List.getElem?_set_ne (Ne.symm hji)] at hj
      exact hg.2 j n hj
end Rel
end
section
theorem zfl_p {A : Prop} {q : Bool} {h : Decidable A} (hh : (@decide A h && q) = true) : A := of_decide_eq_true (Bool.and_eq_true_iff.mp hh).1
theorem zdk_p {bs : ByteArray} {pc : Nat} {I : Instr} (h : zdk bs pc I = true) : (∃ d lo hi os, I = .tableswitch d lo hi os) ∨ decode bs pc = .ok (I, zil I) := by
  unfold zdk at h
  split at h
  · exact Or.inl ⟨_, _, _, _, rfl⟩
  · exact Or.inr (of_decide_eq_true h)
theorem zgt_p {C : List mzN} {pc : Nat} {off : Int} {a : Nat} (h : zgt C pc off a = true) : (pc : Int) + off = (zpcs C a : Int) := zfl_p h
theorem ztag_ok : ∀ t, t < 30 → 0 < zcnt t → zrow t = 0 → (zcl[zci t]?).map (fun q => q.1) = some (zcname t) := by decide +kernel
theorem zrow_hi {t : Nat} (h : 33 ≤ t) : zrow t = 0 := by
  obtain ⟨k, rfl⟩ := Nat.exists_eq_add_of_le h
  rw [Nat.add_comm]
  rfl
theorem zrow_lt {t w : Nat} (h : zrow t = w) (h0 : w ≠ 0) : t < 33 := by
  rcases Nat.lt_or_ge t 33 with q | q
  · exact q
  · rw [zrow_hi q] at h; exact absurd h.symm h0
theorem zrow_a : ∀ t, t < 33 → (zrow t = 1 → t < 30 ∧ zac t = 0) ∧ (zrow t = 2 → t < 30 ∧ zac t = 1) ∧ (zrow t = 3 → t < 30 ∧ zac t = 2) ∧ (zrow t = 4 → t = 6 ∨ t = 7) ∧ (zrow t = 5 → t = 31) ∧ (zrow t = 6 → t = 32) := by decide +kernel
theorem zlen_n : ∀ t, t < 30 → zrow t ≠ 0 → ∀ (i : Int) (μ : mzM), zlen t i μ = (zln t : Int) := by
  intro t ht h0 i μ
  match t, ht, h0 with
  | 0, _, h0 => exact absurd rfl h0
  | 1, _, h0 => exact absurd rfl h0
  | 2, _, h0 => exact absurd rfl h0
  | 3, _, h0 => exact absurd rfl h0
  | 4, _, _ => exact rfl
  | 5, _, _ => exact rfl
  | 6, _, _ => exact rfl
  | 7, _, _ => exact rfl
  | 8, _, h0 => exact absurd rfl h0
  | 9, _, _ => exact rfl
  | 10, _, _ => exact rfl
  | 11, _, h0 => exact absurd rfl h0
  | 12, _, h0 => exact absurd rfl h0
  | 13, _, _ => exact rfl
  | 14, _, _ => exact rfl
  | 15, _, h0 => exact absurd rfl h0
  | 16, _, _ => exact rfl
  | 17, _, _ => exact rfl
  | 18, _, _ => exact rfl
  | 19, _, h0 => exact absurd rfl h0
  | 20, _, h0 => exact absurd rfl h0
  | 21, _, _ => exact rfl
  | 22, _, _ => exact rfl
  | 23, _, _ => exact rfl
  | 24, _, _ => exact rfl
  | 25, _, _ => exact rfl
  | 26, _, _ => exact rfl
  | 27, _, _ => exact rfl
  | 28, _, _ => exact rfl
  | 29, _, _ => exact rfl
  | n + 30, h, _ => exact absurd h (by omega)
theorem zln_lt : ∀ t, t < 30 → zln t < 20000 := by decide +kernel
theorem zfl_ref : ∀ t, t < 30 → ∀ q ∈ zfl t, q.1 = 3 → ∀ i, i < zcnt t → 0 ≤ zlead q.2.2.1 q.2.2.2 (i : Int) ∧ (zlead q.2.2.1 q.2.2.2 (i : Int)).toNat < zcnt q.2.1 := by decide +kernel
theorem zfl_mem : ∀ t, t < 30 → ∀ q ∈ zfl t, q.1 = 3 ∨ (q.2.1 ≠ 32 ∧ (q.2.1 ≠ 33 ∨ (q.1 = 2 ∧ q.2.2.2 = 0)) ∧ (q.1 ≠ 2 ∨ q.2.1 = 33)) := by decide +kernel
theorem ztb_ok : ∀ i, i < 10 → ztl.getD i 0 = (ztext i).length ∧ ∀ j, j < (ztext i).length → (ztb.getD i []).getD j 0 = Int32.ofInt ((ztext i).getD j 0) ∧ -128 ≤ (ztext i).getD j 0 ∧ (ztext i).getD j 0 ≤ 127 := by decide +kernel
/-- what the tables say of a class of ours -/
def zcls (t : Nat) (C : String) (T : u_T) (N : Nat) (ty : Nat → FieldType) : Prop := zcl[zci t]? = some (C, T, N) ∧ zrec t = (C, T, N) ∧ (∀ w ∈ u_ws C T N, w ∈ zTs) ∧ (∀ k, k < N → parseFieldDescriptor (T k).2.2.1 = some (ty k)) ∧ (∀ a, a < N → ∀ b, b < N → a ≠ b → (T a).2.1 ≠ (T b).2.1) ∧ N = (zfl t).length ∧ (∀ k, k < N → (T k).1 = C) ∧
  ∀ k, k < N → ((zfa t k).1 = 0 → ty k = .int ∧ (T k).2.2.2 = false) ∧ ((zfa t k).1 = 1 → ty k = .boolean ∧ (T k).2.2.2 = false) ∧ ((zfa t k).1 = 2 → ty k = .long ∧ (T k).2.2.2 = false)
theorem zcls_0 : zcls 0 zR_0 zF_0 10 zty_0 := ⟨rfl, rfl, fun w h => zTs_l (zin_0 w h) (List.all_eq_true.mp zgd_0 w h), zty_0_ok, znm_0, rfl, by decide +kernel, by decide +kernel⟩
theorem zcls_1 : zcls 1 zR_1 zF_1 7 zty_1 := ⟨rfl, rfl, fun w h => zTs_l (zin_1 w h) (List.all_eq_true.mp zgd_1 w h), zty_1_ok, znm_1, rfl, by decide +kernel, by decide +kernel⟩
theorem zcls_2 : zcls 2 zR_2 zF_2 5 zty_2 := ⟨rfl, rfl, fun w h => zTs_l (zin_2 w h) (List.all_eq_true.mp zgd_2 w h), zty_2_ok, znm_2, rfl, by decide +kernel, by decide +kernel⟩
theorem zcls_3 : zcls 3 zR_3 zF_3 3 zty_3 := ⟨rfl, rfl, fun w h => zTs_l (zin_3 w h) (List.all_eq_true.mp zgd_3 w h), zty_3_ok, znm_3, rfl, by decide +kernel, by decide +kernel⟩
theorem zcls_8 : zcls 8 zR_8 zF_8 8 zty_8 := ⟨rfl, rfl, fun w h => zTs_l (zin_8 w h) (List.all_eq_true.mp zgd_8 w h), zty_8_ok, znm_8, rfl, by decide +kernel, by decide +kernel⟩
theorem zcls_11 : zcls 11 zR_11 zF_11 4 zty_11 := ⟨rfl, rfl, fun w h => zTs_l (zin_11 w h) (List.all_eq_true.mp zgd_11 w h), zty_11_ok, znm_11, rfl, by decide +kernel, by decide +kernel⟩
theorem zcls_12 : zcls 12 zR_12 zF_12 3 zty_12 := ⟨rfl, rfl, fun w h => zTs_l (zin_12 w h) (List.all_eq_true.mp zgd_12 w h), zty_12_ok, znm_12, rfl, by decide +kernel, by decide +kernel⟩
theorem zcls_15 : zcls 15 zR_15 zF_15 4 zty_15 := ⟨rfl, rfl, fun w h => zTs_l (zin_15 w h) (List.all_eq_true.mp zgd_15 w h), zty_15_ok, znm_15, rfl, by decide +kernel, by decide +kernel⟩
theorem zcls_20 : zcls 20 zR_20 zF_20 18 zty_20 := ⟨rfl, rfl, fun w h => zTs_l (zin_20 w h) (List.all_eq_true.mp zgd_20 w h), zty_20_ok, znm_20, rfl, by decide +kernel, by decide +kernel⟩
theorem zcls_of {t : Nat} (ht : t < 30) (h : 0 < zcnt t) (h0 : zrow t = 0) : ∃ C T N ty, zcls t C T N ty := by
  match t, ht, h, h0 with
  | 0, _, _, _ => exact ⟨_, _, _, _, zcls_0⟩
  | 1, _, _, _ => exact ⟨_, _, _, _, zcls_1⟩
  | 2, _, _, _ => exact ⟨_, _, _, _, zcls_2⟩
  | 3, _, _, _ => exact ⟨_, _, _, _, zcls_3⟩
  | 4, _, h, h0 => exact absurd (And.intro h h0) (by decide)
  | 5, _, h, h0 => exact absurd (And.intro h h0) (by decide)
  | 6, _, h, h0 => exact absurd (And.intro h h0) (by decide)
  | 7, _, h, h0 => exact absurd (And.intro h h0) (by decide)
  | 8, _, _, _ => exact ⟨_, _, _, _, zcls_8⟩
  | 9, _, h, h0 => exact absurd (And.intro h h0) (by decide)
  | 10, _, h, h0 => exact absurd (And.intro h h0) (by decide)
  | 11, _, _, _ => exact ⟨_, _, _, _, zcls_11⟩
  | 12, _, _, _ => exact ⟨_, _, _, _, zcls_12⟩
  | 13, _, h, h0 => exact absurd (And.intro h h0) (by decide)
  | 14, _, h, h0 => exact absurd (And.intro h h0) (by decide)
  | 15, _, _, _ => exact ⟨_, _, _, _, zcls_15⟩
  | 16, _, h, h0 => exact absurd (And.intro h h0) (by decide)
  | 17, _, h, h0 => exact absurd (And.intro h h0) (by decide)
  | 18, _, h, h0 => exact absurd (And.intro h h0) (by decide)
  | 19, _, h, h0 => exact absurd (And.intro h h0) (by decide)
  | 20, _, _, _ => exact ⟨_, _, _, _, zcls_20⟩
  | 21, _, h, h0 => exact absurd (And.intro h h0) (by decide)
  | 22, _, h, h0 => exact absurd (And.intro h h0) (by decide)
  | 23, _, h, h0 => exact absurd (And.intro h h0) (by decide)
  | 24, _, h, h0 => exact absurd (And.intro h h0) (by decide)
  | 25, _, h, h0 => exact absurd (And.intro h h0) (by decide)
  | 26, _, h, h0 => exact absurd (And.intro h h0) (by decide)
  | 27, _, h, h0 => exact absurd (And.intro h h0) (by decide)
  | 28, _, h, h0 => exact absurd (And.intro h h0) (by decide)
  | 29, _, h, h0 => exact absurd (And.intro h h0) (by decide)
  | n + 30, h, _, _ => exact absurd h (by omega)
section Sim
variable {p : Program} {l : Launch} {e : Env} {R : Room} {s : State} {m : MethodId} {args : Array Value} {below : List Frame} {meth : Method} {c : Code} {cells slots : Nat} {Q : State → Prop}
variable {b0 : Nat} {D : va_G} {ca : Nat → ClassId} {adK adV : Nat → Nat} {bS L : Nat} {xs : Nat → Int32} {mi : Nat} {C : List mzN}
def zA (b0 : Nat) (D : va_G) (ca : Nat → ClassId) (adK adV : Nat → Nat) (bS L : Nat) (xs : Nat → Int32) (s : State) (mi : Nat) (ls st : List mzV) (μ : mzM) (H : Heap) (locs : List Loc) (la : Array Slot) (sa : List Value) : Prop :=
  zrl b0 adK adV bS ls la ∧ zlgo mi ls ∧ zrs b0 adK adV bS st sa ∧ va_P D zcl (zws b0 ca μ) H ∧ zM L xs μ ∧ va_S (fun q => b0 ≤ q) s.heap H locs
/-- from an instruction on, whatever the machine's state that fits -/
def zK (p : Program) (l : Launch) (e : Env) (R : Room) (s : State) (m : MethodId) (args : Array Value) (below : List Frame) (meth : Method) (c : Code) (cells slots : Nat) (Q : State → Prop) (b0 : Nat) (D : va_G) (ca : Nat → ClassId) (adK adV : Nat → Nat) (bS L : Nat) (xs : Nat → Int32) (mi : Nat) (C : List mzN) (x : mzC) : Prop :=
  ∀ (H : Heap) (locs : List Loc) (la : Array Slot) (sa : List Value), zA b0 D ca adK adV bS L xs s mi x.2.1 x.2.2.1 x.2.2.2 H locs la sa → W p l e R s m args below meth c H locs cells slots Q (F0 m (zpcs C x.1) la sa)
/-- the last instruction: what lies on the stack, what the answer is -/
def zraw (b0 : Nat) (adK adV : Nat → Nat) (bS : Nat) (mi : Nat) (pc : Nat) (r : Option mzV) (sa : List Value) : Prop :=
  (r = none ∧ sa = [] ∧ decode (zby mi) pc = .ok (.return_, 1) ∧ zrt mi = none) ∨
  (∃ n n' ty, r = some (vI n') ∧ sa = [.int (Int32.ofInt n)] ∧ zin n ∧ zin n' ∧ decode (zby mi) pc = .ok (.ireturn, 1) ∧ zrt mi = some ty ∧ narrow ty (.int (Int32.ofInt n)) = .int (Int32.ofInt n') ∧ (ty = .int ∨ ty = .boolean ∨ ty = .char ∨ ty = .byte)) ∨
  (∃ t i v cn, r = some (vR t i) ∧ sa = [v] ∧ zrv b0 adK adV bS (vR t i) v ∧ decode (zby mi) pc = .ok (.areturn, 1) ∧ zrt mi = some (.object cn))
def zgoal (Wc : Prop) (K : mzC → Prop) (KC : Nat → List mzV → Nat → mzC → Prop) (KE : Option mzV → mzM → Prop) (r : mzS) : Prop := match r with
  | none => True
  | some (.inl x) => K x → Wc
  | some (.inr (.inl (q, x, y))) => (q.1 → K x) → (¬ q.1 → K y) → Wc
  | some (.inr (.inr (.inl (q, x)))) => q.1 → K x → Wc
  | some (.inr (.inr (.inr (.inl (f, as, r, x))))) => KC f as r x → Wc
  | some (.inr (.inr (.inr (.inr (.inl (v, ts, x)))))) => K (zpick v ts x.1, x.2) → Wc
  | some (.inr (.inr (.inr (.inr (.inr (r, ν)))))) => KE r ν → Wc
section Stk
variable {Wc : Prop} {K : mzC → Prop} {KC : Nat → List mzV → Nat → mzC → Prop} {KE : Option mzV → mzM → Prop}
theorem zi1_ok {st : List mzV} {sa : List Value} {f : Int → List mzV → mzS} (hs : zrs b0 adK adV bS st sa) (h : ∀ a r ra, sa = .int (Int32.ofInt a) :: ra → zin a → zrs b0 adK adV bS r ra → zgoal Wc K KC KE (f a r)) : zgoal Wc K KC KE (zi1 st f) := by
  unfold zi1
  split
  · next a r => obtain ⟨ra, h1, h2, h3⟩ := zrs_unI hs; exact h a r ra h1 h2 h3
  · trivial
theorem zl1_ok {st : List mzV} {sa : List Value} {f : Int → List mzV → mzS} (hs : zrs b0 adK adV bS st sa) (h : ∀ a r ra, sa = .long (Int64.ofInt a) :: ra → zin6 a → zrs b0 adK adV bS r ra → zgoal Wc K KC KE (f a r)) : zgoal Wc K KC KE (zl1 st f) := by
  unfold zl1
  split
  · next a r => obtain ⟨ra, h1, h2, h3⟩ := zrs_unL hs; exact h a r ra h1 h2 h3
  · trivial
theorem zi2_ok {st : List mzV} {sa : List Value} {f : Int → Int → List mzV → mzS} (hs : zrs b0 adK adV bS st sa) (h : ∀ a b r ra, sa = .int (Int32.ofInt b) :: .int (Int32.ofInt a) :: ra → zin a → zin b → zrs b0 adK adV bS r ra → zgoal Wc K KC KE (f a b r)) : zgoal Wc K KC KE (zi2 st f) := by
  unfold zi2
  split
  · next b a r =>
    obtain ⟨r1, h1, h2, h3⟩ := zrs_unI hs
    obtain ⟨r2, h4, h5, h6⟩ := zrs_unI h3
    exact h a b r r2 (by rw [h1, h4]) h5 h2 h6
  · trivial
theorem zl2_ok {st : List mzV} {sa : List Value} {f : Int → Int → List mzV → mzS} (hs : zrs b0 adK adV bS st sa) (h : ∀ a b r ra, sa = .long (Int64.ofInt b) :: .long (Int64.ofInt a) :: ra → zin6 a → zin6 b → zrs b0 adK adV bS r ra → zgoal Wc K KC KE (f a b r)) : zgoal Wc K KC KE (zl2 st f) := by
  unfold zl2
  split
  · next b a r =>
    obtain ⟨r1, h1, h2, h3⟩ := zrs_unL hs
    obtain ⟨r2, h4, h5, h6⟩ := zrs_unL h3
    exact h a b r r2 (by rw [h1, h4]) h5 h2 h6
  · trivial
theorem zr1_ok {st : List mzV} {sa : List Value} {f : Nat → Int → List mzV → mzS} (hs : zrs b0 adK adV bS st sa) (h : ∀ t i r v ra, sa = v :: ra → zrv b0 adK adV bS (vR t i) v → zrs b0 adK adV bS r ra → zgoal Wc K KC KE (f t i r)) : zgoal Wc K KC KE (zr1 st f) := by
  unfold zr1
  split
  · next t i r => obtain ⟨v, ra, h1, h2, h3⟩ := zrs_un hs; exact h t i r v ra h1 h2 h3
  · trivial
theorem zld_ok {ls : List mzV} {la : Array Slot} {i : Nat} {f : mzV → mzS} (hl : zrl b0 adK adV bS ls la) (h : ∀ w v, ls[i]? = some (some w) → zrv b0 adK adV bS (some w) v → la[i]? = some (.val v) → zgoal Wc K KC KE (f (some w))) : zgoal Wc K KC KE (zld ls i f) := by
  unfold zld
  split
  · next w hw => obtain ⟨v, h1, h2⟩ := hl.2.2 i w hw; exact h w v hw h1 h2
  · trivial
theorem zst_ok {ls : List mzV} {i : Nat} {v : mzV} {f : List mzV → mzS} (h : zgoal Wc K KC KE (f (ls.set i v))) : zgoal Wc K KC KE (zst ls i v f) := by
  unfold zst
  split
  · exact h
  · trivial
theorem zir_ok {st : List mzV} {sa : List Value} {f : Int → Nat → Int → List mzV → mzS} (hs : zrs b0 adK adV bS st sa) (h : ∀ j t i r v ra, sa = .int (Int32.ofInt j) :: v :: ra → zin j → zrv b0 adK adV bS (vR t i) v → zrs b0 adK adV bS r ra → zgoal Wc K KC KE (f j t i r)) : zgoal Wc K KC KE (zir st f) := by
  unfold zir
  split
  · next j t i r =>
    obtain ⟨r1, h1, h2, h3⟩ := zrs_unI hs
    obtain ⟨v, r2, h4, h5, h6⟩ := zrs_un h3
    exact h j t i r v r2 (by rw [h1, h4]) h2 h5 h6
  · trivial
theorem zvir_ok {st : List mzV} {sa : List Value} {f : Int → Int → Nat → Int → List mzV → mzS} (hs : zrs b0 adK adV bS st sa) (h : ∀ n j t i r v ra, sa = .int (Int32.ofInt n) :: .int (Int32.ofInt j) :: v :: ra → zin n → zin j → zrv b0 adK adV bS (vR t i) v → zrs b0 adK adV bS r ra → zgoal Wc K KC KE (f n j t i r)) : zgoal Wc K KC KE (zvir st f) := by
  unfold zvir
  split
  · next n j t i r =>
    obtain ⟨r0, h1, h2, h3⟩ := zrs_unI hs
    obtain ⟨r1, h4, h5, h6⟩ := zrs_unI h3
    obtain ⟨v, r2, h7, h8, h9⟩ := zrs_un h6
    exact h n j t i r v r2 (by rw [h1, h4, h7]) h2 h5 h8 h9
  · trivial
end Stk
theorem zM_up {μ : mzM} {t : Nat} {i k n : Int} (h : zM L xs μ) (ht : t ≠ 32) (h1 : t ≠ 33 → zin n) (h2 : t = 33 → zin6 n ∧ k ≠ 1) : zM L xs (mup μ t i k n) := by
  refine ⟨fun t' i' k' ht' => ?_, fun i' k' => ?_, ?_, fun j hj => ?_⟩
  · unfold mup
    split
    · next hq => exact h1 (by rw [← hq.1]; exact ht')
    · exact h.1 t' i' k' ht'
  · unfold mup
    split
    · next hq => exact (h2 hq.1.symm).1
    · exact h.2.1 i' k'
  · rw [mup_ne (by rintro ⟨q1, -, q3⟩; exact (h2 q1.symm).2 q3.symm)]
    exact h.2.2.1
  · rw [mup_ne (by rintro ⟨q1, -, -⟩; exact ht q1.symm)]
    exact h.2.2.2 j hj
theorem zM_cp {μ : mzM} {ts td : Nat} {is sp id dp n : Int} (h : zM L xs μ) (hs : ts ≠ 33) (h1 : td ≠ 32) (h2 : td ≠ 33) : zM L xs (mcp μ ts is sp td id dp n) := by
  refine ⟨fun t' i' k' ht' => ?_, fun i' k' => ?_, ?_, fun j hj => ?_⟩
  · unfold mcp
    split
    · exact h.1 _ _ _ hs
    · exact h.1 t' i' k' ht'
  · unfold mcp
    rw [if_neg (by rintro ⟨q, -⟩; exact h2 q.symm)]
    exact h.2.1 i' k'
  · unfold mcp
    rw [if_neg (by rintro ⟨q, -⟩; exact h2 q.symm)]
    exact h.2.2.1
  · unfold mcp
    rw [if_neg (by rintro ⟨q, -⟩; exact h1 q.symm)]
    exact h.2.2.2 j hj
theorem zTor {own : String} {idx : Nat} {args : Array Value} {s : State} (hts : ∀ w ∈ zTs, w.before args s = true) {w : Cond} (h : w ∈ zTs) : w.before args s = true := hts w h

def zKC (p : Program) (l : Launch) (e : Env) (R : Room) (s : State) (m : MethodId) (args : Array Value) (below : List Frame) (meth : Method) (c : Code) (cells slots : Nat) (Q : State → Prop) (b0 : Nat) (D : va_G) (ca : Nat → ClassId) (adK adV : Nat → Nat) (bS L : Nat) (xs : Nat → Int32) (mi : Nat) (C : List mzN) (f : Nat) (as : List mzV) (_ : Nat) (x : mzC) : Prop :=
  ∃ r ν, ((f < 186 ∧ as.length ≤ zml f ∧ ∀ w ∈ as, zisL w = false) → zMet l b0 D ca adK adV bS L xs f as x.2.2.2 r ν) ∧ zK p l e R s m args below meth c cells slots Q b0 D ca adK adV bS L xs mi C (x.1, x.2.1, zpush r x.2.2.1, ν)
def zKE (p : Program) (l : Launch) (e : Env) (R : Room) (s : State) (m : MethodId) (args : Array Value) (below : List Frame) (meth : Method) (c : Code) (cells slots : Nat) (Q : State → Prop) (b0 : Nat) (D : va_G) (ca : Nat → ClassId) (adK adV : Nat → Nat) (bS L : Nat) (xs : Nat → Int32) (mi : Nat) (r : Option mzV) (ν : mzM) : Prop :=
  ∀ (H : Heap) (locs : List Loc) (la : Array Slot) (sa : List Value) (pc : Nat), zraw b0 adK adV bS mi pc r sa → va_P D zcl (zws b0 ca ν) H → zM L xs ν → va_S (fun q => b0 ≤ q) s.heap H locs → W p l e R s m args below meth c H locs cells slots Q (F0 m pc la sa)
theorem zc_iconst (hx : p.tables.exec = Jvm.exec) (hb : c.code = zby mi) (hml : c.maxLocals = zml mi) (hown : s.vm.findClass (zy mi).cls = some m.cls) (hts : ∀ w ∈ zTs, w.before args s = true) (hB : zBk b0 D ca adK adV bS L xs s) (hR : zfr mi ≤ R.frames ∧ zlo mi ≤ R.locals ∧ cells ≤ R.cells ∧ slots ≤ R.slots) {v : Int} {k pc a : Nat} {cs : List (Int × Nat)} (hd : zdk (zby mi) pc (.iconst v) = true) (hf : zfall C k pc (.iconst v) = true) (h1 : zchk1 mi C pc (.iconst v) a cs = true) (h2 : zOK2 (zy mi).cls (.iconst v) a cs) {ls st : List mzV} {μ : mzM} {H : Heap} {locs : List Loc} {la : Array Slot} {sa : List Value} (hA : zA b0 D ca adK adV bS L xs s mi ls st μ H locs la sa) : zgoal (W p l e R s m args below meth c H locs cells slots Q (F0 m pc la sa)) (zK p l e R s m args below meth c cells slots Q b0 D ca adK adV bS L xs mi C) (zKC p l e R s m args below meth c cells slots Q b0 D ca adK adV bS L xs mi C) (zKE p l e R s m args below meth c cells slots Q b0 D ca adK adV bS L xs mi) (zstep (.iconst v) a cs k ls st μ) := by
  have hd0 : decode (zby mi) pc = .ok (.iconst v, 1) := (zdk_p hd).resolve_left (by rintro ⟨_, _, _, _, h⟩; cases h)
  have hp : zpcs C (k + 1) = pc + 1 := zfl_p hf
  obtain ⟨al, ag, as, aP, aM, aS⟩ := hA
  have hv : zin v := by
    have h3 := Bool.and_eq_true_iff.mp h1
    have h4 := of_decide_eq_true h3.1
    have h5 := of_decide_eq_true h3.2
    constructor <;> omega
  intro hK
  refine lv_iconst (v := Int32.ofInt v) hx hb hd0 rfl ?_
  rw [← hp]
  exact hK _ _ _ _ ⟨al, ag, zrs_cons (zrv_I hv) as, aP, aM, aS⟩
theorem zc_bipush (hx : p.tables.exec = Jvm.exec) (hb : c.code = zby mi) (hml : c.maxLocals = zml mi) (hown : s.vm.findClass (zy mi).cls = some m.cls) (hts : ∀ w ∈ zTs, w.before args s = true) (hB : zBk b0 D ca adK adV bS L xs s) (hR : zfr mi ≤ R.frames ∧ zlo mi ≤ R.locals ∧ cells ≤ R.cells ∧ slots ≤ R.slots) {v : Int} {k pc a : Nat} {cs : List (Int × Nat)} (hd : zdk (zby mi) pc (.bipush v) = true) (hf : zfall C k pc (.bipush v) = true) (h1 : zchk1 mi C pc (.bipush v) a cs = true) (h2 : zOK2 (zy mi).cls (.bipush v) a cs) {ls st : List mzV} {μ : mzM} {H : Heap} {locs : List Loc} {la : Array Slot} {sa : List Value} (hA : zA b0 D ca adK adV bS L xs s mi ls st μ H locs la sa) : zgoal (W p l e R s m args below meth c H locs cells slots Q (F0 m pc la sa)) (zK p l e R s m args below meth c cells slots Q b0 D ca adK adV bS L xs mi C) (zKC p l e R s m args below meth c cells slots Q b0 D ca adK adV bS L xs mi C) (zKE p l e R s m args below meth c cells slots Q b0 D ca adK adV bS L xs mi) (zstep (.bipush v) a cs k ls st μ) := by
  have hd0 : decode (zby mi) pc = .ok (.bipush v, 2) := (zdk_p hd).resolve_left (by rintro ⟨_, _, _, _, h⟩; cases h)
  have hp : zpcs C (k + 1) = pc + 2 := zfl_p hf
  obtain ⟨al, ag, as, aP, aM, aS⟩ := hA
  have h3 := Bool.and_eq_true_iff.mp h1
  have h4 : -128 ≤ v := of_decide_eq_true h3.1
  have h5 : v ≤ 127 := of_decide_eq_true h3.2
  have hv : zin v := by constructor <;> omega
  intro hK
  refine lv_bipush (v := Int32.ofInt v) hx hb hd0 (zi_of (by rw [Int8.toInt_toInt32]; exact Int8.toInt_ofInt_of_le (by omega) (by omega))) ?_
  rw [← hp]
  exact hK _ _ _ _ ⟨al, ag, zrs_cons (zrv_I hv) as, aP, aM, aS⟩
theorem zc_sipush (hx : p.tables.exec = Jvm.exec) (hb : c.code = zby mi) (hml : c.maxLocals = zml mi) (hown : s.vm.findClass (zy mi).cls = some m.cls) (hts : ∀ w ∈ zTs, w.before args s = true) (hB : zBk b0 D ca adK adV bS L xs s) (hR : zfr mi ≤ R.frames ∧ zlo mi ≤ R.locals ∧ cells ≤ R.cells ∧ slots ≤ R.slots) {v : Int} {k pc a : Nat} {cs : List (Int × Nat)} (hd : zdk (zby mi) pc (.sipush v) = true) (hf : zfall C k pc (.sipush v) = true) (h1 : zchk1 mi C pc (.sipush v) a cs = true) (h2 : zOK2 (zy mi).cls (.sipush v) a cs) {ls st : List mzV} {μ : mzM} {H : Heap} {locs : List Loc} {la : Array Slot} {sa : List Value} (hA : zA b0 D ca adK adV bS L xs s mi ls st μ H locs la sa) : zgoal (W p l e R s m args below meth c H locs cells slots Q (F0 m pc la sa)) (zK p l e R s m args below meth c cells slots Q b0 D ca adK adV bS L xs mi C) (zKC p l e R s m args below meth c cells slots Q b0 D ca adK adV bS L xs mi C) (zKE p l e R s m args below meth c cells slots Q b0 D ca adK adV bS L xs mi) (zstep (.sipush v) a cs k ls st μ) := by
  have hd0 : decode (zby mi) pc = .ok (.sipush v, 3) := (zdk_p hd).resolve_left (by rintro ⟨_, _, _, _, h⟩; cases h)
  have hp : zpcs C (k + 1) = pc + 3 := zfl_p hf
  obtain ⟨al, ag, as, aP, aM, aS⟩ := hA
  have h3 := Bool.and_eq_true_iff.mp h1
  have h4 : -32768 ≤ v := of_decide_eq_true h3.1
  have h5 : v ≤ 32767 := of_decide_eq_true h3.2
  have hv : zin v := by constructor <;> omega
  intro hK
  refine lv_sipush (v := Int32.ofInt v) hx hb hd0 (zi_of (by rw [Int16.toInt_toInt32]; exact Int16.toInt_ofInt_of_le (by omega) (by omega))) ?_
  rw [← hp]
  exact hK _ _ _ _ ⟨al, ag, zrs_cons (zrv_I hv) as, aP, aM, aS⟩
theorem zc_ldc_w (hx : p.tables.exec = Jvm.exec) (hb : c.code = zby mi) (hml : c.maxLocals = zml mi) (hown : s.vm.findClass (zy mi).cls = some m.cls) (hts : ∀ w ∈ zTs, w.before args s = true) (hB : zBk b0 D ca adK adV bS L xs s) (hR : zfr mi ≤ R.frames ∧ zlo mi ≤ R.locals ∧ cells ≤ R.cells ∧ slots ≤ R.slots) {v : Nat} {k pc a : Nat} {cs : List (Int × Nat)} (hd : zdk (zby mi) pc (.ldc_w v) = true) (hf : zfall C k pc (.ldc_w v) = true) (h1 : zchk1 mi C pc (.ldc_w v) a cs = true) (h2 : zOK2 (zy mi).cls (.ldc_w v) a cs) {ls st : List mzV} {μ : mzM} {H : Heap} {locs : List Loc} {la : Array Slot} {sa : List Value} (hA : zA b0 D ca adK adV bS L xs s mi ls st μ H locs la sa) : zgoal (W p l e R s m args below meth c H locs cells slots Q (F0 m pc la sa)) (zK p l e R s m args below meth c cells slots Q b0 D ca adK adV bS L xs mi C) (zKC p l e R s m args below meth c cells slots Q b0 D ca adK adV bS L xs mi C) (zKE p l e R s m args below meth c cells slots Q b0 D ca adK adV bS L xs mi) (zstep (.ldc_w v) a cs k ls st μ) := by
  have hd0 : decode (zby mi) pc = .ok (.ldc_w v, 3) := (zdk_p hd).resolve_left (by rintro ⟨_, _, _, _, h⟩; cases h)
  have hp : zpcs C (k + 1) = pc + 3 := zfl_p hf
  obtain ⟨al, ag, as, aP, aM, aS⟩ := hA
  match cs, h1, h2 with
  | [], _, _ => trivial
  | (n, z) :: cs, h1, h2 =>
    have h3 := Bool.and_eq_true_iff.mp h1
    have h4 : -2147483648 ≤ n := of_decide_eq_true h3.1
    have h5 : n ≤ 2147483647 := of_decide_eq_true h3.2
    intro hK
    refine lv_ldcw hx hb hown (hts _ h2) hd0 ?_
    rw [← hp]
    exact hK _ _ _ _ ⟨al, ag, zrs_cons (zrv_I ⟨h4, h5⟩) as, aP, aM, aS⟩
theorem zc_ldc2_w (hx : p.tables.exec = Jvm.exec) (hb : c.code = zby mi) (hml : c.maxLocals = zml mi) (hown : s.vm.findClass (zy mi).cls = some m.cls) (hts : ∀ w ∈ zTs, w.before args s = true) (hB : zBk b0 D ca adK adV bS L xs s) (hR : zfr mi ≤ R.frames ∧ zlo mi ≤ R.locals ∧ cells ≤ R.cells ∧ slots ≤ R.slots) {v : Nat} {k pc a : Nat} {cs : List (Int × Nat)} (hd : zdk (zby mi) pc (.ldc2_w v) = true) (hf : zfall C k pc (.ldc2_w v) = true) (h1 : zchk1 mi C pc (.ldc2_w v) a cs = true) (h2 : zOK2 (zy mi).cls (.ldc2_w v) a cs) {ls st : List mzV} {μ : mzM} {H : Heap} {locs : List Loc} {la : Array Slot} {sa : List Value} (hA : zA b0 D ca adK adV bS L xs s mi ls st μ H locs la sa) : zgoal (W p l e R s m args below meth c H locs cells slots Q (F0 m pc la sa)) (zK p l e R s m args below meth c cells slots Q b0 D ca adK adV bS L xs mi C) (zKC p l e R s m args below meth c cells slots Q b0 D ca adK adV bS L xs mi C) (zKE p l e R s m args below meth c cells slots Q b0 D ca adK adV bS L xs mi) (zstep (.ldc2_w v) a cs k ls st μ) := by
  have hd0 : decode (zby mi) pc = .ok (.ldc2_w v, 3) := (zdk_p hd).resolve_left (by rintro ⟨_, _, _, _, h⟩; cases h)
  have hp : zpcs C (k + 1) = pc + 3 := zfl_p hf
  obtain ⟨al, ag, as, aP, aM, aS⟩ := hA
  match cs, h1, h2 with
  | [], _, _ => trivial
  | (n, z) :: cs, h1, h2 =>
    have h3 := Bool.and_eq_true_iff.mp h1
    have h4 : -9223372036854775808 ≤ n := of_decide_eq_true h3.1
    have h5 : n ≤ 9223372036854775807 := of_decide_eq_true h3.2
    intro hK
    refine W.ldc2 hx hb hown (hts _ h2) (g := F0 m pc la sa) rfl hd0 ?_
    show W p l e R s m args below meth c H locs cells slots Q (F0 m (pc + 3) la (.long (Int64.ofInt n) :: sa))
    rw [← hp]
    exact hK _ _ _ _ ⟨al, ag, zrs_cons (zrv_L ⟨h4, h5⟩) as, aP, aM, aS⟩
theorem zc_lconst (hx : p.tables.exec = Jvm.exec) (hb : c.code = zby mi) (hml : c.maxLocals = zml mi) (hown : s.vm.findClass (zy mi).cls = some m.cls) (hts : ∀ w ∈ zTs, w.before args s = true) (hB : zBk b0 D ca adK adV bS L xs s) (hR : zfr mi ≤ R.frames ∧ zlo mi ≤ R.locals ∧ cells ≤ R.cells ∧ slots ≤ R.slots) {v : Fin 2} {k pc a : Nat} {cs : List (Int × Nat)} (hd : zdk (zby mi) pc (.lconst v) = true) (hf : zfall C k pc (.lconst v) = true) (h1 : zchk1 mi C pc (.lconst v) a cs = true) (h2 : zOK2 (zy mi).cls (.lconst v) a cs) {ls st : List mzV} {μ : mzM} {H : Heap} {locs : List Loc} {la : Array Slot} {sa : List Value} (hA : zA b0 D ca adK adV bS L xs s mi ls st μ H locs la sa) : zgoal (W p l e R s m args below meth c H locs cells slots Q (F0 m pc la sa)) (zK p l e R s m args below meth c cells slots Q b0 D ca adK adV bS L xs mi C) (zKC p l e R s m args below meth c cells slots Q b0 D ca adK adV bS L xs mi C) (zKE p l e R s m args below meth c cells slots Q b0 D ca adK adV bS L xs mi) (zstep (.lconst v) a cs k ls st μ) := by
  have hd0 : decode (zby mi) pc = .ok (.lconst v, 1) := (zdk_p hd).resolve_left (by rintro ⟨_, _, _, _, h⟩; cases h)
  have hp : zpcs C (k + 1) = pc + 1 := zfl_p hf
  obtain ⟨al, ag, as, aP, aM, aS⟩ := hA
  intro hK
  refine lv_lconst (v := Int64.ofInt ((v.val : Nat) : Int)) hx hb hd0 rfl ?_
  rw [← hp]
  exact hK _ _ _ _ ⟨al, ag, zrs_cons (zrv_L (by have := v.isLt; constructor <;> omega)) as, aP, aM, aS⟩
theorem zc_aconst_null (hx : p.tables.exec = Jvm.exec) (hb : c.code = zby mi) (hml : c.maxLocals = zml mi) (hown : s.vm.findClass (zy mi).cls = some m.cls) (hts : ∀ w ∈ zTs, w.before args s = true) (hB : zBk b0 D ca adK adV bS L xs s) (hR : zfr mi ≤ R.frames ∧ zlo mi ≤ R.locals ∧ cells ≤ R.cells ∧ slots ≤ R.slots) {k pc a : Nat} {cs : List (Int × Nat)} (hd : zdk (zby mi) pc (.aconst_null) = true) (hf : zfall C k pc (.aconst_null) = true) (h1 : zchk1 mi C pc (.aconst_null) a cs = true) (h2 : zOK2 (zy mi).cls (.aconst_null) a cs) {ls st : List mzV} {μ : mzM} {H : Heap} {locs : List Loc} {la : Array Slot} {sa : List Value} (hA : zA b0 D ca adK adV bS L xs s mi ls st μ H locs la sa) : zgoal (W p l e R s m args below meth c H locs cells slots Q (F0 m pc la sa)) (zK p l e R s m args below meth c cells slots Q b0 D ca adK adV bS L xs mi C) (zKC p l e R s m args below meth c cells slots Q b0 D ca adK adV bS L xs mi C) (zKE p l e R s m args below meth c cells slots Q b0 D ca adK adV bS L xs mi) (zstep (.aconst_null) a cs k ls st μ) := by
  have hd0 : decode (zby mi) pc = .ok (.aconst_null, 1) := (zdk_p hd).resolve_left (by rintro ⟨_, _, _, _, h⟩; cases h)
  have hp : zpcs C (k + 1) = pc + 1 := zfl_p hf
  obtain ⟨al, ag, as, aP, aM, aS⟩ := hA
  intro hK
  refine lv_null hx hb hd0 ?_
  rw [← hp]
  exact hK _ _ _ _ ⟨al, ag, zrs_cons (Or.inl ⟨rfl, rfl⟩) as, aP, aM, aS⟩
theorem zc_iload (hx : p.tables.exec = Jvm.exec) (hb : c.code = zby mi) (hml : c.maxLocals = zml mi) (hown : s.vm.findClass (zy mi).cls = some m.cls) (hts : ∀ w ∈ zTs, w.before args s = true) (hB : zBk b0 D ca adK adV bS L xs s) (hR : zfr mi ≤ R.frames ∧ zlo mi ≤ R.locals ∧ cells ≤ R.cells ∧ slots ≤ R.slots) {v : Nat} {k pc a : Nat} {cs : List (Int × Nat)} (hd : zdk (zby mi) pc (.iload v) = true) (hf : zfall C k pc (.iload v) = true) (h1 : zchk1 mi C pc (.iload v) a cs = true) (h2 : zOK2 (zy mi).cls (.iload v) a cs) {ls st : List mzV} {μ : mzM} {H : Heap} {locs : List Loc} {la : Array Slot} {sa : List Value} (hA : zA b0 D ca adK adV bS L xs s mi ls st μ H locs la sa) : zgoal (W p l e R s m args below meth c H locs cells slots Q (F0 m pc la sa)) (zK p l e R s m args below meth c cells slots Q b0 D ca adK adV bS L xs mi C) (zKC p l e R s m args below meth c cells slots Q b0 D ca adK adV bS L xs mi C) (zKE p l e R s m args below meth c cells slots Q b0 D ca adK adV bS L xs mi) (zstep (.iload v) a cs k ls st μ) := by
  have hd0 : decode (zby mi) pc = .ok (.iload v, 2) := (zdk_p hd).resolve_left (by rintro ⟨_, _, _, _, h⟩; cases h)
  have hp : zpcs C (k + 1) = pc + 2 := zfl_p hf
  obtain ⟨al, ag, as, aP, aM, aS⟩ := hA
  show zgoal _ _ _ _ (zld ls v (fun u => match zisI u with | true => sN (k + 1, ls, u :: st, μ) | false => none))
  refine zld_ok al (fun w v0 hw hv hl => ?_)
  rcases w with n | n | ⟨t, i⟩
  · intro hK
    obtain ⟨hn, rfl⟩ := hv
    refine lv_iload hx hb hd0 hl ?_
    rw [← hp]
    exact hK _ _ _ _ ⟨al, ag, zrs_cons (zrv_I hn) as, aP, aM, aS⟩
  · trivial
  · trivial
theorem zc_iload_n (hx : p.tables.exec = Jvm.exec) (hb : c.code = zby mi) (hml : c.maxLocals = zml mi) (hown : s.vm.findClass (zy mi).cls = some m.cls) (hts : ∀ w ∈ zTs, w.before args s = true) (hB : zBk b0 D ca adK adV bS L xs s) (hR : zfr mi ≤ R.frames ∧ zlo mi ≤ R.locals ∧ cells ≤ R.cells ∧ slots ≤ R.slots) {v : Fin 4} {k pc a : Nat} {cs : List (Int × Nat)} (hd : zdk (zby mi) pc (.iload_n v) = true) (hf : zfall C k pc (.iload_n v) = true) (h1 : zchk1 mi C pc (.iload_n v) a cs = true) (h2 : zOK2 (zy mi).cls (.iload_n v) a cs) {ls st : List mzV} {μ : mzM} {H : Heap} {locs : List Loc} {la : Array Slot} {sa : List Value} (hA : zA b0 D ca adK adV bS L xs s mi ls st μ H locs la sa) : zgoal (W p l e R s m args below meth c H locs cells slots Q (F0 m pc la sa)) (zK p l e R s m args below meth c cells slots Q b0 D ca adK adV bS L xs mi C) (zKC p l e R s m args below meth c cells slots Q b0 D ca adK adV bS L xs mi C) (zKE p l e R s m args below meth c cells slots Q b0 D ca adK adV bS L xs mi) (zstep (.iload_n v) a cs k ls st μ) := by
  have hd0 : decode (zby mi) pc = .ok (.iload_n v, 1) := (zdk_p hd).resolve_left (by rintro ⟨_, _, _, _, h⟩; cases h)
  have hp : zpcs C (k + 1) = pc + 1 := zfl_p hf
  obtain ⟨al, ag, as, aP, aM, aS⟩ := hA
  show zgoal _ _ _ _ (zld ls v.val (fun u => match zisI u with | true => sN (k + 1, ls, u :: st, μ) | false => none))
  refine zld_ok al (fun w v0 hw hv hl => ?_)
  rcases w with n | n | ⟨t, i⟩
  · intro hK
    obtain ⟨hn, rfl⟩ := hv
    refine lv_iload_n hx hb hd0 rfl hl ?_
    rw [← hp]
    exact hK _ _ _ _ ⟨al, ag, zrs_cons (zrv_I hn) as, aP, aM, aS⟩
  · trivial
  · trivial
theorem zc_lload_n (hx : p.tables.exec = Jvm.exec) (hb : c.code = zby mi) (hml : c.maxLocals = zml mi) (hown : s.vm.findClass (zy mi).cls = some m.cls) (hts : ∀ w ∈ zTs, w.before args s = true) (hB : zBk b0 D ca adK adV bS L xs s) (hR : zfr mi ≤ R.frames ∧ zlo mi ≤ R.locals ∧ cells ≤ R.cells ∧ slots ≤ R.slots) {v : Fin 4} {k pc a : Nat} {cs : List (Int × Nat)} (hd : zdk (zby mi) pc (.lload_n v) = true) (hf : zfall C k pc (.lload_n v) = true) (h1 : zchk1 mi C pc (.lload_n v) a cs = true) (h2 : zOK2 (zy mi).cls (.lload_n v) a cs) {ls st : List mzV} {μ : mzM} {H : Heap} {locs : List Loc} {la : Array Slot} {sa : List Value} (hA : zA b0 D ca adK adV bS L xs s mi ls st μ H locs la sa) : zgoal (W p l e R s m args below meth c H locs cells slots Q (F0 m pc la sa)) (zK p l e R s m args below meth c cells slots Q b0 D ca adK adV bS L xs mi C) (zKC p l e R s m args below meth c cells slots Q b0 D ca adK adV bS L xs mi C) (zKE p l e R s m args below meth c cells slots Q b0 D ca adK adV bS L xs mi) (zstep (.lload_n v) a cs k ls st μ) := by
  have hd0 : decode (zby mi) pc = .ok (.lload_n v, 1) := (zdk_p hd).resolve_left (by rintro ⟨_, _, _, _, h⟩; cases h)
  have hp : zpcs C (k + 1) = pc + 1 := zfl_p hf
  obtain ⟨al, ag, as, aP, aM, aS⟩ := hA
  show zgoal _ _ _ _ (zld ls v.val (fun u => match zisL u with | true => sN (k + 1, ls, u :: st, μ) | false => none))
  refine zld_ok al (fun w v0 hw hv hl => ?_)
  rcases w with n | n | ⟨t, i⟩
  · trivial
  · intro hK
    obtain ⟨hn, rfl⟩ := hv
    refine lv_lload_n hx hb hd0 rfl hl ?_
    rw [← hp]
    exact hK _ _ _ _ ⟨al, ag, zrs_cons (zrv_L hn) as, aP, aM, aS⟩
  · trivial
theorem zc_aload (hx : p.tables.exec = Jvm.exec) (hb : c.code = zby mi) (hml : c.maxLocals = zml mi) (hown : s.vm.findClass (zy mi).cls = some m.cls) (hts : ∀ w ∈ zTs, w.before args s = true) (hB : zBk b0 D ca adK adV bS L xs s) (hR : zfr mi ≤ R.frames ∧ zlo mi ≤ R.locals ∧ cells ≤ R.cells ∧ slots ≤ R.slots) {v : Nat} {k pc a : Nat} {cs : List (Int × Nat)} (hd : zdk (zby mi) pc (.aload v) = true) (hf : zfall C k pc (.aload v) = true) (h1 : zchk1 mi C pc (.aload v) a cs = true) (h2 : zOK2 (zy mi).cls (.aload v) a cs) {ls st : List mzV} {μ : mzM} {H : Heap} {locs : List Loc} {la : Array Slot} {sa : List Value} (hA : zA b0 D ca adK adV bS L xs s mi ls st μ H locs la sa) : zgoal (W p l e R s m args below meth c H locs cells slots Q (F0 m pc la sa)) (zK p l e R s m args below meth c cells slots Q b0 D ca adK adV bS L xs mi C) (zKC p l e R s m args below meth c cells slots Q b0 D ca adK adV bS L xs mi C) (zKE p l e R s m args below meth c cells slots Q b0 D ca adK adV bS L xs mi) (zstep (.aload v) a cs k ls st μ) := by
  have hd0 : decode (zby mi) pc = .ok (.aload v, 2) := (zdk_p hd).resolve_left (by rintro ⟨_, _, _, _, h⟩; cases h)
  have hp : zpcs C (k + 1) = pc + 2 := zfl_p hf
  obtain ⟨al, ag, as, aP, aM, aS⟩ := hA
  show zgoal _ _ _ _ (zld ls v (fun u => match zisR u with | true => sN (k + 1, ls, u :: st, μ) | false => none))
  refine zld_ok al (fun w v0 hw hv hl => ?_)
  rcases w with n | n | ⟨t, i⟩
  · trivial
  · trivial
  · intro hK
    rcases zrv_ref hv with hv0 | ⟨a0, hv0⟩
    · subst hv0
      refine lv_aloadN hx hb hd0 hl ?_
      rw [← hp]
      exact hK _ _ _ _ ⟨al, ag, zrs_cons hv as, aP, aM, aS⟩
    · subst hv0
      refine lv_aload hx hb hd0 hl ?_
      rw [← hp]
      exact hK _ _ _ _ ⟨al, ag, zrs_cons hv as, aP, aM, aS⟩
theorem zc_aload_n (hx : p.tables.exec = Jvm.exec) (hb : c.code = zby mi) (hml : c.maxLocals = zml mi) (hown : s.vm.findClass (zy mi).cls = some m.cls) (hts : ∀ w ∈ zTs, w.before args s = true) (hB : zBk b0 D ca adK adV bS L xs s) (hR : zfr mi ≤ R.frames ∧ zlo mi ≤ R.locals ∧ cells ≤ R.cells ∧ slots ≤ R.slots) {v : Fin 4} {k pc a : Nat} {cs : List (Int × Nat)} (hd : zdk (zby mi) pc (.aload_n v) = true) (hf : zfall C k pc (.aload_n v) = true) (h1 : zchk1 mi C pc (.aload_n v) a cs = true) (h2 : zOK2 (zy mi).cls (.aload_n v) a cs) {ls st : List mzV} {μ : mzM} {H : Heap} {locs : List Loc} {la : Array Slot} {sa : List Value} (hA : zA b0 D ca adK adV bS L xs s mi ls st μ H locs la sa) : zgoal (W p l e R s m args below meth c H locs cells slots Q (F0 m pc la sa)) (zK p l e R s m args below meth c cells slots Q b0 D ca adK adV bS L xs mi C) (zKC p l e R s m args below meth c cells slots Q b0 D ca adK adV bS L xs mi C) (zKE p l e R s m args below meth c cells slots Q b0 D ca adK adV bS L xs mi) (zstep (.aload_n v) a cs k ls st μ) := by
  have hd0 : decode (zby mi) pc = .ok (.aload_n v, 1) := (zdk_p hd).resolve_left (by rintro ⟨_, _, _, _, h⟩; cases h)
  have hp : zpcs C (k + 1) = pc + 1 := zfl_p hf
  obtain ⟨al, ag, as, aP, aM, aS⟩ := hA
  show zgoal _ _ _ _ (zld ls v.val (fun u => match zisR u with | true => sN (k + 1, ls, u :: st, μ) | false => none))
  refine zld_ok al (fun w v0 hw hv hl => ?_)
  rcases w with n | n | ⟨t, i⟩
  · trivial
  · trivial
  · intro hK
    rcases zrv_ref hv with hv0 | ⟨a0, hv0⟩
    · subst hv0
      refine lv_aload_nN hx hb hd0 rfl hl ?_
      rw [← hp]
      exact hK _ _ _ _ ⟨al, ag, zrs_cons hv as, aP, aM, aS⟩
    · subst hv0
      refine lv_aload_n hx hb hd0 rfl hl ?_
      rw [← hp]
      exact hK _ _ _ _ ⟨al, ag, zrs_cons hv as, aP, aM, aS⟩
theorem zc_istore (hx : p.tables.exec = Jvm.exec) (hb : c.code = zby mi) (hml : c.maxLocals = zml mi) (hown : s.vm.findClass (zy mi).cls = some m.cls) (hts : ∀ w ∈ zTs, w.before args s = true) (hB : zBk b0 D ca adK adV bS L xs s) (hR : zfr mi ≤ R.frames ∧ zlo mi ≤ R.locals ∧ cells ≤ R.cells ∧ slots ≤ R.slots) {v : Nat} {k pc a : Nat} {cs : List (Int × Nat)} (hd : zdk (zby mi) pc (.istore v) = true) (hf : zfall C k pc (.istore v) = true) (h1 : zchk1 mi C pc (.istore v) a cs = true) (h2 : zOK2 (zy mi).cls (.istore v) a cs) {ls st : List mzV} {μ : mzM} {H : Heap} {locs : List Loc} {la : Array Slot} {sa : List Value} (hA : zA b0 D ca adK adV bS L xs s mi ls st μ H locs la sa) : zgoal (W p l e R s m args below meth c H locs cells slots Q (F0 m pc la sa)) (zK p l e R s m args below meth c cells slots Q b0 D ca adK adV bS L xs mi C) (zKC p l e R s m args below meth c cells slots Q b0 D ca adK adV bS L xs mi C) (zKE p l e R s m args below meth c cells slots Q b0 D ca adK adV bS L xs mi) (zstep (.istore v) a cs k ls st μ) := by
  have hd0 : decode (zby mi) pc = .ok (.istore v, 2) := (zdk_p hd).resolve_left (by rintro ⟨_, _, _, _, h⟩; cases h)
  have hp : zpcs C (k + 1) = pc + 2 := zfl_p hf
  obtain ⟨al, ag, as, aP, aM, aS⟩ := hA
  refine zi1_ok as (fun n r ra hsa hn hr => ?_)
  refine zst_ok ?_
  subst hsa
  intro hK
  have hlt : v < la.size := by
    rw [al.1, ag.1]
    exact Nat.blt_eq.mp (Bool.and_eq_true_iff.mp h1).1
  refine lv_istore hx hb hd0 (zlv_has al.2.1) hlt rfl (fun l1 hl1 => ?_)
  obtain ⟨z1, z2⟩ := zrl_set (b0 := b0) (adK := adK) (adV := adV) (bS := bS) al ag h1 (zrv_I hn) rfl hl1
  rw [← hp]
  exact hK _ _ _ _ ⟨z1, z2, hr, aP, aM, aS⟩
theorem zc_istore_n (hx : p.tables.exec = Jvm.exec) (hb : c.code = zby mi) (hml : c.maxLocals = zml mi) (hown : s.vm.findClass (zy mi).cls = some m.cls) (hts : ∀ w ∈ zTs, w.before args s = true) (hB : zBk b0 D ca adK adV bS L xs s) (hR : zfr mi ≤ R.frames ∧ zlo mi ≤ R.locals ∧ cells ≤ R.cells ∧ slots ≤ R.slots) {v : Fin 4} {k pc a : Nat} {cs : List (Int × Nat)} (hd : zdk (zby mi) pc (.istore_n v) = true) (hf : zfall C k pc (.istore_n v) = true) (h1 : zchk1 mi C pc (.istore_n v) a cs = true) (h2 : zOK2 (zy mi).cls (.istore_n v) a cs) {ls st : List mzV} {μ : mzM} {H : Heap} {locs : List Loc} {la : Array Slot} {sa : List Value} (hA : zA b0 D ca adK adV bS L xs s mi ls st μ H locs la sa) : zgoal (W p l e R s m args below meth c H locs cells slots Q (F0 m pc la sa)) (zK p l e R s m args below meth c cells slots Q b0 D ca adK adV bS L xs mi C) (zKC p l e R s m args below meth c cells slots Q b0 D ca adK adV bS L xs mi C) (zKE p l e R s m args below meth c cells slots Q b0 D ca adK adV bS L xs mi) (zstep (.istore_n v) a cs k ls st μ) := by
  have hd0 : decode (zby mi) pc = .ok (.istore_n v, 1) := (zdk_p hd).resolve_left (by rintro ⟨_, _, _, _, h⟩; cases h)
  have hp : zpcs C (k + 1) = pc + 1 := zfl_p hf
  obtain ⟨al, ag, as, aP, aM, aS⟩ := hA
  refine zi1_ok as (fun n r ra hsa hn hr => ?_)
  refine zst_ok ?_
  subst hsa
  intro hK
  have hlt : v.val < la.size := by
    rw [al.1, ag.1]
    exact Nat.blt_eq.mp (Bool.and_eq_true_iff.mp h1).1
  refine lv_istore_n hx hb hd0 rfl (zlv_has al.2.1) hlt rfl (fun l1 hl1 => ?_)
  obtain ⟨z1, z2⟩ := zrl_set (b0 := b0) (adK := adK) (adV := adV) (bS := bS) al ag h1 (zrv_I hn) rfl hl1
  rw [← hp]
  exact hK _ _ _ _ ⟨z1, z2, hr, aP, aM, aS⟩
theorem zc_astore (hx : p.tables.exec = Jvm.exec) (hb : c.code = zby mi) (hml : c.maxLocals = zml mi) (hown : s.vm.findClass (zy mi).cls = some m.cls) (hts : ∀ w ∈ zTs, w.before args s = true) (hB : zBk b0 D ca adK adV bS L xs s) (hR : zfr mi ≤ R.frames ∧ zlo mi ≤ R.locals ∧ cells ≤ R.cells ∧ slots ≤ R.slots) {v : Nat} {k pc a : Nat} {cs : List (Int × Nat)} (hd : zdk (zby mi) pc (.astore v) = true) (hf : zfall C k pc (.astore v) = true) (h1 : zchk1 mi C pc (.astore v) a cs = true) (h2 : zOK2 (zy mi).cls (.astore v) a cs) {ls st : List mzV} {μ : mzM} {H : Heap} {locs : List Loc} {la : Array Slot} {sa : List Value} (hA : zA b0 D ca adK adV bS L xs s mi ls st μ H locs la sa) : zgoal (W p l e R s m args below meth c H locs cells slots Q (F0 m pc la sa)) (zK p l e R s m args below meth c cells slots Q b0 D ca adK adV bS L xs mi C) (zKC p l e R s m args below meth c cells slots Q b0 D ca adK adV bS L xs mi C) (zKE p l e R s m args below meth c cells slots Q b0 D ca adK adV bS L xs mi) (zstep (.astore v) a cs k ls st μ) := by
  have hd0 : decode (zby mi) pc = .ok (.astore v, 2) := (zdk_p hd).resolve_left (by rintro ⟨_, _, _, _, h⟩; cases h)
  have hp : zpcs C (k + 1) = pc + 2 := zfl_p hf
  obtain ⟨al, ag, as, aP, aM, aS⟩ := hA
  refine zr1_ok as (fun t j r v0 ra hsa hv hr => ?_)
  refine zst_ok ?_
  subst hsa
  intro hK
  have hlt : v < la.size := by
    rw [al.1, ag.1]
    exact Nat.blt_eq.mp (Bool.and_eq_true_iff.mp h1).1
  rcases zrv_ref hv with hv0 | ⟨a0, hv0⟩
  · subst hv0
    refine lv_astoreN hx hb hd0 (zlv_has al.2.1) hlt rfl (fun l1 hl1 => ?_)
    obtain ⟨z1, z2⟩ := zrl_set (b0 := b0) (adK := adK) (adV := adV) (bS := bS) al ag h1 hv rfl hl1
    rw [← hp]
    exact hK _ _ _ _ ⟨z1, z2, hr, aP, aM, aS⟩
  · subst hv0
    refine lv_astore hx hb hd0 (zlv_has al.2.1) hlt rfl (fun l1 hl1 => ?_)
    obtain ⟨z1, z2⟩ := zrl_set (b0 := b0) (adK := adK) (adV := adV) (bS := bS) al ag h1 hv rfl hl1
    rw [← hp]
    exact hK _ _ _ _ ⟨z1, z2, hr, aP, aM, aS⟩
theorem zc_astore_n (hx : p.tables.exec = Jvm.exec) (hb : c.code = zby mi) (hml : c.maxLocals = zml mi) (hown : s.vm.findClass (zy mi).cls = some m.cls) (hts : ∀ w ∈ zTs, w.before args s = true) (hB : zBk b0 D ca adK adV bS L xs s) (hR : zfr mi ≤ R.frames ∧ zlo mi ≤ R.locals ∧ cells ≤ R.cells ∧ slots ≤ R.slots) {v : Fin 4} {k pc a : Nat} {cs : List (Int × Nat)} (hd : zdk (zby mi) pc (.astore_n v) = true) (hf : zfall C k pc (.astore_n v) = true) (h1 : zchk1 mi C pc (.astore_n v) a cs = true) (h2 : zOK2 (zy mi).cls (.astore_n v) a cs) {ls st : List mzV} {μ : mzM} {H : Heap} {locs : List Loc} {la : Array Slot} {sa : List Value} (hA : zA b0 D ca adK adV bS L xs s mi ls st μ H locs la sa) : zgoal (W p l e R s m args below meth c H locs cells slots Q (F0 m pc la sa)) (zK p l e R s m args below meth c cells slots Q b0 D ca adK adV bS L xs mi C) (zKC p l e R s m args below meth c cells slots Q b0 D ca adK adV bS L xs mi C) (zKE p l e R s m args below meth c cells slots Q b0 D ca adK adV bS L xs mi) (zstep (.astore_n v) a cs k ls st μ) := by
  have hd0 : decode (zby mi) pc = .ok (.astore_n v, 1) := (zdk_p hd).resolve_left (by rintro ⟨_, _, _, _, h⟩; cases h)
  have hp : zpcs C (k + 1) = pc + 1 := zfl_p hf
  obtain ⟨al, ag, as, aP, aM, aS⟩ := hA
  refine zr1_ok as (fun t j r v0 ra hsa hv hr => ?_)
  refine zst_ok ?_
  subst hsa
  intro hK
  have hlt : v.val < la.size := by
    rw [al.1, ag.1]
    exact Nat.blt_eq.mp (Bool.and_eq_true_iff.mp h1).1
  rcases zrv_ref hv with hv0 | ⟨a0, hv0⟩
  · subst hv0
    refine lv_astore_nN hx hb hd0 rfl (zlv_has al.2.1) hlt rfl (fun l1 hl1 => ?_)
    obtain ⟨z1, z2⟩ := zrl_set (b0 := b0) (adK := adK) (adV := adV) (bS := bS) al ag h1 hv rfl hl1
    rw [← hp]
    exact hK _ _ _ _ ⟨z1, z2, hr, aP, aM, aS⟩
  · subst hv0
    refine lv_astore_n hx hb hd0 rfl (zlv_has al.2.1) hlt rfl (fun l1 hl1 => ?_)
    obtain ⟨z1, z2⟩ := zrl_set (b0 := b0) (adK := adK) (adV := adV) (bS := bS) al ag h1 hv rfl hl1
    rw [← hp]
    exact hK _ _ _ _ ⟨z1, z2, hr, aP, aM, aS⟩
theorem zc_iadd (hx : p.tables.exec = Jvm.exec) (hb : c.code = zby mi) (hml : c.maxLocals = zml mi) (hown : s.vm.findClass (zy mi).cls = some m.cls) (hts : ∀ w ∈ zTs, w.before args s = true) (hB : zBk b0 D ca adK adV bS L xs s) (hR : zfr mi ≤ R.frames ∧ zlo mi ≤ R.locals ∧ cells ≤ R.cells ∧ slots ≤ R.slots) {k pc a : Nat} {cs : List (Int × Nat)} (hd : zdk (zby mi) pc (.iadd) = true) (hf : zfall C k pc (.iadd) = true) (h1 : zchk1 mi C pc (.iadd) a cs = true) (h2 : zOK2 (zy mi).cls (.iadd) a cs) {ls st : List mzV} {μ : mzM} {H : Heap} {locs : List Loc} {la : Array Slot} {sa : List Value} (hA : zA b0 D ca adK adV bS L xs s mi ls st μ H locs la sa) : zgoal (W p l e R s m args below meth c H locs cells slots Q (F0 m pc la sa)) (zK p l e R s m args below meth c cells slots Q b0 D ca adK adV bS L xs mi C) (zKC p l e R s m args below meth c cells slots Q b0 D ca adK adV bS L xs mi C) (zKE p l e R s m args below meth c cells slots Q b0 D ca adK adV bS L xs mi) (zstep (.iadd) a cs k ls st μ) := by
  have hd0 : decode (zby mi) pc = .ok (.iadd, 1) := (zdk_p hd).resolve_left (by rintro ⟨_, _, _, _, h⟩; cases h)
  have hp : zpcs C (k + 1) = pc + 1 := zfl_p hf
  obtain ⟨al, ag, as, aP, aM, aS⟩ := hA
  refine zi2_ok as (fun v w r ra hsa hv hw hr => ?_)
  subst hsa
  intro hq hK
  have hq : zin (v + w) := hq
  refine lv_iadd hx hb hd0 ?_
  rw [zn_add hv hw hq, ← hp]
  exact hK _ _ _ _ ⟨al, ag, zrs_cons (zrv_I hq) hr, aP, aM, aS⟩
theorem zc_isub (hx : p.tables.exec = Jvm.exec) (hb : c.code = zby mi) (hml : c.maxLocals = zml mi) (hown : s.vm.findClass (zy mi).cls = some m.cls) (hts : ∀ w ∈ zTs, w.before args s = true) (hB : zBk b0 D ca adK adV bS L xs s) (hR : zfr mi ≤ R.frames ∧ zlo mi ≤ R.locals ∧ cells ≤ R.cells ∧ slots ≤ R.slots) {k pc a : Nat} {cs : List (Int × Nat)} (hd : zdk (zby mi) pc (.isub) = true) (hf : zfall C k pc (.isub) = true) (h1 : zchk1 mi C pc (.isub) a cs = true) (h2 : zOK2 (zy mi).cls (.isub) a cs) {ls st : List mzV} {μ : mzM} {H : Heap} {locs : List Loc} {la : Array Slot} {sa : List Value} (hA : zA b0 D ca adK adV bS L xs s mi ls st μ H locs la sa) : zgoal (W p l e R s m args below meth c H locs cells slots Q (F0 m pc la sa)) (zK p l e R s m args below meth c cells slots Q b0 D ca adK adV bS L xs mi C) (zKC p l e R s m args below meth c cells slots Q b0 D ca adK adV bS L xs mi C) (zKE p l e R s m args below meth c cells slots Q b0 D ca adK adV bS L xs mi) (zstep (.isub) a cs k ls st μ) := by
  have hd0 : decode (zby mi) pc = .ok (.isub, 1) := (zdk_p hd).resolve_left (by rintro ⟨_, _, _, _, h⟩; cases h)
  have hp : zpcs C (k + 1) = pc + 1 := zfl_p hf
  obtain ⟨al, ag, as, aP, aM, aS⟩ := hA
  refine zi2_ok as (fun v w r ra hsa hv hw hr => ?_)
  subst hsa
  intro hq hK
  have hq : zin (v - w) := hq
  refine lv_isub hx hb hd0 ?_
  rw [zn_sub hv hw hq, ← hp]
  exact hK _ _ _ _ ⟨al, ag, zrs_cons (zrv_I hq) hr, aP, aM, aS⟩
theorem zc_imul (hx : p.tables.exec = Jvm.exec) (hb : c.code = zby mi) (hml : c.maxLocals = zml mi) (hown : s.vm.findClass (zy mi).cls = some m.cls) (hts : ∀ w ∈ zTs, w.before args s = true) (hB : zBk b0 D ca adK adV bS L xs s) (hR : zfr mi ≤ R.frames ∧ zlo mi ≤ R.locals ∧ cells ≤ R.cells ∧ slots ≤ R.slots) {k pc a : Nat} {cs : List (Int × Nat)} (hd : zdk (zby mi) pc (.imul) = true) (hf : zfall C k pc (.imul) = true) (h1 : zchk1 mi C pc (.imul) a cs = true) (h2 : zOK2 (zy mi).cls (.imul) a cs) {ls st : List mzV} {μ : mzM} {H : Heap} {locs : List Loc} {la : Array Slot} {sa : List Value} (hA : zA b0 D ca adK adV bS L xs s mi ls st μ H locs la sa) : zgoal (W p l e R s m args below meth c H locs cells slots Q (F0 m pc la sa)) (zK p l e R s m args below meth c cells slots Q b0 D ca adK adV bS L xs mi C) (zKC p l e R s m args below meth c cells slots Q b0 D ca adK adV bS L xs mi C) (zKE p l e R s m args below meth c cells slots Q b0 D ca adK adV bS L xs mi) (zstep (.imul) a cs k ls st μ) := by
  have hd0 : decode (zby mi) pc = .ok (.imul, 1) := (zdk_p hd).resolve_left (by rintro ⟨_, _, _, _, h⟩; cases h)
  have hp : zpcs C (k + 1) = pc + 1 := zfl_p hf
  obtain ⟨al, ag, as, aP, aM, aS⟩ := hA
  refine zi2_ok as (fun v w r ra hsa hv hw hr => ?_)
  subst hsa
  intro hq hK
  have hq : zin (v * w) := hq
  refine lv_imul hx hb hd0 ?_
  rw [zn_mul hv hw hq, ← hp]
  exact hK _ _ _ _ ⟨al, ag, zrs_cons (zrv_I hq) hr, aP, aM, aS⟩
theorem zc_idiv (hx : p.tables.exec = Jvm.exec) (hb : c.code = zby mi) (hml : c.maxLocals = zml mi) (hown : s.vm.findClass (zy mi).cls = some m.cls) (hts : ∀ w ∈ zTs, w.before args s = true) (hB : zBk b0 D ca adK adV bS L xs s) (hR : zfr mi ≤ R.frames ∧ zlo mi ≤ R.locals ∧ cells ≤ R.cells ∧ slots ≤ R.slots) {k pc a : Nat} {cs : List (Int × Nat)} (hd : zdk (zby mi) pc (.idiv) = true) (hf : zfall C k pc (.idiv) = true) (h1 : zchk1 mi C pc (.idiv) a cs = true) (h2 : zOK2 (zy mi).cls (.idiv) a cs) {ls st : List mzV} {μ : mzM} {H : Heap} {locs : List Loc} {la : Array Slot} {sa : List Value} (hA : zA b0 D ca adK adV bS L xs s mi ls st μ H locs la sa) : zgoal (W p l e R s m args below meth c H locs cells slots Q (F0 m pc la sa)) (zK p l e R s m args below meth c cells slots Q b0 D ca adK adV bS L xs mi C) (zKC p l e R s m args below meth c cells slots Q b0 D ca adK adV bS L xs mi C) (zKE p l e R s m args below meth c cells slots Q b0 D ca adK adV bS L xs mi) (zstep (.idiv) a cs k ls st μ) := by
  have hd0 : decode (zby mi) pc = .ok (.idiv, 1) := (zdk_p hd).resolve_left (by rintro ⟨_, _, _, _, h⟩; cases h)
  have hp : zpcs C (k + 1) = pc + 1 := zfl_p hf
  obtain ⟨al, ag, as, aP, aM, aS⟩ := hA
  refine zi2_ok as (fun v w r ra hsa hv hw hr => ?_)
  subst hsa
  intro hq hK
  have hq : w ≠ 0 ∧ zin (v.tdiv w) := hq
  refine lv_idiv hx hb hd0 (by rw [show (0 : Int32) = Int32.ofInt 0 from rfl, zn_eq hw zin_z]; exact hq.1) ?_
  rw [zn_div hv hw hq.2, ← hp]
  exact hK _ _ _ _ ⟨al, ag, zrs_cons (zrv_I hq.2) hr, aP, aM, aS⟩
theorem zc_irem (hx : p.tables.exec = Jvm.exec) (hb : c.code = zby mi) (hml : c.maxLocals = zml mi) (hown : s.vm.findClass (zy mi).cls = some m.cls) (hts : ∀ w ∈ zTs, w.before args s = true) (hB : zBk b0 D ca adK adV bS L xs s) (hR : zfr mi ≤ R.frames ∧ zlo mi ≤ R.locals ∧ cells ≤ R.cells ∧ slots ≤ R.slots) {k pc a : Nat} {cs : List (Int × Nat)} (hd : zdk (zby mi) pc (.irem) = true) (hf : zfall C k pc (.irem) = true) (h1 : zchk1 mi C pc (.irem) a cs = true) (h2 : zOK2 (zy mi).cls (.irem) a cs) {ls st : List mzV} {μ : mzM} {H : Heap} {locs : List Loc} {la : Array Slot} {sa : List Value} (hA : zA b0 D ca adK adV bS L xs s mi ls st μ H locs la sa) : zgoal (W p l e R s m args below meth c H locs cells slots Q (F0 m pc la sa)) (zK p l e R s m args below meth c cells slots Q b0 D ca adK adV bS L xs mi C) (zKC p l e R s m args below meth c cells slots Q b0 D ca adK adV bS L xs mi C) (zKE p l e R s m args below meth c cells slots Q b0 D ca adK adV bS L xs mi) (zstep (.irem) a cs k ls st μ) := by
  have hd0 : decode (zby mi) pc = .ok (.irem, 1) := (zdk_p hd).resolve_left (by rintro ⟨_, _, _, _, h⟩; cases h)
  have hp : zpcs C (k + 1) = pc + 1 := zfl_p hf
  obtain ⟨al, ag, as, aP, aM, aS⟩ := hA
  refine zi2_ok as (fun v w r ra hsa hv hw hr => ?_)
  subst hsa
  intro hq hK
  have hq : w ≠ 0 := hq
  refine lv_irem hx hb hd0 (by rw [show (0 : Int32) = Int32.ofInt 0 from rfl, zn_eq hw zin_z]; exact hq) ?_
  rw [zn_rem hv hw hq, ← hp]
  exact hK _ _ _ _ ⟨al, ag, zrs_cons (zrv_I (zin_tmod hv hw hq)) hr, aP, aM, aS⟩
theorem zc_ineg (hx : p.tables.exec = Jvm.exec) (hb : c.code = zby mi) (hml : c.maxLocals = zml mi) (hown : s.vm.findClass (zy mi).cls = some m.cls) (hts : ∀ w ∈ zTs, w.before args s = true) (hB : zBk b0 D ca adK adV bS L xs s) (hR : zfr mi ≤ R.frames ∧ zlo mi ≤ R.locals ∧ cells ≤ R.cells ∧ slots ≤ R.slots) {k pc a : Nat} {cs : List (Int × Nat)} (hd : zdk (zby mi) pc (.ineg) = true) (hf : zfall C k pc (.ineg) = true) (h1 : zchk1 mi C pc (.ineg) a cs = true) (h2 : zOK2 (zy mi).cls (.ineg) a cs) {ls st : List mzV} {μ : mzM} {H : Heap} {locs : List Loc} {la : Array Slot} {sa : List Value} (hA : zA b0 D ca adK adV bS L xs s mi ls st μ H locs la sa) : zgoal (W p l e R s m args below meth c H locs cells slots Q (F0 m pc la sa)) (zK p l e R s m args below meth c cells slots Q b0 D ca adK adV bS L xs mi C) (zKC p l e R s m args below meth c cells slots Q b0 D ca adK adV bS L xs mi C) (zKE p l e R s m args below meth c cells slots Q b0 D ca adK adV bS L xs mi) (zstep (.ineg) a cs k ls st μ) := by
  have hd0 : decode (zby mi) pc = .ok (.ineg, 1) := (zdk_p hd).resolve_left (by rintro ⟨_, _, _, _, h⟩; cases h)
  have hp : zpcs C (k + 1) = pc + 1 := zfl_p hf
  obtain ⟨al, ag, as, aP, aM, aS⟩ := hA
  refine zi1_ok as (fun v r ra hsa hv hr => ?_)
  subst hsa
  intro hK
  refine lv_ineg hx hb hd0 ?_
  rw [zn_neg hv, ← hp]
  exact hK _ _ _ _ ⟨al, ag, zrs_cons (zrv_I (zw_in _)) hr, aP, aM, aS⟩
theorem zc_iand (hx : p.tables.exec = Jvm.exec) (hb : c.code = zby mi) (hml : c.maxLocals = zml mi) (hown : s.vm.findClass (zy mi).cls = some m.cls) (hts : ∀ w ∈ zTs, w.before args s = true) (hB : zBk b0 D ca adK adV bS L xs s) (hR : zfr mi ≤ R.frames ∧ zlo mi ≤ R.locals ∧ cells ≤ R.cells ∧ slots ≤ R.slots) {k pc a : Nat} {cs : List (Int × Nat)} (hd : zdk (zby mi) pc (.iand) = true) (hf : zfall C k pc (.iand) = true) (h1 : zchk1 mi C pc (.iand) a cs = true) (h2 : zOK2 (zy mi).cls (.iand) a cs) {ls st : List mzV} {μ : mzM} {H : Heap} {locs : List Loc} {la : Array Slot} {sa : List Value} (hA : zA b0 D ca adK adV bS L xs s mi ls st μ H locs la sa) : zgoal (W p l e R s m args below meth c H locs cells slots Q (F0 m pc la sa)) (zK p l e R s m args below meth c cells slots Q b0 D ca adK adV bS L xs mi C) (zKC p l e R s m args below meth c cells slots Q b0 D ca adK adV bS L xs mi C) (zKE p l e R s m args below meth c cells slots Q b0 D ca adK adV bS L xs mi) (zstep (.iand) a cs k ls st μ) := by
  have hd0 : decode (zby mi) pc = .ok (.iand, 1) := (zdk_p hd).resolve_left (by rintro ⟨_, _, _, _, h⟩; cases h)
  have hp : zpcs C (k + 1) = pc + 1 := zfl_p hf
  obtain ⟨al, ag, as, aP, aM, aS⟩ := hA
  refine zi2_ok as (fun v w r ra hsa hv hw hr => ?_)
  subst hsa
  intro hK
  refine lv_iand hx hb hd0 ?_
  rw [show _ = Int32.ofInt (zand v w) from zi_of rfl, ← hp]
  exact hK _ _ _ _ ⟨al, ag, zrs_cons (zrv_I (zin_32 _)) hr, aP, aM, aS⟩
theorem zc_ixor (hx : p.tables.exec = Jvm.exec) (hb : c.code = zby mi) (hml : c.maxLocals = zml mi) (hown : s.vm.findClass (zy mi).cls = some m.cls) (hts : ∀ w ∈ zTs, w.before args s = true) (hB : zBk b0 D ca adK adV bS L xs s) (hR : zfr mi ≤ R.frames ∧ zlo mi ≤ R.locals ∧ cells ≤ R.cells ∧ slots ≤ R.slots) {k pc a : Nat} {cs : List (Int × Nat)} (hd : zdk (zby mi) pc (.ixor) = true) (hf : zfall C k pc (.ixor) = true) (h1 : zchk1 mi C pc (.ixor) a cs = true) (h2 : zOK2 (zy mi).cls (.ixor) a cs) {ls st : List mzV} {μ : mzM} {H : Heap} {locs : List Loc} {la : Array Slot} {sa : List Value} (hA : zA b0 D ca adK adV bS L xs s mi ls st μ H locs la sa) : zgoal (W p l e R s m args below meth c H locs cells slots Q (F0 m pc la sa)) (zK p l e R s m args below meth c cells slots Q b0 D ca adK adV bS L xs mi C) (zKC p l e R s m args below meth c cells slots Q b0 D ca adK adV bS L xs mi C) (zKE p l e R s m args below meth c cells slots Q b0 D ca adK adV bS L xs mi) (zstep (.ixor) a cs k ls st μ) := by
  have hd0 : decode (zby mi) pc = .ok (.ixor, 1) := (zdk_p hd).resolve_left (by rintro ⟨_, _, _, _, h⟩; cases h)
  have hp : zpcs C (k + 1) = pc + 1 := zfl_p hf
  obtain ⟨al, ag, as, aP, aM, aS⟩ := hA
  refine zi2_ok as (fun v w r ra hsa hv hw hr => ?_)
  subst hsa
  intro hK
  refine lv_ixor hx hb hd0 ?_
  rw [show _ = Int32.ofInt (zxor v w) from zi_of rfl, ← hp]
  exact hK _ _ _ _ ⟨al, ag, zrs_cons (zrv_I (zin_32 _)) hr, aP, aM, aS⟩
theorem zc_ishl (hx : p.tables.exec = Jvm.exec) (hb : c.code = zby mi) (hml : c.maxLocals = zml mi) (hown : s.vm.findClass (zy mi).cls = some m.cls) (hts : ∀ w ∈ zTs, w.before args s = true) (hB : zBk b0 D ca adK adV bS L xs s) (hR : zfr mi ≤ R.frames ∧ zlo mi ≤ R.locals ∧ cells ≤ R.cells ∧ slots ≤ R.slots) {k pc a : Nat} {cs : List (Int × Nat)} (hd : zdk (zby mi) pc (.ishl) = true) (hf : zfall C k pc (.ishl) = true) (h1 : zchk1 mi C pc (.ishl) a cs = true) (h2 : zOK2 (zy mi).cls (.ishl) a cs) {ls st : List mzV} {μ : mzM} {H : Heap} {locs : List Loc} {la : Array Slot} {sa : List Value} (hA : zA b0 D ca adK adV bS L xs s mi ls st μ H locs la sa) : zgoal (W p l e R s m args below meth c H locs cells slots Q (F0 m pc la sa)) (zK p l e R s m args below meth c cells slots Q b0 D ca adK adV bS L xs mi C) (zKC p l e R s m args below meth c cells slots Q b0 D ca adK adV bS L xs mi C) (zKE p l e R s m args below meth c cells slots Q b0 D ca adK adV bS L xs mi) (zstep (.ishl) a cs k ls st μ) := by
  have hd0 : decode (zby mi) pc = .ok (.ishl, 1) := (zdk_p hd).resolve_left (by rintro ⟨_, _, _, _, h⟩; cases h)
  have hp : zpcs C (k + 1) = pc + 1 := zfl_p hf
  obtain ⟨al, ag, as, aP, aM, aS⟩ := hA
  refine zi2_ok as (fun v w r ra hsa hv hw hr => ?_)
  subst hsa
  intro hK
  refine lv_ishl hx hb hd0 ?_
  rw [show _ = Int32.ofInt (zshl v w) from zi_of rfl, ← hp]
  exact hK _ _ _ _ ⟨al, ag, zrs_cons (zrv_I (zin_32 _)) hr, aP, aM, aS⟩
theorem zc_ishr (hx : p.tables.exec = Jvm.exec) (hb : c.code = zby mi) (hml : c.maxLocals = zml mi) (hown : s.vm.findClass (zy mi).cls = some m.cls) (hts : ∀ w ∈ zTs, w.before args s = true) (hB : zBk b0 D ca adK adV bS L xs s) (hR : zfr mi ≤ R.frames ∧ zlo mi ≤ R.locals ∧ cells ≤ R.cells ∧ slots ≤ R.slots) {k pc a : Nat} {cs : List (Int × Nat)} (hd : zdk (zby mi) pc (.ishr) = true) (hf : zfall C k pc (.ishr) = true) (h1 : zchk1 mi C pc (.ishr) a cs = true) (h2 : zOK2 (zy mi).cls (.ishr) a cs) {ls st : List mzV} {μ : mzM} {H : Heap} {locs : List Loc} {la : Array Slot} {sa : List Value} (hA : zA b0 D ca adK adV bS L xs s mi ls st μ H locs la sa) : zgoal (W p l e R s m args below meth c H locs cells slots Q (F0 m pc la sa)) (zK p l e R s m args below meth c cells slots Q b0 D ca adK adV bS L xs mi C) (zKC p l e R s m args below meth c cells slots Q b0 D ca adK adV bS L xs mi C) (zKE p l e R s m args below meth c cells slots Q b0 D ca adK adV bS L xs mi) (zstep (.ishr) a cs k ls st μ) := by
  have hd0 : decode (zby mi) pc = .ok (.ishr, 1) := (zdk_p hd).resolve_left (by rintro ⟨_, _, _, _, h⟩; cases h)
  have hp : zpcs C (k + 1) = pc + 1 := zfl_p hf
  obtain ⟨al, ag, as, aP, aM, aS⟩ := hA
  refine zi2_ok as (fun v w r ra hsa hv hw hr => ?_)
  subst hsa
  intro hK
  refine lv_ishr hx hb hd0 ?_
  rw [show _ = Int32.ofInt (zshr v w) from zi_of rfl, ← hp]
  exact hK _ _ _ _ ⟨al, ag, zrs_cons (zrv_I (zin_32 _)) hr, aP, aM, aS⟩
theorem zc_iushr (hx : p.tables.exec = Jvm.exec) (hb : c.code = zby mi) (hml : c.maxLocals = zml mi) (hown : s.vm.findClass (zy mi).cls = some m.cls) (hts : ∀ w ∈ zTs, w.before args s = true) (hB : zBk b0 D ca adK adV bS L xs s) (hR : zfr mi ≤ R.frames ∧ zlo mi ≤ R.locals ∧ cells ≤ R.cells ∧ slots ≤ R.slots) {k pc a : Nat} {cs : List (Int × Nat)} (hd : zdk (zby mi) pc (.iushr) = true) (hf : zfall C k pc (.iushr) = true) (h1 : zchk1 mi C pc (.iushr) a cs = true) (h2 : zOK2 (zy mi).cls (.iushr) a cs) {ls st : List mzV} {μ : mzM} {H : Heap} {locs : List Loc} {la : Array Slot} {sa : List Value} (hA : zA b0 D ca adK adV bS L xs s mi ls st μ H locs la sa) : zgoal (W p l e R s m args below meth c H locs cells slots Q (F0 m pc la sa)) (zK p l e R s m args below meth c cells slots Q b0 D ca adK adV bS L xs mi C) (zKC p l e R s m args below meth c cells slots Q b0 D ca adK adV bS L xs mi C) (zKE p l e R s m args below meth c cells slots Q b0 D ca adK adV bS L xs mi) (zstep (.iushr) a cs k ls st μ) := by
  have hd0 : decode (zby mi) pc = .ok (.iushr, 1) := (zdk_p hd).resolve_left (by rintro ⟨_, _, _, _, h⟩; cases h)
  have hp : zpcs C (k + 1) = pc + 1 := zfl_p hf
  obtain ⟨al, ag, as, aP, aM, aS⟩ := hA
  refine zi2_ok as (fun v w r ra hsa hv hw hr => ?_)
  subst hsa
  intro hK
  refine lv_iushr (v := Int32.ofInt (zushr v w)) hx hb hd0 (zi_of rfl) ?_
  rw [← hp]
  exact hK _ _ _ _ ⟨al, ag, zrs_cons (zrv_I (zin_32 _)) hr, aP, aM, aS⟩
theorem zc_ladd (hx : p.tables.exec = Jvm.exec) (hb : c.code = zby mi) (hml : c.maxLocals = zml mi) (hown : s.vm.findClass (zy mi).cls = some m.cls) (hts : ∀ w ∈ zTs, w.before args s = true) (hB : zBk b0 D ca adK adV bS L xs s) (hR : zfr mi ≤ R.frames ∧ zlo mi ≤ R.locals ∧ cells ≤ R.cells ∧ slots ≤ R.slots) {k pc a : Nat} {cs : List (Int × Nat)} (hd : zdk (zby mi) pc (.ladd) = true) (hf : zfall C k pc (.ladd) = true) (h1 : zchk1 mi C pc (.ladd) a cs = true) (h2 : zOK2 (zy mi).cls (.ladd) a cs) {ls st : List mzV} {μ : mzM} {H : Heap} {locs : List Loc} {la : Array Slot} {sa : List Value} (hA : zA b0 D ca adK adV bS L xs s mi ls st μ H locs la sa) : zgoal (W p l e R s m args below meth c H locs cells slots Q (F0 m pc la sa)) (zK p l e R s m args below meth c cells slots Q b0 D ca adK adV bS L xs mi C) (zKC p l e R s m args below meth c cells slots Q b0 D ca adK adV bS L xs mi C) (zKE p l e R s m args below meth c cells slots Q b0 D ca adK adV bS L xs mi) (zstep (.ladd) a cs k ls st μ) := by
  have hd0 : decode (zby mi) pc = .ok (.ladd, 1) := (zdk_p hd).resolve_left (by rintro ⟨_, _, _, _, h⟩; cases h)
  have hp : zpcs C (k + 1) = pc + 1 := zfl_p hf
  obtain ⟨al, ag, as, aP, aM, aS⟩ := hA
  refine zl2_ok as (fun v w r ra hsa hv hw hr => ?_)
  subst hsa
  intro hq hK
  have hq : zin6 (v + w) := hq
  refine lv_ladd hx hb hd0 ?_
  rw [zl_add hv hw hq, ← hp]
  exact hK _ _ _ _ ⟨al, ag, zrs_cons (zrv_L hq) hr, aP, aM, aS⟩
theorem zc_lsub (hx : p.tables.exec = Jvm.exec) (hb : c.code = zby mi) (hml : c.maxLocals = zml mi) (hown : s.vm.findClass (zy mi).cls = some m.cls) (hts : ∀ w ∈ zTs, w.before args s = true) (hB : zBk b0 D ca adK adV bS L xs s) (hR : zfr mi ≤ R.frames ∧ zlo mi ≤ R.locals ∧ cells ≤ R.cells ∧ slots ≤ R.slots) {k pc a : Nat} {cs : List (Int × Nat)} (hd : zdk (zby mi) pc (.lsub) = true) (hf : zfall C k pc (.lsub) = true) (h1 : zchk1 mi C pc (.lsub) a cs = true) (h2 : zOK2 (zy mi).cls (.lsub) a cs) {ls st : List mzV} {μ : mzM} {H : Heap} {locs : List Loc} {la : Array Slot} {sa : List Value} (hA : zA b0 D ca adK adV bS L xs s mi ls st μ H locs la sa) : zgoal (W p l e R s m args below meth c H locs cells slots Q (F0 m pc la sa)) (zK p l e R s m args below meth c cells slots Q b0 D ca adK adV bS L xs mi C) (zKC p l e R s m args below meth c cells slots Q b0 D ca adK adV bS L xs mi C) (zKE p l e R s m args below meth c cells slots Q b0 D ca adK adV bS L xs mi) (zstep (.lsub) a cs k ls st μ) := by
  have hd0 : decode (zby mi) pc = .ok (.lsub, 1) := (zdk_p hd).resolve_left (by rintro ⟨_, _, _, _, h⟩; cases h)
  have hp : zpcs C (k + 1) = pc + 1 := zfl_p hf
  obtain ⟨al, ag, as, aP, aM, aS⟩ := hA
  refine zl2_ok as (fun v w r ra hsa hv hw hr => ?_)
  subst hsa
  intro hq hK
  have hq : zin6 (v - w) := hq
  refine lv_lsub hx hb hd0 ?_
  rw [zl_sub hv hw hq, ← hp]
  exact hK _ _ _ _ ⟨al, ag, zrs_cons (zrv_L hq) hr, aP, aM, aS⟩
theorem zc_lmul (hx : p.tables.exec = Jvm.exec) (hb : c.code = zby mi) (hml : c.maxLocals = zml mi) (hown : s.vm.findClass (zy mi).cls = some m.cls) (hts : ∀ w ∈ zTs, w.before args s = true) (hB : zBk b0 D ca adK adV bS L xs s) (hR : zfr mi ≤ R.frames ∧ zlo mi ≤ R.locals ∧ cells ≤ R.cells ∧ slots ≤ R.slots) {k pc a : Nat} {cs : List (Int × Nat)} (hd : zdk (zby mi) pc (.lmul) = true) (hf : zfall C k pc (.lmul) = true) (h1 : zchk1 mi C pc (.lmul) a cs = true) (h2 : zOK2 (zy mi).cls (.lmul) a cs) {ls st : List mzV} {μ : mzM} {H : Heap} {locs : List Loc} {la : Array Slot} {sa : List Value} (hA : zA b0 D ca adK adV bS L xs s mi ls st μ H locs la sa) : zgoal (W p l e R s m args below meth c H locs cells slots Q (F0 m pc la sa)) (zK p l e R s m args below meth c cells slots Q b0 D ca adK adV bS L xs mi C) (zKC p l e R s m args below meth c cells slots Q b0 D ca adK adV bS L xs mi C) (zKE p l e R s m args below meth c cells slots Q b0 D ca adK adV bS L xs mi) (zstep (.lmul) a cs k ls st μ) := by
  have hd0 : decode (zby mi) pc = .ok (.lmul, 1) := (zdk_p hd).resolve_left (by rintro ⟨_, _, _, _, h⟩; cases h)
  have hp : zpcs C (k + 1) = pc + 1 := zfl_p hf
  obtain ⟨al, ag, as, aP, aM, aS⟩ := hA
  refine zl2_ok as (fun v w r ra hsa hv hw hr => ?_)
  subst hsa
  intro hq hK
  have hq : zin6 (v * w) := hq
  refine lv_lmul hx hb hd0 ?_
  rw [zl_mul hv hw hq, ← hp]
  exact hK _ _ _ _ ⟨al, ag, zrs_cons (zrv_L hq) hr, aP, aM, aS⟩
theorem zc_lcmp (hx : p.tables.exec = Jvm.exec) (hb : c.code = zby mi) (hml : c.maxLocals = zml mi) (hown : s.vm.findClass (zy mi).cls = some m.cls) (hts : ∀ w ∈ zTs, w.before args s = true) (hB : zBk b0 D ca adK adV bS L xs s) (hR : zfr mi ≤ R.frames ∧ zlo mi ≤ R.locals ∧ cells ≤ R.cells ∧ slots ≤ R.slots) {k pc a : Nat} {cs : List (Int × Nat)} (hd : zdk (zby mi) pc (.lcmp) = true) (hf : zfall C k pc (.lcmp) = true) (h1 : zchk1 mi C pc (.lcmp) a cs = true) (h2 : zOK2 (zy mi).cls (.lcmp) a cs) {ls st : List mzV} {μ : mzM} {H : Heap} {locs : List Loc} {la : Array Slot} {sa : List Value} (hA : zA b0 D ca adK adV bS L xs s mi ls st μ H locs la sa) : zgoal (W p l e R s m args below meth c H locs cells slots Q (F0 m pc la sa)) (zK p l e R s m args below meth c cells slots Q b0 D ca adK adV bS L xs mi C) (zKC p l e R s m args below meth c cells slots Q b0 D ca adK adV bS L xs mi C) (zKE p l e R s m args below meth c cells slots Q b0 D ca adK adV bS L xs mi) (zstep (.lcmp) a cs k ls st μ) := by
  have hd0 : decode (zby mi) pc = .ok (.lcmp, 1) := (zdk_p hd).resolve_left (by rintro ⟨_, _, _, _, h⟩; cases h)
  have hp : zpcs C (k + 1) = pc + 1 := zfl_p hf
  obtain ⟨al, ag, as, aP, aM, aS⟩ := hA
  refine zl2_ok as (fun v w r ra hsa hv hw hr => ?_)
  subst hsa
  intro hK
  refine W.lcmp hx hb hd0 ?_
  rw [zl_cmp hv hw, ← hp]
  exact hK _ _ _ _ ⟨al, ag, zrs_cons (zrv_I (by unfold zcmp; constructor <;> split <;> (try split) <;> omega)) hr, aP, aM, aS⟩
theorem zc_i2l (hx : p.tables.exec = Jvm.exec) (hb : c.code = zby mi) (hml : c.maxLocals = zml mi) (hown : s.vm.findClass (zy mi).cls = some m.cls) (hts : ∀ w ∈ zTs, w.before args s = true) (hB : zBk b0 D ca adK adV bS L xs s) (hR : zfr mi ≤ R.frames ∧ zlo mi ≤ R.locals ∧ cells ≤ R.cells ∧ slots ≤ R.slots) {k pc a : Nat} {cs : List (Int × Nat)} (hd : zdk (zby mi) pc (.i2l) = true) (hf : zfall C k pc (.i2l) = true) (h1 : zchk1 mi C pc (.i2l) a cs = true) (h2 : zOK2 (zy mi).cls (.i2l) a cs) {ls st : List mzV} {μ : mzM} {H : Heap} {locs : List Loc} {la : Array Slot} {sa : List Value} (hA : zA b0 D ca adK adV bS L xs s mi ls st μ H locs la sa) : zgoal (W p l e R s m args below meth c H locs cells slots Q (F0 m pc la sa)) (zK p l e R s m args below meth c cells slots Q b0 D ca adK adV bS L xs mi C) (zKC p l e R s m args below meth c cells slots Q b0 D ca adK adV bS L xs mi C) (zKE p l e R s m args below meth c cells slots Q b0 D ca adK adV bS L xs mi) (zstep (.i2l) a cs k ls st μ) := by
  have hd0 : decode (zby mi) pc = .ok (.i2l, 1) := (zdk_p hd).resolve_left (by rintro ⟨_, _, _, _, h⟩; cases h)
  have hp : zpcs C (k + 1) = pc + 1 := zfl_p hf
  obtain ⟨al, ag, as, aP, aM, aS⟩ := hA
  refine zi1_ok as (fun v r ra hsa hv hr => ?_)
  subst hsa
  intro hK
  refine lv_i2l hx hb hd0 (zn_i2l hv) ?_
  rw [← hp]
  exact hK _ _ _ _ ⟨al, ag, zrs_cons (zrv_L (by have h3 := hv.1; have h4 := hv.2; constructor <;> omega)) hr, aP, aM, aS⟩
theorem zc_l2i (hx : p.tables.exec = Jvm.exec) (hb : c.code = zby mi) (hml : c.maxLocals = zml mi) (hown : s.vm.findClass (zy mi).cls = some m.cls) (hts : ∀ w ∈ zTs, w.before args s = true) (hB : zBk b0 D ca adK adV bS L xs s) (hR : zfr mi ≤ R.frames ∧ zlo mi ≤ R.locals ∧ cells ≤ R.cells ∧ slots ≤ R.slots) {k pc a : Nat} {cs : List (Int × Nat)} (hd : zdk (zby mi) pc (.l2i) = true) (hf : zfall C k pc (.l2i) = true) (h1 : zchk1 mi C pc (.l2i) a cs = true) (h2 : zOK2 (zy mi).cls (.l2i) a cs) {ls st : List mzV} {μ : mzM} {H : Heap} {locs : List Loc} {la : Array Slot} {sa : List Value} (hA : zA b0 D ca adK adV bS L xs s mi ls st μ H locs la sa) : zgoal (W p l e R s m args below meth c H locs cells slots Q (F0 m pc la sa)) (zK p l e R s m args below meth c cells slots Q b0 D ca adK adV bS L xs mi C) (zKC p l e R s m args below meth c cells slots Q b0 D ca adK adV bS L xs mi C) (zKE p l e R s m args below meth c cells slots Q b0 D ca adK adV bS L xs mi) (zstep (.l2i) a cs k ls st μ) := by
  have hd0 : decode (zby mi) pc = .ok (.l2i, 1) := (zdk_p hd).resolve_left (by rintro ⟨_, _, _, _, h⟩; cases h)
  have hp : zpcs C (k + 1) = pc + 1 := zfl_p hf
  obtain ⟨al, ag, as, aP, aM, aS⟩ := hA
  refine zl1_ok as (fun v r ra hsa hv hr => ?_)
  subst hsa
  intro hK
  refine lv_l2i hx hb hd0 (zn_l2i hv) ?_
  rw [← hp]
  exact hK _ _ _ _ ⟨al, ag, zrs_cons (zrv_I (zw_in _)) hr, aP, aM, aS⟩
theorem zc_i2c (hx : p.tables.exec = Jvm.exec) (hb : c.code = zby mi) (hml : c.maxLocals = zml mi) (hown : s.vm.findClass (zy mi).cls = some m.cls) (hts : ∀ w ∈ zTs, w.before args s = true) (hB : zBk b0 D ca adK adV bS L xs s) (hR : zfr mi ≤ R.frames ∧ zlo mi ≤ R.locals ∧ cells ≤ R.cells ∧ slots ≤ R.slots) {k pc a : Nat} {cs : List (Int × Nat)} (hd : zdk (zby mi) pc (.i2c) = true) (hf : zfall C k pc (.i2c) = true) (h1 : zchk1 mi C pc (.i2c) a cs = true) (h2 : zOK2 (zy mi).cls (.i2c) a cs) {ls st : List mzV} {μ : mzM} {H : Heap} {locs : List Loc} {la : Array Slot} {sa : List Value} (hA : zA b0 D ca adK adV bS L xs s mi ls st μ H locs la sa) : zgoal (W p l e R s m args below meth c H locs cells slots Q (F0 m pc la sa)) (zK p l e R s m args below meth c cells slots Q b0 D ca adK adV bS L xs mi C) (zKC p l e R s m args below meth c cells slots Q b0 D ca adK adV bS L xs mi C) (zKE p l e R s m args below meth c cells slots Q b0 D ca adK adV bS L xs mi) (zstep (.i2c) a cs k ls st μ) := by
  have hd0 : decode (zby mi) pc = .ok (.i2c, 1) := (zdk_p hd).resolve_left (by rintro ⟨_, _, _, _, h⟩; cases h)
  have hp : zpcs C (k + 1) = pc + 1 := zfl_p hf
  obtain ⟨al, ag, as, aP, aM, aS⟩ := hA
  refine zi1_ok as (fun v r ra hsa hv hr => ?_)
  subst hsa
  intro hK
  refine lv_i2c hx hb hd0 (zn_i2c hv) ?_
  rw [← hp]
  exact hK _ _ _ _ ⟨al, ag, zrs_cons (zrv_I (by constructor <;> omega)) hr, aP, aM, aS⟩
theorem zc_i2b (hx : p.tables.exec = Jvm.exec) (hb : c.code = zby mi) (hml : c.maxLocals = zml mi) (hown : s.vm.findClass (zy mi).cls = some m.cls) (hts : ∀ w ∈ zTs, w.before args s = true) (hB : zBk b0 D ca adK adV bS L xs s) (hR : zfr mi ≤ R.frames ∧ zlo mi ≤ R.locals ∧ cells ≤ R.cells ∧ slots ≤ R.slots) {k pc a : Nat} {cs : List (Int × Nat)} (hd : zdk (zby mi) pc (.i2b) = true) (hf : zfall C k pc (.i2b) = true) (h1 : zchk1 mi C pc (.i2b) a cs = true) (h2 : zOK2 (zy mi).cls (.i2b) a cs) {ls st : List mzV} {μ : mzM} {H : Heap} {locs : List Loc} {la : Array Slot} {sa : List Value} (hA : zA b0 D ca adK adV bS L xs s mi ls st μ H locs la sa) : zgoal (W p l e R s m args below meth c H locs cells slots Q (F0 m pc la sa)) (zK p l e R s m args below meth c cells slots Q b0 D ca adK adV bS L xs mi C) (zKC p l e R s m args below meth c cells slots Q b0 D ca adK adV bS L xs mi C) (zKE p l e R s m args below meth c cells slots Q b0 D ca adK adV bS L xs mi) (zstep (.i2b) a cs k ls st μ) := by
  have hd0 : decode (zby mi) pc = .ok (.i2b, 1) := (zdk_p hd).resolve_left (by rintro ⟨_, _, _, _, h⟩; cases h)
  have hp : zpcs C (k + 1) = pc + 1 := zfl_p hf
  obtain ⟨al, ag, as, aP, aM, aS⟩ := hA
  refine zi1_ok as (fun v r ra hsa hv hr => ?_)
  subst hsa
  intro hK
  refine lv_i2b hx hb hd0 (zn_i2b hv) ?_
  rw [← hp]
  exact hK _ _ _ _ ⟨al, ag, zrs_cons (zrv_I (zb_in _)) hr, aP, aM, aS⟩
theorem zc_goto (hx : p.tables.exec = Jvm.exec) (hb : c.code = zby mi) (hml : c.maxLocals = zml mi) (hown : s.vm.findClass (zy mi).cls = some m.cls) (hts : ∀ w ∈ zTs, w.before args s = true) (hB : zBk b0 D ca adK adV bS L xs s) (hR : zfr mi ≤ R.frames ∧ zlo mi ≤ R.locals ∧ cells ≤ R.cells ∧ slots ≤ R.slots) {v : Int} {k pc a : Nat} {cs : List (Int × Nat)} (hd : zdk (zby mi) pc (.goto v) = true) (hf : zfall C k pc (.goto v) = true) (h1 : zchk1 mi C pc (.goto v) a cs = true) (h2 : zOK2 (zy mi).cls (.goto v) a cs) {ls st : List mzV} {μ : mzM} {H : Heap} {locs : List Loc} {la : Array Slot} {sa : List Value} (hA : zA b0 D ca adK adV bS L xs s mi ls st μ H locs la sa) : zgoal (W p l e R s m args below meth c H locs cells slots Q (F0 m pc la sa)) (zK p l e R s m args below meth c cells slots Q b0 D ca adK adV bS L xs mi C) (zKC p l e R s m args below meth c cells slots Q b0 D ca adK adV bS L xs mi C) (zKE p l e R s m args below meth c cells slots Q b0 D ca adK adV bS L xs mi) (zstep (.goto v) a cs k ls st μ) := by
  have hd0 : decode (zby mi) pc = .ok (.goto v, 3) := (zdk_p hd).resolve_left (by rintro ⟨_, _, _, _, h⟩; cases h)
  obtain ⟨al, ag, as, aP, aM, aS⟩ := hA
  intro hK
  refine lv_goto hx hb hd0 (zgt_p h1) ?_
  exact hK _ _ _ _ ⟨al, ag, as, aP, aM, aS⟩
theorem zc_if_icmp (hx : p.tables.exec = Jvm.exec) (hb : c.code = zby mi) (hml : c.maxLocals = zml mi) (hown : s.vm.findClass (zy mi).cls = some m.cls) (hts : ∀ w ∈ zTs, w.before args s = true) (hB : zBk b0 D ca adK adV bS L xs s) (hR : zfr mi ≤ R.frames ∧ zlo mi ≤ R.locals ∧ cells ≤ R.cells ∧ slots ≤ R.slots) {v : Jvm.ClassFile.Cond} {w0 : Int} {k pc a : Nat} {cs : List (Int × Nat)} (hd : zdk (zby mi) pc (.if_icmp v w0) = true) (hf : zfall C k pc (.if_icmp v w0) = true) (h1 : zchk1 mi C pc (.if_icmp v w0) a cs = true) (h2 : zOK2 (zy mi).cls (.if_icmp v w0) a cs) {ls st : List mzV} {μ : mzM} {H : Heap} {locs : List Loc} {la : Array Slot} {sa : List Value} (hA : zA b0 D ca adK adV bS L xs s mi ls st μ H locs la sa) : zgoal (W p l e R s m args below meth c H locs cells slots Q (F0 m pc la sa)) (zK p l e R s m args below meth c cells slots Q b0 D ca adK adV bS L xs mi C) (zKC p l e R s m args below meth c cells slots Q b0 D ca adK adV bS L xs mi C) (zKE p l e R s m args below meth c cells slots Q b0 D ca adK adV bS L xs mi) (zstep (.if_icmp v w0) a cs k ls st μ) := by
  have hd0 : decode (zby mi) pc = .ok (.if_icmp v w0, 3) := (zdk_p hd).resolve_left (by rintro ⟨_, _, _, _, h⟩; cases h)
  have hp : zpcs C (k + 1) = pc + 3 := zfl_p hf
  obtain ⟨al, ag, as, aP, aM, aS⟩ := hA
  refine zi2_ok as (fun v1 v2 r ra hsa hv hw hr => ?_)
  subst hsa
  have hg : zK p l e R s m args below meth c cells slots Q b0 D ca adK adV bS L xs mi C (a, ls, r, μ) → W p l e R s m args below meth c H locs cells slots Q (F0 m (zpcs C a) la ra) := fun hK => hK _ _ _ _ ⟨al, ag, hr, aP, aM, aS⟩
  have hn : zK p l e R s m args below meth c cells slots Q b0 D ca adK adV bS L xs mi C (k + 1, ls, r, μ) → W p l e R s m args below meth c H locs cells slots Q (F0 m (pc + 3) la ra) := fun hK => by rw [← hp]; exact hK _ _ _ _ ⟨al, ag, hr, aP, aM, aS⟩
  cases v
  · intro hk1 hk2
    exact lv_icmp_eq hx hb hd0 (zgt_p h1) (fun h => hg (hk1 (by exact (zn_eq hv hw).mp h))) (fun h => hn (hk2 (by exact fun q => h ((zn_eq hv hw).mpr q))))
  · intro hk1 hk2
    exact lv_icmp_ne hx hb hd0 (zgt_p h1) (fun h => hg (hk2 (by exact fun q => h ((zn_eq hv hw).mpr q)))) (fun h => hn (hk1 (by exact (zn_eq hv hw).mp h)))
  · intro hk1 hk2
    exact lv_icmp_lt hx hb hd0 (zgt_p h1) (fun h => hg (hk1 (by exact (zn_lt hv hw).mp h))) (fun h => hn (hk2 (by exact fun q => h ((zn_lt hv hw).mpr q))))
  · intro hk1 hk2
    exact lv_icmp_ge hx hb hd0 (zgt_p h1) (fun h => hg (hk2 (by have h5 := (zn_le hw hv).mp h; exact fun q => by omega))) (fun h => hn (hk1 (by exact Int.not_le.mp fun q => h ((zn_le hw hv).mpr q))))
  · intro hk1 hk2
    exact lv_icmp_gt hx hb hd0 (zgt_p h1) (fun h => hg (hk1 (by exact (zn_lt hw hv).mp h))) (fun h => hn (hk2 (by exact fun q => h ((zn_lt hw hv).mpr q))))
  · intro hk1 hk2
    exact lv_icmp_le hx hb hd0 (zgt_p h1) (fun h => hg (hk2 (by have h5 := (zn_le hv hw).mp h; exact fun q => by omega))) (fun h => hn (hk1 (by exact Int.not_le.mp fun q => h ((zn_le hv hw).mpr q))))
theorem zc_ifCond (hx : p.tables.exec = Jvm.exec) (hb : c.code = zby mi) (hml : c.maxLocals = zml mi) (hown : s.vm.findClass (zy mi).cls = some m.cls) (hts : ∀ w ∈ zTs, w.before args s = true) (hB : zBk b0 D ca adK adV bS L xs s) (hR : zfr mi ≤ R.frames ∧ zlo mi ≤ R.locals ∧ cells ≤ R.cells ∧ slots ≤ R.slots) {v : Jvm.ClassFile.Cond} {w0 : Int} {k pc a : Nat} {cs : List (Int × Nat)} (hd : zdk (zby mi) pc (.ifCond v w0) = true) (hf : zfall C k pc (.ifCond v w0) = true) (h1 : zchk1 mi C pc (.ifCond v w0) a cs = true) (h2 : zOK2 (zy mi).cls (.ifCond v w0) a cs) {ls st : List mzV} {μ : mzM} {H : Heap} {locs : List Loc} {la : Array Slot} {sa : List Value} (hA : zA b0 D ca adK adV bS L xs s mi ls st μ H locs la sa) : zgoal (W p l e R s m args below meth c H locs cells slots Q (F0 m pc la sa)) (zK p l e R s m args below meth c cells slots Q b0 D ca adK adV bS L xs mi C) (zKC p l e R s m args below meth c cells slots Q b0 D ca adK adV bS L xs mi C) (zKE p l e R s m args below meth c cells slots Q b0 D ca adK adV bS L xs mi) (zstep (.ifCond v w0) a cs k ls st μ) := by
  have hd0 : decode (zby mi) pc = .ok (.ifCond v w0, 3) := (zdk_p hd).resolve_left (by rintro ⟨_, _, _, _, h⟩; cases h)
  have hp : zpcs C (k + 1) = pc + 3 := zfl_p hf
  obtain ⟨al, ag, as, aP, aM, aS⟩ := hA
  refine zi1_ok as (fun v1 r ra hsa hv hr => ?_)
  subst hsa
  have hg : zK p l e R s m args below meth c cells slots Q b0 D ca adK adV bS L xs mi C (a, ls, r, μ) → W p l e R s m args below meth c H locs cells slots Q (F0 m (zpcs C a) la ra) := fun hK => hK _ _ _ _ ⟨al, ag, hr, aP, aM, aS⟩
  have hn : zK p l e R s m args below meth c cells slots Q b0 D ca adK adV bS L xs mi C (k + 1, ls, r, μ) → W p l e R s m args below meth c H locs cells slots Q (F0 m (pc + 3) la ra) := fun hK => by rw [← hp]; exact hK _ _ _ _ ⟨al, ag, hr, aP, aM, aS⟩
  cases v
  · intro hk1 hk2
    exact lv_if_eq hx hb hd0 (zgt_p h1) (fun h => hg (hk1 (by rw [show (0 : Int32) = Int32.ofInt 0 from rfl] at h; exact (zn_eq hv zin_z).mp h))) (fun h => hn (hk2 (by rw [show (0 : Int32) = Int32.ofInt 0 from rfl] at h; exact fun q => h ((zn_eq hv zin_z).mpr q))))
  · intro hk1 hk2
    exact lv_if_ne hx hb hd0 (zgt_p h1) (fun h => hg (hk2 (by rw [show (0 : Int32) = Int32.ofInt 0 from rfl] at h; exact fun q => h ((zn_eq hv zin_z).mpr q)))) (fun h => hn (hk1 (by rw [show (0 : Int32) = Int32.ofInt 0 from rfl] at h; exact (zn_eq hv zin_z).mp h)))
  · intro hk1 hk2
    exact lv_if_lt hx hb hd0 (zgt_p h1) (fun h => hg (hk1 (by rw [show (0 : Int32) = Int32.ofInt 0 from rfl] at h; exact (zn_lt hv zin_z).mp h))) (fun h => hn (hk2 (by rw [show (0 : Int32) = Int32.ofInt 0 from rfl] at h; exact fun q => h ((zn_lt hv zin_z).mpr q))))
  · intro hk1 hk2
    exact lv_if_ge hx hb hd0 (zgt_p h1) (fun h => hg (hk2 (by rw [show (0 : Int32) = Int32.ofInt 0 from rfl] at h; have h5 := (zn_le zin_z hv).mp h; exact fun q => by omega))) (fun h => hn (hk1 (by rw [show (0 : Int32) = Int32.ofInt 0 from rfl] at h; exact Int.not_le.mp fun q => h ((zn_le zin_z hv).mpr q))))
  · intro hk1 hk2
    exact lv_if_gt hx hb hd0 (zgt_p h1) (fun h => hg (hk1 (by rw [show (0 : Int32) = Int32.ofInt 0 from rfl] at h; exact (zn_lt zin_z hv).mp h))) (fun h => hn (hk2 (by rw [show (0 : Int32) = Int32.ofInt 0 from rfl] at h; exact fun q => h ((zn_lt zin_z hv).mpr q))))
  · intro hk1 hk2
    exact lv_if_le hx hb hd0 (zgt_p h1) (fun h => hg (hk2 (by rw [show (0 : Int32) = Int32.ofInt 0 from rfl] at h; have h5 := (zn_le hv zin_z).mp h; exact fun q => by omega))) (fun h => hn (hk1 (by rw [show (0 : Int32) = Int32.ofInt 0 from rfl] at h; exact Int.not_le.mp fun q => h ((zn_le hv zin_z).mpr q))))
theorem zc_dup (hx : p.tables.exec = Jvm.exec) (hb : c.code = zby mi) (hml : c.maxLocals = zml mi) (hown : s.vm.findClass (zy mi).cls = some m.cls) (hts : ∀ w ∈ zTs, w.before args s = true) (hB : zBk b0 D ca adK adV bS L xs s) (hR : zfr mi ≤ R.frames ∧ zlo mi ≤ R.locals ∧ cells ≤ R.cells ∧ slots ≤ R.slots) {k pc a : Nat} {cs : List (Int × Nat)} (hd : zdk (zby mi) pc (.dup) = true) (hf : zfall C k pc (.dup) = true) (h1 : zchk1 mi C pc (.dup) a cs = true) (h2 : zOK2 (zy mi).cls (.dup) a cs) {ls st : List mzV} {μ : mzM} {H : Heap} {locs : List Loc} {la : Array Slot} {sa : List Value} (hA : zA b0 D ca adK adV bS L xs s mi ls st μ H locs la sa) : zgoal (W p l e R s m args below meth c H locs cells slots Q (F0 m pc la sa)) (zK p l e R s m args below meth c cells slots Q b0 D ca adK adV bS L xs mi C) (zKC p l e R s m args below meth c cells slots Q b0 D ca adK adV bS L xs mi C) (zKE p l e R s m args below meth c cells slots Q b0 D ca adK adV bS L xs mi) (zstep (.dup) a cs k ls st μ) := by
  have hd0 : decode (zby mi) pc = .ok (.dup, 1) := (zdk_p hd).resolve_left (by rintro ⟨_, _, _, _, h⟩; cases h)
  have hp : zpcs C (k + 1) = pc + 1 := zfl_p hf
  obtain ⟨al, ag, as, aP, aM, aS⟩ := hA
  match st, as with
  | [], _ => trivial
  | none :: _, _ => trivial
  | some v :: r, as =>
    obtain ⟨v0, ra, rfl, hv, hr⟩ := zrs_un as
    have hc := zrv_cat hv
    rw [show zstep .dup a cs k ls (some v :: r) μ = (match zisL (some v) with | false => sN (k + 1, ls, some v :: some v :: r, μ) | true => none) from rfl]
    cases hz : zisL (some v) with
    | true => trivial
    | false =>
      rw [hz] at hc
      intro hK
      refine lv_dup hx hb hd0 hc ?_
      rw [← hp]
      exact hK _ _ _ _ ⟨al, ag, zrs_cons hv (zrs_cons hv hr), aP, aM, aS⟩
theorem zc_pop (hx : p.tables.exec = Jvm.exec) (hb : c.code = zby mi) (hml : c.maxLocals = zml mi) (hown : s.vm.findClass (zy mi).cls = some m.cls) (hts : ∀ w ∈ zTs, w.before args s = true) (hB : zBk b0 D ca adK adV bS L xs s) (hR : zfr mi ≤ R.frames ∧ zlo mi ≤ R.locals ∧ cells ≤ R.cells ∧ slots ≤ R.slots) {k pc a : Nat} {cs : List (Int × Nat)} (hd : zdk (zby mi) pc (.pop) = true) (hf : zfall C k pc (.pop) = true) (h1 : zchk1 mi C pc (.pop) a cs = true) (h2 : zOK2 (zy mi).cls (.pop) a cs) {ls st : List mzV} {μ : mzM} {H : Heap} {locs : List Loc} {la : Array Slot} {sa : List Value} (hA : zA b0 D ca adK adV bS L xs s mi ls st μ H locs la sa) : zgoal (W p l e R s m args below meth c H locs cells slots Q (F0 m pc la sa)) (zK p l e R s m args below meth c cells slots Q b0 D ca adK adV bS L xs mi C) (zKC p l e R s m args below meth c cells slots Q b0 D ca adK adV bS L xs mi C) (zKE p l e R s m args below meth c cells slots Q b0 D ca adK adV bS L xs mi) (zstep (.pop) a cs k ls st μ) := by
  have hd0 : decode (zby mi) pc = .ok (.pop, 1) := (zdk_p hd).resolve_left (by rintro ⟨_, _, _, _, h⟩; cases h)
  have hp : zpcs C (k + 1) = pc + 1 := zfl_p hf
  obtain ⟨al, ag, as, aP, aM, aS⟩ := hA
  match st, as with
  | [], _ => trivial
  | none :: _, _ => trivial
  | some v :: r, as =>
    obtain ⟨v0, ra, rfl, hv, hr⟩ := zrs_un as
    have hc := zrv_cat hv
    rw [show zstep .pop a cs k ls (some v :: r) μ = (match zisL (some v) with | false => sN (k + 1, ls, r, μ) | true => none) from rfl]
    cases hz : zisL (some v) with
    | true => trivial
    | false =>
      rw [hz] at hc
      intro hK
      refine lv_pop hx hb hd0 hc ?_
      rw [← hp]
      exact hK _ _ _ _ ⟨al, ag, hr, aP, aM, aS⟩
theorem zc_dup2 (hx : p.tables.exec = Jvm.exec) (hb : c.code = zby mi) (hml : c.maxLocals = zml mi) (hown : s.vm.findClass (zy mi).cls = some m.cls) (hts : ∀ w ∈ zTs, w.before args s = true) (hB : zBk b0 D ca adK adV bS L xs s) (hR : zfr mi ≤ R.frames ∧ zlo mi ≤ R.locals ∧ cells ≤ R.cells ∧ slots ≤ R.slots) {k pc a : Nat} {cs : List (Int × Nat)} (hd : zdk (zby mi) pc (.dup2) = true) (hf : zfall C k pc (.dup2) = true) (h1 : zchk1 mi C pc (.dup2) a cs = true) (h2 : zOK2 (zy mi).cls (.dup2) a cs) {ls st : List mzV} {μ : mzM} {H : Heap} {locs : List Loc} {la : Array Slot} {sa : List Value} (hA : zA b0 D ca adK adV bS L xs s mi ls st μ H locs la sa) : zgoal (W p l e R s m args below meth c H locs cells slots Q (F0 m pc la sa)) (zK p l e R s m args below meth c cells slots Q b0 D ca adK adV bS L xs mi C) (zKC p l e R s m args below meth c cells slots Q b0 D ca adK adV bS L xs mi C) (zKE p l e R s m args below meth c cells slots Q b0 D ca adK adV bS L xs mi) (zstep (.dup2) a cs k ls st μ) := by
  have hd0 : decode (zby mi) pc = .ok (.dup2, 1) := (zdk_p hd).resolve_left (by rintro ⟨_, _, _, _, h⟩; cases h)
  have hp : zpcs C (k + 1) = pc + 1 := zfl_p hf
  obtain ⟨al, ag, as, aP, aM, aS⟩ := hA
  match st, as with
  | [], _ => trivial
  | none :: _, _ => trivial
  | [some _], _ => trivial
  | some _ :: none :: _, _ => trivial
  | some v :: some w :: r, as =>
    obtain ⟨v0, r0, rfl, hv, h0⟩ := zrs_un as
    obtain ⟨w0, ra, rfl, hw, hr⟩ := zrs_un h0
    have hc := zrv_cat hv
    have hc2 := zrv_cat hw
    rw [show zstep .dup2 a cs k ls (some v :: some w :: r) μ = (match zisL (some v) || zisL (some w) with | false => sN (k + 1, ls, some v :: some w :: some v :: some w :: r, μ) | true => none) from rfl]
    cases hz : zisL (some v) with
    | true => trivial
    | false =>
      cases hz2 : zisL (some w) with
      | true => trivial
      | false =>
        rw [hz] at hc
        rw [hz2] at hc2
        intro hK
        refine lv_dup2_11 hx hb hd0 hc hc2 ?_
        rw [← hp]
        exact hK _ _ _ _ ⟨al, ag, zrs_cons hv (zrs_cons hw (zrs_cons hv (zrs_cons hw hr))), aP, aM, aS⟩
end Sim
end
section
section Sim
variable {p : Program} {l : Launch} {e : Env} {R : Room} {s : State} {m : MethodId} {args : Array Value} {below : List Frame} {meth : Method} {c : Code} {cells slots : Nat} {Q : State → Prop}
variable {b0 : Nat} {D : va_G} {ca : Nat → ClassId} {adK adV : Nat → Nat} {bS L : Nat} {xs : Nat → Int32} {mi : Nat} {C : List mzN}
theorem zc_iinc (hx : p.tables.exec = Jvm.exec) (hb : c.code = zby mi) (hml : c.maxLocals = zml mi) (hown : s.vm.findClass (zy mi).cls = some m.cls) (hts : ∀ w ∈ zTs, w.before args s = true) (hB : zBk b0 D ca adK adV bS L xs s) (hR : zfr mi ≤ R.frames ∧ zlo mi ≤ R.locals ∧ cells ≤ R.cells ∧ slots ≤ R.slots) {v : Nat} {n : Int} {k pc a : Nat} {cs : List (Int × Nat)} (hd : zdk (zby mi) pc (.iinc v n) = true) (hf : zfall C k pc (.iinc v n) = true) (h1 : zchk1 mi C pc (.iinc v n) a cs = true) (h2 : zOK2 (zy mi).cls (.iinc v n) a cs) {ls st : List mzV} {μ : mzM} {H : Heap} {locs : List Loc} {la : Array Slot} {sa : List Value} (hA : zA b0 D ca adK adV bS L xs s mi ls st μ H locs la sa) : zgoal (W p l e R s m args below meth c H locs cells slots Q (F0 m pc la sa)) (zK p l e R s m args below meth c cells slots Q b0 D ca adK adV bS L xs mi C) (zKC p l e R s m args below meth c cells slots Q b0 D ca adK adV bS L xs mi C) (zKE p l e R s m args below meth c cells slots Q b0 D ca adK adV bS L xs mi) (zstep (.iinc v n) a cs k ls st μ) := by
  have hd0 : decode (zby mi) pc = .ok (.iinc v n, 3) := (zdk_p hd).resolve_left (by rintro ⟨_, _, _, _, h⟩; cases h)
  have hp : zpcs C (k + 1) = pc + 3 := zfl_p hf
  obtain ⟨al, ag, as, aP, aM, aS⟩ := hA
  have h3 := Bool.and_eq_true_iff.mp h1
  have h4 := Bool.and_eq_true_iff.mp h3.1
  have h5 : -32768 ≤ n := of_decide_eq_true h4.2
  have h6 : n ≤ 32767 := of_decide_eq_true h3.2
  have hn : zin n := by constructor <;> omega
  show zgoal _ _ _ _ (zld ls v (fun u => match u with | some (.inl y) => zst ls v (vI (y + n)) fun l1 => sG (zin (y + n)) inferInstance (k + 1, l1, st, μ) | _ => none))
  refine zld_ok al (fun w v0 hw hv hl => ?_)
  rcases w with y | y | ⟨t, i⟩
  · show zgoal _ _ _ _ (zst ls v (vI (y + n)) fun l1 => sG (zin (y + n)) inferInstance (k + 1, l1, st, μ))
    refine zst_ok ?_
    intro hq hK
    have hq : zin (y + n) := hq
    obtain ⟨hy, rfl⟩ := hv
    have hlt : v < la.size := by
      rw [al.1, ag.1]
      exact Nat.blt_eq.mp (Bool.and_eq_true_iff.mp h4.1).1
    obtain ⟨j, hj⟩ := List.getElem?_of_mem (zlv_mem.mpr hl)
    refine lv_iinc (v := Int32.ofInt (y + n)) hx hb hd0 (zlv_has al.2.1) hj (zn_add hy hn hq) hlt rfl (fun l1 hl1 => ?_)
    obtain ⟨z1, z2⟩ := zrl_set (b0 := b0) (adK := adK) (adV := adV) (bS := bS) al ag h4.1 (zrv_I hq) rfl hl1
    rw [← hp]
    exact hK _ _ _ _ ⟨z1, z2, as, aP, aM, aS⟩
  · trivial
  · trivial
theorem zrl_set2 {ls : List mzV} {la la' : Array Slot} {i : Nat} {n : Int} (h : zrl b0 adK adV bS ls la) (hg : zlgo mi ls) (hi : zsto mi i = true) (hz : zlg mi i = true) (hl : i + 1 < ls.length) (hv : zin6 n)
    (h' : lv_has la' la.size ((i, .long (Int64.ofInt n)) :: (zlv la).filter (fun q => !(q.1 == i) && (!(q.1 == i + 1) && !(q.1 + 1 == i && q.2.category == 2))))) : zrl b0 adK adV bS ((ls.set i (vL n)).set (i + 1) none) la' ∧ zlgo mi ((ls.set i (vL n)).set (i + 1) none) := by
  refine ⟨⟨by rw [List.length_set, List.length_set, ← h.1]; exact h'.1, h'.2.1, fun j x hj => ?_⟩, by rw [List.length_set, List.length_set]; exact hg.1, fun j y hj => ?_⟩
  · by_cases hj1 : j = i + 1
    · rw [hj1, List.getElem?_set_self (by rw [List.length_set]; exact hl)] at hj
      cases hj
    · rw [List.getElem?_set_ne (Ne.symm hj1)] at hj
      by_cases hji : j = i
      · rw [hji, List.getElem?_set_self (by omega)] at hj
        cases hj
        exact ⟨.long (Int64.ofInt n), zrv_L hv, by rw [hji]; exact h'.2.2 (i, .long (Int64.ofInt n)) List.mem_cons_self⟩
      · rw [List.getElem?_set_ne (Ne.symm hji)] at hj
        obtain ⟨u, hu, hq⟩ := h.2.2 j x hj
        refine ⟨u, hu, h'.2.2 (j, u) (List.mem_cons_of_mem _ (List.mem_filter.mpr ⟨zlv_mem.mpr hq, ?_⟩))⟩
        simp only [Bool.and_eq_true, Bool.not_eq_true', beq_eq_false_iff_ne, ne_eq, Bool.and_eq_false_iff]
        refine ⟨hji, hj1, ?_⟩
        by_cases hj2 : j + 1 = i
        · right
          intro hc
          rw [zrv_cat hu] at hc
          have hl2 : zisL (some x) = true := by
            cases hx : zisL (some x) with
            | true => rfl
            | false => rw [hx] at hc; exact absurd hc (by decide)
          rcases x with y | y | ⟨t, k⟩
          · cases hl2
          · have h8 := hg.2 j y hj
            subst hj2
            unfold zsto at hi
            simp only [Bool.and_eq_true, Bool.not_eq_true'] at hi
            rw [h8] at hi
            exact absurd hi.2 (by decide)
          · cases hl2
        · exact Or.inl hj2
  · by_cases hj1 : j = i + 1
    · rw [hj1, List.getElem?_set_self (by rw [List.length_set]; exact hl)] at hj
      cases hj
    · rw [List.getElem?_set_ne (Ne.symm hj1)] at hj
      by_cases hji : j = i
      · rw [hji]; exact hz
      · rw [List.getElem?_set_ne (Ne.symm hji)] at hj
        exact hg.2 j y hj
theorem zc_lstore_n (hx : p.tables.exec = Jvm.exec) (hb : c.code = zby mi) (hml : c.maxLocals = zml mi) (hown : s.vm.findClass (zy mi).cls = some m.cls) (hts : ∀ w ∈ zTs, w.before args s = true) (hB : zBk b0 D ca adK adV bS L xs s) (hR : zfr mi ≤ R.frames ∧ zlo mi ≤ R.locals ∧ cells ≤ R.cells ∧ slots ≤ R.slots) {v : Fin 4} {k pc a : Nat} {cs : List (Int × Nat)} (hd : zdk (zby mi) pc (.lstore_n v) = true) (hf : zfall C k pc (.lstore_n v) = true) (h1 : zchk1 mi C pc (.lstore_n v) a cs = true) (h2 : zOK2 (zy mi).cls (.lstore_n v) a cs) {ls st : List mzV} {μ : mzM} {H : Heap} {locs : List Loc} {la : Array Slot} {sa : List Value} (hA : zA b0 D ca adK adV bS L xs s mi ls st μ H locs la sa) : zgoal (W p l e R s m args below meth c H locs cells slots Q (F0 m pc la sa)) (zK p l e R s m args below meth c cells slots Q b0 D ca adK adV bS L xs mi C) (zKC p l e R s m args below meth c cells slots Q b0 D ca adK adV bS L xs mi C) (zKE p l e R s m args below meth c cells slots Q b0 D ca adK adV bS L xs mi) (zstep (.lstore_n v) a cs k ls st μ) := by
  have hd0 : decode (zby mi) pc = .ok (.lstore_n v, 1) := (zdk_p hd).resolve_left (by rintro ⟨_, _, _, _, h⟩; cases h)
  have hp : zpcs C (k + 1) = pc + 1 := zfl_p hf
  obtain ⟨al, ag, as, aP, aM, aS⟩ := hA
  have h3 := Bool.and_eq_true_iff.mp h1
  have h4 := Bool.and_eq_true_iff.mp h3.1
  have hlt : v.val + 1 < ls.length := by rw [ag.1]; exact Nat.blt_eq.mp h3.2
  refine zl1_ok as (fun n r ra hsa hn hr => ?_)
  subst hsa
  show zgoal _ _ _ _ (match Nat.blt (v.val + 1) ls.length with | true => zst ls v.val (vL n) fun l1 => sN (k + 1, l1.set (v.val + 1) none, r, μ) | false => none)
  rw [Nat.blt_eq.mpr hlt]
  show zgoal _ _ _ _ (zst ls v.val (vL n) fun l1 => sN (k + 1, l1.set (v.val + 1) none, r, μ))
  refine zst_ok ?_
  intro hK
  refine lv_lstore_n hx hb hd0 rfl (zlv_has al.2.1) (by rw [al.1]; exact hlt) rfl (fun l1 hl1 => ?_)
  obtain ⟨z1, z2⟩ := zrl_set2 (b0 := b0) (adK := adK) (adV := adV) (bS := bS) al ag h4.1 h4.2 hlt hn hl1
  rw [← hp]
  exact hK _ _ _ _ ⟨z1, z2, hr, aP, aM, aS⟩
theorem zc_ifnull (hx : p.tables.exec = Jvm.exec) (hb : c.code = zby mi) (hml : c.maxLocals = zml mi) (hown : s.vm.findClass (zy mi).cls = some m.cls) (hts : ∀ w ∈ zTs, w.before args s = true) (hB : zBk b0 D ca adK adV bS L xs s) (hR : zfr mi ≤ R.frames ∧ zlo mi ≤ R.locals ∧ cells ≤ R.cells ∧ slots ≤ R.slots) {v : Int} {k pc a : Nat} {cs : List (Int × Nat)} (hd : zdk (zby mi) pc (.ifnull v) = true) (hf : zfall C k pc (.ifnull v) = true) (h1 : zchk1 mi C pc (.ifnull v) a cs = true) (h2 : zOK2 (zy mi).cls (.ifnull v) a cs) {ls st : List mzV} {μ : mzM} {H : Heap} {locs : List Loc} {la : Array Slot} {sa : List Value} (hA : zA b0 D ca adK adV bS L xs s mi ls st μ H locs la sa) : zgoal (W p l e R s m args below meth c H locs cells slots Q (F0 m pc la sa)) (zK p l e R s m args below meth c cells slots Q b0 D ca adK adV bS L xs mi C) (zKC p l e R s m args below meth c cells slots Q b0 D ca adK adV bS L xs mi C) (zKE p l e R s m args below meth c cells slots Q b0 D ca adK adV bS L xs mi) (zstep (.ifnull v) a cs k ls st μ) := by
  have hd0 : decode (zby mi) pc = .ok (.ifnull v, 3) := (zdk_p hd).resolve_left (by rintro ⟨_, _, _, _, h⟩; cases h)
  have hp : zpcs C (k + 1) = pc + 3 := zfl_p hf
  obtain ⟨al, ag, as, aP, aM, aS⟩ := hA
  refine zr1_ok as (fun t i r v0 ra hsa hv hr => ?_)
  subst hsa
  show zgoal _ _ _ _ (match Nat.beq t 99, Nat.beq t 98 with | true, _ => sN (a, ls, r, μ) | false, false => sN (k + 1, ls, r, μ) | _, _ => none)
  cases h99 : Nat.beq t 99 with
  | true =>
    have hv1 := zrv_null hv (Nat.eq_of_beq_eq_true h99)
    subst hv1
    intro hK
    refine lv_ifnullN hx hb hd0 (zgt_p h1) ?_
    exact hK _ _ _ _ ⟨al, ag, hr, aP, aM, aS⟩
  | false =>
    cases h98 : Nat.beq t 98 with
    | true => trivial
    | false =>
      obtain ⟨a0, hv1⟩ := zrv_nn hv (fun q => by rw [q] at h99; cases h99) (fun q => by rw [q] at h98; cases h98)
      subst hv1
      intro hK
      refine lv_ifnull hx hb hd0 ?_
      rw [← hp]
      exact hK _ _ _ _ ⟨al, ag, hr, aP, aM, aS⟩
theorem zc_ifnonnull (hx : p.tables.exec = Jvm.exec) (hb : c.code = zby mi) (hml : c.maxLocals = zml mi) (hown : s.vm.findClass (zy mi).cls = some m.cls) (hts : ∀ w ∈ zTs, w.before args s = true) (hB : zBk b0 D ca adK adV bS L xs s) (hR : zfr mi ≤ R.frames ∧ zlo mi ≤ R.locals ∧ cells ≤ R.cells ∧ slots ≤ R.slots) {v : Int} {k pc a : Nat} {cs : List (Int × Nat)} (hd : zdk (zby mi) pc (.ifnonnull v) = true) (hf : zfall C k pc (.ifnonnull v) = true) (h1 : zchk1 mi C pc (.ifnonnull v) a cs = true) (h2 : zOK2 (zy mi).cls (.ifnonnull v) a cs) {ls st : List mzV} {μ : mzM} {H : Heap} {locs : List Loc} {la : Array Slot} {sa : List Value} (hA : zA b0 D ca adK adV bS L xs s mi ls st μ H locs la sa) : zgoal (W p l e R s m args below meth c H locs cells slots Q (F0 m pc la sa)) (zK p l e R s m args below meth c cells slots Q b0 D ca adK adV bS L xs mi C) (zKC p l e R s m args below meth c cells slots Q b0 D ca adK adV bS L xs mi C) (zKE p l e R s m args below meth c cells slots Q b0 D ca adK adV bS L xs mi) (zstep (.ifnonnull v) a cs k ls st μ) := by
  have hd0 : decode (zby mi) pc = .ok (.ifnonnull v, 3) := (zdk_p hd).resolve_left (by rintro ⟨_, _, _, _, h⟩; cases h)
  have hp : zpcs C (k + 1) = pc + 3 := zfl_p hf
  obtain ⟨al, ag, as, aP, aM, aS⟩ := hA
  refine zr1_ok as (fun t i r v0 ra hsa hv hr => ?_)
  subst hsa
  show zgoal _ _ _ _ (match Nat.beq t 99, Nat.beq t 98 with | true, _ => sN (k + 1, ls, r, μ) | false, false => sN (a, ls, r, μ) | _, _ => none)
  cases h99 : Nat.beq t 99 with
  | true =>
    have hv1 := zrv_null hv (Nat.eq_of_beq_eq_true h99)
    subst hv1
    intro hK
    refine lv_ifnonnullN hx hb hd0 ?_
    rw [← hp]
    exact hK _ _ _ _ ⟨al, ag, hr, aP, aM, aS⟩
  | false =>
    cases h98 : Nat.beq t 98 with
    | true => trivial
    | false =>
      obtain ⟨a0, hv1⟩ := zrv_nn hv (fun q => by rw [q] at h99; cases h99) (fun q => by rw [q] at h98; cases h98)
      subst hv1
      intro hK
      refine lv_ifnonnull hx hb hd0 (zgt_p h1) ?_
      exact hK _ _ _ _ ⟨al, ag, hr, aP, aM, aS⟩
theorem zsw_pick {C : List mzN} {pc d : Nat} : ∀ (os : List Int) (cs : List (Int × Nat)) (lo : Int), zsw C pc lo os cs = true → ∀ v : Int, (lo ≤ v → v < lo + (os.length : Int) → ∃ off, os[(v - lo).toNat]? = some off ∧ (pc : Int) + off = (zpcs C (zpick v cs d) : Int)) ∧ ((v < lo ∨ lo + (os.length : Int) ≤ v) → zpick v cs d = d)
  | [], cs, lo, h, v => by
    cases cs with
    | nil => exact ⟨fun h1 h2 => by simp at h2; omega, fun _ => rfl⟩
    | cons x cs => cases h
  | o :: os, cs, lo, h, v => by
    cases cs with
    | nil => cases h
    | cons x cs =>
      obtain ⟨u, a⟩ := x
      simp only [zsw, Bool.and_eq_true, decide_eq_true_eq] at h
      obtain ⟨⟨h1, h2⟩, h3⟩ := h
      obtain ⟨i1, i2⟩ := zsw_pick (d := d) os cs (lo + 1) h3 v
      subst h1
      constructor
      · intro g1 g2
        by_cases hv : v = u
        · subst hv
          refine ⟨o, by simp, ?_⟩
          unfold zpick
          rw [if_pos rfl]
          exact zgt_p h2
        · obtain ⟨off, e1, e2⟩ := i1 (by omega) (by simp only [List.length_cons] at g2; omega)
          refine ⟨off, ?_, ?_⟩
          · rw [show (v - u).toNat = (v - (u + 1)).toNat + 1 from by omega, List.getElem?_cons_succ]
            exact e1
          · unfold zpick
            rw [if_neg hv]
            exact e2
      · intro g
        unfold zpick
        simp only [List.length_cons] at g
        rw [if_neg (by omega)]
        exact i2 (by omega)
theorem zc_tableswitch (hx : p.tables.exec = Jvm.exec) (hb : c.code = zby mi) (hml : c.maxLocals = zml mi) (hown : s.vm.findClass (zy mi).cls = some m.cls) (hts : ∀ w ∈ zTs, w.before args s = true) (hB : zBk b0 D ca adK adV bS L xs s) (hR : zfr mi ≤ R.frames ∧ zlo mi ≤ R.locals ∧ cells ≤ R.cells ∧ slots ≤ R.slots) {d lo hi : Int} {os : Array Int} {k pc a : Nat} {cs : List (Int × Nat)} (hd : zdk (zby mi) pc (.tableswitch d lo hi os) = true) (hf : zfall C k pc (.tableswitch d lo hi os) = true) (h1 : zchk1 mi C pc (.tableswitch d lo hi os) a cs = true) (h2 : zOK2 (zy mi).cls (.tableswitch d lo hi os) a cs) {ls st : List mzV} {μ : mzM} {H : Heap} {locs : List Loc} {la : Array Slot} {sa : List Value} (hA : zA b0 D ca adK adV bS L xs s mi ls st μ H locs la sa) : zgoal (W p l e R s m args below meth c H locs cells slots Q (F0 m pc la sa)) (zK p l e R s m args below meth c cells slots Q b0 D ca adK adV bS L xs mi C) (zKC p l e R s m args below meth c cells slots Q b0 D ca adK adV bS L xs mi C) (zKE p l e R s m args below meth c cells slots Q b0 D ca adK adV bS L xs mi) (zstep (.tableswitch d lo hi os) a cs k ls st μ) := by
  obtain ⟨al, ag, as, aP, aM, aS⟩ := hA
  have hd1 : ∃ n, decode (zby mi) pc = .ok (.tableswitch d lo hi os, n) := by
    unfold zdk at hd
    dsimp only at hd
    split at hd
    · next J n hj => exact ⟨n, by rw [hj, of_decide_eq_true hd]⟩
    · cases hd
  obtain ⟨n, hd1⟩ := hd1
  have h3 := Bool.and_eq_true_iff.mp h1
  have h4 := Bool.and_eq_true_iff.mp h3.1
  have h5 : hi = lo + (os.size : Int) - 1 := of_decide_eq_true h3.2
  refine zi1_ok as (fun v r ra hsa hv hr => ?_)
  subst hsa
  intro hK
  have hv2 := zi_to hv
  obtain ⟨i1, i2⟩ := zsw_pick (d := a) _ _ _ h4.2 v
  have hlen : os.toList.length = os.size := by simp
  rw [hlen] at i1 i2
  by_cases hin : lo ≤ v ∧ v < lo + (os.size : Int)
  · obtain ⟨off, e1, e2⟩ := i1 hin.1 hin.2
    refine lv_tableIn hx hb hd1 (by rw [hv2]; omega) (by rw [hv2]; omega) (off := off) (by rw [hv2, ← Array.getElem?_toList]; exact e1) e2 ?_
    exact hK _ _ _ _ ⟨al, ag, hr, aP, aM, aS⟩
  · have h6 := i2 (by omega)
    refine lv_tableOut hx hb hd1 (by rw [hv2]; omega) (zgt_p h4.1) ?_
    rw [← h6]
    exact hK _ _ _ _ ⟨al, ag, hr, aP, aM, aS⟩
theorem zcel_obj {μ : mzM} {t i : Nat} (h : zrow t = 0) : zcel b0 ca μ t i = .inr (zci t, (zfl t).map (zval b0 μ (i : Int))) := by unfold zcel; rw [h]; rfl
theorem zfl_kd : ∀ t, t < 30 → ∀ q ∈ zfl t, q.1 < 4 := by decide +kernel
theorem zfa_of {t k : Nat} {q : Nat × Nat × Nat × Int} (h : (zfl t)[k]? = some q) : zfa t k = q := by unfold zfa; rw [List.getD_eq_getElem?_getD, h]; rfl
/-- a field that is read: what the machine finds there -/
theorem zget_ok (hx : p.tables.exec = Jvm.exec) (hb : c.code = zby mi) (hown : s.vm.findClass (zy mi).cls = some m.cls) (hts : ∀ w ∈ zTs, w.before args s = true) (hB : zBk b0 D ca adK adV bS L xs s) {pc idx t k : Nat} {i : Nat} {q : Nat × Nat × Nat × Int} {μ : mzM} {H : Heap} {locs : List Loc} {la : Array Slot} {ra : List Value}
    (hz : i < zcnt t) (h0 : zrow t = 0) (hq : (zfl t)[k]? = some q) (hl : zFL (zy mi).cls idx t k) (hd0 : decode (zby mi) pc = .ok (.getfield idx, 3)) (aP : va_P D zcl (zws b0 ca μ) H)
    (kk : W p l e R s m args below meth c H locs cells slots Q (F0 m (pc + 3) la (zval b0 μ (i : Int) q :: ra))) : W p l e R s m args below meth c H locs cells slots Q (F0 m pc la (.ref (b0 + zpos t i) :: ra)) := by
  obtain ⟨CC, T, N, ty, c1, c2, c3, c4, c5, c6, c7, c8⟩ := zcls_of (zcnt_lt hz) (Nat.lt_of_le_of_lt (Nat.zero_le _) hz) h0
  have hkN : k < N := by rw [c6]; exact (List.getElem?_eq_some_iff.mp hq).1
  have he := zws_at b0 ca μ hz
  rw [zcel_obj h0] at he
  have hv : ((zfl t).map (zval b0 μ (i : Int)))[k]? = some (zval b0 μ (i : Int) q) := by rw [List.getElem?_map, hq]; rfl
  unfold zFL at hl
  rw [c2] at hl
  rcases hl with hl | hl
  · exact va_get (ref := CC) hx hb hts c3 hown hB.1 aP _ he c1 k hkN (hts _ hl) (fun x h => by rw [c7 k hkN] at h; exact h) hv hd0 kk
  · exact va_getN (ref := CC) (host := "FrameDeltas") hx hb hts c3 hown hB.1 aP _ he c1 k hkN (va_Nw.use rfl (hB.2.2.2.2.2.2.2 _ hl)) (fun x h => by rw [c7 k hkN] at h; exact h) hv hd0 kk
theorem zc_getfield (hx : p.tables.exec = Jvm.exec) (hb : c.code = zby mi) (hml : c.maxLocals = zml mi) (hown : s.vm.findClass (zy mi).cls = some m.cls) (hts : ∀ w ∈ zTs, w.before args s = true) (hB : zBk b0 D ca adK adV bS L xs s) (hR : zfr mi ≤ R.frames ∧ zlo mi ≤ R.locals ∧ cells ≤ R.cells ∧ slots ≤ R.slots) {v : Nat} {k pc a : Nat} {cs : List (Int × Nat)} (hd : zdk (zby mi) pc (.getfield v) = true) (hf : zfall C k pc (.getfield v) = true) (h1 : zchk1 mi C pc (.getfield v) a cs = true) (h2 : zOK2 (zy mi).cls (.getfield v) a cs) {ls st : List mzV} {μ : mzM} {H : Heap} {locs : List Loc} {la : Array Slot} {sa : List Value} (hA : zA b0 D ca adK adV bS L xs s mi ls st μ H locs la sa) : zgoal (W p l e R s m args below meth c H locs cells slots Q (F0 m pc la sa)) (zK p l e R s m args below meth c cells slots Q b0 D ca adK adV bS L xs mi C) (zKC p l e R s m args below meth c cells slots Q b0 D ca adK adV bS L xs mi C) (zKE p l e R s m args below meth c cells slots Q b0 D ca adK adV bS L xs mi) (zstep (.getfield v) a cs k ls st μ) := by
  have hd0 : decode (zby mi) pc = .ok (.getfield v, 3) := (zdk_p hd).resolve_left (by rintro ⟨_, _, _, _, h⟩; cases h)
  have hp : zpcs C (k + 1) = pc + 3 := zfl_p hf
  obtain ⟨al, ag, as, aP, aM, aS⟩ := hA
  refine zr1_ok as (fun t i r v0 ra hsa hv hr => ?_)
  subst hsa
  match cs, h1, h2 with
  | [], _, _ => trivial
  | [_], _, _ => trivial
  | [_, _], _, _ => trivial
  | [_, _, _], _, _ => trivial
  | (x2, kd) :: (y1, o) :: (y2, x1) :: (y3, md) :: cs, h1, h2 =>
    show zgoal _ _ _ _ (match (generalizing := false) Nat.beq t o with
      | false => none
      | true => match (generalizing := false) kd with
        | 0 => sN (k + 1, ls, vI (μ x1 i x2) :: r, μ)
        | 1 => sN (k + 1, ls, vI (μ x1 i x2) :: r, μ)
        | 2 => sN (k + 1, ls, vL (μ x1 i x2) :: r, μ)
        | 3 => sN (k + 1, ls, vR x1 (zlead md x2 i) :: r, μ)
        | 4 => sN (k + 1, ls, vI x2 :: r, μ)
        | _ => none)
    cases hto : Nat.beq t o with
    | false => trivial
    | true =>
      have hto := Nat.eq_of_beq_eq_true hto
      subst hto
      have h1 : (match Nat.beq t 30 with | true => (Nat.beq kd 4 && decide (x2 = 0)) || (Nat.beq kd 3 && Nat.beq x1 31 && Nat.beq md 1) | false => decide ((zfl t)[a]? = some (kd, x1, md, x2)) && Nat.blt 0 (zcnt t) && Nat.beq (zrow t) 0) = true := h1
      cases h30 : Nat.beq t 30 with
      | true =>
        rw [h30] at h1
        have ht := Nat.eq_of_beq_eq_true h30
        subst ht
        obtain ⟨g1, g2, g3⟩ := zrv_un30 hv
        subst g3
        obtain ⟨e1, e2, e3, e4⟩ := hB.2.1.1 i.toNat (by omega)
        simp only [Bool.or_eq_true, Bool.and_eq_true, decide_eq_true_eq] at h1
        rcases h1 with ⟨q1, q2⟩ | ⟨⟨q1, q2⟩, q3⟩
        · have q1 := Nat.eq_of_beq_eq_true q1
          subst q1
          subst q2
          intro hK
          refine vk_getf hx hb e2 aS hown (hts _ h2) (fun x h => h) hd0 ?_
          rw [← hp]
          exact hK _ _ _ _ ⟨al, ag, zrs_cons (zrv_I zin_z) hr, aP, aM, aS⟩
        · have q1 := Nat.eq_of_beq_eq_true q1
          have q2 := Nat.eq_of_beq_eq_true q2
          have q3 := Nat.eq_of_beq_eq_true q3
          subst q1
          subst q2
          subst q3
          intro hK
          refine vk_getf hx hb e3 aS hown (hts _ h2) (fun x h => h) hd0 ?_
          rw [← hp]
          exact hK _ _ _ _ ⟨al, ag, zrs_cons (Or.inr (Or.inr (Or.inr (Or.inl ⟨rfl, g1, g2, rfl⟩)))) hr, aP, aM, aS⟩
      | false =>
        rw [h30] at h1
        simp only [Bool.and_eq_true, decide_eq_true_eq] at h1
        obtain ⟨⟨q1, q2⟩, q3⟩ := h1
        have q2 := Nat.blt_eq.mp q2
        have q3 := Nat.eq_of_beq_eq_true q3
        have ht30 : t < 30 := zcnt_lt q2
        obtain ⟨g1, g2, g3⟩ := zrv_unR hv ht30
        subst g3
        have hl : zFL (zy mi).cls v t a := by
          unfold zOK2 at h2
          dsimp only at h2
          split at h2
          · next heq => cases heq; cases h30
          · next heq => cases heq; cases h30
          · next heq => cases heq; exact h2
          · next hne => exact absurd rfl (hne _ _ _ _)
        have hi : ((i.toNat : Nat) : Int) = i := Int.toNat_of_nonneg g1
        have hm := zfl_mem t ht30 _ (List.mem_of_getElem? q1)
        have hkd := zfl_kd t ht30 _ (List.mem_of_getElem? q1)
        have hx33 : kd ≠ 2 → kd ≠ 3 → x1 ≠ 33 := by
          intro n2 n3
          rcases hm with h | ⟨-, h, -⟩
          · exact absurd h n3
          · rcases h with h | h
            · exact h
            · exact absurd h.1 n2
        have key : zK p l e R s m args below meth c cells slots Q b0 D ca adK adV bS L xs mi C (k + 1, ls, (match (generalizing := false) kd with | 2 => vL (μ x1 i x2) | 3 => vR x1 (zlead md x2 i) | _ => vI (μ x1 i x2)) :: r, μ) → W p l e R s m args below meth c H locs cells slots Q (F0 m pc la (.ref (b0 + zpos t i.toNat) :: ra)) := by
          intro hK
          refine zget_ok hx hb hown hts hB g2 q3 q1 hl hd0 aP ?_
          rw [hi, ← hp]
          refine hK _ _ _ _ ⟨al, ag, zrs_cons ?_ hr, aP, aM, aS⟩
          match kd, hm, hkd, q1, hx33 with
          | 0, _, _, _, hx33 => exact zrv_I (aM.1 _ _ _ (hx33 (by decide) (by decide)))
          | 1, _, _, _, hx33 => exact zrv_I (aM.1 _ _ _ (hx33 (by decide) (by decide)))
          | 2, hm, _, _, _ =>
            have h33 : x1 = 33 := by
              rcases hm with h | h
              · cases h
              · rcases h.2.2 with h | h
                · exact absurd rfl h
                · exact h
            subst h33
            exact zrv_L (aM.2.1 _ _)
          | 3, _, _, q1, _ =>
            obtain ⟨f1, f2⟩ := zfl_ref t ht30 _ (List.mem_of_getElem? q1) rfl i.toNat g2
            rw [hi] at f1 f2
            exact zrv_R f1 f2
          | n + 4, _, h, _, _ => exact absurd h (by simp)
        match kd, key, hkd with
        | 0, key, _ => exact key
        | 1, key, _ => exact key
        | 2, key, _ => exact key
        | 3, key, _ => exact key
        | n + 4, _, h => exact absurd h (by simp)
/-- a field that is written -/
theorem zput_ok (hx : p.tables.exec = Jvm.exec) (hb : c.code = zby mi) (hown : s.vm.findClass (zy mi).cls = some m.cls) (hts : ∀ w ∈ zTs, w.before args s = true) (hB : zBk b0 D ca adK adV bS L xs s) {pc idx t k kd x1 md : Nat} {x2 n : Int} {i : Nat} {μ : mzM} {H : Heap} {locs : List Loc} {la : Array Slot} {ra : List Value}
    (hz : i < zcnt t) (h0 : zrow t = 0) (hq : (zfl t)[k]? = some (kd, x1, md, x2)) (hl : zFL (zy mi).cls idx t k) (hd0 : decode (zby mi) pc = .ok (.putfield idx, 3)) (aP : va_P D zcl (zws b0 ca μ) H) (aS : va_S (fun q => b0 ≤ q) s.heap H locs)
    (hn : (kd = 0 ∧ zin n) ∨ (kd = 1 ∧ (n = 0 ∨ n = 1)) ∨ (kd = 2 ∧ zin6 n))
    (kk : ∀ (H1 : Heap) (locs1 : List Loc), va_P D zcl (zws b0 ca (mup μ x1 (i : Int) x2 n)) H1 → va_S (fun q => b0 ≤ q) s.heap H1 locs1 → W p l e R s m args below meth c H1 locs1 cells slots Q (F0 m (pc + 3) la ra)) : W p l e R s m args below meth c H locs cells slots Q (F0 m pc la (zval b0 (fun _ _ _ => n) (i : Int) (kd, x1, md, x2) :: .ref (b0 + zpos t i) :: ra)) := by
  obtain ⟨CC, T, N, ty, c1, c2, c3, c4, c5, c6, c7, c8⟩ := zcls_of (zcnt_lt hz) (Nat.lt_of_le_of_lt (Nat.zero_le _) hz) h0
  have hkN : k < N := by rw [c6]; exact (List.getElem?_eq_some_iff.mp hq).1
  have he := zws_at b0 ca μ hz
  rw [zcel_obj h0] at he
  have hfl : k < ((zfl t).map (zval b0 μ (i : Int))).length := by rw [List.length_map, ← c6]; exact hkN
  have hne3 : kd ≠ 3 := by omega
  have hx1 : zow x1 = t := zfl_ow t (zcnt_lt hz) _ (List.mem_of_getElem? hq) hne3
  have hnew : ∀ H1 locs1, va_P D zcl ((zws b0 ca μ).set (zpos t i) (b0 + zpos t i, .inr (zci t, ((zfl t).map (zval b0 μ (i : Int))).set k (zval b0 (fun _ _ _ => n) (i : Int) (kd, x1, md, x2))))) H1 → va_S (fun q => b0 ≤ q) s.heap H1 locs1 → W p l e R s m args below meth c H1 locs1 cells slots Q (F0 m (pc + 3) la ra) := by
    intro H1 locs1 g1 g2
    rw [zws_set (μ' := mup μ x1 (i : Int) x2 n) hz (zcel_put hz h0 hq hne3) (fun t' i' h' hne => zcel_off (x1 := x1) (i := i) (fun t2 i2 k2 h2 => mup_ne (fun z => h2 ⟨z.1, z.2.1⟩)) h' (by rw [hx1]; exact hne))] at g1
    exact kk H1 locs1 g1 g2
  have hfin : (T k).2.2.2 = false ∧ ∃ tk, ty k = tk ∧ narrow tk (zval b0 (fun _ _ _ => n) (i : Int) (kd, x1, md, x2)) = zval b0 (fun _ _ _ => n) (i : Int) (kd, x1, md, x2) ∧ fits tk (zval b0 (fun _ _ _ => n) (i : Int) (kd, x1, md, x2)) = true := by
    have hfa := zfa_of hq
    obtain ⟨w0, w1, w2⟩ := c8 k hkN
    rw [hfa] at w0 w1 w2
    rcases hn with ⟨rfl, -⟩ | ⟨rfl, hn⟩ | ⟨rfl, -⟩
    · obtain ⟨a1, a2⟩ := w0 rfl
      exact ⟨a2, _, a1, rfl, rfl⟩
    · obtain ⟨a1, a2⟩ := w1 rfl
      refine ⟨a2, _, a1, ?_, ?_⟩
      · have hz1 : zin n := ⟨by omega, by omega⟩
        have h9 := zn_bool (Int32.ofInt n)
        rw [zi_to hz1] at h9
        have h10 : (Int32.ofInt n &&& 1).toInt = n := h9.trans (by rcases hn with hn | hn <;> rw [hn] <;> decide)
        exact congrArg Value.int (zi_of h10)
      · rcases hn with rfl | rfl <;> rfl
    · obtain ⟨a1, a2⟩ := w2 rfl
      exact ⟨a2, _, a1, rfl, rfl⟩
  obtain ⟨hff, tk, htk, hnar, hfit⟩ := hfin
  have hdsc : parseFieldDescriptor (T k).2.2.1 = some tk := by rw [c4 k hkN, htk]
  unfold zFL at hl
  rw [c2] at hl
  rcases hl with hl | hl
  · exact va_put (ref := CC) hx hb hts c3 ty c4 c5 hown hB.1 aP (zws_D b0 ca μ) aS _ he c1 k hkN (hts _ hl) (fun x h => by rw [c7 k hkN] at h; exact h) hff hdsc hnar hfit hfl hd0 (fun H1 locs1 g1 _ g2 => hnew H1 locs1 g1 g2)
  · exact va_putN (ref := CC) (host := "FrameDeltas") hx hb hts c3 ty c4 c5 hown hB.1 aP (zws_D b0 ca μ) aS _ he c1 k hkN (va_Nw.use rfl (hB.2.2.2.2.2.2.2 _ hl)) (fun x h => by rw [c7 k hkN] at h; exact h) hff hdsc hnar hfit hfl hd0 (fun H1 locs1 g1 _ g2 => hnew H1 locs1 g1 g2)
theorem zc_putfield (hx : p.tables.exec = Jvm.exec) (hb : c.code = zby mi) (hml : c.maxLocals = zml mi) (hown : s.vm.findClass (zy mi).cls = some m.cls) (hts : ∀ w ∈ zTs, w.before args s = true) (hB : zBk b0 D ca adK adV bS L xs s) (hR : zfr mi ≤ R.frames ∧ zlo mi ≤ R.locals ∧ cells ≤ R.cells ∧ slots ≤ R.slots) {v : Nat} {k pc a : Nat} {cs : List (Int × Nat)} (hd : zdk (zby mi) pc (.putfield v) = true) (hf : zfall C k pc (.putfield v) = true) (h1 : zchk1 mi C pc (.putfield v) a cs = true) (h2 : zOK2 (zy mi).cls (.putfield v) a cs) {ls st : List mzV} {μ : mzM} {H : Heap} {locs : List Loc} {la : Array Slot} {sa : List Value} (hA : zA b0 D ca adK adV bS L xs s mi ls st μ H locs la sa) : zgoal (W p l e R s m args below meth c H locs cells slots Q (F0 m pc la sa)) (zK p l e R s m args below meth c cells slots Q b0 D ca adK adV bS L xs mi C) (zKC p l e R s m args below meth c cells slots Q b0 D ca adK adV bS L xs mi C) (zKE p l e R s m args below meth c cells slots Q b0 D ca adK adV bS L xs mi) (zstep (.putfield v) a cs k ls st μ) := by
  have hd0 : decode (zby mi) pc = .ok (.putfield v, 3) := (zdk_p hd).resolve_left (by rintro ⟨_, _, _, _, h⟩; cases h)
  have hp : zpcs C (k + 1) = pc + 3 := zfl_p hf
  obtain ⟨al, ag, as, aP, aM, aS⟩ := hA
  match st, as, cs, h1, h2 with
  | [], _, _, _, _ => trivial
  | [_], _, _, _, _ => trivial
  | _ :: none :: _, _, _, _, _ => trivial
  | _ :: some (.inl _) :: _, _, _, _, _ => trivial
  | _ :: some (.inr (.inl _)) :: _, _, _, _, _ => trivial
  | _ :: some (.inr (.inr (_, _))) :: _, _, [], _, _ => trivial
  | _ :: some (.inr (.inr (_, _))) :: _, _, [_], _, _ => trivial
  | _ :: some (.inr (.inr (_, _))) :: _, _, [_, _], _, _ => trivial
  | _ :: some (.inr (.inr (_, _))) :: _, _, [_, _, _], h1, _ => cases h1
  | w :: some (.inr (.inr (t, i))) :: r, as, (x2, kd) :: (y1, o) :: (y2, x1) :: (y3, md) :: cs, h1, h2 =>
    obtain ⟨v1, r1, rfl, hw, h5⟩ := zrs_un as
    obtain ⟨v0, ra, rfl, hv, hr⟩ := zrs_un h5
    show zgoal _ _ _ _ (match (generalizing := false) Nat.beq t o with
      | false => none
      | true => match (generalizing := false) kd, w with
        | 0, some (.inl n) => sN (k + 1, ls, r, mup μ x1 i x2 n)
        | 1, some (.inl n) => sG (n = 0 ∨ n = 1) inferInstance (k + 1, ls, r, mup μ x1 i x2 n)
        | 2, some (.inr (.inl n)) => sN (k + 1, ls, r, mup μ x1 i x2 n)
        | _, _ => none)
    cases hto : Nat.beq t o with
    | false => trivial
    | true =>
      have hto := Nat.eq_of_beq_eq_true hto
      subst hto
      have h1 : (decide ((zfl t)[a]? = some (kd, x1, md, x2)) && Nat.blt 0 (zcnt t) && Nat.beq (zrow t) 0 && Nat.blt kd 3) = true := h1
      simp only [Bool.and_eq_true, decide_eq_true_eq] at h1
      obtain ⟨⟨⟨q1, q2⟩, q3⟩, q4⟩ := h1
      have q2 := Nat.blt_eq.mp q2
      have q3 := Nat.eq_of_beq_eq_true q3
      have ht30 : t < 30 := zcnt_lt q2
      obtain ⟨g1, g2, g3⟩ := zrv_unR hv ht30
      subst g3
      have hl : zFL (zy mi).cls v t a := h2
      have hi : ((i.toNat : Nat) : Int) = i := Int.toNat_of_nonneg g1
      have hm := zfl_mem t ht30 _ (List.mem_of_getElem? q1)
      have key : ∀ n : Int, ((kd = 0 ∧ zin n) ∨ (kd = 1 ∧ (n = 0 ∨ n = 1)) ∨ (kd = 2 ∧ zin6 n)) → v1 = zval b0 (fun _ _ _ => n) i (kd, x1, md, x2) → zK p l e R s m args below meth c cells slots Q b0 D ca adK adV bS L xs mi C (k + 1, ls, r, mup μ x1 i x2 n) → W p l e R s m args below meth c H locs cells slots Q (F0 m pc la (v1 :: .ref (b0 + zpos t i.toNat) :: ra)) := by
        intro n hn hv1 hK
        rw [hv1, ← hi]
        refine zput_ok hx hb hown hts hB g2 q3 q1 hl hd0 aP aS hn (fun H1 locs1 z1 z2 => ?_)
        rw [hi] at z1
        rw [← hp]
        refine hK _ _ _ _ ⟨al, ag, hr, z1, ?_, z2⟩
        rcases hm with h | ⟨h6, h7, h8⟩
        · omega
        · refine zM_up aM h6 (fun h9 => ?_) (fun h9 => ?_)
          · rcases hn with ⟨-, hn⟩ | ⟨-, hn⟩ | ⟨h10, -⟩
            · exact hn
            · rcases hn with rfl | rfl <;> exact ⟨by decide, by decide⟩
            · rcases h8 with h8 | h8
              · exact absurd h10 h8
              · exact absurd h8 h9
          · rcases h7 with h7 | ⟨h7, h11⟩
            · exact absurd h9 h7
            · rcases hn with ⟨h10, -⟩ | ⟨h10, -⟩ | ⟨-, hn⟩
              · omega
              · omega
              · exact ⟨hn, by have h12 : x2 = 0 := h11; omega⟩
      match kd, w, key, hw, q4 with
      | 0, none, _, _, _ => trivial
      | 0, some (.inl n), key, hw, _ => exact key n (Or.inl ⟨rfl, hw.1⟩) hw.2
      | 0, some (.inr _), _, _, _ => trivial
      | 1, none, _, _, _ => trivial
      | 1, some (.inl n), key, hw, _ => exact fun hq => key n (Or.inr (Or.inl ⟨rfl, hq⟩)) hw.2
      | 1, some (.inr _), _, _, _ => trivial
      | 2, none, _, _, _ => trivial
      | 2, some (.inl _), _, _, _ => trivial
      | 2, some (.inr (.inl n)), key, hw, _ => exact key n (Or.inr (Or.inr ⟨rfl, hw.1⟩)) hw.2
      | 2, some (.inr (.inr _)), _, _, _ => trivial
      | n + 3, _, _, _, q4 => exact absurd (Nat.blt_eq.mp q4) (by omega)
theorem zc_getstatic (hx : p.tables.exec = Jvm.exec) (hb : c.code = zby mi) (hml : c.maxLocals = zml mi) (hown : s.vm.findClass (zy mi).cls = some m.cls) (hts : ∀ w ∈ zTs, w.before args s = true) (hB : zBk b0 D ca adK adV bS L xs s) (hR : zfr mi ≤ R.frames ∧ zlo mi ≤ R.locals ∧ cells ≤ R.cells ∧ slots ≤ R.slots) {v : Nat} {k pc a : Nat} {cs : List (Int × Nat)} (hd : zdk (zby mi) pc (.getstatic v) = true) (hf : zfall C k pc (.getstatic v) = true) (h1 : zchk1 mi C pc (.getstatic v) a cs = true) (h2 : zOK2 (zy mi).cls (.getstatic v) a cs) {ls st : List mzV} {μ : mzM} {H : Heap} {locs : List Loc} {la : Array Slot} {sa : List Value} (hA : zA b0 D ca adK adV bS L xs s mi ls st μ H locs la sa) : zgoal (W p l e R s m args below meth c H locs cells slots Q (F0 m pc la sa)) (zK p l e R s m args below meth c cells slots Q b0 D ca adK adV bS L xs mi C) (zKC p l e R s m args below meth c cells slots Q b0 D ca adK adV bS L xs mi C) (zKE p l e R s m args below meth c cells slots Q b0 D ca adK adV bS L xs mi) (zstep (.getstatic v) a cs k ls st μ) := by
  have hd0 : decode (zby mi) pc = .ok (.getstatic v, 3) := (zdk_p hd).resolve_left (by rintro ⟨_, _, _, _, h⟩; cases h)
  have hp : zpcs C (k + 1) = pc + 3 := zfl_p hf
  obtain ⟨al, ag, as, aP, aM, aS⟩ := hA
  match a, h2 with
  | 0, h2 =>
    intro hK
    refine va_gets hx hb hB.2.2.2.2.1 aS hown (hts _ h2) (fun x h => h) hd0 ?_
    rw [← hp]
    exact hK _ _ _ _ ⟨al, ag, zrs_cons (zrv_I (n := 1) ⟨by decide, by decide⟩) as, aP, aM, aS⟩
  | n + 1, h2 =>
    intro hK
    rcases hB.2.2.2.2.2.1 with hz | ⟨t, hz⟩
    · refine va_gets hx hb hz aS hown (hts _ h2) (fun x h => h) hd0 ?_
      rw [← hp]
      exact hK _ _ _ _ ⟨al, ag, zrs_cons (Or.inr (Or.inl ⟨rfl, Or.inl rfl⟩)) as, aP, aM, aS⟩
    · refine va_gets hx hb hz aS hown (hts _ h2) (fun x h => h) hd0 ?_
      rw [← hp]
      exact hK _ _ _ _ ⟨al, ag, zrs_cons (Or.inr (Or.inl ⟨rfl, Or.inr ⟨t, rfl⟩⟩)) as, aP, aM, aS⟩
theorem zc_ldc (hx : p.tables.exec = Jvm.exec) (hb : c.code = zby mi) (hml : c.maxLocals = zml mi) (hown : s.vm.findClass (zy mi).cls = some m.cls) (hts : ∀ w ∈ zTs, w.before args s = true) (hB : zBk b0 D ca adK adV bS L xs s) (hR : zfr mi ≤ R.frames ∧ zlo mi ≤ R.locals ∧ cells ≤ R.cells ∧ slots ≤ R.slots) {v : Nat} {k pc a : Nat} {cs : List (Int × Nat)} (hd : zdk (zby mi) pc (.ldc v) = true) (hf : zfall C k pc (.ldc v) = true) (h1 : zchk1 mi C pc (.ldc v) a cs = true) (h2 : zOK2 (zy mi).cls (.ldc v) a cs) {ls st : List mzV} {μ : mzM} {H : Heap} {locs : List Loc} {la : Array Slot} {sa : List Value} (hA : zA b0 D ca adK adV bS L xs s mi ls st μ H locs la sa) : zgoal (W p l e R s m args below meth c H locs cells slots Q (F0 m pc la sa)) (zK p l e R s m args below meth c cells slots Q b0 D ca adK adV bS L xs mi C) (zKC p l e R s m args below meth c cells slots Q b0 D ca adK adV bS L xs mi C) (zKE p l e R s m args below meth c cells slots Q b0 D ca adK adV bS L xs mi) (zstep (.ldc v) a cs k ls st μ) := by
  have hd0 : decode (zby mi) pc = .ok (.ldc v, 2) := (zdk_p hd).resolve_left (by rintro ⟨_, _, _, _, h⟩; cases h)
  have hp : zpcs C (k + 1) = pc + 2 := zfl_p hf
  obtain ⟨al, ag, as, aP, aM, aS⟩ := hA
  intro hK
  obtain ⟨h3, h4⟩ := h2
  have h5 : a < 10 := Nat.blt_eq.mp h1
  subst h4
  refine va_ldcS (own := "FrameDeltas$Script") hx hb (by rw [← h3]; exact hown) (hB.2.2.2.2.2.2.1 a h5) hd0 ?_
  rw [← hp]
  exact hK _ _ _ _ ⟨al, ag, zrs_cons (Or.inr (Or.inr (Or.inl ⟨rfl, by omega, by omega, by rw [Int.toNat_natCast]⟩))) as, aP, aM, aS⟩
end Sim
end
section
section Sim
variable {p : Program} {l : Launch} {e : Env} {R : Room} {s : State} {m : MethodId} {args : Array Value} {below : List Frame} {meth : Method} {c : Code} {cells slots : Nat} {Q : State → Prop}
variable {b0 : Nat} {D : va_G} {ca : Nat → ClassId} {adK adV : Nat → Nat} {bS L : Nat} {xs : Nat → Int32} {mi : Nat} {C : List mzN}
theorem zcel_arr {μ : mzM} {t i : Nat} (h : zrow t ≠ 0) (h4 : zrow t ≠ 4) : zcel b0 ca μ t i = .inl (ca (zac t), zln t, .inl (fun j => Int32.ofInt (μ t (i : Int) (j : Int)))) := by
  unfold zcel
  split
  · next q => exact absurd q h
  · next q => exact absurd q h4
  · rfl
theorem zcel_ref {μ : mzM} {t i : Nat} (h4 : zrow t = 4) : zcel b0 ca μ t i = .inl (ca (zac t), zln t, .inr (.inr (.inr (.inr (fun j => some (b0 + zsee t i j)))))) := by unfold zcel; rw [h4]; rfl
theorem zarr_c {c : ClassId} {n : Nat} {f g : Nat → Int32} (h : ∀ j, f j = g j) : (Sum.inl (c, n, Sum.inl f) : va_E) = Sum.inl (c, n, Sum.inl g) := congrArg (fun q => (Sum.inl (c, n, Sum.inl q) : va_E)) (funext h)
theorem zi_nat {n : Nat} (h : n < 2 ^ 31) : Int32.ofNat n = Int32.ofInt (n : Int) := zi_of (nI_toInt h)
theorem zc_arraylength (hx : p.tables.exec = Jvm.exec) (hb : c.code = zby mi) (hml : c.maxLocals = zml mi) (hown : s.vm.findClass (zy mi).cls = some m.cls) (hts : ∀ w ∈ zTs, w.before args s = true) (hB : zBk b0 D ca adK adV bS L xs s) (hR : zfr mi ≤ R.frames ∧ zlo mi ≤ R.locals ∧ cells ≤ R.cells ∧ slots ≤ R.slots) {k pc a : Nat} {cs : List (Int × Nat)} (hd : zdk (zby mi) pc (.arraylength) = true) (hf : zfall C k pc (.arraylength) = true) (h1 : zchk1 mi C pc (.arraylength) a cs = true) (h2 : zOK2 (zy mi).cls (.arraylength) a cs) {ls st : List mzV} {μ : mzM} {H : Heap} {locs : List Loc} {la : Array Slot} {sa : List Value} (hA : zA b0 D ca adK adV bS L xs s mi ls st μ H locs la sa) : zgoal (W p l e R s m args below meth c H locs cells slots Q (F0 m pc la sa)) (zK p l e R s m args below meth c cells slots Q b0 D ca adK adV bS L xs mi C) (zKC p l e R s m args below meth c cells slots Q b0 D ca adK adV bS L xs mi C) (zKE p l e R s m args below meth c cells slots Q b0 D ca adK adV bS L xs mi) (zstep (.arraylength) a cs k ls st μ) := by
  have hd0 : decode (zby mi) pc = .ok (.arraylength, 1) := (zdk_p hd).resolve_left (by rintro ⟨_, _, _, _, h⟩; cases h)
  have hp : zpcs C (k + 1) = pc + 1 := zfl_p hf
  obtain ⟨al, ag, as, aP, aM, aS⟩ := hA
  refine zr1_ok as (fun t i r v0 ra hsa hv hr => ?_)
  subst hsa
  show zgoal _ _ _ _ (match zrow t with | 0 => none | _ => sN (k + 1, ls, vI (zlen t i μ) :: r, μ))
  cases hw : zrow t with
  | zero => trivial
  | succ w =>
    have hlt := zrow_lt hw (by omega)
    have hne : zrow t ≠ 0 := by omega
    obtain ⟨w1, w2, w3, w4, w5, w6⟩ := zrow_a t hlt
    have hle : w + 1 ≤ 6 := by
      have : ∀ t, t < 33 → zrow t ≤ 6 := by decide +kernel
      have := this t hlt
      omega
    have heap : t < 30 → zK p l e R s m args below meth c cells slots Q b0 D ca adK adV bS L xs mi C (k + 1, ls, vI (zlen t i μ) :: r, μ) → W p l e R s m args below meth c H locs cells slots Q (F0 m pc la (v0 :: ra)) := by
      intro ht hK
      obtain ⟨g1, g2, g3⟩ := zrv_unR hv ht
      subst g3
      have he := zws_at b0 ca μ g2
      have hln := zln_lt t ht
      have hz : zlen t i μ = (zln t : Int) := zlen_n t ht hne i μ
      have hgo : W p l e R s m args below meth c H locs cells slots Q (F0 m (pc + 1) la (.int (Int32.ofNat (zln t)) :: ra)) := by
        rw [zi_nat (by omega), ← hz, ← hp]
        exact hK _ _ _ _ ⟨al, ag, zrs_cons (zrv_I (by rw [hz]; constructor <;> omega)) hr, aP, aM, aS⟩
      by_cases h4 : zrow t = 4
      · rw [zcel_ref h4] at he
        have hty : ∃ ty, (zarr ca)[zac t]? = some (ca (zac t), ty) := by
          rcases w4 h4 with rfl | rfl
          · exact ⟨_, rfl⟩
          · exact ⟨_, rfl⟩
        obtain ⟨ty, hty⟩ := hty
        exact va_alen hx hb hB.1 aP _ (zac t) he hty rfl hd0 hgo
      · rw [zcel_arr hne h4] at he
        have hty : ∃ ty, (zarr ca)[zac t]? = some (ca (zac t), ty) := by
          have h6 : zrow t = 1 ∨ zrow t = 2 ∨ zrow t = 3 := by
            have h7 : zrow t ≠ 5 := fun q => by have := w5 q; omega
            have h8 : zrow t ≠ 6 := fun q => by have := w6 q; omega
            omega
          rcases h6 with h6 | h6 | h6
          · rw [(w1 h6).2]; exact ⟨_, rfl⟩
          · rw [(w2 h6).2]; exact ⟨_, rfl⟩
          · rw [(w3 h6).2]; exact ⟨_, rfl⟩
        obtain ⟨ty, hty⟩ := hty
        exact va_alen hx hb hB.1 aP _ (zac t) he hty rfl hd0 hgo
    show zK p l e R s m args below meth c cells slots Q b0 D ca adK adV bS L xs mi C (k + 1, ls, vI (zlen t i μ) :: r, μ) → W p l e R s m args below meth c H locs cells slots Q (F0 m pc la (v0 :: ra))
    by_cases ht : t < 30
    · exact heap ht
    · intro hK
      have h9 : t = 31 ∨ t = 32 := by
        have h10 : zrow 30 = 0 := rfl
        have h11 : t ≠ 30 := fun q => by rw [q] at hw; cases hw
        omega
      rcases h9 with rfl | rfl
      · obtain ⟨g1, g2, g3⟩ := zrv_un31 hv
        subst g3
        obtain ⟨e1, e2, e3, e4⟩ := hB.2.1.1 i.toNat (by omega)
        obtain ⟨f1, f2⟩ := ztb_ok i.toNat (by omega)
        have f3 : (ztext i.toNat).length < 2 ^ 31 := by
          have : ∀ j, j < 10 → (ztext j).length < 2 ^ 31 := by decide +kernel
          exact this _ (by omega)
        refine va_tlen hx hb e4 aS (v := Int32.ofInt (zlen 31 i μ)) (by rw [f1]; exact zi_nat f3) hd0 ?_
        rw [← hp]
        exact hK _ _ _ _ ⟨al, ag, zrs_cons (zrv_I (by show zin ((ztext i.toNat).length : Int); constructor <;> omega)) hr, aP, aM, aS⟩
      · obtain ⟨g1, g3⟩ := zrv_un32 hv
        subst g3
        have hL := hB.2.2.2.1.2.2
        refine va_slen hx hb hB.2.2.1 (Nat.lt_of_lt_of_le hB.2.2.2.1.1 hB.2.2.2.1.2.1) (Nat.not_le.mpr hB.2.2.2.1.1) aS hd0 ?_
        rw [zi_nat hL, ← hp]
        have h12 : zlen 32 i μ = (L : Int) := aM.2.2.1
        rw [← h12]
        exact hK _ _ _ _ ⟨al, ag, zrs_cons (zrv_I (by rw [h12]; constructor <;> omega)) hr, aP, aM, aS⟩
theorem zal_1 (hx : p.tables.exec = Jvm.exec) (hb : c.code = zby mi) (hB : zBk b0 D ca adK adV bS L xs s) {k pc : Nat} {ls st : List mzV} {μ : mzM} {H : Heap} {locs : List Loc} {la : Array Slot} {sa : List Value} (hA : zA b0 D ca adK adV bS L xs s mi ls st μ H locs la sa) (hd0 : decode (zby mi) pc = .ok (.iaload, 1)) (hp : zpcs C (k + 1) = pc + 1) : zgoal (W p l e R s m args below meth c H locs cells slots Q (F0 m pc la sa)) (zK p l e R s m args below meth c cells slots Q b0 D ca adK adV bS L xs mi C) (zKC p l e R s m args below meth c cells slots Q b0 D ca adK adV bS L xs mi C) (zKE p l e R s m args below meth c cells slots Q b0 D ca adK adV bS L xs mi) (zaload 1 st μ (k + 1) ls) := by
  obtain ⟨al, ag, as, aP, aM, aS⟩ := hA
  refine zir_ok as (fun j t i r v0 ra hsa hj hv hr => ?_)
  subst hsa
  cases hw : Nat.beq 1 (zrow t) with
  | false => trivial
  | true =>
    have hw := (Nat.eq_of_beq_eq_true hw).symm
    obtain ⟨ht, hac⟩ := (zrow_a t (zrow_lt hw (by omega))).1 hw
    show (0 ≤ j ∧ j < zlen t i μ) → _
    intro hq hK
    rw [zlen_n t ht (by omega)] at hq
    obtain ⟨g1, g2, g3⟩ := zrv_unR hv ht
    subst g3
    have he := zws_at b0 ca μ g2
    rw [zcel_arr (by omega) (by omega), hac] at he
    refine va_iald hx hb hB.1 aP _ 0 he rfl (zn_vin hj hq.1 hq.2) hd0 ?_
    rw [zn_nat hj, Int.toNat_of_nonneg g1, Int.toNat_of_nonneg hq.1, ← hp]
    exact hK _ _ _ _ ⟨al, ag, zrs_cons (zrv_I (aM.1 _ _ _ (by omega))) hr, aP, aM, aS⟩
theorem zal_2 (hx : p.tables.exec = Jvm.exec) (hb : c.code = zby mi) (hB : zBk b0 D ca adK adV bS L xs s) {k pc : Nat} {ls st : List mzV} {μ : mzM} {H : Heap} {locs : List Loc} {la : Array Slot} {sa : List Value} (hA : zA b0 D ca adK adV bS L xs s mi ls st μ H locs la sa) (hd0 : decode (zby mi) pc = .ok (.caload, 1)) (hp : zpcs C (k + 1) = pc + 1) : zgoal (W p l e R s m args below meth c H locs cells slots Q (F0 m pc la sa)) (zK p l e R s m args below meth c cells slots Q b0 D ca adK adV bS L xs mi C) (zKC p l e R s m args below meth c cells slots Q b0 D ca adK adV bS L xs mi C) (zKE p l e R s m args below meth c cells slots Q b0 D ca adK adV bS L xs mi) (zaload 2 st μ (k + 1) ls) := by
  obtain ⟨al, ag, as, aP, aM, aS⟩ := hA
  refine zir_ok as (fun j t i r v0 ra hsa hj hv hr => ?_)
  subst hsa
  cases hw : Nat.beq 2 (zrow t) with
  | false => trivial
  | true =>
    have hw := (Nat.eq_of_beq_eq_true hw).symm
    obtain ⟨ht, hac⟩ := (zrow_a t (zrow_lt hw (by omega))).2.1 hw
    show (0 ≤ j ∧ j < zlen t i μ) → _
    intro hq hK
    rw [zlen_n t ht (by omega)] at hq
    obtain ⟨g1, g2, g3⟩ := zrv_unR hv ht
    subst g3
    have he := zws_at b0 ca μ g2
    rw [zcel_arr (by omega) (by omega), hac] at he
    refine va_cald hx hb hB.1 aP _ 1 he rfl (zn_vin hj hq.1 hq.2) hd0 ?_
    rw [zn_nat hj, Int.toNat_of_nonneg g1, Int.toNat_of_nonneg hq.1, ← hp]
    exact hK _ _ _ _ ⟨al, ag, zrs_cons (zrv_I (aM.1 _ _ _ (by omega))) hr, aP, aM, aS⟩
theorem zal_3 (hx : p.tables.exec = Jvm.exec) (hb : c.code = zby mi) (hB : zBk b0 D ca adK adV bS L xs s) {k pc : Nat} {ls st : List mzV} {μ : mzM} {H : Heap} {locs : List Loc} {la : Array Slot} {sa : List Value} (hA : zA b0 D ca adK adV bS L xs s mi ls st μ H locs la sa) (hd0 : decode (zby mi) pc = .ok (.baload, 1)) (hp : zpcs C (k + 1) = pc + 1) : zgoal (W p l e R s m args below meth c H locs cells slots Q (F0 m pc la sa)) (zK p l e R s m args below meth c cells slots Q b0 D ca adK adV bS L xs mi C) (zKC p l e R s m args below meth c cells slots Q b0 D ca adK adV bS L xs mi C) (zKE p l e R s m args below meth c cells slots Q b0 D ca adK adV bS L xs mi) (zaload 3 st μ (k + 1) ls) := by
  obtain ⟨al, ag, as, aP, aM, aS⟩ := hA
  refine zir_ok as (fun j t i r v0 ra hsa hj hv hr => ?_)
  subst hsa
  cases hw : Nat.beq 3 (zrow t) with
  | false => trivial
  | true =>
    have hw := (Nat.eq_of_beq_eq_true hw).symm
    obtain ⟨ht, hac⟩ := (zrow_a t (zrow_lt hw (by omega))).2.2.1 hw
    show (0 ≤ j ∧ j < zlen t i μ) → _
    intro hq hK
    rw [zlen_n t ht (by omega)] at hq
    obtain ⟨g1, g2, g3⟩ := zrv_unR hv ht
    subst g3
    have he := zws_at b0 ca μ g2
    rw [zcel_arr (by omega) (by omega), hac] at he
    refine va_bald hx hb hB.1 aP _ 2 he rfl (zn_vin hj hq.1 hq.2) hd0 ?_
    rw [zn_nat hj, Int.toNat_of_nonneg g1, Int.toNat_of_nonneg hq.1, ← hp]
    exact hK _ _ _ _ ⟨al, ag, zrs_cons (zrv_I (aM.1 _ _ _ (by omega))) hr, aP, aM, aS⟩
theorem zal_6 (hx : p.tables.exec = Jvm.exec) (hb : c.code = zby mi) (hB : zBk b0 D ca adK adV bS L xs s) {k pc : Nat} {ls st : List mzV} {μ : mzM} {H : Heap} {locs : List Loc} {la : Array Slot} {sa : List Value} (hA : zA b0 D ca adK adV bS L xs s mi ls st μ H locs la sa) (hd0 : decode (zby mi) pc = .ok (.iaload, 1)) (hp : zpcs C (k + 1) = pc + 1) : zgoal (W p l e R s m args below meth c H locs cells slots Q (F0 m pc la sa)) (zK p l e R s m args below meth c cells slots Q b0 D ca adK adV bS L xs mi C) (zKC p l e R s m args below meth c cells slots Q b0 D ca adK adV bS L xs mi C) (zKE p l e R s m args below meth c cells slots Q b0 D ca adK adV bS L xs mi) (zaload 6 st μ (k + 1) ls) := by
  obtain ⟨al, ag, as, aP, aM, aS⟩ := hA
  refine zir_ok as (fun j t i r v0 ra hsa hj hv hr => ?_)
  subst hsa
  cases hw : Nat.beq 6 (zrow t) with
  | false => trivial
  | true =>
    have hw := (Nat.eq_of_beq_eq_true hw).symm
    have ht := (zrow_a t (zrow_lt hw (by omega))).2.2.2.2.2 hw
    subst ht
    show (0 ≤ j ∧ j < μ 33 0 1) → _
    intro hq hK
    have hL := aM.2.2.1
    rw [hL] at hq
    obtain ⟨g1, g3⟩ := zrv_un32 hv
    subst g3
    subst g1
    refine va_sld hx hb hB.2.2.1 (Nat.lt_of_lt_of_le hB.2.2.2.1.1 hB.2.2.2.1.2.1) (Nat.not_le.mpr hB.2.2.2.1.1) aS (zn_vin hj hq.1 hq.2) hd0 ?_
    rw [zn_nat hj, zi_of (aM.2.2.2 j.toNat (by omega)).symm, Int.toNat_of_nonneg hq.1, ← hp]
    exact hK _ _ _ _ ⟨al, ag, zrs_cons (zrv_I (aM.1 _ _ _ (by omega))) hr, aP, aM, aS⟩
theorem zal_5 (hx : p.tables.exec = Jvm.exec) (hb : c.code = zby mi) (hB : zBk b0 D ca adK adV bS L xs s) {k pc : Nat} {ls st : List mzV} {μ : mzM} {H : Heap} {locs : List Loc} {la : Array Slot} {sa : List Value} (hA : zA b0 D ca adK adV bS L xs s mi ls st μ H locs la sa) (hd0 : decode (zby mi) pc = .ok (.baload, 1)) (hp : zpcs C (k + 1) = pc + 1) : zgoal (W p l e R s m args below meth c H locs cells slots Q (F0 m pc la sa)) (zK p l e R s m args below meth c cells slots Q b0 D ca adK adV bS L xs mi C) (zKC p l e R s m args below meth c cells slots Q b0 D ca adK adV bS L xs mi C) (zKE p l e R s m args below meth c cells slots Q b0 D ca adK adV bS L xs mi) (zaload 5 st μ (k + 1) ls) := by
  obtain ⟨al, ag, as, aP, aM, aS⟩ := hA
  refine zir_ok as (fun j t i r v0 ra hsa hj hv hr => ?_)
  subst hsa
  cases hw : Nat.beq 5 (zrow t) with
  | false => trivial
  | true =>
    have hw := (Nat.eq_of_beq_eq_true hw).symm
    have ht := (zrow_a t (zrow_lt hw (by omega))).2.2.2.2.1 hw
    subst ht
    show (0 ≤ j ∧ j < ((ztext i.toNat).length : Int)) → _
    intro hq hK
    obtain ⟨g1, g2, g3⟩ := zrv_un31 hv
    subst g3
    obtain ⟨e1, e2, e3, e4⟩ := hB.2.1.1 i.toNat (by omega)
    obtain ⟨f1, f2⟩ := ztb_ok i.toNat (by omega)
    obtain ⟨f3, f4, f5⟩ := f2 j.toNat (by omega)
    refine va_tb hx hb e4 aS (zn_vin hj hq.1 (by rw [f1]; exact hq.2)) (v := .int (Int32.ofInt (zchr i j))) (by rw [zn_nat hj, f3]; rfl) hd0 ?_
    rw [← hp]
    exact hK _ _ _ _ ⟨al, ag, zrs_cons (zrv_I (by show zin ((ztext i.toNat).getD j.toNat 0); constructor <;> omega)) hr, aP, aM, aS⟩
theorem zsee_ok : (∀ i, i < 7 → ∀ j, j < 10 → 11 * i + j < zcnt 2) ∧ (∀ j, j < 6 → 1 + j < zcnt 1) := by decide +kernel
theorem zal_4 (hx : p.tables.exec = Jvm.exec) (hb : c.code = zby mi) (hB : zBk b0 D ca adK adV bS L xs s) {k pc : Nat} {ls st : List mzV} {μ : mzM} {H : Heap} {locs : List Loc} {la : Array Slot} {sa : List Value} (hA : zA b0 D ca adK adV bS L xs s mi ls st μ H locs la sa) (hd0 : decode (zby mi) pc = .ok (.aaload, 1)) (hp : zpcs C (k + 1) = pc + 1) : zgoal (W p l e R s m args below meth c H locs cells slots Q (F0 m pc la sa)) (zK p l e R s m args below meth c cells slots Q b0 D ca adK adV bS L xs mi C) (zKC p l e R s m args below meth c cells slots Q b0 D ca adK adV bS L xs mi C) (zKE p l e R s m args below meth c cells slots Q b0 D ca adK adV bS L xs mi) (zaload 4 st μ (k + 1) ls) := by
  obtain ⟨al, ag, as, aP, aM, aS⟩ := hA
  refine zir_ok as (fun j t i r v0 ra hsa hj hv hr => ?_)
  subst hsa
  cases hw : Nat.beq 4 (zrow t) with
  | false => trivial
  | true =>
    have hw := (Nat.eq_of_beq_eq_true hw).symm
    have ht := (zrow_a t (zrow_lt hw (by omega))).2.2.2.1 hw
    show (0 ≤ j ∧ j < zlen t i μ) → _
    intro hq hK
    rcases ht with rfl | rfl
    · obtain ⟨g1, g2, g3⟩ := zrv_unR hv (by omega)
      have hq : 0 ≤ j ∧ j < 10 := hq
      subst g3
      have he := zws_at b0 ca μ g2
      rw [zcel_ref hw] at he
      refine va_aldq hx hb hB.1 aP _ 4 he rfl (zn_vin hj hq.1 hq.2) hd0 ?_
      rw [zn_nat hj, ← hp]
      have h5 := zsee_ok.1 i.toNat g2 j.toNat (by omega)
      refine hK _ _ _ _ ⟨al, ag, zrs_cons ?_ hr, aP, aM, aS⟩
      have h6 : (11 * i + j).toNat = 11 * i.toNat + j.toNat := by omega
      refine Or.inr (Or.inr (Or.inr (Or.inr (Or.inr ⟨by omega, by rw [h6]; exact h5, ?_⟩))))
      rw [h6]
      rfl
    · obtain ⟨g1, g2, g3⟩ := zrv_unR hv (by omega)
      have hq : 0 ≤ j ∧ j < 6 := hq
      subst g3
      have he := zws_at b0 ca μ g2
      rw [zcel_ref hw] at he
      refine va_aldq hx hb hB.1 aP _ 3 he rfl (zn_vin hj hq.1 hq.2) hd0 ?_
      rw [zn_nat hj, ← hp]
      have h5 := zsee_ok.2 j.toNat (by omega)
      refine hK _ _ _ _ ⟨al, ag, zrs_cons ?_ hr, aP, aM, aS⟩
      have h6 : (1 + j).toNat = 1 + j.toNat := by omega
      refine Or.inr (Or.inr (Or.inr (Or.inr (Or.inr ⟨by omega, by rw [h6]; exact h5, ?_⟩))))
      rw [h6]
      rfl
theorem zc_iaload (hx : p.tables.exec = Jvm.exec) (hb : c.code = zby mi) (hml : c.maxLocals = zml mi) (hown : s.vm.findClass (zy mi).cls = some m.cls) (hts : ∀ w ∈ zTs, w.before args s = true) (hB : zBk b0 D ca adK adV bS L xs s) (hR : zfr mi ≤ R.frames ∧ zlo mi ≤ R.locals ∧ cells ≤ R.cells ∧ slots ≤ R.slots) {k pc a : Nat} {cs : List (Int × Nat)} (hd : zdk (zby mi) pc (.iaload) = true) (hf : zfall C k pc (.iaload) = true) (h1 : zchk1 mi C pc (.iaload) a cs = true) (h2 : zOK2 (zy mi).cls (.iaload) a cs) {ls st : List mzV} {μ : mzM} {H : Heap} {locs : List Loc} {la : Array Slot} {sa : List Value} (hA : zA b0 D ca adK adV bS L xs s mi ls st μ H locs la sa) : zgoal (W p l e R s m args below meth c H locs cells slots Q (F0 m pc la sa)) (zK p l e R s m args below meth c cells slots Q b0 D ca adK adV bS L xs mi C) (zKC p l e R s m args below meth c cells slots Q b0 D ca adK adV bS L xs mi C) (zKE p l e R s m args below meth c cells slots Q b0 D ca adK adV bS L xs mi) (zstep (.iaload) a cs k ls st μ) := by
  have hd0 : decode (zby mi) pc = .ok (.iaload, 1) := (zdk_p hd).resolve_left (by rintro ⟨_, _, _, _, h⟩; cases h)
  have hp : zpcs C (k + 1) = pc + 1 := zfl_p hf
  obtain ⟨al, ag, as, aP, aM, aS⟩ := hA
  have hA : zA b0 D ca adK adV bS L xs s mi ls st μ H locs la sa := ⟨al, ag, as, aP, aM, aS⟩
  unfold zstep
  dsimp only
  split
  · exact zal_6 hx hb hB hA hd0 hp
  · exact zal_1 hx hb hB hA hd0 hp
theorem zc_baload (hx : p.tables.exec = Jvm.exec) (hb : c.code = zby mi) (hml : c.maxLocals = zml mi) (hown : s.vm.findClass (zy mi).cls = some m.cls) (hts : ∀ w ∈ zTs, w.before args s = true) (hB : zBk b0 D ca adK adV bS L xs s) (hR : zfr mi ≤ R.frames ∧ zlo mi ≤ R.locals ∧ cells ≤ R.cells ∧ slots ≤ R.slots) {k pc a : Nat} {cs : List (Int × Nat)} (hd : zdk (zby mi) pc (.baload) = true) (hf : zfall C k pc (.baload) = true) (h1 : zchk1 mi C pc (.baload) a cs = true) (h2 : zOK2 (zy mi).cls (.baload) a cs) {ls st : List mzV} {μ : mzM} {H : Heap} {locs : List Loc} {la : Array Slot} {sa : List Value} (hA : zA b0 D ca adK adV bS L xs s mi ls st μ H locs la sa) : zgoal (W p l e R s m args below meth c H locs cells slots Q (F0 m pc la sa)) (zK p l e R s m args below meth c cells slots Q b0 D ca adK adV bS L xs mi C) (zKC p l e R s m args below meth c cells slots Q b0 D ca adK adV bS L xs mi C) (zKE p l e R s m args below meth c cells slots Q b0 D ca adK adV bS L xs mi) (zstep (.baload) a cs k ls st μ) := by
  have hd0 : decode (zby mi) pc = .ok (.baload, 1) := (zdk_p hd).resolve_left (by rintro ⟨_, _, _, _, h⟩; cases h)
  have hp : zpcs C (k + 1) = pc + 1 := zfl_p hf
  obtain ⟨al, ag, as, aP, aM, aS⟩ := hA
  have hA : zA b0 D ca adK adV bS L xs s mi ls st μ H locs la sa := ⟨al, ag, as, aP, aM, aS⟩
  unfold zstep
  dsimp only
  split
  · exact zal_5 hx hb hB hA hd0 hp
  · exact zal_3 hx hb hB hA hd0 hp
theorem zc_caload (hx : p.tables.exec = Jvm.exec) (hb : c.code = zby mi) (hml : c.maxLocals = zml mi) (hown : s.vm.findClass (zy mi).cls = some m.cls) (hts : ∀ w ∈ zTs, w.before args s = true) (hB : zBk b0 D ca adK adV bS L xs s) (hR : zfr mi ≤ R.frames ∧ zlo mi ≤ R.locals ∧ cells ≤ R.cells ∧ slots ≤ R.slots) {k pc a : Nat} {cs : List (Int × Nat)} (hd : zdk (zby mi) pc (.caload) = true) (hf : zfall C k pc (.caload) = true) (h1 : zchk1 mi C pc (.caload) a cs = true) (h2 : zOK2 (zy mi).cls (.caload) a cs) {ls st : List mzV} {μ : mzM} {H : Heap} {locs : List Loc} {la : Array Slot} {sa : List Value} (hA : zA b0 D ca adK adV bS L xs s mi ls st μ H locs la sa) : zgoal (W p l e R s m args below meth c H locs cells slots Q (F0 m pc la sa)) (zK p l e R s m args below meth c cells slots Q b0 D ca adK adV bS L xs mi C) (zKC p l e R s m args below meth c cells slots Q b0 D ca adK adV bS L xs mi C) (zKE p l e R s m args below meth c cells slots Q b0 D ca adK adV bS L xs mi) (zstep (.caload) a cs k ls st μ) := by
  have hd0 : decode (zby mi) pc = .ok (.caload, 1) := (zdk_p hd).resolve_left (by rintro ⟨_, _, _, _, h⟩; cases h)
  have hp : zpcs C (k + 1) = pc + 1 := zfl_p hf
  obtain ⟨al, ag, as, aP, aM, aS⟩ := hA
  exact zal_2 hx hb hB ⟨al, ag, as, aP, aM, aS⟩ hd0 hp
theorem zc_aaload (hx : p.tables.exec = Jvm.exec) (hb : c.code = zby mi) (hml : c.maxLocals = zml mi) (hown : s.vm.findClass (zy mi).cls = some m.cls) (hts : ∀ w ∈ zTs, w.before args s = true) (hB : zBk b0 D ca adK adV bS L xs s) (hR : zfr mi ≤ R.frames ∧ zlo mi ≤ R.locals ∧ cells ≤ R.cells ∧ slots ≤ R.slots) {k pc a : Nat} {cs : List (Int × Nat)} (hd : zdk (zby mi) pc (.aaload) = true) (hf : zfall C k pc (.aaload) = true) (h1 : zchk1 mi C pc (.aaload) a cs = true) (h2 : zOK2 (zy mi).cls (.aaload) a cs) {ls st : List mzV} {μ : mzM} {H : Heap} {locs : List Loc} {la : Array Slot} {sa : List Value} (hA : zA b0 D ca adK adV bS L xs s mi ls st μ H locs la sa) : zgoal (W p l e R s m args below meth c H locs cells slots Q (F0 m pc la sa)) (zK p l e R s m args below meth c cells slots Q b0 D ca adK adV bS L xs mi C) (zKC p l e R s m args below meth c cells slots Q b0 D ca adK adV bS L xs mi C) (zKE p l e R s m args below meth c cells slots Q b0 D ca adK adV bS L xs mi) (zstep (.aaload) a cs k ls st μ) := by
  have hd0 : decode (zby mi) pc = .ok (.aaload, 1) := (zdk_p hd).resolve_left (by rintro ⟨_, _, _, _, h⟩; cases h)
  have hp : zpcs C (k + 1) = pc + 1 := zfl_p hf
  obtain ⟨al, ag, as, aP, aM, aS⟩ := hA
  exact zal_4 hx hb hB ⟨al, ag, as, aP, aM, aS⟩ hd0 hp
theorem zc_iastore (hx : p.tables.exec = Jvm.exec) (hb : c.code = zby mi) (hml : c.maxLocals = zml mi) (hown : s.vm.findClass (zy mi).cls = some m.cls) (hts : ∀ w ∈ zTs, w.before args s = true) (hB : zBk b0 D ca adK adV bS L xs s) (hR : zfr mi ≤ R.frames ∧ zlo mi ≤ R.locals ∧ cells ≤ R.cells ∧ slots ≤ R.slots) {k pc a : Nat} {cs : List (Int × Nat)} (hd : zdk (zby mi) pc (.iastore) = true) (hf : zfall C k pc (.iastore) = true) (h1 : zchk1 mi C pc (.iastore) a cs = true) (h2 : zOK2 (zy mi).cls (.iastore) a cs) {ls st : List mzV} {μ : mzM} {H : Heap} {locs : List Loc} {la : Array Slot} {sa : List Value} (hA : zA b0 D ca adK adV bS L xs s mi ls st μ H locs la sa) : zgoal (W p l e R s m args below meth c H locs cells slots Q (F0 m pc la sa)) (zK p l e R s m args below meth c cells slots Q b0 D ca adK adV bS L xs mi C) (zKC p l e R s m args below meth c cells slots Q b0 D ca adK adV bS L xs mi C) (zKE p l e R s m args below meth c cells slots Q b0 D ca adK adV bS L xs mi) (zstep (.iastore) a cs k ls st μ) := by
  have hd0 : decode (zby mi) pc = .ok (.iastore, 1) := (zdk_p hd).resolve_left (by rintro ⟨_, _, _, _, h⟩; cases h)
  have hp : zpcs C (k + 1) = pc + 1 := zfl_p hf
  obtain ⟨al, ag, as, aP, aM, aS⟩ := hA
  refine zvir_ok as (fun n j t i r v0 ra hsa hn hj hv hr => ?_)
  subst hsa
  cases hw : Nat.beq 1 (zrow t) with
  | false => trivial
  | true =>
    have hw := (Nat.eq_of_beq_eq_true hw).symm
    obtain ⟨ht, hac⟩ := (zrow_a t (zrow_lt hw (by omega))).1 hw
    show (0 ≤ j ∧ j < zlen t i μ) → zK p l e R s m args below meth c cells slots Q b0 D ca adK adV bS L xs mi C (k + 1, ls, r, mup μ t i j (n)) → _
    intro hq hK
    rw [zlen_n t ht (by omega)] at hq
    obtain ⟨g1, g2, g3⟩ := zrv_unR hv ht
    subst g3
    have he := zws_at b0 ca μ g2
    rw [zcel_arr (by omega) (by omega), hac] at he
    refine va_iast hx hb hB.1 aP (zws_D b0 ca μ) aS _ 0 he rfl (zn_vin hj hq.1 hq.2) hd0 (fun H1 locs1 z1 _ z2 => ?_)
    have hval : Int32.ofInt n = Int32.ofInt (n) := rfl
    rw [hval, zws_set (μ' := mup μ t i j (n)) g2 ?_ ?_] at z1
    · rw [← hp]
      exact hK _ _ _ _ ⟨al, ag, hr, z1, zM_up aM (by omega) (fun _ => hn) (fun q => by omega), z2⟩
    · rw [zcel_arr (by omega) (by omega), hac]
      refine zarr_c (fun j' => ?_)
      rw [zn_nat hj]
      unfold upd mup
      by_cases hjj : j' = j.toNat
      · rw [if_pos ⟨rfl, by omega, by omega⟩, if_pos hjj]
      · rw [if_neg (fun q => hjj (by omega)), if_neg hjj]
    · intro t' i' h' hne
      refine zcel_off (x1 := t) (i := i.toNat) (fun t2 i2 k2 h2 => mup_ne (fun z => h2 ⟨z.1, by omega⟩)) h' ?_
      rw [zow_row t ht]
      exact hne
theorem zc_castore (hx : p.tables.exec = Jvm.exec) (hb : c.code = zby mi) (hml : c.maxLocals = zml mi) (hown : s.vm.findClass (zy mi).cls = some m.cls) (hts : ∀ w ∈ zTs, w.before args s = true) (hB : zBk b0 D ca adK adV bS L xs s) (hR : zfr mi ≤ R.frames ∧ zlo mi ≤ R.locals ∧ cells ≤ R.cells ∧ slots ≤ R.slots) {k pc a : Nat} {cs : List (Int × Nat)} (hd : zdk (zby mi) pc (.castore) = true) (hf : zfall C k pc (.castore) = true) (h1 : zchk1 mi C pc (.castore) a cs = true) (h2 : zOK2 (zy mi).cls (.castore) a cs) {ls st : List mzV} {μ : mzM} {H : Heap} {locs : List Loc} {la : Array Slot} {sa : List Value} (hA : zA b0 D ca adK adV bS L xs s mi ls st μ H locs la sa) : zgoal (W p l e R s m args below meth c H locs cells slots Q (F0 m pc la sa)) (zK p l e R s m args below meth c cells slots Q b0 D ca adK adV bS L xs mi C) (zKC p l e R s m args below meth c cells slots Q b0 D ca adK adV bS L xs mi C) (zKE p l e R s m args below meth c cells slots Q b0 D ca adK adV bS L xs mi) (zstep (.castore) a cs k ls st μ) := by
  have hd0 : decode (zby mi) pc = .ok (.castore, 1) := (zdk_p hd).resolve_left (by rintro ⟨_, _, _, _, h⟩; cases h)
  have hp : zpcs C (k + 1) = pc + 1 := zfl_p hf
  obtain ⟨al, ag, as, aP, aM, aS⟩ := hA
  refine zvir_ok as (fun n j t i r v0 ra hsa hn hj hv hr => ?_)
  subst hsa
  cases hw : Nat.beq 2 (zrow t) with
  | false => trivial
  | true =>
    have hw := (Nat.eq_of_beq_eq_true hw).symm
    obtain ⟨ht, hac⟩ := (zrow_a t (zrow_lt hw (by omega))).2.1 hw
    show (0 ≤ j ∧ j < zlen t i μ) → zK p l e R s m args below meth c cells slots Q b0 D ca adK adV bS L xs mi C (k + 1, ls, r, mup μ t i j (n % 65536)) → _
    intro hq hK
    rw [zlen_n t ht (by omega)] at hq
    obtain ⟨g1, g2, g3⟩ := zrv_unR hv ht
    subst g3
    have he := zws_at b0 ca μ g2
    rw [zcel_arr (by omega) (by omega), hac] at he
    refine va_cast hx hb hB.1 aP (zws_D b0 ca μ) aS _ 1 he rfl (zn_vin hj hq.1 hq.2) hd0 (fun H1 locs1 z1 _ z2 => ?_)
    have hval : vp_nar .char (Int32.ofInt n) = Int32.ofInt (n % 65536) := (by rw [vp_nar_char, zn_char]; exact zn_i2c hn)
    rw [hval, zws_set (μ' := mup μ t i j (n % 65536)) g2 ?_ ?_] at z1
    · rw [← hp]
      exact hK _ _ _ _ ⟨al, ag, hr, z1, zM_up aM (by omega) (fun _ => (by constructor <;> omega)) (fun q => by omega), z2⟩
    · rw [zcel_arr (by omega) (by omega), hac]
      refine zarr_c (fun j' => ?_)
      rw [zn_nat hj]
      unfold upd mup
      by_cases hjj : j' = j.toNat
      · rw [if_pos ⟨rfl, by omega, by omega⟩, if_pos hjj]
      · rw [if_neg (fun q => hjj (by omega)), if_neg hjj]
    · intro t' i' h' hne
      refine zcel_off (x1 := t) (i := i.toNat) (fun t2 i2 k2 h2 => mup_ne (fun z => h2 ⟨z.1, by omega⟩)) h' ?_
      rw [zow_row t ht]
      exact hne
theorem zc_bastore (hx : p.tables.exec = Jvm.exec) (hb : c.code = zby mi) (hml : c.maxLocals = zml mi) (hown : s.vm.findClass (zy mi).cls = some m.cls) (hts : ∀ w ∈ zTs, w.before args s = true) (hB : zBk b0 D ca adK adV bS L xs s) (hR : zfr mi ≤ R.frames ∧ zlo mi ≤ R.locals ∧ cells ≤ R.cells ∧ slots ≤ R.slots) {k pc a : Nat} {cs : List (Int × Nat)} (hd : zdk (zby mi) pc (.bastore) = true) (hf : zfall C k pc (.bastore) = true) (h1 : zchk1 mi C pc (.bastore) a cs = true) (h2 : zOK2 (zy mi).cls (.bastore) a cs) {ls st : List mzV} {μ : mzM} {H : Heap} {locs : List Loc} {la : Array Slot} {sa : List Value} (hA : zA b0 D ca adK adV bS L xs s mi ls st μ H locs la sa) : zgoal (W p l e R s m args below meth c H locs cells slots Q (F0 m pc la sa)) (zK p l e R s m args below meth c cells slots Q b0 D ca adK adV bS L xs mi C) (zKC p l e R s m args below meth c cells slots Q b0 D ca adK adV bS L xs mi C) (zKE p l e R s m args below meth c cells slots Q b0 D ca adK adV bS L xs mi) (zstep (.bastore) a cs k ls st μ) := by
  have hd0 : decode (zby mi) pc = .ok (.bastore, 1) := (zdk_p hd).resolve_left (by rintro ⟨_, _, _, _, h⟩; cases h)
  have hp : zpcs C (k + 1) = pc + 1 := zfl_p hf
  obtain ⟨al, ag, as, aP, aM, aS⟩ := hA
  refine zvir_ok as (fun n j t i r v0 ra hsa hn hj hv hr => ?_)
  subst hsa
  cases hw : Nat.beq 3 (zrow t) with
  | false => trivial
  | true =>
    have hw := (Nat.eq_of_beq_eq_true hw).symm
    obtain ⟨ht, hac⟩ := (zrow_a t (zrow_lt hw (by omega))).2.2.1 hw
    show (0 ≤ j ∧ j < zlen t i μ) → zK p l e R s m args below meth c cells slots Q b0 D ca adK adV bS L xs mi C (k + 1, ls, r, mup μ t i j (zb n)) → _
    intro hq hK
    rw [zlen_n t ht (by omega)] at hq
    obtain ⟨g1, g2, g3⟩ := zrv_unR hv ht
    subst g3
    have he := zws_at b0 ca μ g2
    rw [zcel_arr (by omega) (by omega), hac] at he
    refine va_bast hx hb hB.1 aP (zws_D b0 ca μ) aS _ 2 he rfl (zn_vin hj hq.1 hq.2) hd0 (fun H1 locs1 z1 _ z2 => ?_)
    have hval : vp_nar .byte (Int32.ofInt n) = Int32.ofInt (zb n) := (by rw [vp_nar_byte]; exact zn_i2b hn)
    rw [hval, zws_set (μ' := mup μ t i j (zb n)) g2 ?_ ?_] at z1
    · rw [← hp]
      exact hK _ _ _ _ ⟨al, ag, hr, z1, zM_up aM (by omega) (fun _ => (zb_in n)) (fun q => by omega), z2⟩
    · rw [zcel_arr (by omega) (by omega), hac]
      refine zarr_c (fun j' => ?_)
      rw [zn_nat hj]
      unfold upd mup
      by_cases hjj : j' = j.toNat
      · rw [if_pos ⟨rfl, by omega, by omega⟩, if_pos hjj]
      · rw [if_neg (fun q => hjj (by omega)), if_neg hjj]
    · intro t' i' h' hne
      refine zcel_off (x1 := t) (i := i.toNat) (fun t2 i2 k2 h2 => mup_ne (fun z => h2 ⟨z.1, by omega⟩)) h' ?_
      rw [zow_row t ht]
      exact hne
/-- a native copy -/
theorem zcp_ok (hx : p.tables.exec = Jvm.exec) (hb : c.code = zby mi) (hml : c.maxLocals = zml mi) (hown : s.vm.findClass (zy mi).cls = some m.cls) (hts : ∀ w ∈ zTs, w.before args s = true) (hB : zBk b0 D ca adK adV bS L xs s) (hfr : 1 ≤ R.frames) (hlo : 40 ≤ R.locals) {k pc idx : Nat} (hd0 : decode (zby mi) pc = .ok (.invokestatic idx, 3)) (hp : zpcs C (k + 1) = pc + 3)
    (h2 : Cond.methodLink (zy mi).cls idx arraycopyName ∈ zTs ∧ Cond.native arraycopyName ∈ zTs ∧ Cond.static arraycopyName ∈ zTs ∧ Cond.initialized "java/lang/System" ∈ zTs) {ls st : List mzV} {μ : mzM} {H : Heap} {locs : List Loc} {la : Array Slot} {sa : List Value} (hA : zA b0 D ca adK adV bS L xs s mi ls st μ H locs la sa) : zgoal (W p l e R s m args below meth c H locs cells slots Q (F0 m pc la sa)) (zK p l e R s m args below meth c cells slots Q b0 D ca adK adV bS L xs mi C) (zKC p l e R s m args below meth c cells slots Q b0 D ca adK adV bS L xs mi C) (zKE p l e R s m args below meth c cells slots Q b0 D ca adK adV bS L xs mi) (zcopy st μ (k + 1) ls) := by
  obtain ⟨al, ag, as, aP, aM, aS⟩ := hA
  unfold zcopy
  split
  · next n dp td id sp ts is r =>
    obtain ⟨s1, rfl, hn, a1⟩ := zrs_unI as
    obtain ⟨s2, rfl, hdp, a2⟩ := zrs_unI a1
    obtain ⟨v3, s3, rfl, hv3, a3⟩ := zrs_un a2
    obtain ⟨s4, rfl, hsp, a4⟩ := zrs_unI a3
    obtain ⟨v5, ra, rfl, hv5, hr⟩ := zrs_un a4
    split
    · next w1 w2 w8 =>
      obtain ⟨ht1, hac1⟩ := (zrow_a td (zrow_lt w1 (by omega))).1 w1
      obtain ⟨ht2, hac2⟩ := (zrow_a ts (zrow_lt w2 (by omega))).1 w2
      show ((0 ≤ n ∧ 0 ≤ dp ∧ 0 ≤ sp) ∧ (sp + n ≤ zlen ts is μ ∧ dp + n ≤ zlen td id μ)) → zK p l e R s m args below meth c cells slots Q b0 D ca adK adV bS L xs mi C (k + 1, ls, r, mcp μ ts is sp td id dp n) → _
      rintro ⟨⟨n0, d0, s0⟩, b1, b2⟩ hK
      rw [zlen_n ts ht2 (by omega)] at b1
      rw [zlen_n td ht1 (by omega)] at b2
      obtain ⟨f1, f2, f3⟩ := zrv_unR hv3 ht1
      obtain ⟨g1, g2, g3⟩ := zrv_unR hv5 ht2
      subst f3
      subst g3
      have he1 := zws_at b0 ca μ f2
      have he2 := zws_at b0 ca μ g2
      rw [zcel_arr (by omega) (by omega), hac1] at he1
      rw [zcel_arr (by omega) (by omega), hac2] at he2
      have hsz : la.size = c.maxLocals := by rw [al.1, ag.1, hml]
      have hw8 : (ra.map fun v => v.category).sum ≤ 8 := by rw [zrs_words hr]; exact Nat.ble_eq.mp w8
      refine va_copyi hx hb hsz.symm hown (hts _ h2.1) (hts _ h2.2.1) (hts _ h2.2.2.1) (hts _ h2.2.2.2) hB.1 aP (zws_D b0 ca μ) aS _ _ 0 0 he2 he1 rfl rfl rfl ?_ ?_ ?_ ?_ ?_ (fun _ _ => rfl) hfr ?_ hd0 (fun H1 locs1 z1 _ z2 => ?_)
      · rw [Int32.lt_iff_toInt_lt, zi_to hsp]; exact fun q => by simp at q; omega
      · rw [Int32.lt_iff_toInt_lt, zi_to hdp]; exact fun q => by simp at q; omega
      · rw [Int32.lt_iff_toInt_lt, zi_to hn]; exact fun q => by simp at q; omega
      · rw [zn_nat hsp, zn_nat hn]; omega
      · rw [zn_nat hdp, zn_nat hn]; omega
      · have h9 : nativeFrameWords "java/lang/System" "arraycopy" 5 = 7 := by decide
        rw [h9]; omega
      · rw [zn_nat hsp, zn_nat hdp, zn_nat hn] at z1
        rw [zws_set (μ' := mcp μ ts is sp td id dp n) f2 ?_ ?_] at z1
        · rw [← hp]
          exact hK _ _ _ _ ⟨al, ag, hr, z1, zM_cp aM (by omega) (by omega) (by omega), z2⟩
        · rw [zcel_arr (by omega) (by omega), hac1]
          refine zarr_c (fun j' => ?_)
          unfold va_cpy mcp
          by_cases hj : dp.toNat ≤ j' ∧ j' < dp.toNat + n.toNat
          · rw [if_pos ⟨rfl, by omega, by omega, by omega⟩, if_pos hj]
            rw [show sp + ((j' : Int) - dp) = ((sp.toNat + (j' - dp.toNat) : Nat) : Int) by omega, show ((is.toNat : Nat) : Int) = is by omega]
          · rw [if_neg (fun q => hj (by omega)), if_neg hj]
        · intro t' i' h' hne
          refine zcel_off (x1 := td) (i := id.toNat) (fun t2 i2 k2 h2 => ?_) h' ?_
          · unfold mcp
            rw [if_neg (fun q => h2 ⟨q.1, by omega⟩)]
          · rw [zow_row td ht1]
            exact hne
    · trivial
  · trivial
theorem zc_return_ (hx : p.tables.exec = Jvm.exec) (hb : c.code = zby mi) (hml : c.maxLocals = zml mi) (hown : s.vm.findClass (zy mi).cls = some m.cls) (hts : ∀ w ∈ zTs, w.before args s = true) (hB : zBk b0 D ca adK adV bS L xs s) (hR : zfr mi ≤ R.frames ∧ zlo mi ≤ R.locals ∧ cells ≤ R.cells ∧ slots ≤ R.slots) {k pc a : Nat} {cs : List (Int × Nat)} (hd : zdk (zby mi) pc (.return_) = true) (hf : zfall C k pc (.return_) = true) (h1 : zchk1 mi C pc (.return_) a cs = true) (h2 : zOK2 (zy mi).cls (.return_) a cs) {ls st : List mzV} {μ : mzM} {H : Heap} {locs : List Loc} {la : Array Slot} {sa : List Value} (hA : zA b0 D ca adK adV bS L xs s mi ls st μ H locs la sa) : zgoal (W p l e R s m args below meth c H locs cells slots Q (F0 m pc la sa)) (zK p l e R s m args below meth c cells slots Q b0 D ca adK adV bS L xs mi C) (zKC p l e R s m args below meth c cells slots Q b0 D ca adK adV bS L xs mi C) (zKE p l e R s m args below meth c cells slots Q b0 D ca adK adV bS L xs mi) (zstep (.return_) a cs k ls st μ) := by
  have hd0 : decode (zby mi) pc = .ok (.return_, 1) := (zdk_p hd).resolve_left (by rintro ⟨_, _, _, _, h⟩; cases h)
  obtain ⟨al, ag, as, aP, aM, aS⟩ := hA
  match st, as with
  | [], as =>
    have h5 : sa = [] := by have := as.1; cases sa with | nil => rfl | cons _ _ => simp at this
    subst h5
    intro hE
    exact hE _ _ _ _ _ (Or.inl ⟨rfl, rfl, hd0, of_decide_eq_true h1⟩) aP aM aS
  | _ :: _, _ => trivial
theorem zc_areturn (hx : p.tables.exec = Jvm.exec) (hb : c.code = zby mi) (hml : c.maxLocals = zml mi) (hown : s.vm.findClass (zy mi).cls = some m.cls) (hts : ∀ w ∈ zTs, w.before args s = true) (hB : zBk b0 D ca adK adV bS L xs s) (hR : zfr mi ≤ R.frames ∧ zlo mi ≤ R.locals ∧ cells ≤ R.cells ∧ slots ≤ R.slots) {k pc a : Nat} {cs : List (Int × Nat)} (hd : zdk (zby mi) pc (.areturn) = true) (hf : zfall C k pc (.areturn) = true) (h1 : zchk1 mi C pc (.areturn) a cs = true) (h2 : zOK2 (zy mi).cls (.areturn) a cs) {ls st : List mzV} {μ : mzM} {H : Heap} {locs : List Loc} {la : Array Slot} {sa : List Value} (hA : zA b0 D ca adK adV bS L xs s mi ls st μ H locs la sa) : zgoal (W p l e R s m args below meth c H locs cells slots Q (F0 m pc la sa)) (zK p l e R s m args below meth c cells slots Q b0 D ca adK adV bS L xs mi C) (zKC p l e R s m args below meth c cells slots Q b0 D ca adK adV bS L xs mi C) (zKE p l e R s m args below meth c cells slots Q b0 D ca adK adV bS L xs mi) (zstep (.areturn) a cs k ls st μ) := by
  have hd0 : decode (zby mi) pc = .ok (.areturn, 1) := (zdk_p hd).resolve_left (by rintro ⟨_, _, _, _, h⟩; cases h)
  obtain ⟨al, ag, as, aP, aM, aS⟩ := hA
  match st, as with
  | [], _ => trivial
  | none :: _, _ => trivial
  | some (.inl _) :: _, _ => trivial
  | some (.inr (.inl _)) :: _, _ => trivial
  | some (.inr (.inr (_, _))) :: _ :: _, _ => trivial
  | [some (.inr (.inr (t, i)))], as =>
    obtain ⟨v0, r1, rfl, hv, h5⟩ := zrs_un as
    have h6 : r1 = [] := by have := h5.1; cases r1 with | nil => rfl | cons _ _ => simp at this
    subst h6
    intro hE
    have h7 : ∃ cn, zrt mi = some (.object cn) := by
      have h1 : (match zrt mi with | some (.object _) => true | _ => false) = true := h1
      split at h1
      · next cn hcn => exact ⟨cn, hcn⟩
      · cases h1
    obtain ⟨cn, h7⟩ := h7
    exact hE _ _ _ _ _ (Or.inr (Or.inr ⟨t, i, v0, cn, rfl, rfl, hv, hd0, h7⟩)) aP aM aS
theorem zc_ireturn (hx : p.tables.exec = Jvm.exec) (hb : c.code = zby mi) (hml : c.maxLocals = zml mi) (hown : s.vm.findClass (zy mi).cls = some m.cls) (hts : ∀ w ∈ zTs, w.before args s = true) (hB : zBk b0 D ca adK adV bS L xs s) (hR : zfr mi ≤ R.frames ∧ zlo mi ≤ R.locals ∧ cells ≤ R.cells ∧ slots ≤ R.slots) {k pc a : Nat} {cs : List (Int × Nat)} (hd : zdk (zby mi) pc (.ireturn) = true) (hf : zfall C k pc (.ireturn) = true) (h1 : zchk1 mi C pc (.ireturn) a cs = true) (h2 : zOK2 (zy mi).cls (.ireturn) a cs) {ls st : List mzV} {μ : mzM} {H : Heap} {locs : List Loc} {la : Array Slot} {sa : List Value} (hA : zA b0 D ca adK adV bS L xs s mi ls st μ H locs la sa) : zgoal (W p l e R s m args below meth c H locs cells slots Q (F0 m pc la sa)) (zK p l e R s m args below meth c cells slots Q b0 D ca adK adV bS L xs mi C) (zKC p l e R s m args below meth c cells slots Q b0 D ca adK adV bS L xs mi C) (zKE p l e R s m args below meth c cells slots Q b0 D ca adK adV bS L xs mi) (zstep (.ireturn) a cs k ls st μ) := by
  have hd0 : decode (zby mi) pc = .ok (.ireturn, 1) := (zdk_p hd).resolve_left (by rintro ⟨_, _, _, _, h⟩; cases h)
  obtain ⟨al, ag, as, aP, aM, aS⟩ := hA
  match st, as with
  | [], _ => trivial
  | none :: _, _ => trivial
  | some (.inr _) :: _, _ => trivial
  | some (.inl _) :: _ :: _, _ => trivial
  | [some (.inl n)], as =>
    obtain ⟨r1, rfl, hn, h5⟩ := zrs_unI as
    have h6 : r1 = [] := by have := h5.1; cases r1 with | nil => rfl | cons _ _ => simp at this
    subst h6
    intro hE
    have h1 : (match (generalizing := false) a with | 0 => decide (zrt mi = some .int) | 1 => decide (zrt mi = some .boolean) | 2 => decide (zrt mi = some .char) | _ => decide (zrt mi = some .byte)) = true := h1
    match a, h1, hE with
    | 0, h1, hE => exact hE _ _ _ _ _ (Or.inr (Or.inl ⟨n, n, .int, rfl, rfl, hn, hn, hd0, of_decide_eq_true h1, rfl, Or.inl rfl⟩)) aP aM aS
    | 1, h1, hE => exact hE _ _ _ _ _ (Or.inr (Or.inl ⟨n, n % 2, .boolean, rfl, rfl, hn, by constructor <;> omega, hd0, of_decide_eq_true h1, congrArg Value.int (zi_of (by rw [zn_bool, zi_to hn])), Or.inr (Or.inl rfl)⟩)) aP aM aS
    | 2, h1, hE => exact hE _ _ _ _ _ (Or.inr (Or.inl ⟨n, n % 65536, .char, rfl, rfl, hn, by constructor <;> omega, hd0, of_decide_eq_true h1, congrArg Value.int (by rw [zn_char]; exact zn_i2c hn), Or.inr (Or.inr (Or.inl rfl))⟩)) aP aM aS
    | j + 3, h1, hE => exact hE _ _ _ _ _ (Or.inr (Or.inl ⟨n, zb n, .byte, rfl, rfl, hn, zb_in n, hd0, of_decide_eq_true h1, congrArg Value.int (zn_i2b hn), Or.inr (Or.inr (Or.inr rfl))⟩)) aP aM aS
end Sim
end
section
theorem zisN_tab {w : Cond} (h : zisN w = true) : w.onTables = true := by
  cases w <;> first | rfl | cases h
theorem zNs_tab {w : Cond} (h : w ∈ zNs) : w.onTables = true := zisN_tab (List.mem_filter.mp h).2
theorem zNs_warm {w : Cond} (h : w ∈ zNs) {s U : State} (hW : s.WarmedH U.vm) (hZ : va_Nw w s) : va_Nw w U := by
  have h1 := (List.mem_filter.mp h).2
  cases w <;> first | exact va_Nw.warmF hW hZ | exact va_Nw.warmM hW hZ | cases h1
theorem zTs_good {w : Cond} (h : w ∈ zTs) : (w.onTables && w.keeps) = true ∨ ∃ ty, w = .arrayClass ty := good_of_word (List.mem_filter.mp h).2
theorem zwf_good {f : Nat} (h : f < 186) : GoodIn zTs (zwf f) := by
  intro w hw
  have h1 : w ∈ zTs := by
    rcases List.mem_cons.mp hw with h2 | h2
    · rw [h2]; exact zcw_all f h
    · exact h2
  exact ⟨h1, zTs_good h1⟩
theorem zwords_len : ∀ (l : List mzV), l.length ≤ zwords l ∧ (zwords l = l.length → ∀ w ∈ l, zisL w = false)
  | [] => ⟨Nat.le_refl _, fun _ w h => by cases h⟩
  | v :: l => by
    obtain ⟨h1, h2⟩ := zwords_len l
    unfold zwords
    cases hv : zisL v with
    | true => exact ⟨by simp only [List.length_cons]; omega, fun h => by simp only [List.length_cons] at h; omega⟩
    | false =>
      refine ⟨by simp only [List.length_cons]; omega, fun h w hw => ?_⟩
      simp only [List.length_cons] at h
      rcases List.mem_cons.mp hw with rfl | hw
      · exact hv
      · exact h2 (by omega) w hw
theorem zwords_tk {st : List mzV} {n : Nat} (h1 : n ≤ st.length) (h2 : Nat.beq (zwords (st.take n)) n = true) : ((st.take n).reverse).length = n ∧ ∀ w ∈ (st.take n).reverse, zisL w = false := by
  have h3 := Nat.eq_of_beq_eq_true h2
  have h4 : (st.take n).length = n := by rw [List.length_take]; omega
  refine ⟨by rw [List.length_reverse]; exact h4, fun w hw => (zwords_len (st.take n)).2 (by rw [h4]; exact h3) w (List.mem_reverse.mp hw)⟩
section Call
variable {p : Program} {l : Launch} {e : Env} {R : Room} {s : State} {m : MethodId} {args : Array Value} {below : List Frame} {meth : Method} {c : Code} {cells slots : Nat} {Q : State → Prop}
variable {b0 : Nat} {D : va_G} {ca : Nat → ClassId} {adK adV : Nat → Nat} {bS L : Nat} {xs : Nat → Int32} {mi : Nat} {C : List mzN}
theorem zBk_call {U : State} {g : JFrame} {mk : MethodId} {a : Array Value} (h : zBk b0 D ca adK adV bS L xs U) : zBk b0 D ca adK adV bS L xs (U.calling g mk a) :=
  ⟨va_K.moved (u := U) (U := U.calling g mk a) (Vm.Alike.refl U.vm) h.1, vk_S.moved (u := U) (U := U.calling g mk a) (Vm.Alike.refl U.vm) h.2.1, va_X.moved (u := U) (U := U.calling g mk a) (Vm.Alike.refl U.vm) h.2.2.1, h.2.2.2.1,
   va_Z.moved (u := U) (U := U.calling g mk a) (Vm.Alike.refl U.vm) h.2.2.2.2.1, va_Zq.moved (u := U) (U := U.calling g mk a) (Vm.Alike.refl U.vm) h.2.2.2.2.2.1, fun i hi => vk_R.same (u := U) (U := U.calling g mk a) rfl (h.2.2.2.2.2.2.1 i hi), fun w hw => va_Nw.same (zNs_tab hw) (u := U) (U := U.calling g mk a) rfl (h.2.2.2.2.2.2.2 w hw)⟩
theorem zBk_warm {U : State} {H : Heap} {locs : List Loc} (hU : U.heap = H) (hW : s.WarmedH U.vm) (hS : va_S (fun q => b0 ≤ q) s.heap H locs) (h : zBk b0 D ca adK adV bS L xs s) : zBk b0 D ca adK adV bS L xs U := by
  obtain ⟨h1, h2, h3, ⟨h4, h5, h6⟩, h7, h8, h9, h10⟩ := h
  subst hU
  exact ⟨h1.moved hW.alike, (h2.kept hS.2.1).moved hW.alike, (h3.kept (hS.2.1 bS (by omega) (by omega))).moved hW.alike, ⟨h4, Nat.le_trans h5 hS.1, h6⟩, (h7.kept hS.2.1).moved hW.alike, (h8.kept hS.2.1).moved hW.alike,
    fun i hi => vk_R.warm hW (h9 i hi), fun w hw => zNs_warm hw hW (h10 w hw)⟩
theorem zPre {μ : mzM} {H : Heap} {locs : List Loc} {As : List Value} (hB : zBk b0 D ca adK adV bS L xs s) (aP : va_P D zcl (zws b0 ca μ) H) (aM : zM L xs μ) (aS : va_S (fun q => b0 ≤ q) s.heap H locs) : PreS s H (va_Pc As (zB b0 D ca adK adV bS L xs μ)) As :=
  ⟨fun a U g mk q => ⟨q.1, zBk_call q.2.1, q.2.2.1, q.2.2.2⟩, fun U hU hW => ⟨rfl, zBk_warm hU hW aS hB, by rw [hU]; exact aP, aM⟩⟩
/-- behind a call -/
theorem zback {H : Heap} {locs : List Loc} {pc : Nat} {la : Array Slot} {sa rest : List Value} {a : Array Value} {r : Option mzV} {ν : mzM} (hr : va_Run p l e R s m args below meth c H locs cells slots 0 0 (F0 m pc la sa) rest (zQc b0 D ca adK adV bS L xs r ν a) (fun q => b0 ≤ q)) (hS : va_S (fun q => b0 ≤ q) s.heap H locs)
    (kk : ∀ (v : Option Value) (H1 : Heap) (locs1 : List Loc), zrO b0 adK adV bS r v → va_P D zcl (zws b0 ca ν) H1 → zM L xs ν → va_S (fun q => b0 ≤ q) s.heap H1 locs1 → W p l e R s m args below meth c H1 locs1 cells slots Q (F0 m (pc + 3) la (v.toList ++ rest))) : W p l e R s m args below meth c H locs cells slots Q (F0 m pc la sa) := by
  intro T hT X
  obtain ⟨v, st₀, t, T', L1, h0, X', hL, e1, e2, ⟨⟨v', hv, hp⟩, hP, hM, hz, hk⟩, st⟩ := hr T hT X
  cases hv
  rw [h0] at hz hk
  obtain ⟨t2, a1, b1⟩ := kk v T'.heap (locs ++ L1) hp (by rw [e1]; exact hP) hM
    ⟨Nat.le_trans hS.1 (by rw [e1]; exact hz), fun q h1 h2 => by rw [e1, hk q (Nat.lt_of_lt_of_le h1 hS.1) h2]; exact hS.2.1 q h1 h2, fun q hq => by
      rcases List.mem_append.mp hq with h | h
      · exact hS.2.2 q h
      · exact hL q h⟩ T' rfl X'
  exact ⟨t2, st t2 a1, b1⟩
theorem zwin {pc : Nat} {la : Array Slot} {sa : List Value} {ls st : List mzV} {ν : mzM} {k n : Nat} {r : Option mzV} (al : zrl b0 adK adV bS ls la) (ag : zlgo mi ls) (as : zrs b0 adK adV bS st sa) (hp : zpcs C (k + 1) = pc + 3)
    (hK : zK p l e R s m args below meth c cells slots Q b0 D ca adK adV bS L xs mi C (k + 1, ls, zpush r (st.drop n), ν)) : ∀ (v : Option Value) (H1 : Heap) (locs1 : List Loc), zrO b0 adK adV bS r v → va_P D zcl (zws b0 ca ν) H1 → zM L xs ν → va_S (fun q => b0 ≤ q) s.heap H1 locs1 → W p l e R s m args below meth c H1 locs1 cells slots Q (F0 m (pc + 3) la (v.toList ++ sa.drop n)) := by
  intro v H1 locs1 hr hP hM hS
  rw [← hp]
  exact hK _ _ _ _ ⟨al, ag, zrs_push hr (zrs_drop n as), hP, hM, hS⟩
theorem zcallS (hx : p.tables.exec = Jvm.exec) (hb : c.code = zby mi) (hml : c.maxLocals = zml mi) (hown : s.vm.findClass (zy mi).cls = some m.cls) (hts : ∀ w ∈ zTs, w.before args s = true) (hB : zBk b0 D ca adK adV bS L xs s) (hR : zfr mi ≤ R.frames ∧ zlo mi ≤ R.locals ∧ cells ≤ R.cells ∧ slots ≤ R.slots) {idx k pc a : Nat} {n : Int} {rk : Nat} {z : Int} {cs : List (Int × Nat)} (hd0 : decode (zby mi) pc = .ok (.invokestatic idx, 3)) (hp : zpcs C (k + 1) = pc + 3)
    (h1 : (Nat.ble (zfr a + 1) (zfr mi) && Nat.ble (8 + (zml a + 11) + zlo a) (zlo mi) && Nat.beq 0 0 && Nat.blt a 186 && Nat.ble n.toNat (zml a)) = true) (h2 : zML (zy mi).cls idx a n 0) {ls st : List mzV} {μ : mzM} {H : Heap} {locs : List Loc} {la : Array Slot} {sa : List Value} (hA : zA b0 D ca adK adV bS L xs s mi ls st μ H locs la sa) :
    zgoal (W p l e R s m args below meth c H locs cells slots Q (F0 m pc la sa)) (zK p l e R s m args below meth c cells slots Q b0 D ca adK adV bS L xs mi C) (zKC p l e R s m args below meth c cells slots Q b0 D ca adK adV bS L xs mi C) (zKE p l e R s m args below meth c cells slots Q b0 D ca adK adV bS L xs mi) (zcall a ((n, rk) :: (z, 0) :: cs) st μ (k + 1) ls) := by
  obtain ⟨al, ag, as, aP, aM, aS⟩ := hA
  simp only [Bool.and_eq_true, Nat.ble_eq, Nat.blt_eq] at h1
  obtain ⟨⟨⟨⟨q1, q2⟩, -⟩, q3⟩, q4⟩ := h1
  unfold zcall
  dsimp only
  split
  · next w1 w2 =>
    simp only [Bool.and_eq_true, Nat.ble_eq] at w1 w2
    rintro ⟨r, ν, hM0, hK⟩
    obtain ⟨t1, t2⟩ := zwords_tk w2.1 w2.2
    have hM := hM0 ⟨q3, by rw [t1]; exact q4, t2⟩
    have hav : zrs b0 adK adV bS (st.take n.toNat).reverse (sa.take n.toNat).reverse := zrs_rev (zrs_take n.toNat as)
    have hlen : n.toNat ≤ sa.length := by rw [← as.1]; exact w2.1
    obtain ⟨g1, g2, g3, g4, g5, g6⟩ := h2
    refine zback (va_runS (cc := zby mi) (nL := zml mi) (own := (zy mi).cls) (Ts := zTs) (n := n.toNat) (As := (sa.take n.toNat).reverse) (rest := sa.drop n.toNat) (index := idx) ⟨hx, hb, hml, hown, hts⟩ (hM _ hav) ⟨callB_of n.toNat hts (zwf_good q3) rfl rfl rfl (hts _ g4) (hts _ g5) ⟨g1, g2, g3⟩ ⟨Nat.le_trans q1 hR.1, Nat.le_trans q2 hR.2.1⟩, hts _ g6⟩ (zPre hB aP aM aS) rfl ?_ ?_ ?_ (lv_room ?_) hd0 ⟨hR.2.2.1, hR.2.2.2⟩) aS (zwin al ag as hp hK)
    · rw [List.length_reverse, List.length_take]; omega
    · show la.size = zml mi
      rw [al.1, ag.1]
    · show sa = _
      rw [List.reverse_reverse, List.take_append_drop]
    · rw [zrs_words (zrs_drop n.toNat as)]; exact w1
  · trivial
theorem zrecv (hB : zBk b0 D ca adK adV bS L xs s) {μ : mzM} {H : Heap} {locs : List Loc} (aP : va_P D zcl (zws b0 ca μ) H) (aS : va_S (fun q => b0 ≤ q) s.heap H locs) {t : Nat} {i : Int} {v : Value} (hv : zrv b0 adK adV bS (vR t i) v) (ht : ((Nat.beq (zrow t) 0 && Nat.blt 0 (zcnt t)) || Nat.beq t 30) = true) :
    ∃ b, v = .ref b ∧ ∃ cellB : Cell, H[b]? = some cellB ∧ cellB.vm.isStatics = false ∧ s.vm.findClass (zcname t) = some cellB.cls := by
  rcases Bool.or_eq_true_iff.mp ht with h | h
  · simp only [Bool.and_eq_true, Nat.blt_eq] at h
    have h0 := Nat.eq_of_beq_eq_true h.1
    have hlt := zcnt_lt h.2
    obtain ⟨g1, g2, g3⟩ := zrv_unR hv hlt
    obtain ⟨C1, T1, N1, ty1, z1, -⟩ := zcls_of hlt h.2 h0
    have he := zws_at b0 ca μ g2
    rw [zcel_obj h0] at he
    obtain ⟨cell, k1, k2, k3⟩ := va_recv hB.1 aP z1 he
    refine ⟨_, g3, cell, k1, k2, ?_⟩
    have hn := ztag_ok t hlt h.2 h0
    rw [z1] at hn
    rw [← Option.some.inj hn]
    exact k3
  · have h30 := Nat.eq_of_beq_eq_true h
    subst h30
    obtain ⟨g1, g2, g3⟩ := zrv_un30 hv
    obtain ⟨cell, k1, k2, k3⟩ := vk_recv hB.2.1 (show i.toNat < 10 by omega) aS
    exact ⟨_, g3, cell, k1, k2, k3⟩
theorem zcallV (hx : p.tables.exec = Jvm.exec) (hb : c.code = zby mi) (hml : c.maxLocals = zml mi) (hown : s.vm.findClass (zy mi).cls = some m.cls) (hts : ∀ w ∈ zTs, w.before args s = true) (hB : zBk b0 D ca adK adV bS L xs s) (hR : zfr mi ≤ R.frames ∧ zlo mi ≤ R.locals ∧ cells ≤ R.cells ∧ slots ≤ R.slots) {idx k pc a : Nat} {n : Int} {rk g : Nat} {z : Int} {cs : List (Int × Nat)} (hd0 : decode (zby mi) pc = .ok (.invokevirtual idx, 3)) (hp : zpcs C (k + 1) = pc + 3)
    (h1 : (Nat.ble (zfr a + 1) (zfr mi) && Nat.ble (8 + (zml a + 11) + zlo a) (zlo mi) && Nat.blt 0 (g + 1) && Nat.blt 0 n.toNat && Nat.blt a 186 && Nat.ble n.toNat (zml a) && ((Nat.beq (zrow (g + 1 - 1)) 0 && Nat.blt 0 (zcnt (g + 1 - 1))) || Nat.beq (g + 1) 31)) = true) (h2 : zML (zy mi).cls idx a n (g + 1)) {ls st : List mzV} {μ : mzM} {H : Heap} {locs : List Loc} {la : Array Slot} {sa : List Value} (hA : zA b0 D ca adK adV bS L xs s mi ls st μ H locs la sa) :
    zgoal (W p l e R s m args below meth c H locs cells slots Q (F0 m pc la sa)) (zK p l e R s m args below meth c cells slots Q b0 D ca adK adV bS L xs mi C) (zKC p l e R s m args below meth c cells slots Q b0 D ca adK adV bS L xs mi C) (zKE p l e R s m args below meth c cells slots Q b0 D ca adK adV bS L xs mi) (zcall a ((n, rk) :: (z, g + 1) :: cs) st μ (k + 1) ls) := by
  obtain ⟨al, ag, as, aP, aM, aS⟩ := hA
  rw [Bool.and_eq_true] at h1
  obtain ⟨h1, q5⟩ := h1
  simp only [Bool.and_eq_true, Nat.ble_eq, Nat.blt_eq] at h1
  obtain ⟨⟨⟨⟨⟨q1, q2⟩, -⟩, qn⟩, q3⟩, q4⟩ := h1
  unfold zcall
  dsimp only
  split
  · next w1 w2 =>
    simp only [Bool.and_eq_true, Nat.ble_eq] at w1 w2
    have hav : zrs b0 adK adV bS (st.take n.toNat).reverse (sa.take n.toNat).reverse := zrs_rev (zrs_take n.toNat as)
    have hlen : n.toNat ≤ sa.length := by rw [← as.1]; exact w2.1
    split
    · next t i r0 hst =>
      split
      · next hg =>
        have htg := Nat.eq_of_beq_eq_true hg
        subst htg
        rintro ⟨r, ν, hM0, hK⟩
        obtain ⟨t1, t2⟩ := zwords_tk w2.1 w2.2
        have hM := hM0 ⟨q3, by rw [t1]; exact q4, t2⟩
        rw [hst] at hav
        obtain ⟨v0, As, hsa, hv, hAs⟩ := zrs_un hav
        obtain ⟨b, rfl, hcell⟩ := zrecv hB aP aS hv q5
        obtain ⟨g1, g2, g3, g4, g5, g6, g7, g8⟩ := h2
        rw [g7] at hcell
        have hAl : As.length = n.toNat - 1 := by
          have h3 := congrArg List.length hsa
          rw [List.length_reverse, List.length_take, List.length_cons] at h3
          omega
        have hstk : sa = As.reverse ++ Value.ref b :: sa.drop n.toNat := by
          have h3 : sa.take n.toNat = As.reverse ++ [Value.ref b] := by
            rw [← List.reverse_reverse (sa.take n.toNat), hsa, List.reverse_cons]
          calc sa = sa.take n.toNat ++ sa.drop n.toNat := (List.take_append_drop _ _).symm
            _ = _ := by rw [h3, List.append_assoc]; rfl
        have hpre : PreV s H (zy a).cls b (va_Pc (Value.ref b :: As) (zB b0 D ca adK adV bS L xs μ)) As := ⟨(zPre (As := Value.ref b :: As) hB aP aM aS).1, hcell, (zPre (As := Value.ref b :: As) hB aP aM aS).2⟩
        have hM2 := hM (Value.ref b :: As) (by rw [hst, ← hsa, ← hst]; exact zrs_rev (zrs_take n.toNat as))
        have hfl : la.size = zml mi := by rw [al.1, ag.1]
        have hw8 : ((sa.drop n.toNat).map fun v => v.category).sum ≤ 8 := by rw [zrs_words (zrs_drop n.toNat as)]; exact w1
        rcases g8 with g8 | g8
        · exact zback (va_runV (cc := zby mi) (nL := zml mi) (own := (zy mi).cls) (Ts := zTs) (n := n.toNat - 1) (As := As) (rest := sa.drop n.toNat) (index := idx) (C := (zy a).cls) ⟨hx, hb, hml, hown, hts⟩ hM2 ⟨callB_of (n.toNat - 1) hts (zwf_good q3) rfl rfl rfl (hts _ g4) (hts _ g8) ⟨g1, g2, g3⟩ ⟨Nat.le_trans q1 hR.1, Nat.le_trans q2 hR.2.1⟩, hts _ g5, hts _ g6⟩ hpre rfl hAl hfl hstk (lv_room hw8) hd0 ⟨hR.2.2.1, hR.2.2.2⟩) aS (zwin al ag as hp hK)
        · exact zback (va_runVN (cc := zby mi) (nL := zml mi) (own := (zy mi).cls) (Ts := zTs) (n := n.toNat - 1) (As := As) (rest := sa.drop n.toNat) (index := idx) (C := (zy a).cls) (host := "FrameDeltas") ⟨hx, hb, hml, hown, hts⟩ hM2 ⟨va_cnB (n.toNat - 1) hts (zwf_good q3) rfl rfl rfl (hB.2.2.2.2.2.2.2 _ g8) (hts _ g4) ⟨g1, g2, g3⟩ ⟨Nat.le_trans q1 hR.1, Nat.le_trans q2 hR.2.1⟩, hts _ g5, hts _ g6⟩ hpre rfl hAl hfl hstk (lv_room hw8) hd0 ⟨hR.2.2.1, hR.2.2.2⟩) aS (zwin al ag as hp hK)
      · trivial
    · trivial
  · trivial
end Call
end
section
section Main
variable {p : Program} {l : Launch} {e : Env} {R : Room} {s : State} {m : MethodId} {args : Array Value} {below : List Frame} {meth : Method} {c : Code} {cells slots : Nat} {Q : State → Prop}
variable {b0 : Nat} {D : va_G} {ca : Nat → ClassId} {adK adV : Nat → Nat} {bS L : Nat} {xs : Nat → Int32} {mi : Nat} {C : List mzN}
theorem zc_invokestatic (hx : p.tables.exec = Jvm.exec) (hb : c.code = zby mi) (hml : c.maxLocals = zml mi) (hown : s.vm.findClass (zy mi).cls = some m.cls) (hts : ∀ w ∈ zTs, w.before args s = true) (hB : zBk b0 D ca adK adV bS L xs s) (hR : zfr mi ≤ R.frames ∧ zlo mi ≤ R.locals ∧ cells ≤ R.cells ∧ slots ≤ R.slots) (hcp : ∀ q ∈ C, q.2.2.1 = 999 → 40 ≤ zlo mi) (h1f : 1 ≤ zfr mi) {idx k pc a : Nat} {cs : List (Int × Nat)} {hh : Bool} (hq : (pc, Instr.invokestatic idx, a, cs, hh) ∈ C) (hd : zdk (zby mi) pc (.invokestatic idx) = true) (hf : zfall C k pc (.invokestatic idx) = true) (h1 : zchk1 mi C pc (.invokestatic idx) a cs = true) (h2 : zOK2 (zy mi).cls (.invokestatic idx) a cs) {ls st : List mzV} {μ : mzM} {H : Heap} {locs : List Loc} {la : Array Slot} {sa : List Value} (hA : zA b0 D ca adK adV bS L xs s mi ls st μ H locs la sa) : zgoal (W p l e R s m args below meth c H locs cells slots Q (F0 m pc la sa)) (zK p l e R s m args below meth c cells slots Q b0 D ca adK adV bS L xs mi C) (zKC p l e R s m args below meth c cells slots Q b0 D ca adK adV bS L xs mi C) (zKE p l e R s m args below meth c cells slots Q b0 D ca adK adV bS L xs mi) (zstep (.invokestatic idx) a cs k ls st μ) := by
  have hd0 : decode (zby mi) pc = .ok (.invokestatic idx, 3) := (zdk_p hd).resolve_left (by rintro ⟨_, _, _, _, h⟩; cases h)
  have hp : zpcs C (k + 1) = pc + 3 := zfl_p hf
  have hcp2 := hcp _ hq
  unfold zstep
  dsimp only
  split
  · exact zcp_ok hx hb hml hown hts hB (Nat.le_trans h1f hR.1) (Nat.le_trans (hcp2 rfl) hR.2.1) hd0 hp h2 hA
  · next a' hne =>
    match cs, h1, h2 with
    | [], _, _ => trivial
    | [_], _, _ => trivial
    | (n, rk) :: (z, 0) :: cs, h1, h2 =>
      unfold zOK2 at h2
      dsimp only at h2
      split at h2
      · exact absurd rfl hne
      · exact zcallS hx hb hml hown hts hB hR hd0 hp h1 h2 hA
    | (n, rk) :: (z, g + 1) :: cs, h1, h2 =>
      have h3 : (Nat.ble (zfr a + 1) (zfr mi) && Nat.ble (8 + (zml a + 11) + zlo a) (zlo mi) && Nat.beq (g + 1) 0 && Nat.blt a 186 && Nat.ble n.toNat (zml a)) = true := h1
      simp only [Bool.and_eq_true] at h3
      exact absurd h3.1.1.2 (by simp)
theorem zc_invokevirtual (hx : p.tables.exec = Jvm.exec) (hb : c.code = zby mi) (hml : c.maxLocals = zml mi) (hown : s.vm.findClass (zy mi).cls = some m.cls) (hts : ∀ w ∈ zTs, w.before args s = true) (hB : zBk b0 D ca adK adV bS L xs s) (hR : zfr mi ≤ R.frames ∧ zlo mi ≤ R.locals ∧ cells ≤ R.cells ∧ slots ≤ R.slots) {idx k pc a : Nat} {cs : List (Int × Nat)} (hd : zdk (zby mi) pc (.invokevirtual idx) = true) (hf : zfall C k pc (.invokevirtual idx) = true) (h1 : zchk1 mi C pc (.invokevirtual idx) a cs = true) (h2 : zOK2 (zy mi).cls (.invokevirtual idx) a cs) {ls st : List mzV} {μ : mzM} {H : Heap} {locs : List Loc} {la : Array Slot} {sa : List Value} (hA : zA b0 D ca adK adV bS L xs s mi ls st μ H locs la sa) : zgoal (W p l e R s m args below meth c H locs cells slots Q (F0 m pc la sa)) (zK p l e R s m args below meth c cells slots Q b0 D ca adK adV bS L xs mi C) (zKC p l e R s m args below meth c cells slots Q b0 D ca adK adV bS L xs mi C) (zKE p l e R s m args below meth c cells slots Q b0 D ca adK adV bS L xs mi) (zstep (.invokevirtual idx) a cs k ls st μ) := by
  have hd0 : decode (zby mi) pc = .ok (.invokevirtual idx, 3) := (zdk_p hd).resolve_left (by rintro ⟨_, _, _, _, h⟩; cases h)
  have hp : zpcs C (k + 1) = pc + 3 := zfl_p hf
  match cs, h1, h2 with
  | [], _, _ => trivial
  | [_], _, _ => trivial
  | (n, rk) :: (z, 0) :: cs, h1, h2 =>
    have h3 : (Nat.ble (zfr a + 1) (zfr mi) && Nat.ble (8 + (zml a + 11) + zlo a) (zlo mi) && Nat.blt 0 0 && Nat.blt 0 n.toNat && Nat.blt a 186 && Nat.ble n.toNat (zml a) && ((Nat.beq (zrow (0 - 1)) 0 && Nat.blt 0 (zcnt (0 - 1))) || Nat.beq 0 31)) = true := h1
    simp only [Bool.and_eq_true] at h3
    exact absurd h3.1.1.1.1.2 (by simp)
  | (n, rk) :: (z, g + 1) :: cs, h1, h2 => exact zcallV (z := z) (cs := cs) hx hb hml hown hts hB hR hd0 hp h1 h2 hA
theorem zstep_ok (hx : p.tables.exec = Jvm.exec) (hb : c.code = zby mi) (hml : c.maxLocals = zml mi) (hown : s.vm.findClass (zy mi).cls = some m.cls) (hts : ∀ w ∈ zTs, w.before args s = true) (hB : zBk b0 D ca adK adV bS L xs s) (hR : zfr mi ≤ R.frames ∧ zlo mi ≤ R.locals ∧ cells ≤ R.cells ∧ slots ≤ R.slots) (hcp : ∀ q ∈ C, q.2.2.1 = 999 → 40 ≤ zlo mi) (h1f : 1 ≤ zfr mi) {I : Instr} {k pc a : Nat} {cs : List (Int × Nat)} {hh : Bool} (hq : (pc, I, a, cs, hh) ∈ C) (hd : zdk (zby mi) pc I = true) (hf : zfall C k pc I = true) (h1 : zchk1 mi C pc I a cs = true) (h2 : zOK2 (zy mi).cls I a cs) {ls st : List mzV} {μ : mzM} {H : Heap} {locs : List Loc} {la : Array Slot} {sa : List Value} (hA : zA b0 D ca adK adV bS L xs s mi ls st μ H locs la sa) : zgoal (W p l e R s m args below meth c H locs cells slots Q (F0 m pc la sa)) (zK p l e R s m args below meth c cells slots Q b0 D ca adK adV bS L xs mi C) (zKC p l e R s m args below meth c cells slots Q b0 D ca adK adV bS L xs mi C) (zKE p l e R s m args below meth c cells slots Q b0 D ca adK adV bS L xs mi) (zstep I a cs k ls st μ) := by
  cases I with
  | iconst _ => exact zc_iconst hx hb hml hown hts hB hR hd hf h1 h2 hA
  | bipush _ => exact zc_bipush hx hb hml hown hts hB hR hd hf h1 h2 hA
  | sipush _ => exact zc_sipush hx hb hml hown hts hB hR hd hf h1 h2 hA
  | ldc_w _ => exact zc_ldc_w hx hb hml hown hts hB hR hd hf h1 h2 hA
  | lconst _ => exact zc_lconst hx hb hml hown hts hB hR hd hf h1 h2 hA
  | ldc2_w _ => exact zc_ldc2_w hx hb hml hown hts hB hR hd hf h1 h2 hA
  | ldc _ => exact zc_ldc hx hb hml hown hts hB hR hd hf h1 h2 hA
  | aconst_null => exact zc_aconst_null hx hb hml hown hts hB hR hd hf h1 h2 hA
  | iload _ => exact zc_iload hx hb hml hown hts hB hR hd hf h1 h2 hA
  | iload_n _ => exact zc_iload_n hx hb hml hown hts hB hR hd hf h1 h2 hA
  | lload_n _ => exact zc_lload_n hx hb hml hown hts hB hR hd hf h1 h2 hA
  | aload _ => exact zc_aload hx hb hml hown hts hB hR hd hf h1 h2 hA
  | aload_n _ => exact zc_aload_n hx hb hml hown hts hB hR hd hf h1 h2 hA
  | istore _ => exact zc_istore hx hb hml hown hts hB hR hd hf h1 h2 hA
  | istore_n _ => exact zc_istore_n hx hb hml hown hts hB hR hd hf h1 h2 hA
  | astore _ => exact zc_astore hx hb hml hown hts hB hR hd hf h1 h2 hA
  | astore_n _ => exact zc_astore_n hx hb hml hown hts hB hR hd hf h1 h2 hA
  | lstore_n _ => exact zc_lstore_n hx hb hml hown hts hB hR hd hf h1 h2 hA
  | iinc _ _ => exact zc_iinc hx hb hml hown hts hB hR hd hf h1 h2 hA
  | iadd => exact zc_iadd hx hb hml hown hts hB hR hd hf h1 h2 hA
  | isub => exact zc_isub hx hb hml hown hts hB hR hd hf h1 h2 hA
  | imul => exact zc_imul hx hb hml hown hts hB hR hd hf h1 h2 hA
  | idiv => exact zc_idiv hx hb hml hown hts hB hR hd hf h1 h2 hA
  | irem => exact zc_irem hx hb hml hown hts hB hR hd hf h1 h2 hA
  | ineg => exact zc_ineg hx hb hml hown hts hB hR hd hf h1 h2 hA
  | iand => exact zc_iand hx hb hml hown hts hB hR hd hf h1 h2 hA
  | ixor => exact zc_ixor hx hb hml hown hts hB hR hd hf h1 h2 hA
  | ishl => exact zc_ishl hx hb hml hown hts hB hR hd hf h1 h2 hA
  | ishr => exact zc_ishr hx hb hml hown hts hB hR hd hf h1 h2 hA
  | iushr => exact zc_iushr hx hb hml hown hts hB hR hd hf h1 h2 hA
  | ladd => exact zc_ladd hx hb hml hown hts hB hR hd hf h1 h2 hA
  | lsub => exact zc_lsub hx hb hml hown hts hB hR hd hf h1 h2 hA
  | lmul => exact zc_lmul hx hb hml hown hts hB hR hd hf h1 h2 hA
  | lcmp => exact zc_lcmp hx hb hml hown hts hB hR hd hf h1 h2 hA
  | i2l => exact zc_i2l hx hb hml hown hts hB hR hd hf h1 h2 hA
  | l2i => exact zc_l2i hx hb hml hown hts hB hR hd hf h1 h2 hA
  | i2c => exact zc_i2c hx hb hml hown hts hB hR hd hf h1 h2 hA
  | i2b => exact zc_i2b hx hb hml hown hts hB hR hd hf h1 h2 hA
  | dup => exact zc_dup hx hb hml hown hts hB hR hd hf h1 h2 hA
  | dup2 => exact zc_dup2 hx hb hml hown hts hB hR hd hf h1 h2 hA
  | pop => exact zc_pop hx hb hml hown hts hB hR hd hf h1 h2 hA
  | goto _ => exact zc_goto hx hb hml hown hts hB hR hd hf h1 h2 hA
  | if_icmp _ _ => exact zc_if_icmp hx hb hml hown hts hB hR hd hf h1 h2 hA
  | ifCond _ _ => exact zc_ifCond hx hb hml hown hts hB hR hd hf h1 h2 hA
  | ifnull _ => exact zc_ifnull hx hb hml hown hts hB hR hd hf h1 h2 hA
  | ifnonnull _ => exact zc_ifnonnull hx hb hml hown hts hB hR hd hf h1 h2 hA
  | tableswitch _ _ _ _ => exact zc_tableswitch hx hb hml hown hts hB hR hd hf h1 h2 hA
  | getfield _ => exact zc_getfield hx hb hml hown hts hB hR hd hf h1 h2 hA
  | putfield _ => exact zc_putfield hx hb hml hown hts hB hR hd hf h1 h2 hA
  | getstatic _ => exact zc_getstatic hx hb hml hown hts hB hR hd hf h1 h2 hA
  | arraylength => exact zc_arraylength hx hb hml hown hts hB hR hd hf h1 h2 hA
  | iaload => exact zc_iaload hx hb hml hown hts hB hR hd hf h1 h2 hA
  | caload => exact zc_caload hx hb hml hown hts hB hR hd hf h1 h2 hA
  | baload => exact zc_baload hx hb hml hown hts hB hR hd hf h1 h2 hA
  | aaload => exact zc_aaload hx hb hml hown hts hB hR hd hf h1 h2 hA
  | iastore => exact zc_iastore hx hb hml hown hts hB hR hd hf h1 h2 hA
  | castore => exact zc_castore hx hb hml hown hts hB hR hd hf h1 h2 hA
  | bastore => exact zc_bastore hx hb hml hown hts hB hR hd hf h1 h2 hA
  | invokevirtual _ => exact zc_invokevirtual hx hb hml hown hts hB hR hd hf h1 h2 hA
  | ireturn => exact zc_ireturn hx hb hml hown hts hB hR hd hf h1 h2 hA
  | areturn => exact zc_areturn hx hb hml hown hts hB hR hd hf h1 h2 hA
  | return_ => exact zc_return_ hx hb hml hown hts hB hR hd hf h1 h2 hA
  | invokestatic _ => exact zc_invokestatic hx hb hml hown hts hB hR hcp h1f hq hd hf h1 h2 hA
  | _ => trivial
theorem zchk0_at {mi : Nat} {C : List mzN} : ∀ (D : List mzN) (j i : Nat) {pc : Nat} {I : Instr} {a : Nat} {cs : List (Int × Nat)} {hh : Bool}, zchk0 mi C j D = true → D[i]? = some (pc, I, a, cs, hh) → (zdk (zby mi) pc I = true ∧ zfall C (j + i) pc I = true) ∧ zchk1 mi C pc I a cs = true
  | [], j, i, pc, I, a, cs, hh, _, h => by simp at h
  | (pc0, I0, a0, cs0, hh0) :: D, j, i, pc, I, a, cs, hh, h0, h => by
    simp only [zchk0, Bool.and_eq_true] at h0
    cases i with
    | zero => simp at h; obtain ⟨rfl, rfl, rfl, rfl, rfl⟩ := h; exact ⟨h0.1.1, h0.1.2⟩
    | succ i =>
      have h3 := zchk0_at D (j + 1) i h0.2 (by simpa using h)
      rw [show j + (i + 1) = j + 1 + i by omega]
      exact h3
theorem zall2_at {own : String} : ∀ (D : List mzN) (i : Nat) {pc : Nat} {I : Instr} {a : Nat} {cs : List (Int × Nat)} {hh : Bool}, zall2 own D → D[i]? = some (pc, I, a, cs, hh) → zOK2 own I a cs
  | [], i, pc, I, a, cs, hh, _, h => by simp at h
  | (pc0, I0, a0, cs0, hh0) :: D, i, pc, I, a, cs, hh, h0, h => by
    cases i with
    | zero => simp at h; obtain ⟨rfl, rfl, rfl, rfl, rfl⟩ := h; exact h0.1
    | succ i => exact zall2_at D i h0.2 (by simpa using h)
theorem zchk_at {mi k pc : Nat} {I : Instr} {a : Nat} {cs : List (Int × Nat)} {hh : Bool} (h : (zcd mi)[k]? = some (pc, I, a, cs, hh)) : ((zdk (zby mi) pc I = true ∧ zfall (zcd mi) k pc I = true) ∧ zchk1 mi (zcd mi) pc I a cs = true) ∧ zOK2 (zy mi).cls I a cs := by
  have h0 := zok1_all mi
  unfold zchk at h0
  simp only [Bool.and_eq_true] at h0
  have h1 := zchk0_at (zcd mi) 0 k h0.1.1 h
  rw [Nat.zero_add] at h1
  exact ⟨h1, zall2_at (zcd mi) k (zok2_all mi) h⟩
theorem zchk_cp {mi : Nat} : ∀ q ∈ zcd mi, q.2.2.1 = 999 → 40 ≤ zlo mi := by
  intro q hq h9
  have h0 := zok1_all mi
  unfold zchk at h0
  simp only [Bool.and_eq_true] at h0
  have h1 := h0.2
  have h2 : (zcd mi).any (fun q => Nat.beq q.2.2.1 999) = true := List.any_eq_true.mpr ⟨q, hq, by rw [h9]; rfl⟩
  rw [h2] at h1
  exact Nat.ble_eq.mp h1
theorem zpcs_0 (mi : Nat) : zpcs (zcd mi) 0 = 0 := by
  have h0 := zok1_all mi
  unfold zchk at h0
  simp only [Bool.and_eq_true] at h0
  have h1 := h0.1.2
  unfold zpcs
  cases hC : zcd mi with
  | nil => rfl
  | cons x D =>
    obtain ⟨pc, r⟩ := x
    rw [hC] at h1
    exact Nat.eq_of_beq_eq_true h1
theorem zfr_pos : ∀ f, f < 187 → 1 ≤ zfr f := by decide +kernel
theorem zplain : ∀ f, f < 186 → plainFor (zy f) = true := by decide +kernel
/-- as the kit's maker of contracts, for the methods of java.lang.Math too -/
theorem zMet_of {l : Launch} {y : MethodName} {ws ws' : List Cond} {rm : Room} {Pc : Array Value → State → Prop} {Qc : Array Value → State → Outcome → State → Prop} {mc ms : Nat} {free : Addr → Prop} {cc : ByteArray} {maxL : Nat} {ret : Option FieldType}
    (hy : plainFor y = true) (hw : ws = Cond.code y cc maxL ret :: ws')
    (body : ∀ p e s m args below meth c s₁, BodyLoose p l y (headSpec ws rm) cc maxL ret e s m args below meth c s₁ → c.maxLocals = maxL → Pc args s →
      W p l e (headSpec ws rm).room s m args below meth c s.heap [] 0 0 (MQ below Qc args s mc ms free) (entryFrame m args maxL)) : Met l y ws rm Pc Qc mc ms free := by
  refine MetFree.of_bodySF (code := cc) (maxLocals := maxL) (ret := ret) hy ?_ ?_
  · intro args s m h hn
    obtain ⟨meth, c, h1, h2, h3, h4, h5, h6, -, -⟩ := Cond.code_spec hn (atoms_spec (ws := ws) h _ (by rw [hw]; exact List.mem_cons_self))
    exact ⟨meth, c, h1, h2, h3, h4, h5, h6⟩
  · intro p e s m args below meth c s₁ B hml hP _
    have hh0 : s₁.heap = s.heap := by rw [B.state]; rfl
    obtain ⟨t, a1, o, b1, b2, b3⟩ := body p e s m args below meth c s₁ B hml hP s₁ hh0 (Stand.of_body B)
    exact ⟨t, o, a1, b1, b2, ⟨b3.1, b3.2⟩⟩
/-- the end of a method whose answer is a number -/
theorem zW_ret {cc : ByteArray} {Qc : Array Value → State → Outcome → State → Prop} {free : Addr → Prop} {H : Heap} {locs : List Loc} {v v' : Int32} {ty : FieldType} (hexec : p.tables.exec = Jvm.exec) (hb : c.code = cc) (hr : meth.sig.returnType = some ty) (hn : narrow ty (.int v) = .int v') (hlocks : meth.locks = false)
    (hq : ∀ t : State, t.heap = H → s.WarmedH t.vm → Qc args s (.returned (some (.int v'))) t) (hf : ∀ q ∈ locs, free q.base)
    {pc : Nat} {ls : Array Slot} (hdg : decode cc pc = .ok (.ireturn, 1)) : W p l e R s m args below meth c H locs cells slots (MQ below Qc args s cells slots free) (F0 m pc ls [.int v]) := by
  intro T hT X
  obtain ⟨fs, hret, hrun, hended, hW, hframe⟩ := X.leave (v := some (.int v')) (fun h => by rw [hr] at h; cases h)
  have hmeth' : T.vm.method? m = some meth := X.method'
  refine ⟨T.setFrames fs, ?_, .returned (some (.int v')), hrun, hended, hq _ hT hW, locs, ⟨⟨_, rfl⟩, hW, hframe⟩, hf⟩
  jvm_step X.here [X.here.top, hexec, hb, hdg, hmeth', hr, hn]
  (try refine ⟨rfl, ?_⟩); (try refine ⟨rfl, ?_⟩)
  first | (intro acts; rw [hret _ acts rfl rfl rfl]) | rw [hret _ _ rfl rfl rfl]
  exact Steps.refl _
theorem zKE_end {f : Nat} {r : Option mzV} {ν : mzM} {av : List Value} (hexec : p.tables.exec = Jvm.exec) (hb : c.code = zby f) (hr : meth.sig.returnType = zrt f) (hlocks : meth.locks = false) : zKE p l e R s m args below meth c 0 0 (MQ below (zQc b0 D ca adK adV bS L xs r ν) args s 0 0 (fun q => b0 ≤ q)) b0 D ca adK adV bS L xs f r ν := by
  intro H locs la sa pc hraw hP hM hS
  have hq : ∀ (v : Option Value), zrO b0 adK adV bS r v → ∀ t : State, t.heap = H → s.WarmedH t.vm → zQc b0 D ca adK adV bS L xs r ν args s (.returned v) t := fun v hv t ht _ => ⟨⟨v, rfl, hv⟩, by rw [ht]; exact hP, hM, hS.F ht⟩
  rcases hraw with ⟨rfl, rfl, hd, h4⟩ | ⟨n, n', ty, rfl, rfl, h3, h4, hd, h5, h6, h7⟩ | ⟨t, i, v, cn, rfl, rfl, hv, hd, h5⟩
  · exact W.vret hexec hb (hr.trans h4) (hq none trivial) hS.2.2 hd hlocks
  · exact zW_ret hexec hb (hr.trans h5) h6 hlocks (hq _ (show zrv b0 adK adV bS (vI n') _ from zrv_I h4)) hS.2.2 hd
  · exact W.aret hexec hb (hr.trans h5) (Or.inl ⟨_, rfl⟩) (zrv_ref hv) (hq _ (show zrv b0 adK adV bS (vR t i) _ from hv)) hS.2.2 hd hlocks
theorem zent_ok {f : Nat} {as : List mzV} {av : List Value} (hf : as.length ≤ zml f) (hn : ∀ w ∈ as, zisL w = false) (h : zrs b0 adK adV bS as av) : zrl b0 adK adV bS (zent (zml f) as) ((lg_sl av ++ List.replicate (zml f - (lg_sl av).length) Slot.unset).toArray) ∧ zlgo f (zent (zml f) as) := by
  have hcat : ∀ (as : List mzV) (av : List Value), (∀ w ∈ as, zisL w = false) → zrs b0 adK adV bS as av → lg_sl av = av.map Slot.val := by
    intro as
    induction as with
    | nil =>
      intro av _ h
      have h0 : av = [] := by have := h.1; cases av with | nil => rfl | cons _ _ => simp at this
      subst h0
      rfl
    | cons w as ih =>
      intro av hn h
      obtain ⟨v, ra, rfl, h1, h2⟩ := zrs_un h
      have h3 := ih ra (fun w hw => hn w (List.mem_cons_of_mem _ hw)) h2
      have h4 := zrv_cat h1
      rw [hn w List.mem_cons_self] at h4
      have h5 : lg_sl (v :: ra) = [Slot.val v] ++ lg_sl ra := by
        unfold lg_sl
        rw [List.flatMap_cons, if_neg (by rw [h4]; decide)]
      rw [h5, h3]
      rfl
  have hsl := hcat as av hn h
  have hlen : (lg_sl av).length = as.length := by rw [hsl, List.length_map, h.1]
  have hl := lv_entry av (n := zml f) (by rw [hlen]; exact hf)
  refine ⟨⟨?_, hl.2.1, fun i w hw => ?_⟩, ?_, fun i n hi => ?_⟩
  · rw [hl.1]
    unfold zent
    rw [List.length_append, List.length_replicate]
    omega
  · unfold zent at hw
    by_cases hi : i < as.length
    · rw [List.getElem?_append_left hi] at hw
      have hi2 : i < av.length := by rw [← h.1]; exact hi
      obtain ⟨v, hv⟩ : ∃ v, av[i]? = some v := ⟨av[i], List.getElem?_eq_getElem hi2⟩
      refine ⟨v, h.2 i _ v hw hv, ?_⟩
      rw [List.getElem?_toArray, List.getElem?_append_left (by rw [hlen]; exact hi), hsl, List.getElem?_map, hv]
      rfl
    · rw [List.getElem?_append_right (by omega)] at hw
      have := List.eq_of_mem_replicate (List.mem_of_getElem? hw)
      cases this
  · unfold zent
    rw [List.length_append, List.length_replicate]
    omega
  · unfold zent at hi
    by_cases hi2 : i < as.length
    · rw [List.getElem?_append_left hi2] at hi
      have := hn _ (List.mem_of_getElem? hi)
      cases this
    · rw [List.getElem?_append_right (by omega)] at hi
      have := List.eq_of_mem_replicate (List.mem_of_getElem? hi)
      cases this
/-- THE SIMULATION: what the small machine comes to, the machine comes to -/
theorem zsim (l : Launch) (b0 : Nat) (D : va_G) (ca : Nat → ClassId) (adK adV : Nat → Nat) (bS L : Nat) (xs : Nat → Int32) : ∀ (n mi k : Nat) (ls st : List mzV) (μ : mzM) (r : Option mzV) (ν : mzM), mi < 187 → mrun zcd zml n mi k ls st μ = some (r, ν) →
    ∀ (p : Program) (e : Env) (R : Room) (s : State) (m : MethodId) (args : Array Value) (below : List Frame) (meth : Method) (c : Code) (cells slots : Nat) (Q : State → Prop), p.tables.exec = Jvm.exec → c.code = zby mi → c.maxLocals = zml mi → s.vm.findClass (zy mi).cls = some m.cls → (∀ w ∈ zTs, w.before args s = true) → zBk b0 D ca adK adV bS L xs s → (zfr mi ≤ R.frames ∧ zlo mi ≤ R.locals ∧ cells ≤ R.cells ∧ slots ≤ R.slots) →
    zKE p l e R s m args below meth c cells slots Q b0 D ca adK adV bS L xs mi r ν → zK p l e R s m args below meth c cells slots Q b0 D ca adK adV bS L xs mi (zcd mi) (k, ls, st, μ) := by
  intro n
  induction n with
  | zero => intro mi k ls st μ r ν _ h; cases h
  | succ n ih =>
    intro mi k ls st μ r ν hmi h p e R s m args below meth c cells slots Q hx hb hml hown hts hB hR hE
    rw [mrun] at h
    cases hc : (zcd mi)[k]? with
    | none => rw [hc] at h; cases h
    | some ins =>
      obtain ⟨pc, I, a, cs, hh⟩ := ins
      rw [hc] at h
      dsimp only at h
      obtain ⟨⟨⟨hd, hf⟩, h1⟩, h2⟩ := zchk_at hc
      intro H locs la sa hA
      have hpc : zpcs (zcd mi) k = pc := by unfold zpcs; rw [hc]
      show W p l e R s m args below meth c H locs cells slots Q (F0 m (zpcs (zcd mi) k) la sa)
      rw [hpc]
      have hg := zstep_ok (l := l) (e := e) (below := below) (meth := meth) (Q := Q) hx hb hml hown hts hB hR zchk_cp (zfr_pos mi hmi) (List.mem_of_getElem? hc) hd hf h1 h2 hA
      have go : ∀ (x : mzC), mrun zcd zml n mi x.1 x.2.1 x.2.2.1 x.2.2.2 = some (r, ν) → zK p l e R s m args below meth c cells slots Q b0 D ca adK adV bS L xs mi (zcd mi) x := fun x hxr => ih mi x.1 x.2.1 x.2.2.1 x.2.2.2 r ν hmi hxr p e R s m args below meth c cells slots Q hx hb hml hown hts hB hR hE
      cases hs : zstep I a cs k ls st μ with
      | none => rw [hs] at h; cases h
      | some z =>
        rw [hs] at h hg
        rcases z with x | ⟨q1, x, y⟩ | ⟨q1, x⟩ | ⟨f, as, rk, x⟩ | ⟨v, ts, x⟩ | ⟨r2, ν2⟩
        · exact hg (go x h)
        · dsimp only at h
          refine hg (fun hq => go x ?_) (fun hq => go y ?_)
          · rw [@if_pos _ q1.2 hq] at h; exact h
          · rw [@if_neg _ q1.2 hq] at h; exact h
        · dsimp only at h
          by_cases hq : q1.1
          · rw [@if_pos _ q1.2 hq] at h; exact hg hq (go x h)
          · rw [@if_neg _ q1.2 hq] at h; cases h
        · dsimp only at h
          cases hcall : mrun zcd zml n f 0 (zent (zml f) as) [] x.2.2.2 with
          | none => rw [hcall] at h; cases h
          | some q =>
            obtain ⟨r1, ν1⟩ := q
            rw [hcall] at h
            dsimp only at h
            refine hg ⟨r1, ν1, ?_, go (x.1, x.2.1, zpush r1 x.2.2.1, ν1) h⟩
            rintro ⟨hf6, hlen, hnl⟩ av hav
            refine zMet_of (cc := zby f) (maxL := zml f) (ret := zrt f) (zplain f hf6) rfl ?_
            intro p2 e2 s2 m2 args2 below2 meth2 c2 s3 B hml2 hv
            obtain ⟨rfl, hB2, hP2, hM2⟩ := hv
            have hts2 := atoms_spec (ws := zwf f) B.pre
            have hown2 : s2.vm.findClass (zy f).cls = some m2.cls := findClass_of_methodNamed B.named
            obtain ⟨e1, e2'⟩ := zent_ok hlen hnl hav
            rw [lg_entry_eq]
            have hk := ih f 0 (zent (zml f) as) [] x.2.2.2 r1 ν1 (by omega) hcall p2 e2 (headSpec (zwf f) (zrm f)).room s2 m2 av.toArray below2 meth2 c2 0 0 (MQ below2 (zQc b0 D ca adK adV bS L xs r1 ν1) av.toArray s2 0 0 (fun q => b0 ≤ q)) B.exec B.bytes hml2 hown2 (fun w hw => hts2 w (List.mem_cons_of_mem _ hw)) hB2 ⟨Nat.le_refl _, Nat.le_refl _, Nat.zero_le _, Nat.zero_le _⟩ (zKE_end (av := av) B.exec B.bytes B.returns B.notSynchronized)
            have hk2 := hk s2.heap [] _ [] ⟨e1, e2', zrs_nil, hP2, hM2, va_S.rf⟩
            have h0 : zpcs (zcd f) 0 = 0 := zpcs_0 f
            have hk3 : W p2 l e2 (headSpec (zwf f) (zrm f)).room s2 m2 av.toArray below2 meth2 c2 s2.heap [] 0 0 (MQ below2 (zQc b0 D ca adK adV bS L xs r1 ν1) av.toArray s2 0 0 (fun q => b0 ≤ q)) (F0 m2 (zpcs (zcd f) 0) ((lg_sl av ++ List.replicate (zml f - (lg_sl av).length) Slot.unset).toArray) []) := hk2
            rw [h0] at hk3
            exact hk3
        · exact hg (go (zpick v ts x.1, x.2) h)
        · dsimp only at h
          cases h
          exact hg hE
end Main
end
