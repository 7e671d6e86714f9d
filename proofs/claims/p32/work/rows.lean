section
-- ===== PART A: goes FIRST, ahead of the names: the tables' words, and 'selects' of the private methods out of them =====
/-- a private method of a class that the tables say can be made, by its rows of tables_1 -/
def lw_okq (q : MethodName × Nat) : Prop := (q.1.cls ≠ "java/lang/invoke/MethodHandle" ∧ q.1.cls ≠ "java/lang/invoke/VarHandle") ∧ Cond.instantiable q.1.cls q.2 ∈ tables_1 ∧ Cond.privateMethod q.1 ∈ tables_1 ∧ Cond.instanceMethod q.1 ∈ tables_1
theorem lw_p0 : lw_okq (⟨"FrameDeltas", "save", "()V"⟩, 10) := ⟨⟨by decide +kernel, by decide +kernel⟩, List.mem_of_getElem? (i := 13) (by decide +kernel), List.mem_of_getElem? (i := 244) (by decide +kernel), List.mem_of_getElem? (i := 245) (by decide +kernel)⟩
theorem lw_p1 : lw_okq (⟨"FrameDeltas", "savedSlot", "(I)LFrameDeltas$State;"⟩, 10) := ⟨⟨by decide +kernel, by decide +kernel⟩, List.mem_of_getElem? (i := 13) (by decide +kernel), List.mem_of_getElem? (i := 248) (by decide +kernel), List.mem_of_getElem? (i := 249) (by decide +kernel)⟩
theorem lw_p2 : lw_okq (⟨"FrameDeltas$State", "take", "(LFrameDeltas$State;)V"⟩, 7) := ⟨⟨by decide +kernel, by decide +kernel⟩, List.mem_of_getElem? (i := 21) (by decide +kernel), List.mem_of_getElem? (i := 252) (by decide +kernel), List.mem_of_getElem? (i := 253) (by decide +kernel)⟩
theorem lw_p3 : lw_okq (⟨"FrameDeltas$Image", "take", "(LFrameDeltas$Image;)V"⟩, 3) := ⟨⟨by decide +kernel, by decide +kernel⟩, List.mem_of_getElem? (i := 27) (by decide +kernel), List.mem_of_getElem? (i := 256) (by decide +kernel), List.mem_of_getElem? (i := 257) (by decide +kernel)⟩
theorem lw_p4 : lw_okq (⟨"FrameDeltas$State", "frameAt", "(I)LFrameDeltas$Frame;"⟩, 7) := ⟨⟨by decide +kernel, by decide +kernel⟩, List.mem_of_getElem? (i := 21) (by decide +kernel), List.mem_of_getElem? (i := 263) (by decide +kernel), List.mem_of_getElem? (i := 264) (by decide +kernel)⟩
theorem lw_p5 : lw_okq (⟨"FrameDeltas$Frame", "take", "(LFrameDeltas$Frame;)V"⟩, 5) := ⟨⟨by decide +kernel, by decide +kernel⟩, List.mem_of_getElem? (i := 47) (by decide +kernel), List.mem_of_getElem? (i := 267) (by decide +kernel), List.mem_of_getElem? (i := 268) (by decide +kernel)⟩
theorem lw_p6 : lw_okq (⟨"FrameDeltas$Planner", "plan", "(LFrameDeltas$State;LFrameDeltas$Coder;LFrameDeltas$Frame;)V"⟩, 4) := ⟨⟨by decide +kernel, by decide +kernel⟩, List.mem_of_getElem? (i := 185) (by decide +kernel), List.mem_of_getElem? (i := 273) (by decide +kernel), List.mem_of_getElem? (i := 274) (by decide +kernel)⟩
theorem lw_p7 : lw_okq (⟨"FrameDeltas$Planner", "measure", "(LFrameDeltas$State;LFrameDeltas$Coder;LFrameDeltas$Frame;I)V"⟩, 4) := ⟨⟨by decide +kernel, by decide +kernel⟩, List.mem_of_getElem? (i := 185) (by decide +kernel), List.mem_of_getElem? (i := 280) (by decide +kernel), List.mem_of_getElem? (i := 281) (by decide +kernel)⟩
theorem lw_p8 : lw_okq (⟨"FrameDeltas$State", "imageOf", "(I)LFrameDeltas$Image;"⟩, 7) := ⟨⟨by decide +kernel, by decide +kernel⟩, List.mem_of_getElem? (i := 21) (by decide +kernel), List.mem_of_getElem? (i := 284) (by decide +kernel), List.mem_of_getElem? (i := 285) (by decide +kernel)⟩
theorem lw_p9 : lw_okq (⟨"FrameDeltas$Coder", "encode", "(LFrameDeltas$Frame;LFrameDeltas$State;I)V"⟩, 4) := ⟨⟨by decide +kernel, by decide +kernel⟩, List.mem_of_getElem? (i := 149) (by decide +kernel), List.mem_of_getElem? (i := 289) (by decide +kernel), List.mem_of_getElem? (i := 290) (by decide +kernel)⟩
theorem lw_p10 : lw_okq (⟨"FrameDeltas$Image", "blocks", "()I"⟩, 3) := ⟨⟨by decide +kernel, by decide +kernel⟩, List.mem_of_getElem? (i := 27) (by decide +kernel), List.mem_of_getElem? (i := 294) (by decide +kernel), List.mem_of_getElem? (i := 295) (by decide +kernel)⟩
theorem lw_p11 : lw_okq (⟨"FrameDeltas$Coder", "encodeRaw", "(LFrameDeltas$Frame;I)I"⟩, 4) := ⟨⟨by decide +kernel, by decide +kernel⟩, List.mem_of_getElem? (i := 149) (by decide +kernel), List.mem_of_getElem? (i := 298) (by decide +kernel), List.mem_of_getElem? (i := 299) (by decide +kernel)⟩
theorem lw_p12 : lw_okq (⟨"FrameDeltas$RunList", "read", "(LFrameDeltas$Image;LFrameDeltas$Image;I)V"⟩, 3) := ⟨⟨by decide +kernel, by decide +kernel⟩, List.mem_of_getElem? (i := 155) (by decide +kernel), List.mem_of_getElem? (i := 302) (by decide +kernel), List.mem_of_getElem? (i := 303) (by decide +kernel)⟩
theorem lw_p13 : lw_okq (⟨"FrameDeltas$Image", "left", "(I)I"⟩, 3) := ⟨⟨by decide +kernel, by decide +kernel⟩, List.mem_of_getElem? (i := 27) (by decide +kernel), List.mem_of_getElem? (i := 306) (by decide +kernel), List.mem_of_getElem? (i := 307) (by decide +kernel)⟩
theorem lw_p14 : lw_okq (⟨"FrameDeltas$Image", "top", "(I)I"⟩, 3) := ⟨⟨by decide +kernel, by decide +kernel⟩, List.mem_of_getElem? (i := 27) (by decide +kernel), List.mem_of_getElem? (i := 313) (by decide +kernel), List.mem_of_getElem? (i := 314) (by decide +kernel)⟩
theorem lw_p15 : lw_okq (⟨"FrameDeltas$Image", "at", "(II)I"⟩, 3) := ⟨⟨by decide +kernel, by decide +kernel⟩, List.mem_of_getElem? (i := 27) (by decide +kernel), List.mem_of_getElem? (i := 317) (by decide +kernel), List.mem_of_getElem? (i := 318) (by decide +kernel)⟩
def lw_privs_1 : List (MethodName × Nat) := [(⟨"FrameDeltas", "save", "()V"⟩, 10), (⟨"FrameDeltas", "savedSlot", "(I)LFrameDeltas$State;"⟩, 10), (⟨"FrameDeltas$State", "take", "(LFrameDeltas$State;)V"⟩, 7), (⟨"FrameDeltas$Image", "take", "(LFrameDeltas$Image;)V"⟩, 3), (⟨"FrameDeltas$State", "frameAt", "(I)LFrameDeltas$Frame;"⟩, 7), (⟨"FrameDeltas$Frame", "take", "(LFrameDeltas$Frame;)V"⟩, 5), (⟨"FrameDeltas$Planner", "plan", "(LFrameDeltas$State;LFrameDeltas$Coder;LFrameDeltas$Frame;)V"⟩, 4), (⟨"FrameDeltas$Planner", "measure", "(LFrameDeltas$State;LFrameDeltas$Coder;LFrameDeltas$Frame;I)V"⟩, 4), (⟨"FrameDeltas$State", "imageOf", "(I)LFrameDeltas$Image;"⟩, 7), (⟨"FrameDeltas$Coder", "encode", "(LFrameDeltas$Frame;LFrameDeltas$State;I)V"⟩, 4), (⟨"FrameDeltas$Image", "blocks", "()I"⟩, 3), (⟨"FrameDeltas$Coder", "encodeRaw", "(LFrameDeltas$Frame;I)I"⟩, 4), (⟨"FrameDeltas$RunList", "read", "(LFrameDeltas$Image;LFrameDeltas$Image;I)V"⟩, 3), (⟨"FrameDeltas$Image", "left", "(I)I"⟩, 3), (⟨"FrameDeltas$Image", "top", "(I)I"⟩, 3), (⟨"FrameDeltas$Image", "at", "(II)I"⟩, 3)]
theorem lw_r1 : ∀ q ∈ lw_privs_1, lw_okq q := List.forall_mem_cons.mpr ⟨lw_p0, List.forall_mem_cons.mpr ⟨lw_p1, List.forall_mem_cons.mpr ⟨lw_p2, List.forall_mem_cons.mpr ⟨lw_p3, List.forall_mem_cons.mpr ⟨lw_p4, List.forall_mem_cons.mpr ⟨lw_p5, List.forall_mem_cons.mpr ⟨lw_p6, List.forall_mem_cons.mpr ⟨lw_p7, List.forall_mem_cons.mpr ⟨lw_p8, List.forall_mem_cons.mpr ⟨lw_p9, List.forall_mem_cons.mpr ⟨lw_p10, List.forall_mem_cons.mpr ⟨lw_p11, List.forall_mem_cons.mpr ⟨lw_p12, List.forall_mem_cons.mpr ⟨lw_p13, List.forall_mem_cons.mpr ⟨lw_p14, List.forall_mem_cons.mpr ⟨lw_p15, fun _ h => absurd h List.not_mem_nil⟩⟩⟩⟩⟩⟩⟩⟩⟩⟩⟩⟩⟩⟩⟩⟩
theorem lw_p16 : lw_okq (⟨"FrameDeltas$RunList", "addCell", "(I)V"⟩, 3) := ⟨⟨by decide +kernel, by decide +kernel⟩, List.mem_of_getElem? (i := 155) (by decide +kernel), List.mem_of_getElem? (i := 321) (by decide +kernel), List.mem_of_getElem? (i := 322) (by decide +kernel)⟩
theorem lw_p17 : lw_okq (⟨"FrameDeltas$Frame", "setCode", "(IIIII)V"⟩, 5) := ⟨⟨by decide +kernel, by decide +kernel⟩, List.mem_of_getElem? (i := 47) (by decide +kernel), List.mem_of_getElem? (i := 325) (by decide +kernel), List.mem_of_getElem? (i := 326) (by decide +kernel)⟩
theorem lw_p18 : lw_okq (⟨"FrameDeltas$Coder", "encodeWith", "(LFrameDeltas$Frame;ILFrameDeltas$Image;I)I"⟩, 4) := ⟨⟨by decide +kernel, by decide +kernel⟩, List.mem_of_getElem? (i := 149) (by decide +kernel), List.mem_of_getElem? (i := 329) (by decide +kernel), List.mem_of_getElem? (i := 330) (by decide +kernel)⟩
theorem lw_p19 : lw_okq (⟨"FrameDeltas$Image", "samePart", "(IILFrameDeltas$Image;II)Z"⟩, 3) := ⟨⟨by decide +kernel, by decide +kernel⟩, List.mem_of_getElem? (i := 27) (by decide +kernel), List.mem_of_getElem? (i := 335) (by decide +kernel), List.mem_of_getElem? (i := 336) (by decide +kernel)⟩
theorem lw_p20 : lw_okq (⟨"FrameDeltas$Coder", "findMove", "(LFrameDeltas$Image;IILFrameDeltas$Image;I)Z"⟩, 4) := ⟨⟨by decide +kernel, by decide +kernel⟩, List.mem_of_getElem? (i := 149) (by decide +kernel), List.mem_of_getElem? (i := 339) (by decide +kernel), List.mem_of_getElem? (i := 340) (by decide +kernel)⟩
theorem lw_p21 : lw_okq (⟨"FrameDeltas$Image", "hasPart", "(II)Z"⟩, 3) := ⟨⟨by decide +kernel, by decide +kernel⟩, List.mem_of_getElem? (i := 27) (by decide +kernel), List.mem_of_getElem? (i := 346) (by decide +kernel), List.mem_of_getElem? (i := 347) (by decide +kernel)⟩
theorem lw_p22 : lw_okq (⟨"FrameDeltas$Planner", "costOf", "(III)I"⟩, 4) := ⟨⟨by decide +kernel, by decide +kernel⟩, List.mem_of_getElem? (i := 185) (by decide +kernel), List.mem_of_getElem? (i := 351) (by decide +kernel), List.mem_of_getElem? (i := 352) (by decide +kernel)⟩
theorem lw_p23 : lw_okq (⟨"FrameDeltas$Planner", "referenceOf", "(I)I"⟩, 4) := ⟨⟨by decide +kernel, by decide +kernel⟩, List.mem_of_getElem? (i := 185) (by decide +kernel), List.mem_of_getElem? (i := 363) (by decide +kernel), List.mem_of_getElem? (i := 364) (by decide +kernel)⟩
theorem lw_p24 : lw_okq (⟨"FrameDeltas$State", "isFrame", "(I)Z"⟩, 7) := ⟨⟨by decide +kernel, by decide +kernel⟩, List.mem_of_getElem? (i := 21) (by decide +kernel), List.mem_of_getElem? (i := 372) (by decide +kernel), List.mem_of_getElem? (i := 373) (by decide +kernel)⟩
theorem lw_p25 : lw_okq (⟨"FrameDeltas$State", "seekCost", "(I)I"⟩, 7) := ⟨⟨by decide +kernel, by decide +kernel⟩, List.mem_of_getElem? (i := 21) (by decide +kernel), List.mem_of_getElem? (i := 376) (by decide +kernel), List.mem_of_getElem? (i := 377) (by decide +kernel)⟩
theorem lw_p26 : lw_okq (⟨"FrameDeltas$State", "depthOf", "(I)I"⟩, 7) := ⟨⟨by decide +kernel, by decide +kernel⟩, List.mem_of_getElem? (i := 21) (by decide +kernel), List.mem_of_getElem? (i := 380) (by decide +kernel), List.mem_of_getElem? (i := 381) (by decide +kernel)⟩
theorem lw_p27 : lw_okq (⟨"FrameDeltas$State", "isReadable", "(I)Z"⟩, 7) := ⟨⟨by decide +kernel, by decide +kernel⟩, List.mem_of_getElem? (i := 21) (by decide +kernel), List.mem_of_getElem? (i := 384) (by decide +kernel), List.mem_of_getElem? (i := 385) (by decide +kernel)⟩
theorem lw_p28 : lw_okq (⟨"FrameDeltas$Frame", "codesOfKind", "(I)I"⟩, 5) := ⟨⟨by decide +kernel, by decide +kernel⟩, List.mem_of_getElem? (i := 47) (by decide +kernel), List.mem_of_getElem? (i := 388) (by decide +kernel), List.mem_of_getElem? (i := 389) (by decide +kernel)⟩
theorem lw_p29 : lw_okq (⟨"FrameDeltas$Frame", "codePart", "(II)I"⟩, 5) := ⟨⟨by decide +kernel, by decide +kernel⟩, List.mem_of_getElem? (i := 47) (by decide +kernel), List.mem_of_getElem? (i := 393) (by decide +kernel), List.mem_of_getElem? (i := 394) (by decide +kernel)⟩
theorem lw_p30 : lw_okq (⟨"FrameDeltas$State", "costOfRecords", "()I"⟩, 7) := ⟨⟨by decide +kernel, by decide +kernel⟩, List.mem_of_getElem? (i := 21) (by decide +kernel), List.mem_of_getElem? (i := 401) (by decide +kernel), List.mem_of_getElem? (i := 402) (by decide +kernel)⟩
theorem lw_p31 : lw_okq (⟨"FrameDeltas$State", "readableFrames", "()I"⟩, 7) := ⟨⟨by decide +kernel, by decide +kernel⟩, List.mem_of_getElem? (i := 21) (by decide +kernel), List.mem_of_getElem? (i := 405) (by decide +kernel), List.mem_of_getElem? (i := 406) (by decide +kernel)⟩
def lw_privs_2 : List (MethodName × Nat) := [(⟨"FrameDeltas$RunList", "addCell", "(I)V"⟩, 3), (⟨"FrameDeltas$Frame", "setCode", "(IIIII)V"⟩, 5), (⟨"FrameDeltas$Coder", "encodeWith", "(LFrameDeltas$Frame;ILFrameDeltas$Image;I)I"⟩, 4), (⟨"FrameDeltas$Image", "samePart", "(IILFrameDeltas$Image;II)Z"⟩, 3), (⟨"FrameDeltas$Coder", "findMove", "(LFrameDeltas$Image;IILFrameDeltas$Image;I)Z"⟩, 4), (⟨"FrameDeltas$Image", "hasPart", "(II)Z"⟩, 3), (⟨"FrameDeltas$Planner", "costOf", "(III)I"⟩, 4), (⟨"FrameDeltas$Planner", "referenceOf", "(I)I"⟩, 4), (⟨"FrameDeltas$State", "isFrame", "(I)Z"⟩, 7), (⟨"FrameDeltas$State", "seekCost", "(I)I"⟩, 7), (⟨"FrameDeltas$State", "depthOf", "(I)I"⟩, 7), (⟨"FrameDeltas$State", "isReadable", "(I)Z"⟩, 7), (⟨"FrameDeltas$Frame", "codesOfKind", "(I)I"⟩, 5), (⟨"FrameDeltas$Frame", "codePart", "(II)I"⟩, 5), (⟨"FrameDeltas$State", "costOfRecords", "()I"⟩, 7), (⟨"FrameDeltas$State", "readableFrames", "()I"⟩, 7)]
theorem lw_r2 : ∀ q ∈ lw_privs_2, lw_okq q := List.forall_mem_cons.mpr ⟨lw_p16, List.forall_mem_cons.mpr ⟨lw_p17, List.forall_mem_cons.mpr ⟨lw_p18, List.forall_mem_cons.mpr ⟨lw_p19, List.forall_mem_cons.mpr ⟨lw_p20, List.forall_mem_cons.mpr ⟨lw_p21, List.forall_mem_cons.mpr ⟨lw_p22, List.forall_mem_cons.mpr ⟨lw_p23, List.forall_mem_cons.mpr ⟨lw_p24, List.forall_mem_cons.mpr ⟨lw_p25, List.forall_mem_cons.mpr ⟨lw_p26, List.forall_mem_cons.mpr ⟨lw_p27, List.forall_mem_cons.mpr ⟨lw_p28, List.forall_mem_cons.mpr ⟨lw_p29, List.forall_mem_cons.mpr ⟨lw_p30, List.forall_mem_cons.mpr ⟨lw_p31, fun _ h => absurd h List.not_mem_nil⟩⟩⟩⟩⟩⟩⟩⟩⟩⟩⟩⟩⟩⟩⟩⟩
theorem lw_p32 : lw_okq (⟨"FrameDeltas$State", "isImage", "(I)Z"⟩, 7) := ⟨⟨by decide +kernel, by decide +kernel⟩, List.mem_of_getElem? (i := 21) (by decide +kernel), List.mem_of_getElem? (i := 414) (by decide +kernel), List.mem_of_getElem? (i := 415) (by decide +kernel)⟩
theorem lw_p33 : lw_okq (⟨"FrameDeltas", "costOfCanvas", "(I)I"⟩, 10) := ⟨⟨by decide +kernel, by decide +kernel⟩, List.mem_of_getElem? (i := 13) (by decide +kernel), List.mem_of_getElem? (i := 419) (by decide +kernel), List.mem_of_getElem? (i := 420) (by decide +kernel)⟩
theorem lw_p34 : lw_okq (⟨"FrameDeltas$Image", "cellsUnlike", "(LFrameDeltas$Image;)I"⟩, 3) := ⟨⟨by decide +kernel, by decide +kernel⟩, List.mem_of_getElem? (i := 27) (by decide +kernel), List.mem_of_getElem? (i := 429) (by decide +kernel), List.mem_of_getElem? (i := 430) (by decide +kernel)⟩
theorem lw_p35 : lw_okq (⟨"FrameDeltas$Image", "numbered", "(I)I"⟩, 3) := ⟨⟨by decide +kernel, by decide +kernel⟩, List.mem_of_getElem? (i := 27) (by decide +kernel), List.mem_of_getElem? (i := 433) (by decide +kernel), List.mem_of_getElem? (i := 434) (by decide +kernel)⟩
theorem lw_p36 : lw_okq (⟨"FrameDeltas$State", "chainHas", "(II)Z"⟩, 7) := ⟨⟨by decide +kernel, by decide +kernel⟩, List.mem_of_getElem? (i := 21) (by decide +kernel), List.mem_of_getElem? (i := 446) (by decide +kernel), List.mem_of_getElem? (i := 447) (by decide +kernel)⟩
theorem lw_p37 : lw_okq (⟨"FrameDeltas$Image", "hasCell", "(I)Z"⟩, 3) := ⟨⟨by decide +kernel, by decide +kernel⟩, List.mem_of_getElem? (i := 27) (by decide +kernel), List.mem_of_getElem? (i := 471) (by decide +kernel), List.mem_of_getElem? (i := 472) (by decide +kernel)⟩
theorem lw_p38 : lw_okq (⟨"FrameDeltas$Image", "reset", "(II)V"⟩, 3) := ⟨⟨by decide +kernel, by decide +kernel⟩, List.mem_of_getElem? (i := 27) (by decide +kernel), List.mem_of_getElem? (i := 496) (by decide +kernel), List.mem_of_getElem? (i := 497) (by decide +kernel)⟩
theorem lw_p39 : lw_okq (⟨"FrameDeltas", "add", "(I)I"⟩, 10) := ⟨⟨by decide +kernel, by decide +kernel⟩, List.mem_of_getElem? (i := 13) (by decide +kernel), List.mem_of_getElem? (i := 517) (by decide +kernel), List.mem_of_getElem? (i := 518) (by decide +kernel)⟩
theorem lw_p40 : lw_okq (⟨"FrameDeltas$State", "mayBeReference", "(I)Z"⟩, 7) := ⟨⟨by decide +kernel, by decide +kernel⟩, List.mem_of_getElem? (i := 21) (by decide +kernel), List.mem_of_getElem? (i := 525) (by decide +kernel), List.mem_of_getElem? (i := 526) (by decide +kernel)⟩
theorem lw_p41 : lw_okq (⟨"FrameDeltas", "chosenReference", "()I"⟩, 10) := ⟨⟨by decide +kernel, by decide +kernel⟩, List.mem_of_getElem? (i := 13) (by decide +kernel), List.mem_of_getElem? (i := 534) (by decide +kernel), List.mem_of_getElem? (i := 535) (by decide +kernel)⟩
theorem lw_p42 : lw_okq (⟨"FrameDeltas$Image", "putNumbered", "(II)V"⟩, 3) := ⟨⟨by decide +kernel, by decide +kernel⟩, List.mem_of_getElem? (i := 27) (by decide +kernel), List.mem_of_getElem? (i := 542) (by decide +kernel), List.mem_of_getElem? (i := 543) (by decide +kernel)⟩
def lw_privs_3 : List (MethodName × Nat) := [(⟨"FrameDeltas$State", "isImage", "(I)Z"⟩, 7), (⟨"FrameDeltas", "costOfCanvas", "(I)I"⟩, 10), (⟨"FrameDeltas$Image", "cellsUnlike", "(LFrameDeltas$Image;)I"⟩, 3), (⟨"FrameDeltas$Image", "numbered", "(I)I"⟩, 3), (⟨"FrameDeltas$State", "chainHas", "(II)Z"⟩, 7), (⟨"FrameDeltas$Image", "hasCell", "(I)Z"⟩, 3), (⟨"FrameDeltas$Image", "reset", "(II)V"⟩, 3), (⟨"FrameDeltas", "add", "(I)I"⟩, 10), (⟨"FrameDeltas$State", "mayBeReference", "(I)Z"⟩, 7), (⟨"FrameDeltas", "chosenReference", "()I"⟩, 10), (⟨"FrameDeltas$Image", "putNumbered", "(II)V"⟩, 3)]
theorem lw_r3 : ∀ q ∈ lw_privs_3, lw_okq q := List.forall_mem_cons.mpr ⟨lw_p32, List.forall_mem_cons.mpr ⟨lw_p33, List.forall_mem_cons.mpr ⟨lw_p34, List.forall_mem_cons.mpr ⟨lw_p35, List.forall_mem_cons.mpr ⟨lw_p36, List.forall_mem_cons.mpr ⟨lw_p37, List.forall_mem_cons.mpr ⟨lw_p38, List.forall_mem_cons.mpr ⟨lw_p39, List.forall_mem_cons.mpr ⟨lw_p40, List.forall_mem_cons.mpr ⟨lw_p41, List.forall_mem_cons.mpr ⟨lw_p42, fun _ h => absurd h List.not_mem_nil⟩⟩⟩⟩⟩⟩⟩⟩⟩⟩⟩
def lw_privs : List (MethodName × Nat) := lw_privs_1 ++ (lw_privs_2 ++ (lw_privs_3))
def lw_tbl : List Cond := k2_sels lw_privs ++ tables_1
theorem lw_privs_ok : ∀ q ∈ lw_privs, lw_okq q := by
  show ∀ q ∈ lw_privs_1 ++ (lw_privs_2 ++ (lw_privs_3)), lw_okq q
  exact List.forall_mem_append.mpr ⟨lw_r1, List.forall_mem_append.mpr ⟨lw_r2, lw_r3⟩⟩
end
section
def zTs : List Cond := lw_tbl.filter goodWord
theorem zTs_t {w : Cond} (h : w ∈ tables_1) (g : goodWord w = true) : w ∈ zTs := List.mem_filter.mpr ⟨List.mem_append_right _ h, g⟩
def zisN (w : Cond) : Bool := match w with | .fieldLinkNest _ _ _ _ _ _ => true | .methodLinkNest _ _ _ _ => true | _ => false
def zNs : List Cond := tables_1.filter zisN
theorem zNs_t {w : Cond} (h : w ∈ tables_1) (g : zisN w = true) : w ∈ zNs := List.mem_filter.mpr ⟨h, g⟩
theorem zTs_l {w : Cond} (h : w ∈ lw_tbl) (g : goodWord w = true) : w ∈ zTs := List.mem_filter.mpr ⟨h, g⟩
theorem zl_0 : Cond.initialized "FrameDeltasLaw" ∈ zTs := zTs_t (List.mem_of_getElem? (i := 0) (by decide +kernel)) (by decide +kernel)
theorem zl_1 : Cond.initialized "FrameDeltas" ∈ zTs := zTs_t (List.mem_of_getElem? (i := 1) (by decide +kernel)) (by decide +kernel)
theorem zl_2 : Cond.initialized "FrameDeltas$State" ∈ zTs := zTs_t (List.mem_of_getElem? (i := 2) (by decide +kernel)) (by decide +kernel)
theorem zl_3 : Cond.initialized "FrameDeltas$Image" ∈ zTs := zTs_t (List.mem_of_getElem? (i := 3) (by decide +kernel)) (by decide +kernel)
theorem zl_4 : Cond.initialized "FrameDeltas$Frame" ∈ zTs := zTs_t (List.mem_of_getElem? (i := 4) (by decide +kernel)) (by decide +kernel)
theorem zl_6 : Cond.initialized "FrameDeltas$Coder" ∈ zTs := zTs_t (List.mem_of_getElem? (i := 6) (by decide +kernel)) (by decide +kernel)
theorem zl_7 : Cond.initialized "FrameDeltas$RunList" ∈ zTs := zTs_t (List.mem_of_getElem? (i := 7) (by decide +kernel)) (by decide +kernel)
theorem zl_8 : Cond.initialized "FrameDeltas$Planner" ∈ zTs := zTs_t (List.mem_of_getElem? (i := 8) (by decide +kernel)) (by decide +kernel)
theorem zl_9 : Cond.initialized "java/lang/System" ∈ zTs := zTs_t (List.mem_of_getElem? (i := 9) (by decide +kernel)) (by decide +kernel)
theorem zl_10 : Cond.initialized "java/lang/Math" ∈ zTs := zTs_t (List.mem_of_getElem? (i := 10) (by decide +kernel)) (by decide +kernel)
theorem zl_11 : Cond.initialized "java/lang/Integer" ∈ zTs := zTs_t (List.mem_of_getElem? (i := 11) (by decide +kernel)) (by decide +kernel)
theorem zl_32 : Cond.fieldLink "FrameDeltas$Image" 9 "FrameDeltas$Image" "cells" "[I" ∈ zTs := zTs_t (List.mem_of_getElem? (i := 32) (by decide +kernel)) (by decide +kernel)
theorem zl_33 : Cond.fieldLink "FrameDeltas$Image" 15 "FrameDeltas$Image" "width" "I" ∈ zTs := zTs_t (List.mem_of_getElem? (i := 33) (by decide +kernel)) (by decide +kernel)
theorem zl_34 : Cond.fieldLinkNest "FrameDeltas" 217 "FrameDeltas$Image" "width" "I" "FrameDeltas" ∈ zNs := zNs_t (List.mem_of_getElem? (i := 34) (by decide +kernel)) (by rfl)
theorem zl_35 : Cond.fieldLink "FrameDeltas$Image" 19 "FrameDeltas$Image" "height" "I" ∈ zTs := zTs_t (List.mem_of_getElem? (i := 35) (by decide +kernel)) (by decide +kernel)
theorem zl_36 : Cond.fieldLinkNest "FrameDeltas" 220 "FrameDeltas$Image" "height" "I" "FrameDeltas" ∈ zNs := zNs_t (List.mem_of_getElem? (i := 36) (by decide +kernel)) (by rfl)
theorem zl_54 : Cond.fieldLink "FrameDeltas$Frame" 12 "FrameDeltas$Frame" "image" "LFrameDeltas$Image;" ∈ zTs := zTs_t (List.mem_of_getElem? (i := 54) (by decide +kernel)) (by decide +kernel)
theorem zl_55 : Cond.fieldLinkNest "FrameDeltas$Coder" 46 "FrameDeltas$Frame" "image" "LFrameDeltas$Image;" "FrameDeltas" ∈ zNs := zNs_t (List.mem_of_getElem? (i := 55) (by decide +kernel)) (by rfl)
theorem zl_56 : Cond.fieldLinkNest "FrameDeltas$Planner" 53 "FrameDeltas$Frame" "image" "LFrameDeltas$Image;" "FrameDeltas" ∈ zNs := zNs_t (List.mem_of_getElem? (i := 56) (by decide +kernel)) (by rfl)
theorem zl_57 : Cond.fieldLinkNest "FrameDeltas$State" 57 "FrameDeltas$Frame" "image" "LFrameDeltas$Image;" "FrameDeltas" ∈ zNs := zNs_t (List.mem_of_getElem? (i := 57) (by decide +kernel)) (by rfl)
theorem zl_58 : Cond.fieldLinkNest "FrameDeltas" 195 "FrameDeltas$Frame" "image" "LFrameDeltas$Image;" "FrameDeltas" ∈ zNs := zNs_t (List.mem_of_getElem? (i := 58) (by decide +kernel)) (by rfl)
theorem zl_59 : Cond.fieldLink "FrameDeltas$Frame" 18 "FrameDeltas$Frame" "codes" "[I" ∈ zTs := zTs_t (List.mem_of_getElem? (i := 59) (by decide +kernel)) (by decide +kernel)
theorem zl_60 : Cond.fieldLink "FrameDeltas$Frame" 22 "FrameDeltas$Frame" "reference" "I" ∈ zTs := zTs_t (List.mem_of_getElem? (i := 60) (by decide +kernel)) (by decide +kernel)
theorem zl_61 : Cond.fieldLinkNest "FrameDeltas$Coder" 34 "FrameDeltas$Frame" "reference" "I" "FrameDeltas" ∈ zNs := zNs_t (List.mem_of_getElem? (i := 61) (by decide +kernel)) (by rfl)
theorem zl_62 : Cond.fieldLinkNest "FrameDeltas$State" 64 "FrameDeltas$Frame" "reference" "I" "FrameDeltas" ∈ zNs := zNs_t (List.mem_of_getElem? (i := 62) (by decide +kernel)) (by rfl)
theorem zl_63 : Cond.fieldLinkNest "FrameDeltas" 176 "FrameDeltas$Frame" "reference" "I" "FrameDeltas" ∈ zNs := zNs_t (List.mem_of_getElem? (i := 63) (by decide +kernel)) (by rfl)
theorem zl_64 : Cond.fieldLink "FrameDeltas$Frame" 26 "FrameDeltas$Frame" "cost" "I" ∈ zTs := zTs_t (List.mem_of_getElem? (i := 64) (by decide +kernel)) (by decide +kernel)
theorem zl_65 : Cond.fieldLinkNest "FrameDeltas$Coder" 43 "FrameDeltas$Frame" "cost" "I" "FrameDeltas" ∈ zNs := zNs_t (List.mem_of_getElem? (i := 65) (by decide +kernel)) (by rfl)
theorem zl_66 : Cond.fieldLinkNest "FrameDeltas$Planner" 75 "FrameDeltas$Frame" "cost" "I" "FrameDeltas" ∈ zNs := zNs_t (List.mem_of_getElem? (i := 66) (by decide +kernel)) (by rfl)
theorem zl_67 : Cond.fieldLinkNest "FrameDeltas$State" 74 "FrameDeltas$Frame" "cost" "I" "FrameDeltas" ∈ zNs := zNs_t (List.mem_of_getElem? (i := 67) (by decide +kernel)) (by rfl)
theorem zl_68 : Cond.fieldLinkNest "FrameDeltas" 179 "FrameDeltas$Frame" "cost" "I" "FrameDeltas" ∈ zNs := zNs_t (List.mem_of_getElem? (i := 68) (by decide +kernel)) (by rfl)
theorem zl_69 : Cond.fieldLink "FrameDeltas$Frame" 29 "FrameDeltas$Frame" "lost" "Z" ∈ zTs := zTs_t (List.mem_of_getElem? (i := 69) (by decide +kernel)) (by decide +kernel)
theorem zl_70 : Cond.fieldLinkNest "FrameDeltas$Coder" 39 "FrameDeltas$Frame" "lost" "Z" "FrameDeltas" ∈ zNs := zNs_t (List.mem_of_getElem? (i := 70) (by decide +kernel)) (by rfl)
theorem zl_71 : Cond.fieldLinkNest "FrameDeltas$State" 60 "FrameDeltas$Frame" "lost" "Z" "FrameDeltas" ∈ zNs := zNs_t (List.mem_of_getElem? (i := 71) (by decide +kernel)) (by rfl)
theorem zl_72 : Cond.fieldLinkNest "FrameDeltas" 169 "FrameDeltas$Frame" "lost" "Z" "FrameDeltas" ∈ zNs := zNs_t (List.mem_of_getElem? (i := 72) (by decide +kernel)) (by rfl)
theorem zl_84 : Cond.fieldLink "FrameDeltas$State" 12 "FrameDeltas$State" "canvas" "LFrameDeltas$Image;" ∈ zTs := zTs_t (List.mem_of_getElem? (i := 84) (by decide +kernel)) (by decide +kernel)
theorem zl_85 : Cond.fieldLinkNest "FrameDeltas" 76 "FrameDeltas$State" "canvas" "LFrameDeltas$Image;" "FrameDeltas" ∈ zNs := zNs_t (List.mem_of_getElem? (i := 85) (by decide +kernel)) (by rfl)
theorem zl_86 : Cond.fieldLink "FrameDeltas$State" 20 "FrameDeltas$State" "frames" "[LFrameDeltas$Frame;" ∈ zTs := zTs_t (List.mem_of_getElem? (i := 86) (by decide +kernel)) (by decide +kernel)
theorem zl_87 : Cond.fieldLink "FrameDeltas$State" 25 "FrameDeltas$State" "nowhere" "LFrameDeltas$Frame;" ∈ zTs := zTs_t (List.mem_of_getElem? (i := 87) (by decide +kernel)) (by decide +kernel)
theorem zl_88 : Cond.fieldLink "FrameDeltas$State" 29 "FrameDeltas$State" "frameCount" "I" ∈ zTs := zTs_t (List.mem_of_getElem? (i := 88) (by decide +kernel)) (by decide +kernel)
theorem zl_89 : Cond.fieldLinkNest "FrameDeltas$Planner" 25 "FrameDeltas$State" "frameCount" "I" "FrameDeltas" ∈ zNs := zNs_t (List.mem_of_getElem? (i := 89) (by decide +kernel)) (by rfl)
theorem zl_90 : Cond.fieldLinkNest "FrameDeltas" 73 "FrameDeltas$State" "frameCount" "I" "FrameDeltas" ∈ zNs := zNs_t (List.mem_of_getElem? (i := 90) (by decide +kernel)) (by rfl)
theorem zl_91 : Cond.fieldLink "FrameDeltas$State" 33 "FrameDeltas$State" "range" "I" ∈ zTs := zTs_t (List.mem_of_getElem? (i := 91) (by decide +kernel)) (by decide +kernel)
theorem zl_92 : Cond.fieldLinkNest "FrameDeltas$Coder" 60 "FrameDeltas$State" "range" "I" "FrameDeltas" ∈ zNs := zNs_t (List.mem_of_getElem? (i := 92) (by decide +kernel)) (by rfl)
theorem zl_93 : Cond.fieldLinkNest "FrameDeltas" 160 "FrameDeltas$State" "range" "I" "FrameDeltas" ∈ zNs := zNs_t (List.mem_of_getElem? (i := 93) (by decide +kernel)) (by rfl)
theorem zl_94 : Cond.fieldLink "FrameDeltas$State" 36 "FrameDeltas$State" "depthLimit" "I" ∈ zTs := zTs_t (List.mem_of_getElem? (i := 94) (by decide +kernel)) (by decide +kernel)
theorem zl_95 : Cond.fieldLinkNest "FrameDeltas" 163 "FrameDeltas$State" "depthLimit" "I" "FrameDeltas" ∈ zNs := zNs_t (List.mem_of_getElem? (i := 95) (by decide +kernel)) (by rfl)
theorem zl_96 : Cond.fieldLink "FrameDeltas$State" 39 "FrameDeltas$State" "rate" "I" ∈ zTs := zTs_t (List.mem_of_getElem? (i := 96) (by decide +kernel)) (by decide +kernel)
theorem zl_97 : Cond.fieldLinkNest "FrameDeltas$Planner" 40 "FrameDeltas$State" "rate" "I" "FrameDeltas" ∈ zNs := zNs_t (List.mem_of_getElem? (i := 97) (by decide +kernel)) (by rfl)
theorem zl_98 : Cond.fieldLinkNest "FrameDeltas" 166 "FrameDeltas$State" "rate" "I" "FrameDeltas" ∈ zNs := zNs_t (List.mem_of_getElem? (i := 98) (by decide +kernel)) (by rfl)
theorem zl_123 : Cond.fieldLinkNest "FrameDeltas" 97 "FrameDeltas$Script" "length" "I" "FrameDeltas" ∈ zNs := zNs_t (List.mem_of_getElem? (i := 123) (by decide +kernel)) (by rfl)
theorem zl_160 : Cond.fieldLink "FrameDeltas$RunList" 9 "FrameDeltas$RunList" "lengths" "[I" ∈ zTs := zTs_t (List.mem_of_getElem? (i := 160) (by decide +kernel)) (by decide +kernel)
theorem zl_161 : Cond.fieldLink "FrameDeltas$RunList" 15 "FrameDeltas$RunList" "values" "[I" ∈ zTs := zTs_t (List.mem_of_getElem? (i := 161) (by decide +kernel)) (by decide +kernel)
theorem zl_162 : Cond.fieldLink "FrameDeltas$RunList" 18 "FrameDeltas$RunList" "size" "I" ∈ zTs := zTs_t (List.mem_of_getElem? (i := 162) (by decide +kernel)) (by decide +kernel)
theorem zl_163 : Cond.fieldLinkNest "FrameDeltas$Coder" 71 "FrameDeltas$RunList" "size" "I" "FrameDeltas" ∈ zNs := zNs_t (List.mem_of_getElem? (i := 163) (by decide +kernel)) (by rfl)
theorem zl_171 : Cond.fieldLink "FrameDeltas$Coder" 12 "FrameDeltas$Coder" "raw" "LFrameDeltas$RunList;" ∈ zTs := zTs_t (List.mem_of_getElem? (i := 171) (by decide +kernel)) (by decide +kernel)
theorem zl_172 : Cond.fieldLink "FrameDeltas$Coder" 18 "FrameDeltas$Coder" "delta" "LFrameDeltas$RunList;" ∈ zTs := zTs_t (List.mem_of_getElem? (i := 172) (by decide +kernel)) (by decide +kernel)
theorem zl_173 : Cond.fieldLink "FrameDeltas$Coder" 21 "FrameDeltas$Coder" "dx" "I" ∈ zTs := zTs_t (List.mem_of_getElem? (i := 173) (by decide +kernel)) (by decide +kernel)
theorem zl_174 : Cond.fieldLink "FrameDeltas$Coder" 25 "FrameDeltas$Coder" "dy" "I" ∈ zTs := zTs_t (List.mem_of_getElem? (i := 174) (by decide +kernel)) (by decide +kernel)
theorem zl_190 : Cond.fieldLink "FrameDeltas$Planner" 9 "FrameDeltas$Planner" "keyCosts" "[I" ∈ zTs := zTs_t (List.mem_of_getElem? (i := 190) (by decide +kernel)) (by decide +kernel)
theorem zl_191 : Cond.fieldLink "FrameDeltas$Planner" 15 "FrameDeltas$Planner" "deltaCosts" "[I" ∈ zTs := zTs_t (List.mem_of_getElem? (i := 191) (by decide +kernel)) (by decide +kernel)
theorem zl_192 : Cond.fieldLink "FrameDeltas$Planner" 18 "FrameDeltas$Planner" "cost" "I" ∈ zTs := zTs_t (List.mem_of_getElem? (i := 192) (by decide +kernel)) (by decide +kernel)
theorem zl_193 : Cond.fieldLinkNest "FrameDeltas" 157 "FrameDeltas$Planner" "cost" "I" "FrameDeltas" ∈ zNs := zNs_t (List.mem_of_getElem? (i := 193) (by decide +kernel)) (by rfl)
theorem zl_194 : Cond.fieldLink "FrameDeltas$Planner" 22 "FrameDeltas$Planner" "keys" "I" ∈ zTs := zTs_t (List.mem_of_getElem? (i := 194) (by decide +kernel)) (by decide +kernel)
theorem zl_208 : Cond.fieldLink "FrameDeltas" 10 "FrameDeltas" "state" "LFrameDeltas$State;" ∈ zTs := zTs_t (List.mem_of_getElem? (i := 208) (by decide +kernel)) (by decide +kernel)
theorem zl_209 : Cond.fieldLink "FrameDeltas" 16 "FrameDeltas" "saved" "[LFrameDeltas$State;" ∈ zTs := zTs_t (List.mem_of_getElem? (i := 209) (by decide +kernel)) (by decide +kernel)
theorem zl_210 : Cond.fieldLink "FrameDeltas" 20 "FrameDeltas" "oldestSaved" "I" ∈ zTs := zTs_t (List.mem_of_getElem? (i := 210) (by decide +kernel)) (by decide +kernel)
theorem zl_211 : Cond.fieldLink "FrameDeltas" 24 "FrameDeltas" "savedStates" "I" ∈ zTs := zTs_t (List.mem_of_getElem? (i := 211) (by decide +kernel)) (by decide +kernel)
theorem zl_212 : Cond.fieldLink "FrameDeltas" 30 "FrameDeltas" "script" "LFrameDeltas$Script;" ∈ zTs := zTs_t (List.mem_of_getElem? (i := 212) (by decide +kernel)) (by decide +kernel)
theorem zl_213 : Cond.fieldLink "FrameDeltas" 37 "FrameDeltas" "coder" "LFrameDeltas$Coder;" ∈ zTs := zTs_t (List.mem_of_getElem? (i := 213) (by decide +kernel)) (by decide +kernel)
theorem zl_214 : Cond.fieldLink "FrameDeltas" 44 "FrameDeltas" "planner" "LFrameDeltas$Planner;" ∈ zTs := zTs_t (List.mem_of_getElem? (i := 214) (by decide +kernel)) (by decide +kernel)
theorem zl_215 : Cond.fieldLink "FrameDeltas" 51 "FrameDeltas" "trial" "LFrameDeltas$Frame;" ∈ zTs := zTs_t (List.mem_of_getElem? (i := 215) (by decide +kernel)) (by decide +kernel)
theorem zl_239 : Cond.methodLink "FrameDeltasLaw" 42 ⟨"FrameDeltas", "recode", "()I"⟩ ∈ zTs := zTs_t (List.mem_of_getElem? (i := 239) (by decide +kernel)) (by decide +kernel)
theorem zl_240 : Cond.instanceMethod ⟨"FrameDeltas", "recode", "()I"⟩ ∈ zTs := zTs_t (List.mem_of_getElem? (i := 240) (by decide +kernel)) (by decide +kernel)
theorem zl_241 : Cond.selects "FrameDeltas" ⟨"FrameDeltas", "recode", "()I"⟩ ⟨"FrameDeltas", "recode", "()I"⟩ ∈ zTs := zTs_t (List.mem_of_getElem? (i := 241) (by decide +kernel)) (by decide +kernel)
theorem zl_242 : Cond.code ⟨"FrameDeltas", "recode", "()I"⟩ prog_1_method_13_code 2 (Option.some Jvm.ClassFile.FieldType.int) ∈ zTs := zTs_t (List.mem_of_getElem? (i := 242) (by decide +kernel)) (by decide +kernel)
theorem zl_243 : Cond.methodLink "FrameDeltas" 70 ⟨"FrameDeltas", "save", "()V"⟩ ∈ zTs := zTs_t (List.mem_of_getElem? (i := 243) (by decide +kernel)) (by decide +kernel)
theorem zl_245 : Cond.instanceMethod ⟨"FrameDeltas", "save", "()V"⟩ ∈ zTs := zTs_t (List.mem_of_getElem? (i := 245) (by decide +kernel)) (by decide +kernel)
theorem zl_246 : Cond.code ⟨"FrameDeltas", "save", "()V"⟩ prog_1_method_32_code 1 (Option.none : Option Jvm.ClassFile.FieldType) ∈ zTs := zTs_t (List.mem_of_getElem? (i := 246) (by decide +kernel)) (by decide +kernel)
theorem zl_247 : Cond.methodLink "FrameDeltas" 257 ⟨"FrameDeltas", "savedSlot", "(I)LFrameDeltas$State;"⟩ ∈ zTs := zTs_t (List.mem_of_getElem? (i := 247) (by decide +kernel)) (by decide +kernel)
theorem zl_249 : Cond.instanceMethod ⟨"FrameDeltas", "savedSlot", "(I)LFrameDeltas$State;"⟩ ∈ zTs := zTs_t (List.mem_of_getElem? (i := 249) (by decide +kernel)) (by decide +kernel)
theorem zl_250 : Cond.code ⟨"FrameDeltas", "savedSlot", "(I)LFrameDeltas$State;"⟩ prog_1_method_33_code 3 (Option.some (Jvm.ClassFile.FieldType.object "FrameDeltas$State")) ∈ zTs := zTs_t (List.mem_of_getElem? (i := 250) (by decide +kernel)) (by decide +kernel)
theorem zl_251 : Cond.methodLinkNest "FrameDeltas" 261 ⟨"FrameDeltas$State", "take", "(LFrameDeltas$State;)V"⟩ "FrameDeltas" ∈ zNs := zNs_t (List.mem_of_getElem? (i := 251) (by decide +kernel)) (by rfl)
theorem zl_253 : Cond.instanceMethod ⟨"FrameDeltas$State", "take", "(LFrameDeltas$State;)V"⟩ ∈ zTs := zTs_t (List.mem_of_getElem? (i := 253) (by decide +kernel)) (by decide +kernel)
theorem zl_254 : Cond.code ⟨"FrameDeltas$State", "take", "(LFrameDeltas$State;)V"⟩ prog_8_method_2_code 3 (Option.none : Option Jvm.ClassFile.FieldType) ∈ zTs := zTs_t (List.mem_of_getElem? (i := 254) (by decide +kernel)) (by decide +kernel)
theorem zl_255 : Cond.methodLinkNest "FrameDeltas$State" 42 ⟨"FrameDeltas$Image", "take", "(LFrameDeltas$Image;)V"⟩ "FrameDeltas" ∈ zNs := zNs_t (List.mem_of_getElem? (i := 255) (by decide +kernel)) (by rfl)
theorem zl_257 : Cond.instanceMethod ⟨"FrameDeltas$Image", "take", "(LFrameDeltas$Image;)V"⟩ ∈ zTs := zTs_t (List.mem_of_getElem? (i := 257) (by decide +kernel)) (by decide +kernel)
theorem zl_258 : Cond.code ⟨"FrameDeltas$Image", "take", "(LFrameDeltas$Image;)V"⟩ prog_4_method_3_code 2 (Option.none : Option Jvm.ClassFile.FieldType) ∈ zTs := zTs_t (List.mem_of_getElem? (i := 258) (by decide +kernel)) (by decide +kernel)
theorem zl_259 : Cond.methodLink "FrameDeltas$Image" 22 ⟨"java/lang/System", "arraycopy", "(Ljava/lang/Object;ILjava/lang/Object;II)V"⟩ ∈ zTs := zTs_t (List.mem_of_getElem? (i := 259) (by decide +kernel)) (by decide +kernel)
theorem zl_260 : Cond.static ⟨"java/lang/System", "arraycopy", "(Ljava/lang/Object;ILjava/lang/Object;II)V"⟩ ∈ zTs := zTs_t (List.mem_of_getElem? (i := 260) (by decide +kernel)) (by decide +kernel)
theorem zl_261 : Cond.native ⟨"java/lang/System", "arraycopy", "(Ljava/lang/Object;ILjava/lang/Object;II)V"⟩ ∈ zTs := zTs_t (List.mem_of_getElem? (i := 261) (by decide +kernel)) (by decide +kernel)
theorem zl_262 : Cond.methodLink "FrameDeltas$State" 46 ⟨"FrameDeltas$State", "frameAt", "(I)LFrameDeltas$Frame;"⟩ ∈ zTs := zTs_t (List.mem_of_getElem? (i := 262) (by decide +kernel)) (by decide +kernel)
theorem zl_264 : Cond.instanceMethod ⟨"FrameDeltas$State", "frameAt", "(I)LFrameDeltas$Frame;"⟩ ∈ zTs := zTs_t (List.mem_of_getElem? (i := 264) (by decide +kernel)) (by decide +kernel)
theorem zl_265 : Cond.code ⟨"FrameDeltas$State", "frameAt", "(I)LFrameDeltas$Frame;"⟩ prog_8_method_3_code 2 (Option.some (Jvm.ClassFile.FieldType.object "FrameDeltas$Frame")) ∈ zTs := zTs_t (List.mem_of_getElem? (i := 265) (by decide +kernel)) (by decide +kernel)
theorem zl_266 : Cond.methodLinkNest "FrameDeltas$State" 50 ⟨"FrameDeltas$Frame", "take", "(LFrameDeltas$Frame;)V"⟩ "FrameDeltas" ∈ zNs := zNs_t (List.mem_of_getElem? (i := 266) (by decide +kernel)) (by rfl)
theorem zl_268 : Cond.instanceMethod ⟨"FrameDeltas$Frame", "take", "(LFrameDeltas$Frame;)V"⟩ ∈ zTs := zTs_t (List.mem_of_getElem? (i := 268) (by decide +kernel)) (by decide +kernel)
theorem zl_269 : Cond.code ⟨"FrameDeltas$Frame", "take", "(LFrameDeltas$Frame;)V"⟩ prog_3_method_2_code 2 (Option.none : Option Jvm.ClassFile.FieldType) ∈ zTs := zTs_t (List.mem_of_getElem? (i := 269) (by decide +kernel)) (by decide +kernel)
theorem zl_270 : Cond.methodLinkNest "FrameDeltas$Frame" 33 ⟨"FrameDeltas$Image", "take", "(LFrameDeltas$Image;)V"⟩ "FrameDeltas" ∈ zNs := zNs_t (List.mem_of_getElem? (i := 270) (by decide +kernel)) (by rfl)
theorem zl_271 : Cond.methodLink "FrameDeltas$Frame" 37 ⟨"java/lang/System", "arraycopy", "(Ljava/lang/Object;ILjava/lang/Object;II)V"⟩ ∈ zTs := zTs_t (List.mem_of_getElem? (i := 271) (by decide +kernel)) (by decide +kernel)
theorem zl_272 : Cond.methodLinkNest "FrameDeltas" 142 ⟨"FrameDeltas$Planner", "plan", "(LFrameDeltas$State;LFrameDeltas$Coder;LFrameDeltas$Frame;)V"⟩ "FrameDeltas" ∈ zNs := zNs_t (List.mem_of_getElem? (i := 272) (by decide +kernel)) (by rfl)
theorem zl_274 : Cond.instanceMethod ⟨"FrameDeltas$Planner", "plan", "(LFrameDeltas$State;LFrameDeltas$Coder;LFrameDeltas$Frame;)V"⟩ ∈ zTs := zTs_t (List.mem_of_getElem? (i := 274) (by decide +kernel)) (by decide +kernel)
theorem zl_275 : Cond.code ⟨"FrameDeltas$Planner", "plan", "(LFrameDeltas$State;LFrameDeltas$Coder;LFrameDeltas$Frame;)V"⟩ prog_5_method_2_code 8 (Option.none : Option Jvm.ClassFile.FieldType) ∈ zTs := zTs_t (List.mem_of_getElem? (i := 275) (by decide +kernel)) (by decide +kernel)
theorem zl_276 : Cond.methodLink "FrameDeltas$Planner" 30 ⟨"java/lang/Math", "min", "(II)I"⟩ ∈ zTs := zTs_t (List.mem_of_getElem? (i := 276) (by decide +kernel)) (by decide +kernel)
theorem zl_277 : Cond.static ⟨"java/lang/Math", "min", "(II)I"⟩ ∈ zTs := zTs_t (List.mem_of_getElem? (i := 277) (by decide +kernel)) (by decide +kernel)
theorem zl_278 : Cond.code ⟨"java/lang/Math", "min", "(II)I"⟩ prog_12_method_69_code 2 (Option.some Jvm.ClassFile.FieldType.int) ∈ zTs := zTs_t (List.mem_of_getElem? (i := 278) (by decide +kernel)) (by decide +kernel)
theorem zl_279 : Cond.methodLink "FrameDeltas$Planner" 36 ⟨"FrameDeltas$Planner", "measure", "(LFrameDeltas$State;LFrameDeltas$Coder;LFrameDeltas$Frame;I)V"⟩ ∈ zTs := zTs_t (List.mem_of_getElem? (i := 279) (by decide +kernel)) (by decide +kernel)
theorem zl_281 : Cond.instanceMethod ⟨"FrameDeltas$Planner", "measure", "(LFrameDeltas$State;LFrameDeltas$Coder;LFrameDeltas$Frame;I)V"⟩ ∈ zTs := zTs_t (List.mem_of_getElem? (i := 281) (by decide +kernel)) (by decide +kernel)
theorem zl_282 : Cond.code ⟨"FrameDeltas$Planner", "measure", "(LFrameDeltas$State;LFrameDeltas$Coder;LFrameDeltas$Frame;I)V"⟩ prog_5_method_3_code 6 (Option.none : Option Jvm.ClassFile.FieldType) ∈ zTs := zTs_t (List.mem_of_getElem? (i := 282) (by decide +kernel)) (by decide +kernel)
theorem zl_283 : Cond.methodLinkNest "FrameDeltas$Planner" 59 ⟨"FrameDeltas$State", "imageOf", "(I)LFrameDeltas$Image;"⟩ "FrameDeltas" ∈ zNs := zNs_t (List.mem_of_getElem? (i := 283) (by decide +kernel)) (by rfl)
theorem zl_285 : Cond.instanceMethod ⟨"FrameDeltas$State", "imageOf", "(I)LFrameDeltas$Image;"⟩ ∈ zTs := zTs_t (List.mem_of_getElem? (i := 285) (by decide +kernel)) (by decide +kernel)
theorem zl_286 : Cond.code ⟨"FrameDeltas$State", "imageOf", "(I)LFrameDeltas$Image;"⟩ prog_8_method_6_code 2 (Option.some (Jvm.ClassFile.FieldType.object "FrameDeltas$Image")) ∈ zTs := zTs_t (List.mem_of_getElem? (i := 286) (by decide +kernel)) (by decide +kernel)
theorem zl_287 : Cond.methodLinkNest "FrameDeltas$Planner" 63 ⟨"FrameDeltas$Image", "take", "(LFrameDeltas$Image;)V"⟩ "FrameDeltas" ∈ zNs := zNs_t (List.mem_of_getElem? (i := 287) (by decide +kernel)) (by rfl)
theorem zl_288 : Cond.methodLinkNest "FrameDeltas$Planner" 69 ⟨"FrameDeltas$Coder", "encode", "(LFrameDeltas$Frame;LFrameDeltas$State;I)V"⟩ "FrameDeltas" ∈ zNs := zNs_t (List.mem_of_getElem? (i := 288) (by decide +kernel)) (by rfl)
theorem zl_290 : Cond.instanceMethod ⟨"FrameDeltas$Coder", "encode", "(LFrameDeltas$Frame;LFrameDeltas$State;I)V"⟩ ∈ zTs := zTs_t (List.mem_of_getElem? (i := 290) (by decide +kernel)) (by decide +kernel)
theorem zl_291 : Cond.code ⟨"FrameDeltas$Coder", "encode", "(LFrameDeltas$Frame;LFrameDeltas$State;I)V"⟩ prog_2_method_2_code 6 (Option.none : Option Jvm.ClassFile.FieldType) ∈ zTs := zTs_t (List.mem_of_getElem? (i := 291) (by decide +kernel)) (by decide +kernel)
theorem zl_292 : Cond.methodLinkNest "FrameDeltas$Coder" 28 ⟨"FrameDeltas$State", "imageOf", "(I)LFrameDeltas$Image;"⟩ "FrameDeltas" ∈ zNs := zNs_t (List.mem_of_getElem? (i := 292) (by decide +kernel)) (by rfl)
theorem zl_293 : Cond.methodLinkNest "FrameDeltas$Coder" 50 ⟨"FrameDeltas$Image", "blocks", "()I"⟩ "FrameDeltas" ∈ zNs := zNs_t (List.mem_of_getElem? (i := 293) (by decide +kernel)) (by rfl)
theorem zl_295 : Cond.instanceMethod ⟨"FrameDeltas$Image", "blocks", "()I"⟩ ∈ zTs := zTs_t (List.mem_of_getElem? (i := 295) (by decide +kernel)) (by decide +kernel)
theorem zl_296 : Cond.code ⟨"FrameDeltas$Image", "blocks", "()I"⟩ prog_4_method_8_code 1 (Option.some Jvm.ClassFile.FieldType.int) ∈ zTs := zTs_t (List.mem_of_getElem? (i := 296) (by decide +kernel)) (by decide +kernel)
theorem zl_297 : Cond.methodLink "FrameDeltas$Coder" 56 ⟨"FrameDeltas$Coder", "encodeRaw", "(LFrameDeltas$Frame;I)I"⟩ ∈ zTs := zTs_t (List.mem_of_getElem? (i := 297) (by decide +kernel)) (by decide +kernel)
theorem zl_299 : Cond.instanceMethod ⟨"FrameDeltas$Coder", "encodeRaw", "(LFrameDeltas$Frame;I)I"⟩ ∈ zTs := zTs_t (List.mem_of_getElem? (i := 299) (by decide +kernel)) (by decide +kernel)
theorem zl_300 : Cond.code ⟨"FrameDeltas$Coder", "encodeRaw", "(LFrameDeltas$Frame;I)I"⟩ prog_2_method_3_code 3 (Option.some Jvm.ClassFile.FieldType.int) ∈ zTs := zTs_t (List.mem_of_getElem? (i := 300) (by decide +kernel)) (by decide +kernel)
theorem zl_301 : Cond.methodLinkNest "FrameDeltas$Coder" 67 ⟨"FrameDeltas$RunList", "read", "(LFrameDeltas$Image;LFrameDeltas$Image;I)V"⟩ "FrameDeltas" ∈ zNs := zNs_t (List.mem_of_getElem? (i := 301) (by decide +kernel)) (by rfl)
theorem zl_303 : Cond.instanceMethod ⟨"FrameDeltas$RunList", "read", "(LFrameDeltas$Image;LFrameDeltas$Image;I)V"⟩ ∈ zTs := zTs_t (List.mem_of_getElem? (i := 303) (by decide +kernel)) (by decide +kernel)
theorem zl_304 : Cond.code ⟨"FrameDeltas$RunList", "read", "(LFrameDeltas$Image;LFrameDeltas$Image;I)V"⟩ prog_6_method_2_code 10 (Option.none : Option Jvm.ClassFile.FieldType) ∈ zTs := zTs_t (List.mem_of_getElem? (i := 304) (by decide +kernel)) (by decide +kernel)
theorem zl_305 : Cond.methodLinkNest "FrameDeltas$RunList" 22 ⟨"FrameDeltas$Image", "left", "(I)I"⟩ "FrameDeltas" ∈ zNs := zNs_t (List.mem_of_getElem? (i := 305) (by decide +kernel)) (by rfl)
theorem zl_307 : Cond.instanceMethod ⟨"FrameDeltas$Image", "left", "(I)I"⟩ ∈ zTs := zTs_t (List.mem_of_getElem? (i := 307) (by decide +kernel)) (by decide +kernel)
theorem zl_308 : Cond.code ⟨"FrameDeltas$Image", "left", "(I)I"⟩ prog_4_method_10_code 2 (Option.some Jvm.ClassFile.FieldType.int) ∈ zTs := zTs_t (List.mem_of_getElem? (i := 308) (by decide +kernel)) (by decide +kernel)
theorem zl_309 : Cond.methodLink "FrameDeltas$Image" 32 ⟨"java/lang/Math", "max", "(II)I"⟩ ∈ zTs := zTs_t (List.mem_of_getElem? (i := 309) (by decide +kernel)) (by decide +kernel)
theorem zl_310 : Cond.static ⟨"java/lang/Math", "max", "(II)I"⟩ ∈ zTs := zTs_t (List.mem_of_getElem? (i := 310) (by decide +kernel)) (by decide +kernel)
theorem zl_311 : Cond.code ⟨"java/lang/Math", "max", "(II)I"⟩ prog_12_method_65_code 2 (Option.some Jvm.ClassFile.FieldType.int) ∈ zTs := zTs_t (List.mem_of_getElem? (i := 311) (by decide +kernel)) (by decide +kernel)
theorem zl_312 : Cond.methodLinkNest "FrameDeltas$RunList" 28 ⟨"FrameDeltas$Image", "top", "(I)I"⟩ "FrameDeltas" ∈ zNs := zNs_t (List.mem_of_getElem? (i := 312) (by decide +kernel)) (by rfl)
theorem zl_314 : Cond.instanceMethod ⟨"FrameDeltas$Image", "top", "(I)I"⟩ ∈ zTs := zTs_t (List.mem_of_getElem? (i := 314) (by decide +kernel)) (by decide +kernel)
theorem zl_315 : Cond.code ⟨"FrameDeltas$Image", "top", "(I)I"⟩ prog_4_method_11_code 2 (Option.some Jvm.ClassFile.FieldType.int) ∈ zTs := zTs_t (List.mem_of_getElem? (i := 315) (by decide +kernel)) (by decide +kernel)
theorem zl_316 : Cond.methodLinkNest "FrameDeltas$RunList" 31 ⟨"FrameDeltas$Image", "at", "(II)I"⟩ "FrameDeltas" ∈ zNs := zNs_t (List.mem_of_getElem? (i := 316) (by decide +kernel)) (by rfl)
theorem zl_318 : Cond.instanceMethod ⟨"FrameDeltas$Image", "at", "(II)I"⟩ ∈ zTs := zTs_t (List.mem_of_getElem? (i := 318) (by decide +kernel)) (by decide +kernel)
theorem zl_319 : Cond.code ⟨"FrameDeltas$Image", "at", "(II)I"⟩ prog_4_method_7_code 4 (Option.some Jvm.ClassFile.FieldType.int) ∈ zTs := zTs_t (List.mem_of_getElem? (i := 319) (by decide +kernel)) (by decide +kernel)
theorem zl_320 : Cond.methodLink "FrameDeltas$RunList" 35 ⟨"FrameDeltas$RunList", "addCell", "(I)V"⟩ ∈ zTs := zTs_t (List.mem_of_getElem? (i := 320) (by decide +kernel)) (by decide +kernel)
theorem zl_322 : Cond.instanceMethod ⟨"FrameDeltas$RunList", "addCell", "(I)V"⟩ ∈ zTs := zTs_t (List.mem_of_getElem? (i := 322) (by decide +kernel)) (by decide +kernel)
theorem zl_323 : Cond.code ⟨"FrameDeltas$RunList", "addCell", "(I)V"⟩ prog_6_method_3_code 4 (Option.none : Option Jvm.ClassFile.FieldType) ∈ zTs := zTs_t (List.mem_of_getElem? (i := 323) (by decide +kernel)) (by decide +kernel)
theorem zl_324 : Cond.methodLinkNest "FrameDeltas$Coder" 74 ⟨"FrameDeltas$Frame", "setCode", "(IIIII)V"⟩ "FrameDeltas" ∈ zNs := zNs_t (List.mem_of_getElem? (i := 324) (by decide +kernel)) (by rfl)
theorem zl_326 : Cond.instanceMethod ⟨"FrameDeltas$Frame", "setCode", "(IIIII)V"⟩ ∈ zTs := zTs_t (List.mem_of_getElem? (i := 326) (by decide +kernel)) (by decide +kernel)
theorem zl_327 : Cond.code ⟨"FrameDeltas$Frame", "setCode", "(IIIII)V"⟩ prog_3_method_4_code 7 (Option.none : Option Jvm.ClassFile.FieldType) ∈ zTs := zTs_t (List.mem_of_getElem? (i := 327) (by decide +kernel)) (by decide +kernel)
theorem zl_328 : Cond.methodLink "FrameDeltas$Coder" 63 ⟨"FrameDeltas$Coder", "encodeWith", "(LFrameDeltas$Frame;ILFrameDeltas$Image;I)I"⟩ ∈ zTs := zTs_t (List.mem_of_getElem? (i := 328) (by decide +kernel)) (by decide +kernel)
theorem zl_330 : Cond.instanceMethod ⟨"FrameDeltas$Coder", "encodeWith", "(LFrameDeltas$Frame;ILFrameDeltas$Image;I)I"⟩ ∈ zTs := zTs_t (List.mem_of_getElem? (i := 330) (by decide +kernel)) (by decide +kernel)
theorem zl_331 : Cond.code ⟨"FrameDeltas$Coder", "encodeWith", "(LFrameDeltas$Frame;ILFrameDeltas$Image;I)I"⟩ prog_2_method_4_code 7 (Option.some Jvm.ClassFile.FieldType.int) ∈ zTs := zTs_t (List.mem_of_getElem? (i := 331) (by decide +kernel)) (by decide +kernel)
theorem zl_332 : Cond.methodLinkNest "FrameDeltas$Coder" 78 ⟨"FrameDeltas$Image", "left", "(I)I"⟩ "FrameDeltas" ∈ zNs := zNs_t (List.mem_of_getElem? (i := 332) (by decide +kernel)) (by rfl)
theorem zl_333 : Cond.methodLinkNest "FrameDeltas$Coder" 82 ⟨"FrameDeltas$Image", "top", "(I)I"⟩ "FrameDeltas" ∈ zNs := zNs_t (List.mem_of_getElem? (i := 333) (by decide +kernel)) (by rfl)
theorem zl_334 : Cond.methodLinkNest "FrameDeltas$Coder" 85 ⟨"FrameDeltas$Image", "samePart", "(IILFrameDeltas$Image;II)Z"⟩ "FrameDeltas" ∈ zNs := zNs_t (List.mem_of_getElem? (i := 334) (by decide +kernel)) (by rfl)
theorem zl_336 : Cond.instanceMethod ⟨"FrameDeltas$Image", "samePart", "(IILFrameDeltas$Image;II)Z"⟩ ∈ zTs := zTs_t (List.mem_of_getElem? (i := 336) (by decide +kernel)) (by decide +kernel)
theorem zl_337 : Cond.code ⟨"FrameDeltas$Image", "samePart", "(IILFrameDeltas$Image;II)Z"⟩ prog_4_method_14_code 9 (Option.some Jvm.ClassFile.FieldType.boolean) ∈ zTs := zTs_t (List.mem_of_getElem? (i := 337) (by decide +kernel)) (by decide +kernel)
theorem zl_338 : Cond.methodLink "FrameDeltas$Coder" 89 ⟨"FrameDeltas$Coder", "findMove", "(LFrameDeltas$Image;IILFrameDeltas$Image;I)Z"⟩ ∈ zTs := zTs_t (List.mem_of_getElem? (i := 338) (by decide +kernel)) (by decide +kernel)
theorem zl_340 : Cond.instanceMethod ⟨"FrameDeltas$Coder", "findMove", "(LFrameDeltas$Image;IILFrameDeltas$Image;I)Z"⟩ ∈ zTs := zTs_t (List.mem_of_getElem? (i := 340) (by decide +kernel)) (by decide +kernel)
theorem zl_341 : Cond.code ⟨"FrameDeltas$Coder", "findMove", "(LFrameDeltas$Image;IILFrameDeltas$Image;I)Z"⟩ prog_2_method_5_code 10 (Option.some Jvm.ClassFile.FieldType.boolean) ∈ zTs := zTs_t (List.mem_of_getElem? (i := 341) (by decide +kernel)) (by decide +kernel)
theorem zl_342 : Cond.methodLink "FrameDeltas$Coder" 93 ⟨"java/lang/Math", "abs", "(I)I"⟩ ∈ zTs := zTs_t (List.mem_of_getElem? (i := 342) (by decide +kernel)) (by decide +kernel)
theorem zl_343 : Cond.static ⟨"java/lang/Math", "abs", "(I)I"⟩ ∈ zTs := zTs_t (List.mem_of_getElem? (i := 343) (by decide +kernel)) (by decide +kernel)
theorem zl_344 : Cond.code ⟨"java/lang/Math", "abs", "(I)I"⟩ prog_12_method_59_code 1 (Option.some Jvm.ClassFile.FieldType.int) ∈ zTs := zTs_t (List.mem_of_getElem? (i := 344) (by decide +kernel)) (by decide +kernel)
theorem zl_345 : Cond.methodLinkNest "FrameDeltas$Coder" 98 ⟨"FrameDeltas$Image", "hasPart", "(II)Z"⟩ "FrameDeltas" ∈ zNs := zNs_t (List.mem_of_getElem? (i := 345) (by decide +kernel)) (by rfl)
theorem zl_347 : Cond.instanceMethod ⟨"FrameDeltas$Image", "hasPart", "(II)Z"⟩ ∈ zTs := zTs_t (List.mem_of_getElem? (i := 347) (by decide +kernel)) (by decide +kernel)
theorem zl_348 : Cond.code ⟨"FrameDeltas$Image", "hasPart", "(II)Z"⟩ prog_4_method_12_code 3 (Option.some Jvm.ClassFile.FieldType.boolean) ∈ zTs := zTs_t (List.mem_of_getElem? (i := 348) (by decide +kernel)) (by decide +kernel)
theorem zl_349 : Cond.methodLink "FrameDeltas$Coder" 102 ⟨"java/lang/Math", "max", "(II)I"⟩ ∈ zTs := zTs_t (List.mem_of_getElem? (i := 349) (by decide +kernel)) (by decide +kernel)
theorem zl_350 : Cond.methodLink "FrameDeltas$Planner" 43 ⟨"FrameDeltas$Planner", "costOf", "(III)I"⟩ ∈ zTs := zTs_t (List.mem_of_getElem? (i := 350) (by decide +kernel)) (by decide +kernel)
theorem zl_352 : Cond.instanceMethod ⟨"FrameDeltas$Planner", "costOf", "(III)I"⟩ ∈ zTs := zTs_t (List.mem_of_getElem? (i := 352) (by decide +kernel)) (by decide +kernel)
theorem zl_353 : Cond.code ⟨"FrameDeltas$Planner", "costOf", "(III)I"⟩ prog_5_method_4_code 10 (Option.some Jvm.ClassFile.FieldType.int) ∈ zTs := zTs_t (List.mem_of_getElem? (i := 353) (by decide +kernel)) (by decide +kernel)
theorem zl_354 : Cond.methodLink "FrameDeltas$Planner" 76 ⟨"java/lang/Math", "max", "(II)I"⟩ ∈ zTs := zTs_t (List.mem_of_getElem? (i := 354) (by decide +kernel)) (by decide +kernel)
theorem zl_355 : Cond.methodLink "FrameDeltas$Planner" 47 ⟨"java/lang/Integer", "bitCount", "(I)I"⟩ ∈ zTs := zTs_t (List.mem_of_getElem? (i := 355) (by decide +kernel)) (by decide +kernel)
theorem zl_356 : Cond.static ⟨"java/lang/Integer", "bitCount", "(I)I"⟩ ∈ zTs := zTs_t (List.mem_of_getElem? (i := 356) (by decide +kernel)) (by decide +kernel)
theorem zl_357 : Cond.code ⟨"java/lang/Integer", "bitCount", "(I)I"⟩ prog_11_method_49_code 1 (Option.some Jvm.ClassFile.FieldType.int) ∈ zTs := zTs_t (List.mem_of_getElem? (i := 357) (by decide +kernel)) (by decide +kernel)
theorem zl_358 : Cond.constant "java/lang/Integer" 265 (1431655765 : Int32) ∈ zTs := zTs_t (List.mem_of_getElem? (i := 358) (by decide +kernel)) (by decide +kernel)
theorem zl_359 : Cond.constant "java/lang/Integer" 266 (858993459 : Int32) ∈ zTs := zTs_t (List.mem_of_getElem? (i := 359) (by decide +kernel)) (by decide +kernel)
theorem zl_360 : Cond.constant "java/lang/Integer" 267 (252645135 : Int32) ∈ zTs := zTs_t (List.mem_of_getElem? (i := 360) (by decide +kernel)) (by decide +kernel)
theorem zl_361 : Cond.methodLinkNest "FrameDeltas" 146 ⟨"FrameDeltas$State", "frameAt", "(I)LFrameDeltas$Frame;"⟩ "FrameDeltas" ∈ zNs := zNs_t (List.mem_of_getElem? (i := 361) (by decide +kernel)) (by rfl)
theorem zl_362 : Cond.methodLinkNest "FrameDeltas" 150 ⟨"FrameDeltas$Planner", "referenceOf", "(I)I"⟩ "FrameDeltas" ∈ zNs := zNs_t (List.mem_of_getElem? (i := 362) (by decide +kernel)) (by rfl)
theorem zl_364 : Cond.instanceMethod ⟨"FrameDeltas$Planner", "referenceOf", "(I)I"⟩ ∈ zTs := zTs_t (List.mem_of_getElem? (i := 364) (by decide +kernel)) (by decide +kernel)
theorem zl_365 : Cond.code ⟨"FrameDeltas$Planner", "referenceOf", "(I)I"⟩ prog_5_method_5_code 2 (Option.some Jvm.ClassFile.FieldType.int) ∈ zTs := zTs_t (List.mem_of_getElem? (i := 365) (by decide +kernel)) (by decide +kernel)
theorem zl_366 : Cond.methodLinkNest "FrameDeltas" 153 ⟨"FrameDeltas$Coder", "encode", "(LFrameDeltas$Frame;LFrameDeltas$State;I)V"⟩ "FrameDeltas" ∈ zNs := zNs_t (List.mem_of_getElem? (i := 366) (by decide +kernel)) (by rfl)
theorem zl_367 : Cond.methodLink "FrameDeltasLaw" 25 ⟨"FrameDeltas", "frame", "(II)I"⟩ ∈ zTs := zTs_t (List.mem_of_getElem? (i := 367) (by decide +kernel)) (by decide +kernel)
theorem zl_368 : Cond.instanceMethod ⟨"FrameDeltas", "frame", "(II)I"⟩ ∈ zTs := zTs_t (List.mem_of_getElem? (i := 368) (by decide +kernel)) (by decide +kernel)
theorem zl_369 : Cond.selects "FrameDeltas" ⟨"FrameDeltas", "frame", "(II)I"⟩ ⟨"FrameDeltas", "frame", "(II)I"⟩ ∈ zTs := zTs_t (List.mem_of_getElem? (i := 369) (by decide +kernel)) (by decide +kernel)
theorem zl_370 : Cond.code ⟨"FrameDeltas", "frame", "(II)I"⟩ prog_1_method_16_code 4 (Option.some Jvm.ClassFile.FieldType.int) ∈ zTs := zTs_t (List.mem_of_getElem? (i := 370) (by decide +kernel)) (by decide +kernel)
theorem zl_371 : Cond.methodLinkNest "FrameDeltas" 133 ⟨"FrameDeltas$State", "isFrame", "(I)Z"⟩ "FrameDeltas" ∈ zNs := zNs_t (List.mem_of_getElem? (i := 371) (by decide +kernel)) (by rfl)
theorem zl_373 : Cond.instanceMethod ⟨"FrameDeltas$State", "isFrame", "(I)Z"⟩ ∈ zTs := zTs_t (List.mem_of_getElem? (i := 373) (by decide +kernel)) (by decide +kernel)
theorem zl_374 : Cond.code ⟨"FrameDeltas$State", "isFrame", "(I)Z"⟩ prog_8_method_4_code 2 (Option.some Jvm.ClassFile.FieldType.boolean) ∈ zTs := zTs_t (List.mem_of_getElem? (i := 374) (by decide +kernel)) (by decide +kernel)
theorem zl_375 : Cond.methodLinkNest "FrameDeltas" 180 ⟨"FrameDeltas$State", "seekCost", "(I)I"⟩ "FrameDeltas" ∈ zNs := zNs_t (List.mem_of_getElem? (i := 375) (by decide +kernel)) (by rfl)
theorem zl_377 : Cond.instanceMethod ⟨"FrameDeltas$State", "seekCost", "(I)I"⟩ ∈ zTs := zTs_t (List.mem_of_getElem? (i := 377) (by decide +kernel)) (by decide +kernel)
theorem zl_378 : Cond.code ⟨"FrameDeltas$State", "seekCost", "(I)I"⟩ prog_8_method_10_code 5 (Option.some Jvm.ClassFile.FieldType.int) ∈ zTs := zTs_t (List.mem_of_getElem? (i := 378) (by decide +kernel)) (by decide +kernel)
theorem zl_379 : Cond.methodLinkNest "FrameDeltas" 183 ⟨"FrameDeltas$State", "depthOf", "(I)I"⟩ "FrameDeltas" ∈ zNs := zNs_t (List.mem_of_getElem? (i := 379) (by decide +kernel)) (by rfl)
theorem zl_381 : Cond.instanceMethod ⟨"FrameDeltas$State", "depthOf", "(I)I"⟩ ∈ zTs := zTs_t (List.mem_of_getElem? (i := 381) (by decide +kernel)) (by decide +kernel)
theorem zl_382 : Cond.code ⟨"FrameDeltas$State", "depthOf", "(I)I"⟩ prog_8_method_9_code 5 (Option.some Jvm.ClassFile.FieldType.int) ∈ zTs := zTs_t (List.mem_of_getElem? (i := 382) (by decide +kernel)) (by decide +kernel)
theorem zl_383 : Cond.methodLinkNest "FrameDeltas" 119 ⟨"FrameDeltas$State", "isReadable", "(I)Z"⟩ "FrameDeltas" ∈ zNs := zNs_t (List.mem_of_getElem? (i := 383) (by decide +kernel)) (by rfl)
theorem zl_385 : Cond.instanceMethod ⟨"FrameDeltas$State", "isReadable", "(I)Z"⟩ ∈ zTs := zTs_t (List.mem_of_getElem? (i := 385) (by decide +kernel)) (by decide +kernel)
theorem zl_386 : Cond.code ⟨"FrameDeltas$State", "isReadable", "(I)Z"⟩ prog_8_method_7_code 4 (Option.some Jvm.ClassFile.FieldType.boolean) ∈ zTs := zTs_t (List.mem_of_getElem? (i := 386) (by decide +kernel)) (by decide +kernel)
theorem zl_387 : Cond.methodLinkNest "FrameDeltas" 186 ⟨"FrameDeltas$Frame", "codesOfKind", "(I)I"⟩ "FrameDeltas" ∈ zNs := zNs_t (List.mem_of_getElem? (i := 387) (by decide +kernel)) (by rfl)
theorem zl_389 : Cond.instanceMethod ⟨"FrameDeltas$Frame", "codesOfKind", "(I)I"⟩ ∈ zTs := zTs_t (List.mem_of_getElem? (i := 389) (by decide +kernel)) (by decide +kernel)
theorem zl_390 : Cond.code ⟨"FrameDeltas$Frame", "codesOfKind", "(I)I"⟩ prog_3_method_5_code 4 (Option.some Jvm.ClassFile.FieldType.int) ∈ zTs := zTs_t (List.mem_of_getElem? (i := 390) (by decide +kernel)) (by decide +kernel)
theorem zl_391 : Cond.methodLinkNest "FrameDeltas$Frame" 43 ⟨"FrameDeltas$Image", "blocks", "()I"⟩ "FrameDeltas" ∈ zNs := zNs_t (List.mem_of_getElem? (i := 391) (by decide +kernel)) (by rfl)
theorem zl_392 : Cond.methodLink "FrameDeltas$Frame" 47 ⟨"FrameDeltas$Frame", "codePart", "(II)I"⟩ ∈ zTs := zTs_t (List.mem_of_getElem? (i := 392) (by decide +kernel)) (by decide +kernel)
theorem zl_394 : Cond.instanceMethod ⟨"FrameDeltas$Frame", "codePart", "(II)I"⟩ ∈ zTs := zTs_t (List.mem_of_getElem? (i := 394) (by decide +kernel)) (by decide +kernel)
theorem zl_395 : Cond.code ⟨"FrameDeltas$Frame", "codePart", "(II)I"⟩ prog_3_method_3_code 4 (Option.some Jvm.ClassFile.FieldType.int) ∈ zTs := zTs_t (List.mem_of_getElem? (i := 395) (by decide +kernel)) (by decide +kernel)
theorem zl_396 : Cond.methodLink "FrameDeltasLaw" 12 ⟨"FrameDeltas", "count", "(I)I"⟩ ∈ zTs := zTs_t (List.mem_of_getElem? (i := 396) (by decide +kernel)) (by decide +kernel)
theorem zl_397 : Cond.instanceMethod ⟨"FrameDeltas", "count", "(I)I"⟩ ∈ zTs := zTs_t (List.mem_of_getElem? (i := 397) (by decide +kernel)) (by decide +kernel)
theorem zl_398 : Cond.selects "FrameDeltas" ⟨"FrameDeltas", "count", "(I)I"⟩ ⟨"FrameDeltas", "count", "(I)I"⟩ ∈ zTs := zTs_t (List.mem_of_getElem? (i := 398) (by decide +kernel)) (by decide +kernel)
theorem zl_399 : Cond.code ⟨"FrameDeltas", "count", "(I)I"⟩ prog_1_method_20_code 2 (Option.some Jvm.ClassFile.FieldType.int) ∈ zTs := zTs_t (List.mem_of_getElem? (i := 399) (by decide +kernel)) (by decide +kernel)
theorem zl_400 : Cond.methodLinkNest "FrameDeltas" 223 ⟨"FrameDeltas$State", "costOfRecords", "()I"⟩ "FrameDeltas" ∈ zNs := zNs_t (List.mem_of_getElem? (i := 400) (by decide +kernel)) (by rfl)
theorem zl_402 : Cond.instanceMethod ⟨"FrameDeltas$State", "costOfRecords", "()I"⟩ ∈ zTs := zTs_t (List.mem_of_getElem? (i := 402) (by decide +kernel)) (by decide +kernel)
theorem zl_403 : Cond.code ⟨"FrameDeltas$State", "costOfRecords", "()I"⟩ prog_8_method_13_code 3 (Option.some Jvm.ClassFile.FieldType.int) ∈ zTs := zTs_t (List.mem_of_getElem? (i := 403) (by decide +kernel)) (by decide +kernel)
theorem zl_404 : Cond.methodLinkNest "FrameDeltas" 173 ⟨"FrameDeltas$State", "readableFrames", "()I"⟩ "FrameDeltas" ∈ zNs := zNs_t (List.mem_of_getElem? (i := 404) (by decide +kernel)) (by rfl)
theorem zl_406 : Cond.instanceMethod ⟨"FrameDeltas$State", "readableFrames", "()I"⟩ ∈ zTs := zTs_t (List.mem_of_getElem? (i := 406) (by decide +kernel)) (by decide +kernel)
theorem zl_407 : Cond.code ⟨"FrameDeltas$State", "readableFrames", "()I"⟩ prog_8_method_12_code 3 (Option.some Jvm.ClassFile.FieldType.int) ∈ zTs := zTs_t (List.mem_of_getElem? (i := 407) (by decide +kernel)) (by decide +kernel)
theorem zl_408 : Cond.methodLink "FrameDeltas$State" 67 ⟨"FrameDeltas$State", "isReadable", "(I)Z"⟩ ∈ zTs := zTs_t (List.mem_of_getElem? (i := 408) (by decide +kernel)) (by decide +kernel)
theorem zl_409 : Cond.methodLink "FrameDeltasLaw" 76 ⟨"FrameDeltas", "costWith", "(I)I"⟩ ∈ zTs := zTs_t (List.mem_of_getElem? (i := 409) (by decide +kernel)) (by decide +kernel)
theorem zl_410 : Cond.instanceMethod ⟨"FrameDeltas", "costWith", "(I)I"⟩ ∈ zTs := zTs_t (List.mem_of_getElem? (i := 410) (by decide +kernel)) (by decide +kernel)
theorem zl_411 : Cond.selects "FrameDeltas" ⟨"FrameDeltas", "costWith", "(I)I"⟩ ⟨"FrameDeltas", "costWith", "(I)I"⟩ ∈ zTs := zTs_t (List.mem_of_getElem? (i := 411) (by decide +kernel)) (by decide +kernel)
theorem zl_412 : Cond.code ⟨"FrameDeltas", "costWith", "(I)I"⟩ prog_1_method_21_code 2 (Option.some Jvm.ClassFile.FieldType.int) ∈ zTs := zTs_t (List.mem_of_getElem? (i := 412) (by decide +kernel)) (by decide +kernel)
theorem zl_413 : Cond.methodLinkNest "FrameDeltas" 112 ⟨"FrameDeltas$State", "isImage", "(I)Z"⟩ "FrameDeltas" ∈ zNs := zNs_t (List.mem_of_getElem? (i := 413) (by decide +kernel)) (by rfl)
theorem zl_415 : Cond.instanceMethod ⟨"FrameDeltas$State", "isImage", "(I)Z"⟩ ∈ zTs := zTs_t (List.mem_of_getElem? (i := 415) (by decide +kernel)) (by decide +kernel)
theorem zl_416 : Cond.code ⟨"FrameDeltas$State", "isImage", "(I)Z"⟩ prog_8_method_5_code 2 (Option.some Jvm.ClassFile.FieldType.boolean) ∈ zTs := zTs_t (List.mem_of_getElem? (i := 416) (by decide +kernel)) (by decide +kernel)
theorem zl_417 : Cond.methodLink "FrameDeltas$State" 53 ⟨"FrameDeltas$State", "isFrame", "(I)Z"⟩ ∈ zTs := zTs_t (List.mem_of_getElem? (i := 417) (by decide +kernel)) (by decide +kernel)
theorem zl_418 : Cond.methodLink "FrameDeltas" 226 ⟨"FrameDeltas", "costOfCanvas", "(I)I"⟩ ∈ zTs := zTs_t (List.mem_of_getElem? (i := 418) (by decide +kernel)) (by decide +kernel)
theorem zl_420 : Cond.instanceMethod ⟨"FrameDeltas", "costOfCanvas", "(I)I"⟩ ∈ zTs := zTs_t (List.mem_of_getElem? (i := 420) (by decide +kernel)) (by decide +kernel)
theorem zl_421 : Cond.code ⟨"FrameDeltas", "costOfCanvas", "(I)I"⟩ prog_1_method_35_code 2 (Option.some Jvm.ClassFile.FieldType.int) ∈ zTs := zTs_t (List.mem_of_getElem? (i := 421) (by decide +kernel)) (by decide +kernel)
theorem zl_422 : Cond.methodLinkNest "FrameDeltas" 265 ⟨"FrameDeltas$Image", "take", "(LFrameDeltas$Image;)V"⟩ "FrameDeltas" ∈ zNs := zNs_t (List.mem_of_getElem? (i := 422) (by decide +kernel)) (by rfl)
theorem zl_423 : Cond.methodLink "FrameDeltasLaw" 83 ⟨"FrameDeltas", "difference", "(II)I"⟩ ∈ zTs := zTs_t (List.mem_of_getElem? (i := 423) (by decide +kernel)) (by decide +kernel)
theorem zl_424 : Cond.instanceMethod ⟨"FrameDeltas", "difference", "(II)I"⟩ ∈ zTs := zTs_t (List.mem_of_getElem? (i := 424) (by decide +kernel)) (by decide +kernel)
theorem zl_425 : Cond.selects "FrameDeltas" ⟨"FrameDeltas", "difference", "(II)I"⟩ ⟨"FrameDeltas", "difference", "(II)I"⟩ ∈ zTs := zTs_t (List.mem_of_getElem? (i := 425) (by decide +kernel)) (by decide +kernel)
theorem zl_426 : Cond.code ⟨"FrameDeltas", "difference", "(II)I"⟩ prog_1_method_22_code 3 (Option.some Jvm.ClassFile.FieldType.int) ∈ zTs := zTs_t (List.mem_of_getElem? (i := 426) (by decide +kernel)) (by decide +kernel)
theorem zl_427 : Cond.methodLinkNest "FrameDeltas" 122 ⟨"FrameDeltas$State", "imageOf", "(I)LFrameDeltas$Image;"⟩ "FrameDeltas" ∈ zNs := zNs_t (List.mem_of_getElem? (i := 427) (by decide +kernel)) (by rfl)
theorem zl_428 : Cond.methodLinkNest "FrameDeltas" 229 ⟨"FrameDeltas$Image", "cellsUnlike", "(LFrameDeltas$Image;)I"⟩ "FrameDeltas" ∈ zNs := zNs_t (List.mem_of_getElem? (i := 428) (by decide +kernel)) (by rfl)
theorem zl_430 : Cond.instanceMethod ⟨"FrameDeltas$Image", "cellsUnlike", "(LFrameDeltas$Image;)I"⟩ ∈ zTs := zTs_t (List.mem_of_getElem? (i := 430) (by decide +kernel)) (by decide +kernel)
theorem zl_431 : Cond.code ⟨"FrameDeltas$Image", "cellsUnlike", "(LFrameDeltas$Image;)I"⟩ prog_4_method_15_code 4 (Option.some Jvm.ClassFile.FieldType.int) ∈ zTs := zTs_t (List.mem_of_getElem? (i := 431) (by decide +kernel)) (by decide +kernel)
theorem zl_432 : Cond.methodLink "FrameDeltas$Image" 41 ⟨"FrameDeltas$Image", "numbered", "(I)I"⟩ ∈ zTs := zTs_t (List.mem_of_getElem? (i := 432) (by decide +kernel)) (by decide +kernel)
theorem zl_434 : Cond.instanceMethod ⟨"FrameDeltas$Image", "numbered", "(I)I"⟩ ∈ zTs := zTs_t (List.mem_of_getElem? (i := 434) (by decide +kernel)) (by decide +kernel)
theorem zl_435 : Cond.code ⟨"FrameDeltas$Image", "numbered", "(I)I"⟩ prog_4_method_5_code 2 (Option.some Jvm.ClassFile.FieldType.int) ∈ zTs := zTs_t (List.mem_of_getElem? (i := 435) (by decide +kernel)) (by decide +kernel)
theorem zl_436 : Cond.methodLink "FrameDeltasLaw" 95 ⟨"FrameDeltas", "greatestSeek", "()I"⟩ ∈ zTs := zTs_t (List.mem_of_getElem? (i := 436) (by decide +kernel)) (by decide +kernel)
theorem zl_437 : Cond.instanceMethod ⟨"FrameDeltas", "greatestSeek", "()I"⟩ ∈ zTs := zTs_t (List.mem_of_getElem? (i := 437) (by decide +kernel)) (by decide +kernel)
theorem zl_438 : Cond.selects "FrameDeltas" ⟨"FrameDeltas", "greatestSeek", "()I"⟩ ⟨"FrameDeltas", "greatestSeek", "()I"⟩ ∈ zTs := zTs_t (List.mem_of_getElem? (i := 438) (by decide +kernel)) (by decide +kernel)
theorem zl_439 : Cond.code ⟨"FrameDeltas", "greatestSeek", "()I"⟩ prog_1_method_25_code 3 (Option.some Jvm.ClassFile.FieldType.int) ∈ zTs := zTs_t (List.mem_of_getElem? (i := 439) (by decide +kernel)) (by decide +kernel)
theorem zl_440 : Cond.methodLink "FrameDeltas" 246 ⟨"java/lang/Math", "max", "(II)I"⟩ ∈ zTs := zTs_t (List.mem_of_getElem? (i := 440) (by decide +kernel)) (by decide +kernel)
theorem zl_441 : Cond.methodLink "FrameDeltasLaw" 89 ⟨"FrameDeltas", "dependents", "(I)I"⟩ ∈ zTs := zTs_t (List.mem_of_getElem? (i := 441) (by decide +kernel)) (by decide +kernel)
theorem zl_442 : Cond.instanceMethod ⟨"FrameDeltas", "dependents", "(I)I"⟩ ∈ zTs := zTs_t (List.mem_of_getElem? (i := 442) (by decide +kernel)) (by decide +kernel)
theorem zl_443 : Cond.selects "FrameDeltas" ⟨"FrameDeltas", "dependents", "(I)I"⟩ ⟨"FrameDeltas", "dependents", "(I)I"⟩ ∈ zTs := zTs_t (List.mem_of_getElem? (i := 443) (by decide +kernel)) (by decide +kernel)
theorem zl_444 : Cond.code ⟨"FrameDeltas", "dependents", "(I)I"⟩ prog_1_method_26_code 4 (Option.some Jvm.ClassFile.FieldType.int) ∈ zTs := zTs_t (List.mem_of_getElem? (i := 444) (by decide +kernel)) (by decide +kernel)
theorem zl_445 : Cond.methodLinkNest "FrameDeltas" 251 ⟨"FrameDeltas$State", "chainHas", "(II)Z"⟩ "FrameDeltas" ∈ zNs := zNs_t (List.mem_of_getElem? (i := 445) (by decide +kernel)) (by rfl)
theorem zl_447 : Cond.instanceMethod ⟨"FrameDeltas$State", "chainHas", "(II)Z"⟩ ∈ zTs := zTs_t (List.mem_of_getElem? (i := 447) (by decide +kernel)) (by decide +kernel)
theorem zl_448 : Cond.code ⟨"FrameDeltas$State", "chainHas", "(II)Z"⟩ prog_8_method_11_code 5 (Option.some Jvm.ClassFile.FieldType.boolean) ∈ zTs := zTs_t (List.mem_of_getElem? (i := 448) (by decide +kernel)) (by decide +kernel)
theorem zl_449 : Cond.methodLink "FrameDeltasLaw" 92 ⟨"FrameDeltas", "planCost", "()I"⟩ ∈ zTs := zTs_t (List.mem_of_getElem? (i := 449) (by decide +kernel)) (by decide +kernel)
theorem zl_450 : Cond.instanceMethod ⟨"FrameDeltas", "planCost", "()I"⟩ ∈ zTs := zTs_t (List.mem_of_getElem? (i := 450) (by decide +kernel)) (by decide +kernel)
theorem zl_451 : Cond.selects "FrameDeltas" ⟨"FrameDeltas", "planCost", "()I"⟩ ⟨"FrameDeltas", "planCost", "()I"⟩ ∈ zTs := zTs_t (List.mem_of_getElem? (i := 451) (by decide +kernel)) (by decide +kernel)
theorem zl_452 : Cond.code ⟨"FrameDeltas", "planCost", "()I"⟩ prog_1_method_28_code 1 (Option.some Jvm.ClassFile.FieldType.int) ∈ zTs := zTs_t (List.mem_of_getElem? (i := 452) (by decide +kernel)) (by decide +kernel)
theorem zl_453 : Cond.methodLink "FrameDeltasLaw" 86 ⟨"FrameDeltas", "undo", "()I"⟩ ∈ zTs := zTs_t (List.mem_of_getElem? (i := 453) (by decide +kernel)) (by decide +kernel)
theorem zl_454 : Cond.instanceMethod ⟨"FrameDeltas", "undo", "()I"⟩ ∈ zTs := zTs_t (List.mem_of_getElem? (i := 454) (by decide +kernel)) (by decide +kernel)
theorem zl_455 : Cond.selects "FrameDeltas" ⟨"FrameDeltas", "undo", "()I"⟩ ⟨"FrameDeltas", "undo", "()I"⟩ ∈ zTs := zTs_t (List.mem_of_getElem? (i := 455) (by decide +kernel)) (by decide +kernel)
theorem zl_456 : Cond.code ⟨"FrameDeltas", "undo", "()I"⟩ prog_1_method_30_code 1 (Option.some Jvm.ClassFile.FieldType.int) ∈ zTs := zTs_t (List.mem_of_getElem? (i := 456) (by decide +kernel)) (by decide +kernel)
theorem zl_457 : Cond.methodLink "FrameDeltasLaw" 69 ⟨"FrameDeltasLaw", "cell", "([II)I"⟩ ∈ zTs := zTs_t (List.mem_of_getElem? (i := 457) (by decide +kernel)) (by decide +kernel)
theorem zl_458 : Cond.static ⟨"FrameDeltasLaw", "cell", "([II)I"⟩ ∈ zTs := zTs_t (List.mem_of_getElem? (i := 458) (by decide +kernel)) (by decide +kernel)
theorem zl_459 : Cond.code ⟨"FrameDeltasLaw", "cell", "([II)I"⟩ method_2_code 2 (Option.some Jvm.ClassFile.FieldType.int) ∈ zTs := zTs_t (List.mem_of_getElem? (i := 459) (by decide +kernel)) (by decide +kernel)
theorem zl_460 : Cond.methodLink "FrameDeltasLaw" 72 ⟨"FrameDeltasLaw", "tale", "(LFrameDeltas;)J"⟩ ∈ zTs := zTs_t (List.mem_of_getElem? (i := 460) (by decide +kernel)) (by decide +kernel)
theorem zl_461 : Cond.static ⟨"FrameDeltasLaw", "tale", "(LFrameDeltas;)J"⟩ ∈ zTs := zTs_t (List.mem_of_getElem? (i := 461) (by decide +kernel)) (by decide +kernel)
theorem zl_462 : Cond.code ⟨"FrameDeltasLaw", "tale", "(LFrameDeltas;)J"⟩ method_4_code 5 (Option.some Jvm.ClassFile.FieldType.long) ∈ zTs := zTs_t (List.mem_of_getElem? (i := 462) (by decide +kernel)) (by decide +kernel)
theorem zl_463 : Cond.constantLong "FrameDeltasLaw" 8 (3 : Int64) ∈ zTs := zTs_t (List.mem_of_getElem? (i := 463) (by decide +kernel)) (by decide +kernel)
theorem zl_464 : Cond.constantLong "FrameDeltasLaw" 10 (31 : Int64) ∈ zTs := zTs_t (List.mem_of_getElem? (i := 464) (by decide +kernel)) (by decide +kernel)
theorem zl_465 : Cond.constantLong "FrameDeltasLaw" 18 (37 : Int64) ∈ zTs := zTs_t (List.mem_of_getElem? (i := 465) (by decide +kernel)) (by decide +kernel)
theorem zl_466 : Cond.methodLink "FrameDeltasLaw" 20 ⟨"FrameDeltas", "cell", "(I)I"⟩ ∈ zTs := zTs_t (List.mem_of_getElem? (i := 466) (by decide +kernel)) (by decide +kernel)
theorem zl_467 : Cond.instanceMethod ⟨"FrameDeltas", "cell", "(I)I"⟩ ∈ zTs := zTs_t (List.mem_of_getElem? (i := 467) (by decide +kernel)) (by decide +kernel)
theorem zl_468 : Cond.selects "FrameDeltas" ⟨"FrameDeltas", "cell", "(I)I"⟩ ⟨"FrameDeltas", "cell", "(I)I"⟩ ∈ zTs := zTs_t (List.mem_of_getElem? (i := 468) (by decide +kernel)) (by decide +kernel)
theorem zl_469 : Cond.code ⟨"FrameDeltas", "cell", "(I)I"⟩ prog_1_method_4_code 2 (Option.some Jvm.ClassFile.FieldType.int) ∈ zTs := zTs_t (List.mem_of_getElem? (i := 469) (by decide +kernel)) (by decide +kernel)
theorem zl_470 : Cond.methodLinkNest "FrameDeltas" 87 ⟨"FrameDeltas$Image", "hasCell", "(I)Z"⟩ "FrameDeltas" ∈ zNs := zNs_t (List.mem_of_getElem? (i := 470) (by decide +kernel)) (by rfl)
theorem zl_472 : Cond.instanceMethod ⟨"FrameDeltas$Image", "hasCell", "(I)Z"⟩ ∈ zTs := zTs_t (List.mem_of_getElem? (i := 472) (by decide +kernel)) (by decide +kernel)
theorem zl_473 : Cond.code ⟨"FrameDeltas$Image", "hasCell", "(I)Z"⟩ prog_4_method_4_code 2 (Option.some Jvm.ClassFile.FieldType.boolean) ∈ zTs := zTs_t (List.mem_of_getElem? (i := 473) (by decide +kernel)) (by decide +kernel)
theorem zl_474 : Cond.methodLinkNest "FrameDeltas" 90 ⟨"FrameDeltas$Image", "numbered", "(I)I"⟩ "FrameDeltas" ∈ zNs := zNs_t (List.mem_of_getElem? (i := 474) (by decide +kernel)) (by rfl)
theorem zl_475 : Cond.constantLong "FrameDeltasLaw" 23 (41 : Int64) ∈ zTs := zTs_t (List.mem_of_getElem? (i := 475) (by decide +kernel)) (by decide +kernel)
theorem zl_476 : Cond.constantLong "FrameDeltasLaw" 29 (43 : Int64) ∈ zTs := zTs_t (List.mem_of_getElem? (i := 476) (by decide +kernel)) (by decide +kernel)
theorem zl_477 : Cond.methodLink "FrameDeltasLaw" 31 ⟨"FrameDeltas", "pixel", "(II)I"⟩ ∈ zTs := zTs_t (List.mem_of_getElem? (i := 477) (by decide +kernel)) (by decide +kernel)
theorem zl_478 : Cond.instanceMethod ⟨"FrameDeltas", "pixel", "(II)I"⟩ ∈ zTs := zTs_t (List.mem_of_getElem? (i := 478) (by decide +kernel)) (by decide +kernel)
theorem zl_479 : Cond.selects "FrameDeltas" ⟨"FrameDeltas", "pixel", "(II)I"⟩ ⟨"FrameDeltas", "pixel", "(II)I"⟩ ∈ zTs := zTs_t (List.mem_of_getElem? (i := 479) (by decide +kernel)) (by decide +kernel)
theorem zl_480 : Cond.code ⟨"FrameDeltas", "pixel", "(II)I"⟩ prog_1_method_19_code 3 (Option.some Jvm.ClassFile.FieldType.int) ∈ zTs := zTs_t (List.mem_of_getElem? (i := 480) (by decide +kernel)) (by decide +kernel)
theorem zl_481 : Cond.methodLink "FrameDeltasLaw" 79 ⟨"FrameDeltasLaw", "does", "(LFrameDeltas;I)I"⟩ ∈ zTs := zTs_t (List.mem_of_getElem? (i := 481) (by decide +kernel)) (by decide +kernel)
theorem zl_482 : Cond.static ⟨"FrameDeltasLaw", "does", "(LFrameDeltas;I)I"⟩ ∈ zTs := zTs_t (List.mem_of_getElem? (i := 482) (by decide +kernel)) (by decide +kernel)
theorem zl_483 : Cond.code ⟨"FrameDeltasLaw", "does", "(LFrameDeltas;I)I"⟩ method_5_code 2 (Option.some Jvm.ClassFile.FieldType.int) ∈ zTs := zTs_t (List.mem_of_getElem? (i := 483) (by decide +kernel)) (by decide +kernel)
theorem zl_484 : Cond.methodLink "FrameDeltasLaw" 34 ⟨"FrameDeltasLaw", "low", "(II)I"⟩ ∈ zTs := zTs_t (List.mem_of_getElem? (i := 484) (by decide +kernel)) (by decide +kernel)
theorem zl_485 : Cond.static ⟨"FrameDeltasLaw", "low", "(II)I"⟩ ∈ zTs := zTs_t (List.mem_of_getElem? (i := 485) (by decide +kernel)) (by decide +kernel)
theorem zl_486 : Cond.code ⟨"FrameDeltasLaw", "low", "(II)I"⟩ method_3_code 2 (Option.some Jvm.ClassFile.FieldType.int) ∈ zTs := zTs_t (List.mem_of_getElem? (i := 486) (by decide +kernel)) (by decide +kernel)
theorem zl_487 : Cond.constant "FrameDeltasLaw" 7 (2147483647 : Int32) ∈ zTs := zTs_t (List.mem_of_getElem? (i := 487) (by decide +kernel)) (by decide +kernel)
theorem zl_488 : Cond.methodLink "FrameDeltasLaw" 39 ⟨"FrameDeltas", "setSize", "(II)I"⟩ ∈ zTs := zTs_t (List.mem_of_getElem? (i := 488) (by decide +kernel)) (by decide +kernel)
theorem zl_489 : Cond.instanceMethod ⟨"FrameDeltas", "setSize", "(II)I"⟩ ∈ zTs := zTs_t (List.mem_of_getElem? (i := 489) (by decide +kernel)) (by decide +kernel)
theorem zl_490 : Cond.selects "FrameDeltas" ⟨"FrameDeltas", "setSize", "(II)I"⟩ ⟨"FrameDeltas", "setSize", "(II)I"⟩ ∈ zTs := zTs_t (List.mem_of_getElem? (i := 490) (by decide +kernel)) (by decide +kernel)
theorem zl_491 : Cond.code ⟨"FrameDeltas", "setSize", "(II)I"⟩ prog_1_method_2_code 3 (Option.some Jvm.ClassFile.FieldType.int) ∈ zTs := zTs_t (List.mem_of_getElem? (i := 491) (by decide +kernel)) (by decide +kernel)
theorem zl_492 : Cond.methodLink "FrameDeltas" 66 ⟨"FrameDeltas", "isSize", "(I)Z"⟩ ∈ zTs := zTs_t (List.mem_of_getElem? (i := 492) (by decide +kernel)) (by decide +kernel)
theorem zl_493 : Cond.static ⟨"FrameDeltas", "isSize", "(I)Z"⟩ ∈ zTs := zTs_t (List.mem_of_getElem? (i := 493) (by decide +kernel)) (by decide +kernel)
theorem zl_494 : Cond.code ⟨"FrameDeltas", "isSize", "(I)Z"⟩ prog_1_method_31_code 1 (Option.some Jvm.ClassFile.FieldType.boolean) ∈ zTs := zTs_t (List.mem_of_getElem? (i := 494) (by decide +kernel)) (by decide +kernel)
theorem zl_495 : Cond.methodLinkNest "FrameDeltas" 79 ⟨"FrameDeltas$Image", "reset", "(II)V"⟩ "FrameDeltas" ∈ zNs := zNs_t (List.mem_of_getElem? (i := 495) (by decide +kernel)) (by rfl)
theorem zl_497 : Cond.instanceMethod ⟨"FrameDeltas$Image", "reset", "(II)V"⟩ ∈ zTs := zTs_t (List.mem_of_getElem? (i := 497) (by decide +kernel)) (by decide +kernel)
theorem zl_498 : Cond.code ⟨"FrameDeltas$Image", "reset", "(II)V"⟩ prog_4_method_2_code 4 (Option.none : Option Jvm.ClassFile.FieldType) ∈ zTs := zTs_t (List.mem_of_getElem? (i := 498) (by decide +kernel)) (by decide +kernel)
theorem zl_499 : Cond.methodLinkNest "FrameDeltas" 83 ⟨"FrameDeltas$Image", "blocks", "()I"⟩ "FrameDeltas" ∈ zNs := zNs_t (List.mem_of_getElem? (i := 499) (by decide +kernel)) (by rfl)
theorem zl_500 : Cond.methodLink "FrameDeltasLaw" 46 ⟨"FrameDeltas", "setLimits", "(III)I"⟩ ∈ zTs := zTs_t (List.mem_of_getElem? (i := 500) (by decide +kernel)) (by decide +kernel)
theorem zl_501 : Cond.instanceMethod ⟨"FrameDeltas", "setLimits", "(III)I"⟩ ∈ zTs := zTs_t (List.mem_of_getElem? (i := 501) (by decide +kernel)) (by decide +kernel)
theorem zl_502 : Cond.selects "FrameDeltas" ⟨"FrameDeltas", "setLimits", "(III)I"⟩ ⟨"FrameDeltas", "setLimits", "(III)I"⟩ ∈ zTs := zTs_t (List.mem_of_getElem? (i := 502) (by decide +kernel)) (by decide +kernel)
theorem zl_503 : Cond.code ⟨"FrameDeltas", "setLimits", "(III)I"⟩ prog_1_method_14_code 5 (Option.some Jvm.ClassFile.FieldType.int) ∈ zTs := zTs_t (List.mem_of_getElem? (i := 503) (by decide +kernel)) (by decide +kernel)
theorem zl_504 : Cond.methodLink "FrameDeltasLaw" 50 ⟨"FrameDeltas", "removeLast", "()I"⟩ ∈ zTs := zTs_t (List.mem_of_getElem? (i := 504) (by decide +kernel)) (by decide +kernel)
theorem zl_505 : Cond.instanceMethod ⟨"FrameDeltas", "removeLast", "()I"⟩ ∈ zTs := zTs_t (List.mem_of_getElem? (i := 505) (by decide +kernel)) (by decide +kernel)
theorem zl_506 : Cond.selects "FrameDeltas" ⟨"FrameDeltas", "removeLast", "()I"⟩ ⟨"FrameDeltas", "removeLast", "()I"⟩ ∈ zTs := zTs_t (List.mem_of_getElem? (i := 506) (by decide +kernel)) (by decide +kernel)
theorem zl_507 : Cond.code ⟨"FrameDeltas", "removeLast", "()I"⟩ prog_1_method_12_code 1 (Option.some Jvm.ClassFile.FieldType.int) ∈ zTs := zTs_t (List.mem_of_getElem? (i := 507) (by decide +kernel)) (by decide +kernel)
theorem zl_508 : Cond.methodLink "FrameDeltasLaw" 53 ⟨"FrameDeltas", "setLost", "(II)I"⟩ ∈ zTs := zTs_t (List.mem_of_getElem? (i := 508) (by decide +kernel)) (by decide +kernel)
theorem zl_509 : Cond.instanceMethod ⟨"FrameDeltas", "setLost", "(II)I"⟩ ∈ zTs := zTs_t (List.mem_of_getElem? (i := 509) (by decide +kernel)) (by decide +kernel)
theorem zl_510 : Cond.selects "FrameDeltas" ⟨"FrameDeltas", "setLost", "(II)I"⟩ ⟨"FrameDeltas", "setLost", "(II)I"⟩ ∈ zTs := zTs_t (List.mem_of_getElem? (i := 510) (by decide +kernel)) (by decide +kernel)
theorem zl_511 : Cond.code ⟨"FrameDeltas", "setLost", "(II)I"⟩ prog_1_method_15_code 4 (Option.some Jvm.ClassFile.FieldType.int) ∈ zTs := zTs_t (List.mem_of_getElem? (i := 511) (by decide +kernel)) (by decide +kernel)
theorem zl_512 : Cond.methodLink "FrameDeltasLaw" 56 ⟨"FrameDeltas", "addKey", "()I"⟩ ∈ zTs := zTs_t (List.mem_of_getElem? (i := 512) (by decide +kernel)) (by decide +kernel)
theorem zl_513 : Cond.instanceMethod ⟨"FrameDeltas", "addKey", "()I"⟩ ∈ zTs := zTs_t (List.mem_of_getElem? (i := 513) (by decide +kernel)) (by decide +kernel)
theorem zl_514 : Cond.selects "FrameDeltas" ⟨"FrameDeltas", "addKey", "()I"⟩ ⟨"FrameDeltas", "addKey", "()I"⟩ ∈ zTs := zTs_t (List.mem_of_getElem? (i := 514) (by decide +kernel)) (by decide +kernel)
theorem zl_515 : Cond.code ⟨"FrameDeltas", "addKey", "()I"⟩ prog_1_method_9_code 1 (Option.some Jvm.ClassFile.FieldType.int) ∈ zTs := zTs_t (List.mem_of_getElem? (i := 515) (by decide +kernel)) (by decide +kernel)
theorem zl_516 : Cond.methodLink "FrameDeltas" 130 ⟨"FrameDeltas", "add", "(I)I"⟩ ∈ zTs := zTs_t (List.mem_of_getElem? (i := 516) (by decide +kernel)) (by decide +kernel)
theorem zl_518 : Cond.instanceMethod ⟨"FrameDeltas", "add", "(I)I"⟩ ∈ zTs := zTs_t (List.mem_of_getElem? (i := 518) (by decide +kernel)) (by decide +kernel)
theorem zl_519 : Cond.code ⟨"FrameDeltas", "add", "(I)I"⟩ prog_1_method_34_code 3 (Option.some Jvm.ClassFile.FieldType.int) ∈ zTs := zTs_t (List.mem_of_getElem? (i := 519) (by decide +kernel)) (by decide +kernel)
theorem zl_520 : Cond.methodLink "FrameDeltasLaw" 59 ⟨"FrameDeltas", "addDelta", "(I)I"⟩ ∈ zTs := zTs_t (List.mem_of_getElem? (i := 520) (by decide +kernel)) (by decide +kernel)
theorem zl_521 : Cond.instanceMethod ⟨"FrameDeltas", "addDelta", "(I)I"⟩ ∈ zTs := zTs_t (List.mem_of_getElem? (i := 521) (by decide +kernel)) (by decide +kernel)
theorem zl_522 : Cond.selects "FrameDeltas" ⟨"FrameDeltas", "addDelta", "(I)I"⟩ ⟨"FrameDeltas", "addDelta", "(I)I"⟩ ∈ zTs := zTs_t (List.mem_of_getElem? (i := 522) (by decide +kernel)) (by decide +kernel)
theorem zl_523 : Cond.code ⟨"FrameDeltas", "addDelta", "(I)I"⟩ prog_1_method_10_code 2 (Option.some Jvm.ClassFile.FieldType.int) ∈ zTs := zTs_t (List.mem_of_getElem? (i := 523) (by decide +kernel)) (by decide +kernel)
theorem zl_524 : Cond.methodLinkNest "FrameDeltas" 136 ⟨"FrameDeltas$State", "mayBeReference", "(I)Z"⟩ "FrameDeltas" ∈ zNs := zNs_t (List.mem_of_getElem? (i := 524) (by decide +kernel)) (by rfl)
theorem zl_526 : Cond.instanceMethod ⟨"FrameDeltas$State", "mayBeReference", "(I)Z"⟩ ∈ zTs := zTs_t (List.mem_of_getElem? (i := 526) (by decide +kernel)) (by decide +kernel)
theorem zl_527 : Cond.code ⟨"FrameDeltas$State", "mayBeReference", "(I)Z"⟩ prog_8_method_8_code 2 (Option.some Jvm.ClassFile.FieldType.boolean) ∈ zTs := zTs_t (List.mem_of_getElem? (i := 527) (by decide +kernel)) (by decide +kernel)
theorem zl_528 : Cond.methodLink "FrameDeltas$State" 70 ⟨"FrameDeltas$State", "depthOf", "(I)I"⟩ ∈ zTs := zTs_t (List.mem_of_getElem? (i := 528) (by decide +kernel)) (by decide +kernel)
theorem zl_529 : Cond.methodLink "FrameDeltasLaw" 62 ⟨"FrameDeltas", "addChosen", "()I"⟩ ∈ zTs := zTs_t (List.mem_of_getElem? (i := 529) (by decide +kernel)) (by decide +kernel)
theorem zl_530 : Cond.instanceMethod ⟨"FrameDeltas", "addChosen", "()I"⟩ ∈ zTs := zTs_t (List.mem_of_getElem? (i := 530) (by decide +kernel)) (by decide +kernel)
theorem zl_531 : Cond.selects "FrameDeltas" ⟨"FrameDeltas", "addChosen", "()I"⟩ ⟨"FrameDeltas", "addChosen", "()I"⟩ ∈ zTs := zTs_t (List.mem_of_getElem? (i := 531) (by decide +kernel)) (by decide +kernel)
theorem zl_532 : Cond.code ⟨"FrameDeltas", "addChosen", "()I"⟩ prog_1_method_11_code 1 (Option.some Jvm.ClassFile.FieldType.int) ∈ zTs := zTs_t (List.mem_of_getElem? (i := 532) (by decide +kernel)) (by decide +kernel)
theorem zl_533 : Cond.methodLink "FrameDeltas" 139 ⟨"FrameDeltas", "chosenReference", "()I"⟩ ∈ zTs := zTs_t (List.mem_of_getElem? (i := 533) (by decide +kernel)) (by decide +kernel)
theorem zl_535 : Cond.instanceMethod ⟨"FrameDeltas", "chosenReference", "()I"⟩ ∈ zTs := zTs_t (List.mem_of_getElem? (i := 535) (by decide +kernel)) (by decide +kernel)
theorem zl_536 : Cond.code ⟨"FrameDeltas", "chosenReference", "()I"⟩ prog_1_method_36_code 7 (Option.some Jvm.ClassFile.FieldType.int) ∈ zTs := zTs_t (List.mem_of_getElem? (i := 536) (by decide +kernel)) (by decide +kernel)
theorem zl_537 : Cond.methodLink "FrameDeltasLaw" 65 ⟨"FrameDeltas", "setCell", "(II)I"⟩ ∈ zTs := zTs_t (List.mem_of_getElem? (i := 537) (by decide +kernel)) (by decide +kernel)
theorem zl_538 : Cond.instanceMethod ⟨"FrameDeltas", "setCell", "(II)I"⟩ ∈ zTs := zTs_t (List.mem_of_getElem? (i := 538) (by decide +kernel)) (by decide +kernel)
theorem zl_539 : Cond.selects "FrameDeltas" ⟨"FrameDeltas", "setCell", "(II)I"⟩ ⟨"FrameDeltas", "setCell", "(II)I"⟩ ∈ zTs := zTs_t (List.mem_of_getElem? (i := 539) (by decide +kernel)) (by decide +kernel)
theorem zl_540 : Cond.code ⟨"FrameDeltas", "setCell", "(II)I"⟩ prog_1_method_3_code 4 (Option.some Jvm.ClassFile.FieldType.int) ∈ zTs := zTs_t (List.mem_of_getElem? (i := 540) (by decide +kernel)) (by decide +kernel)
theorem zl_541 : Cond.methodLinkNest "FrameDeltas" 94 ⟨"FrameDeltas$Image", "putNumbered", "(II)V"⟩ "FrameDeltas" ∈ zNs := zNs_t (List.mem_of_getElem? (i := 541) (by decide +kernel)) (by rfl)
theorem zl_543 : Cond.instanceMethod ⟨"FrameDeltas$Image", "putNumbered", "(II)V"⟩ ∈ zTs := zTs_t (List.mem_of_getElem? (i := 543) (by decide +kernel)) (by decide +kernel)
theorem zl_544 : Cond.code ⟨"FrameDeltas$Image", "putNumbered", "(II)V"⟩ prog_4_method_6_code 3 (Option.none : Option Jvm.ClassFile.FieldType) ∈ zTs := zTs_t (List.mem_of_getElem? (i := 544) (by decide +kernel)) (by decide +kernel)
theorem zs_0 : Cond.selects "FrameDeltas" ⟨"FrameDeltas", "save", "()V"⟩ ⟨"FrameDeltas", "save", "()V"⟩ ∈ zTs := zTs_l (List.mem_of_getElem? (i := 0) (by decide +kernel)) (by decide +kernel)
theorem zs_1 : Cond.selects "FrameDeltas" ⟨"FrameDeltas", "savedSlot", "(I)LFrameDeltas$State;"⟩ ⟨"FrameDeltas", "savedSlot", "(I)LFrameDeltas$State;"⟩ ∈ zTs := zTs_l (List.mem_of_getElem? (i := 1) (by decide +kernel)) (by decide +kernel)
theorem zs_2 : Cond.selects "FrameDeltas$State" ⟨"FrameDeltas$State", "take", "(LFrameDeltas$State;)V"⟩ ⟨"FrameDeltas$State", "take", "(LFrameDeltas$State;)V"⟩ ∈ zTs := zTs_l (List.mem_of_getElem? (i := 2) (by decide +kernel)) (by decide +kernel)
theorem zs_3 : Cond.selects "FrameDeltas$Image" ⟨"FrameDeltas$Image", "take", "(LFrameDeltas$Image;)V"⟩ ⟨"FrameDeltas$Image", "take", "(LFrameDeltas$Image;)V"⟩ ∈ zTs := zTs_l (List.mem_of_getElem? (i := 3) (by decide +kernel)) (by decide +kernel)
theorem zs_4 : Cond.selects "FrameDeltas$State" ⟨"FrameDeltas$State", "frameAt", "(I)LFrameDeltas$Frame;"⟩ ⟨"FrameDeltas$State", "frameAt", "(I)LFrameDeltas$Frame;"⟩ ∈ zTs := zTs_l (List.mem_of_getElem? (i := 4) (by decide +kernel)) (by decide +kernel)
theorem zs_5 : Cond.selects "FrameDeltas$Frame" ⟨"FrameDeltas$Frame", "take", "(LFrameDeltas$Frame;)V"⟩ ⟨"FrameDeltas$Frame", "take", "(LFrameDeltas$Frame;)V"⟩ ∈ zTs := zTs_l (List.mem_of_getElem? (i := 5) (by decide +kernel)) (by decide +kernel)
theorem zs_6 : Cond.selects "FrameDeltas$Planner" ⟨"FrameDeltas$Planner", "plan", "(LFrameDeltas$State;LFrameDeltas$Coder;LFrameDeltas$Frame;)V"⟩ ⟨"FrameDeltas$Planner", "plan", "(LFrameDeltas$State;LFrameDeltas$Coder;LFrameDeltas$Frame;)V"⟩ ∈ zTs := zTs_l (List.mem_of_getElem? (i := 6) (by decide +kernel)) (by decide +kernel)
theorem zs_7 : Cond.selects "FrameDeltas$Planner" ⟨"FrameDeltas$Planner", "measure", "(LFrameDeltas$State;LFrameDeltas$Coder;LFrameDeltas$Frame;I)V"⟩ ⟨"FrameDeltas$Planner", "measure", "(LFrameDeltas$State;LFrameDeltas$Coder;LFrameDeltas$Frame;I)V"⟩ ∈ zTs := zTs_l (List.mem_of_getElem? (i := 7) (by decide +kernel)) (by decide +kernel)
theorem zs_8 : Cond.selects "FrameDeltas$State" ⟨"FrameDeltas$State", "imageOf", "(I)LFrameDeltas$Image;"⟩ ⟨"FrameDeltas$State", "imageOf", "(I)LFrameDeltas$Image;"⟩ ∈ zTs := zTs_l (List.mem_of_getElem? (i := 8) (by decide +kernel)) (by decide +kernel)
theorem zs_9 : Cond.selects "FrameDeltas$Coder" ⟨"FrameDeltas$Coder", "encode", "(LFrameDeltas$Frame;LFrameDeltas$State;I)V"⟩ ⟨"FrameDeltas$Coder", "encode", "(LFrameDeltas$Frame;LFrameDeltas$State;I)V"⟩ ∈ zTs := zTs_l (List.mem_of_getElem? (i := 9) (by decide +kernel)) (by decide +kernel)
theorem zs_10 : Cond.selects "FrameDeltas$Image" ⟨"FrameDeltas$Image", "blocks", "()I"⟩ ⟨"FrameDeltas$Image", "blocks", "()I"⟩ ∈ zTs := zTs_l (List.mem_of_getElem? (i := 10) (by decide +kernel)) (by decide +kernel)
theorem zs_11 : Cond.selects "FrameDeltas$Coder" ⟨"FrameDeltas$Coder", "encodeRaw", "(LFrameDeltas$Frame;I)I"⟩ ⟨"FrameDeltas$Coder", "encodeRaw", "(LFrameDeltas$Frame;I)I"⟩ ∈ zTs := zTs_l (List.mem_of_getElem? (i := 11) (by decide +kernel)) (by decide +kernel)
theorem zs_12 : Cond.selects "FrameDeltas$RunList" ⟨"FrameDeltas$RunList", "read", "(LFrameDeltas$Image;LFrameDeltas$Image;I)V"⟩ ⟨"FrameDeltas$RunList", "read", "(LFrameDeltas$Image;LFrameDeltas$Image;I)V"⟩ ∈ zTs := zTs_l (List.mem_of_getElem? (i := 12) (by decide +kernel)) (by decide +kernel)
theorem zs_13 : Cond.selects "FrameDeltas$Image" ⟨"FrameDeltas$Image", "left", "(I)I"⟩ ⟨"FrameDeltas$Image", "left", "(I)I"⟩ ∈ zTs := zTs_l (List.mem_of_getElem? (i := 13) (by decide +kernel)) (by decide +kernel)
theorem zs_14 : Cond.selects "FrameDeltas$Image" ⟨"FrameDeltas$Image", "top", "(I)I"⟩ ⟨"FrameDeltas$Image", "top", "(I)I"⟩ ∈ zTs := zTs_l (List.mem_of_getElem? (i := 14) (by decide +kernel)) (by decide +kernel)
theorem zs_15 : Cond.selects "FrameDeltas$Image" ⟨"FrameDeltas$Image", "at", "(II)I"⟩ ⟨"FrameDeltas$Image", "at", "(II)I"⟩ ∈ zTs := zTs_l (List.mem_of_getElem? (i := 15) (by decide +kernel)) (by decide +kernel)
theorem zs_16 : Cond.selects "FrameDeltas$RunList" ⟨"FrameDeltas$RunList", "addCell", "(I)V"⟩ ⟨"FrameDeltas$RunList", "addCell", "(I)V"⟩ ∈ zTs := zTs_l (List.mem_of_getElem? (i := 16) (by decide +kernel)) (by decide +kernel)
theorem zs_17 : Cond.selects "FrameDeltas$Frame" ⟨"FrameDeltas$Frame", "setCode", "(IIIII)V"⟩ ⟨"FrameDeltas$Frame", "setCode", "(IIIII)V"⟩ ∈ zTs := zTs_l (List.mem_of_getElem? (i := 17) (by decide +kernel)) (by decide +kernel)
theorem zs_18 : Cond.selects "FrameDeltas$Coder" ⟨"FrameDeltas$Coder", "encodeWith", "(LFrameDeltas$Frame;ILFrameDeltas$Image;I)I"⟩ ⟨"FrameDeltas$Coder", "encodeWith", "(LFrameDeltas$Frame;ILFrameDeltas$Image;I)I"⟩ ∈ zTs := zTs_l (List.mem_of_getElem? (i := 18) (by decide +kernel)) (by decide +kernel)
theorem zs_19 : Cond.selects "FrameDeltas$Image" ⟨"FrameDeltas$Image", "samePart", "(IILFrameDeltas$Image;II)Z"⟩ ⟨"FrameDeltas$Image", "samePart", "(IILFrameDeltas$Image;II)Z"⟩ ∈ zTs := zTs_l (List.mem_of_getElem? (i := 19) (by decide +kernel)) (by decide +kernel)
theorem zs_20 : Cond.selects "FrameDeltas$Coder" ⟨"FrameDeltas$Coder", "findMove", "(LFrameDeltas$Image;IILFrameDeltas$Image;I)Z"⟩ ⟨"FrameDeltas$Coder", "findMove", "(LFrameDeltas$Image;IILFrameDeltas$Image;I)Z"⟩ ∈ zTs := zTs_l (List.mem_of_getElem? (i := 20) (by decide +kernel)) (by decide +kernel)
theorem zs_21 : Cond.selects "FrameDeltas$Image" ⟨"FrameDeltas$Image", "hasPart", "(II)Z"⟩ ⟨"FrameDeltas$Image", "hasPart", "(II)Z"⟩ ∈ zTs := zTs_l (List.mem_of_getElem? (i := 21) (by decide +kernel)) (by decide +kernel)
theorem zs_22 : Cond.selects "FrameDeltas$Planner" ⟨"FrameDeltas$Planner", "costOf", "(III)I"⟩ ⟨"FrameDeltas$Planner", "costOf", "(III)I"⟩ ∈ zTs := zTs_l (List.mem_of_getElem? (i := 22) (by decide +kernel)) (by decide +kernel)
theorem zs_23 : Cond.selects "FrameDeltas$Planner" ⟨"FrameDeltas$Planner", "referenceOf", "(I)I"⟩ ⟨"FrameDeltas$Planner", "referenceOf", "(I)I"⟩ ∈ zTs := zTs_l (List.mem_of_getElem? (i := 23) (by decide +kernel)) (by decide +kernel)
theorem zs_24 : Cond.selects "FrameDeltas$State" ⟨"FrameDeltas$State", "isFrame", "(I)Z"⟩ ⟨"FrameDeltas$State", "isFrame", "(I)Z"⟩ ∈ zTs := zTs_l (List.mem_of_getElem? (i := 24) (by decide +kernel)) (by decide +kernel)
theorem zs_25 : Cond.selects "FrameDeltas$State" ⟨"FrameDeltas$State", "seekCost", "(I)I"⟩ ⟨"FrameDeltas$State", "seekCost", "(I)I"⟩ ∈ zTs := zTs_l (List.mem_of_getElem? (i := 25) (by decide +kernel)) (by decide +kernel)
theorem zs_26 : Cond.selects "FrameDeltas$State" ⟨"FrameDeltas$State", "depthOf", "(I)I"⟩ ⟨"FrameDeltas$State", "depthOf", "(I)I"⟩ ∈ zTs := zTs_l (List.mem_of_getElem? (i := 26) (by decide +kernel)) (by decide +kernel)
theorem zs_27 : Cond.selects "FrameDeltas$State" ⟨"FrameDeltas$State", "isReadable", "(I)Z"⟩ ⟨"FrameDeltas$State", "isReadable", "(I)Z"⟩ ∈ zTs := zTs_l (List.mem_of_getElem? (i := 27) (by decide +kernel)) (by decide +kernel)
theorem zs_28 : Cond.selects "FrameDeltas$Frame" ⟨"FrameDeltas$Frame", "codesOfKind", "(I)I"⟩ ⟨"FrameDeltas$Frame", "codesOfKind", "(I)I"⟩ ∈ zTs := zTs_l (List.mem_of_getElem? (i := 28) (by decide +kernel)) (by decide +kernel)
theorem zs_29 : Cond.selects "FrameDeltas$Frame" ⟨"FrameDeltas$Frame", "codePart", "(II)I"⟩ ⟨"FrameDeltas$Frame", "codePart", "(II)I"⟩ ∈ zTs := zTs_l (List.mem_of_getElem? (i := 29) (by decide +kernel)) (by decide +kernel)
theorem zs_30 : Cond.selects "FrameDeltas$State" ⟨"FrameDeltas$State", "costOfRecords", "()I"⟩ ⟨"FrameDeltas$State", "costOfRecords", "()I"⟩ ∈ zTs := zTs_l (List.mem_of_getElem? (i := 30) (by decide +kernel)) (by decide +kernel)
theorem zs_31 : Cond.selects "FrameDeltas$State" ⟨"FrameDeltas$State", "readableFrames", "()I"⟩ ⟨"FrameDeltas$State", "readableFrames", "()I"⟩ ∈ zTs := zTs_l (List.mem_of_getElem? (i := 31) (by decide +kernel)) (by decide +kernel)
theorem zs_32 : Cond.selects "FrameDeltas$State" ⟨"FrameDeltas$State", "isImage", "(I)Z"⟩ ⟨"FrameDeltas$State", "isImage", "(I)Z"⟩ ∈ zTs := zTs_l (List.mem_of_getElem? (i := 32) (by decide +kernel)) (by decide +kernel)
theorem zs_33 : Cond.selects "FrameDeltas" ⟨"FrameDeltas", "costOfCanvas", "(I)I"⟩ ⟨"FrameDeltas", "costOfCanvas", "(I)I"⟩ ∈ zTs := zTs_l (List.mem_of_getElem? (i := 33) (by decide +kernel)) (by decide +kernel)
theorem zs_34 : Cond.selects "FrameDeltas$Image" ⟨"FrameDeltas$Image", "cellsUnlike", "(LFrameDeltas$Image;)I"⟩ ⟨"FrameDeltas$Image", "cellsUnlike", "(LFrameDeltas$Image;)I"⟩ ∈ zTs := zTs_l (List.mem_of_getElem? (i := 34) (by decide +kernel)) (by decide +kernel)
theorem zs_35 : Cond.selects "FrameDeltas$Image" ⟨"FrameDeltas$Image", "numbered", "(I)I"⟩ ⟨"FrameDeltas$Image", "numbered", "(I)I"⟩ ∈ zTs := zTs_l (List.mem_of_getElem? (i := 35) (by decide +kernel)) (by decide +kernel)
theorem zs_36 : Cond.selects "FrameDeltas$State" ⟨"FrameDeltas$State", "chainHas", "(II)Z"⟩ ⟨"FrameDeltas$State", "chainHas", "(II)Z"⟩ ∈ zTs := zTs_l (List.mem_of_getElem? (i := 36) (by decide +kernel)) (by decide +kernel)
theorem zs_37 : Cond.selects "FrameDeltas$Image" ⟨"FrameDeltas$Image", "hasCell", "(I)Z"⟩ ⟨"FrameDeltas$Image", "hasCell", "(I)Z"⟩ ∈ zTs := zTs_l (List.mem_of_getElem? (i := 37) (by decide +kernel)) (by decide +kernel)
theorem zs_38 : Cond.selects "FrameDeltas$Image" ⟨"FrameDeltas$Image", "reset", "(II)V"⟩ ⟨"FrameDeltas$Image", "reset", "(II)V"⟩ ∈ zTs := zTs_l (List.mem_of_getElem? (i := 38) (by decide +kernel)) (by decide +kernel)
theorem zs_39 : Cond.selects "FrameDeltas" ⟨"FrameDeltas", "add", "(I)I"⟩ ⟨"FrameDeltas", "add", "(I)I"⟩ ∈ zTs := zTs_l (List.mem_of_getElem? (i := 39) (by decide +kernel)) (by decide +kernel)
theorem zs_40 : Cond.selects "FrameDeltas$State" ⟨"FrameDeltas$State", "mayBeReference", "(I)Z"⟩ ⟨"FrameDeltas$State", "mayBeReference", "(I)Z"⟩ ∈ zTs := zTs_l (List.mem_of_getElem? (i := 40) (by decide +kernel)) (by decide +kernel)
theorem zs_41 : Cond.selects "FrameDeltas" ⟨"FrameDeltas", "chosenReference", "()I"⟩ ⟨"FrameDeltas", "chosenReference", "()I"⟩ ∈ zTs := zTs_l (List.mem_of_getElem? (i := 41) (by decide +kernel)) (by decide +kernel)
theorem zs_42 : Cond.selects "FrameDeltas$Image" ⟨"FrameDeltas$Image", "putNumbered", "(II)V"⟩ ⟨"FrameDeltas$Image", "putNumbered", "(II)V"⟩ ∈ zTs := zTs_l (List.mem_of_getElem? (i := 42) (by decide +kernel)) (by decide +kernel)
end
section
/-! THE SMALL MACHINE: instructions as decoded, locals and stack of tagged whole numbers and places, a memory of whole numbers by (kind of cell, number of the cell, place in it); the references between cells are fixed once all is made, so they are computed and not kept. -/
abbrev mzV : Type := Option (Int ⊕ (Int ⊕ (Nat × Int)))
abbrev mzM : Type := Nat → Int → Int → Int
abbrev vI (n : Int) : mzV := some (.inl n)
abbrev vL (n : Int) : mzV := some (.inr (.inl n))
abbrev vR (t : Nat) (i : Int) : mzV := some (.inr (.inr (t, i)))
def mup (μ : mzM) (t : Nat) (i k v : Int) : mzM := fun t' i' k' => if t' = t ∧ i' = i ∧ k' = k then v else μ t' i' k'
/-- a copy of n places of one cell into another -/
def mcp (μ : mzM) (ts : Nat) (is sp : Int) (td : Nat) (id dp n : Int) : mzM := fun t i k => if t = td ∧ i = id ∧ dp ≤ k ∧ k < dp + n then μ ts is (sp + (k - dp)) else μ t i k
abbrev zin (a : Int) : Prop := -2147483648 ≤ a ∧ a ≤ 2147483647
abbrev zin6 (a : Int) : Prop := -9223372036854775808 ≤ a ∧ a ≤ 9223372036854775807
/-- wrap-around, for the few places where it may happen -/
def zw (a : Int) : Int := (a + 2147483648) % 4294967296 - 2147483648
/-- wrap-around of longs -/
def zw6 (a : Int) : Int := (Int64.ofInt a).toInt
def zb (a : Int) : Int := (a + 128) % 256 - 128
def zand (a b : Int) : Int := (Int32.ofInt a &&& Int32.ofInt b).toInt
def zxor (a b : Int) : Int := (Int32.ofInt a ^^^ Int32.ofInt b).toInt
def zor (a b : Int) : Int := (Int32.ofInt a ||| Int32.ofInt b).toInt
def zshl (a b : Int) : Int := (Int32.ofInt a <<< (Int32.ofInt b &&& 31)).toInt
def zshr (a b : Int) : Int := (Int32.ofInt a >>> (Int32.ofInt b &&& 31)).toInt
def zushr (a b : Int) : Int := ((Int32.ofInt a).toUInt32 >>> ((Int32.ofInt b).toUInt32 &&& Int32.toUInt32 31)).toInt32.toInt
def zcmp (a b : Int) : Int := if a < b then -1 else if a = b then 0 else 1
/-- an instruction of a method: its byte, itself, an operand that is resolved, further operands, and whether a loop begins there -/
abbrev mzN : Type := Nat × Instr × Nat × List (Int × Nat) × Bool
abbrev mzC : Type := Nat × List mzV × List mzV × mzM
abbrev mzQ : Type := (p : Prop) ×' Decidable p
/-- what a step is: on; a branch; on under a condition; a call (which, its arguments, what its answer is, where it goes on); a switch; an end -/
abbrev mzS : Type := Option (mzC ⊕ ((mzQ × mzC × mzC) ⊕ ((mzQ × mzC) ⊕ ((Nat × List mzV × Nat × mzC) ⊕ ((Int × List (Int × Nat) × mzC) ⊕ (Option mzV × mzM))))))
abbrev sN (c : mzC) : mzS := some (.inl c)
abbrev sB (p : Prop) (h : Decidable p) (c d : mzC) : mzS := some (.inr (.inl (⟨p, h⟩, c, d)))
abbrev sG (p : Prop) (h : Decidable p) (c : mzC) : mzS := some (.inr (.inr (.inl (⟨p, h⟩, c))))
abbrev sC (f : Nat) (as : List mzV) (r : Nat) (c : mzC) : mzS := some (.inr (.inr (.inr (.inl (f, as, r, c)))))
abbrev sW (a : Int) (cs : List (Int × Nat)) (c : mzC) : mzS := some (.inr (.inr (.inr (.inr (.inl (a, cs, c))))))
abbrev sE (r : Option mzV) (μ : mzM) : mzS := some (.inr (.inr (.inr (.inr (.inr (r, μ))))))
def zi1 (st : List mzV) (f : Int → List mzV → mzS) : mzS := match st with | some (.inl a) :: r => f a r | _ => none
def zi2 (st : List mzV) (f : Int → Int → List mzV → mzS) : mzS := match st with | some (.inl b) :: some (.inl a) :: r => f a b r | _ => none
def zl1 (st : List mzV) (f : Int → List mzV → mzS) : mzS := match st with | some (.inr (.inl a)) :: r => f a r | _ => none
def zl2 (st : List mzV) (f : Int → Int → List mzV → mzS) : mzS := match st with | some (.inr (.inl b)) :: some (.inr (.inl a)) :: r => f a b r | _ => none
def zr1 (st : List mzV) (f : Nat → Int → List mzV → mzS) : mzS := match st with | some (.inr (.inr (t, i))) :: r => f t i r | _ => none
/-- an index and a row beneath it -/
def zir (st : List mzV) (f : Int → Nat → Int → List mzV → mzS) : mzS := match st with | some (.inl j) :: some (.inr (.inr (t, i))) :: r => f j t i r | _ => none
/-- a value, an index, a row -/
def zvir (st : List mzV) (f : Int → Int → Nat → Int → List mzV → mzS) : mzS := match st with | some (.inl v) :: some (.inl j) :: some (.inr (.inr (t, i))) :: r => f v j t i r | _ => none
def zld (ls : List mzV) (i : Nat) (f : mzV → mzS) : mzS := match ls[i]? with | some (some v) => f (some v) | _ => none
def zisI (v : mzV) : Bool := match v with | some (.inl _) => true | _ => false
def zisL (v : mzV) : Bool := match v with | some (.inr (.inl _)) => true | _ => false
def zisR (v : mzV) : Bool := match v with | some (.inr (.inr _)) => true | _ => false
def zst (ls : List mzV) (i : Nat) (v : mzV) (f : List mzV → mzS) : mzS := match Nat.blt i ls.length with | true => f (ls.set i v) | false => none
/-- whither a reference leads, by its field's mode -/
def zlead (mode : Nat) (c i : Int) : Int := match mode with | 0 => c | 1 => i | 2 => c + i | _ => 11 * i + 10
/-- how many places a row has -/
def zlen (t : Nat) (i : Int) (μ : mzM) : Int := match t with
  | 4 => 144 | 5 => 36 | 6 => 10 | 7 => 6 | 9 => 160 | 10 => 160 | 13 => 16 | 14 => 16 | 16 => 10 | 17 => 10 | 18 => 81
  | 32 => μ 33 0 1 | _ => 0
/-- what a row holds: 0 nothing, 1 int, 2 char, 3 byte, 4 references, 5 a text's bytes, 6 the script -/
def zrow (t : Nat) : Nat := match t with
  | 4 => 1 | 5 => 1 | 6 => 4 | 7 => 4 | 9 => 2 | 10 => 1 | 13 => 1 | 14 => 1 | 16 => 1 | 17 => 1 | 18 => 1
  | 32 => 6 | _ => 0
def zcond (c : Jvm.ClassFile.Cond) (a b : Int) (x1 x2 : mzC) : mzS := match c with
  | .eq => sB (a = b) inferInstance x1 x2
  | .ne => sB (a = b) inferInstance x2 x1
  | .lt => sB (a < b) inferInstance x1 x2
  | .ge => sB (a < b) inferInstance x2 x1
  | .gt => sB (b < a) inferInstance x1 x2
  | .le => sB (b < a) inferInstance x2 x1
def zret (a : Nat) (v : Int) : Int := match a with | 0 => v | 1 => v % 2 | 2 => v % 65536 | _ => zb v
/-- a field: (place, kind), (-, the kind of cell that has it), (-, where it is kept or whither it leads), (-, mode); kinds: 0 number, 1 truth value, 2 long, 3 a reference, 4 a fixed number -/
def zgetf (cs : List (Int × Nat)) (t : Nat) (i : Int) (μ : mzM) (k : Nat) (ls r : List mzV) : mzS := match cs with
  | (x2, kd) :: (_, o) :: (_, x1) :: (_, md) :: _ => (match Nat.beq t o with
    | false => none
    | true => match kd with
      | 0 => sN (k, ls, vI (μ x1 i x2) :: r, μ)
      | 1 => sN (k, ls, vI (μ x1 i x2) :: r, μ)
      | 2 => sN (k, ls, vL (μ x1 i x2) :: r, μ)
      | 3 => sN (k, ls, vR x1 (zlead md x2 i) :: r, μ)
      | 4 => sN (k, ls, vI x2 :: r, μ)
      | _ => none)
  | _ => none
def zputf (cs : List (Int × Nat)) (st : List mzV) (μ : mzM) (k : Nat) (ls : List mzV) : mzS := match st, cs with
  | v :: some (.inr (.inr (t, i))) :: r, (x2, kd) :: (_, o) :: (_, x1) :: _ => (match Nat.beq t o with
      | false => none
      | true => match kd, v with
        | 0, some (.inl n) => sN (k, ls, r, mup μ x1 i x2 n)
        | 1, some (.inl n) => sG (n = 0 ∨ n = 1) inferInstance (k, ls, r, mup μ x1 i x2 n)
        | 2, some (.inr (.inl n)) => sN (k, ls, r, mup μ x1 i x2 n)
        | _, _ => none)
  | _, _ => none
def zaload (w : Nat) (st : List mzV) (μ : mzM) (k : Nat) (ls : List mzV) : mzS := zir st fun j t i r => match Nat.beq w (zrow t) with
  | true => match w with
    | 4 => sG (0 ≤ j ∧ j < zlen t i μ) inferInstance (k, ls, (match t with | 6 => vR 2 (11 * i + j) | _ => vR 1 (1 + j)) :: r, μ)
    | _ => sG (0 ≤ j ∧ j < zlen t i μ) inferInstance (k, ls, vI (μ t i j) :: r, μ)
  | false => none
def zastore (w : Nat) (st : List mzV) (μ : mzM) (k : Nat) (ls : List mzV) : mzS := zvir st fun v j t i r => match Nat.beq w (zrow t) with
  | true => sG (0 ≤ j ∧ j < zlen t i μ) inferInstance (k, ls, r, mup μ t i j (match w with | 2 => v % 65536 | 3 => zb v | _ => v))
  | false => none
def zwords : List mzV → Nat
  | [] => 0
  | v :: l => (match zisL v with | true => 2 | false => 1) + zwords l
/-- a call: (number of arguments, kind of answer), (-, the receiver's kind and one, or 0) -/
def zcall (a : Nat) (cs : List (Int × Nat)) (st : List mzV) (μ : mzM) (k : Nat) (ls : List mzV) : mzS := match cs with
  | (n, r) :: (_, tg) :: _ => (match Nat.ble (zwords (st.drop n.toNat)) 8, Nat.ble n.toNat st.length && Nat.beq (zwords (st.take n.toNat)) n.toNat with
    | true, true => (match tg with
      | 0 => sC a ((st.take n.toNat).reverse) r (k, ls, st.drop n.toNat, μ)
      | g + 1 => (match (st.take n.toNat).reverse with
        | some (.inr (.inr (t, _))) :: _ => (match Nat.beq t g with
          | true => sC a ((st.take n.toNat).reverse) r (k, ls, st.drop n.toNat, μ)
          | false => none)
        | _ => none))
    | _, _ => none)
  | _ => none
/-- a native copy between two rows of ints -/
def zcopy (st : List mzV) (μ : mzM) (k : Nat) (ls : List mzV) : mzS := match st with
  | some (.inl n) :: some (.inl dp) :: some (.inr (.inr (td, id))) :: some (.inl sp) :: some (.inr (.inr (ts, is))) :: r =>
    match zrow td, zrow ts, Nat.ble (zwords r) 8 with
    | 1, 1, true => sG ((0 ≤ n ∧ 0 ≤ dp ∧ 0 ≤ sp) ∧ (sp + n ≤ zlen ts is μ ∧ dp + n ≤ zlen td id μ)) inferInstance (k, ls, r, mcp μ ts is sp td id dp n)
    | _, _, _ => none
  | _ => none
def zstep (I : Instr) (a : Nat) (cs : List (Int × Nat)) (k : Nat) (ls st : List mzV) (μ : mzM) : mzS := match I with
  | .iconst n => sN (k + 1, ls, vI n :: st, μ)
  | .bipush n => sN (k + 1, ls, vI n :: st, μ)
  | .sipush n => sN (k + 1, ls, vI n :: st, μ)
  | .ldc_w _ => match cs with | (n, _) :: _ => sN (k + 1, ls, vI n :: st, μ) | _ => none
  | .lconst n => sN (k + 1, ls, vL ((n.val : Nat) : Int) :: st, μ)
  | .ldc2_w _ => match cs with | (n, _) :: _ => sN (k + 1, ls, vL n :: st, μ) | _ => none
  | .ldc _ => match cs with | (n, _) :: _ => sN (k + 1, ls, vI n :: st, μ) | _ => none
  | .aconst_null => sN (k + 1, ls, vR 99 0 :: st, μ)
  | .iload i => zld ls i fun v => match zisI v with | true => sN (k + 1, ls, v :: st, μ) | false => none
  | .iload_n i => zld ls i.val fun v => match zisI v with | true => sN (k + 1, ls, v :: st, μ) | false => none
  | .lload_n i => zld ls i.val fun v => match zisL v with | true => sN (k + 1, ls, v :: st, μ) | false => none
  | .lload i => zld ls i fun v => match zisL v with | true => sN (k + 1, ls, v :: st, μ) | false => none
  | .aload i => zld ls i fun v => match zisR v with | true => sN (k + 1, ls, v :: st, μ) | false => none
  | .aload_n i => zld ls i.val fun v => match zisR v with | true => sN (k + 1, ls, v :: st, μ) | false => none
  | .istore i => zi1 st fun v r => zst ls i (vI v) fun l => sN (k + 1, l, r, μ)
  | .istore_n i => zi1 st fun v r => zst ls i.val (vI v) fun l => sN (k + 1, l, r, μ)
  | .astore i => zr1 st fun t j r => zst ls i (vR t j) fun l => sN (k + 1, l, r, μ)
  | .astore_n i => zr1 st fun t j r => zst ls i.val (vR t j) fun l => sN (k + 1, l, r, μ)
  | .lstore_n i => zl1 st fun v r => match Nat.blt (i.val + 1) ls.length with | true => zst ls i.val (vL v) fun l => sN (k + 1, l.set (i.val + 1) none, r, μ) | false => none
  | .lstore i => zl1 st fun v r => match Nat.blt (i + 1) ls.length with | true => zst ls i (vL v) fun l => sN (k + 1, l.set (i + 1) none, r, μ) | false => none
  | .iinc i n => zld ls i fun v => match v with | some (.inl v) => zst ls i (vI (v + n)) fun l => sG (zin (v + n)) inferInstance (k + 1, l, st, μ) | _ => none
  | .iadd => zi2 st fun v w r => sG (zin (v + w)) inferInstance (k + 1, ls, vI (v + w) :: r, μ)
  | .isub => zi2 st fun v w r => sG (zin (v - w)) inferInstance (k + 1, ls, vI (v - w) :: r, μ)
  | .imul => zi2 st fun v w r => sG (zin (v * w)) inferInstance (k + 1, ls, vI (v * w) :: r, μ)
  | .idiv => zi2 st fun v w r => sG (w ≠ 0 ∧ zin (v.tdiv w)) inferInstance (k + 1, ls, vI (v.tdiv w) :: r, μ)
  | .irem => zi2 st fun v w r => sG (w ≠ 0) inferInstance (k + 1, ls, vI (v.tmod w) :: r, μ)
  | .ineg => zi1 st fun v r => sN (k + 1, ls, vI (zw (-v)) :: r, μ)
  | .iand => zi2 st fun v w r => sN (k + 1, ls, vI (zand v w) :: r, μ)
  | .ixor => zi2 st fun v w r => sN (k + 1, ls, vI (zxor v w) :: r, μ)
  | .ishl => zi2 st fun v w r => sN (k + 1, ls, vI (zshl v w) :: r, μ)
  | .ishr => zi2 st fun v w r => sN (k + 1, ls, vI (zshr v w) :: r, μ)
  | .iushr => zi2 st fun v w r => sN (k + 1, ls, vI (zushr v w) :: r, μ)
  | .ladd => zl2 st fun v w r => sN (k + 1, ls, vL (zw6 (v + w)) :: r, μ)
  | .lmul => zl2 st fun v w r => sN (k + 1, ls, vL (zw6 (v * w)) :: r, μ)
  | .lcmp => zl2 st fun v w r => sN (k + 1, ls, vI (zcmp v w) :: r, μ)
  | .i2l => zi1 st fun v r => sN (k + 1, ls, vL v :: r, μ)
  | .l2i => zl1 st fun v r => sN (k + 1, ls, vI (zw v) :: r, μ)
  | .i2c => zi1 st fun v r => sN (k + 1, ls, vI (v % 65536) :: r, μ)
  | .i2b => zi1 st fun v r => sN (k + 1, ls, vI (zb v) :: r, μ)
  | .dup => match st with | some v :: r => (match zisL (some v) with | false => sN (k + 1, ls, some v :: some v :: r, μ) | true => none) | _ => none
  | .dup2 => match st with | some v :: some w :: r => (match zisL (some v) || zisL (some w) with | false => sN (k + 1, ls, some v :: some w :: some v :: some w :: r, μ) | true => none) | _ => none
  | .pop => match st with | some v :: r => (match zisL (some v) with | false => sN (k + 1, ls, r, μ) | true => none) | _ => none
  | .goto _ => sN (a, ls, st, μ)
  | .if_icmp c _ => zi2 st fun v w r => zcond c v w (a, ls, r, μ) (k + 1, ls, r, μ)
  | .ifCond c _ => zi1 st fun v r => zcond c v 0 (a, ls, r, μ) (k + 1, ls, r, μ)
  | .ifnull _ => zr1 st fun t _ r => match Nat.beq t 99, Nat.beq t 98 with | true, _ => sN (a, ls, r, μ) | false, false => sN (k + 1, ls, r, μ) | _, _ => none
  | .ifnonnull _ => zr1 st fun t _ r => match Nat.beq t 99, Nat.beq t 98 with | true, _ => sN (k + 1, ls, r, μ) | false, false => sN (a, ls, r, μ) | _, _ => none
  | .tableswitch _ _ _ _ => zi1 st fun v r => sW v cs (a, ls, r, μ)
  | .getfield _ => zr1 st fun t i r => zgetf cs t i μ (k + 1) ls r
  | .putfield _ => zputf cs st μ (k + 1) ls
  | .arraylength => zr1 st fun t i r => match zrow t with | 0 => none | _ => sN (k + 1, ls, vI (zlen t i μ) :: r, μ)
  | .iaload => (match st with | _ :: some (.inr (.inr (32, _))) :: _ => zaload 6 st μ (k + 1) ls | _ => zaload 1 st μ (k + 1) ls)
  | .aaload => zaload 4 st μ (k + 1) ls
  | .iastore => zastore 1 st μ (k + 1) ls
  | .invokevirtual _ => zcall a cs st μ (k + 1) ls
  | .invokestatic _ => match a with | 999 => zcopy st μ (k + 1) ls | _ => zcall a cs st μ (k + 1) ls
  | .ireturn => (match st with | [some (.inl v)] => sE (some (vI (zret a v))) μ | _ => none)
  | .lreturn => (match st with | [some (.inr (.inl v))] => sE (some (vL v)) μ | _ => none)
  | .areturn => (match st with | [some (.inr (.inr (t, i)))] => sE (some (vR t i)) μ | _ => none)
  | .return_ => (match st with | [] => sE none μ | _ => none)
  | _ => none
/-- the entry's locals -/
def zent (n : Nat) (as : List mzV) : List mzV := as ++ List.replicate (n - as.length) none
def zpush (r : Option mzV) (st : List mzV) : List mzV := match r with | some v => v :: st | none => st
def zpick (a : Int) : List (Int × Nat) → Nat → Nat
  | [], d => d
  | (b, k) :: l, d => if a = b then k else zpick a l d
def mvsw (v : Int) (d : Nat) (go : Nat → Prop) : List (Int × Nat) → Prop
  | [] => go d
  | (b, k) :: l => if v = b then go k else mvsw v d go l
section Mini
variable (cd : Nat → List mzN) (ml : Nat → Nat)
/-- runs method m from its instruction k on: its answer and the memory behind it -/
def mrun : Nat → Nat → Nat → List mzV → List mzV → mzM → Option (Option mzV × mzM)
  | 0, _, _, _, _, _ => none
  | n + 1, m, k, ls, st, μ => match (cd m)[k]? with
    | none => none
    | some (_, I, a, cs, _) => match zstep I a cs k ls st μ with
      | none => none
      | some (.inl c) => mrun n m c.1 c.2.1 c.2.2.1 c.2.2.2
      | some (.inr (.inl (q, c, d))) => @ite _ q.1 q.2 (mrun n m c.1 c.2.1 c.2.2.1 c.2.2.2) (mrun n m d.1 d.2.1 d.2.2.1 d.2.2.2)
      | some (.inr (.inr (.inl (q, c)))) => @ite _ q.1 q.2 (mrun n m c.1 c.2.1 c.2.2.1 c.2.2.2) none
      | some (.inr (.inr (.inr (.inl (f, as, _, c))))) => (match mrun n f 0 (zent (ml f) as) [] c.2.2.2 with
        | none => none
        | some (r, ν) => mrun n m c.1 c.2.1 (zpush r c.2.2.1) ν)
      | some (.inr (.inr (.inr (.inr (.inl (v, ts, c)))))) => mrun n m (zpick v ts c.1) c.2.1 c.2.2.1 c.2.2.2
      | some (.inr (.inr (.inr (.inr (.inr (r, ν)))))) => some (r, ν)
/-- method m from its instruction k on comes to an end with Q -/
def mW (m k : Nat) (ls st : List mzV) (μ : mzM) (Q : Option mzV → mzM → Prop) : Prop := ∃ n r ν, mrun cd ml n m k ls st μ = some (r, ν) ∧ Q r ν
def mCI (f : Nat) (as : List mzV) (μ : mzM) (K : Int → mzM → Prop) : Prop := mW cd ml f 0 (zent (ml f) as) [] μ fun r ν => ∃ a, r = some (vI a) ∧ K a ν
def mCL (f : Nat) (as : List mzV) (μ : mzM) (K : Int → mzM → Prop) : Prop := mW cd ml f 0 (zent (ml f) as) [] μ fun r ν => ∃ a, r = some (vL a) ∧ K a ν
def mCV (f : Nat) (as : List mzV) (μ : mzM) (K : mzM → Prop) : Prop := mW cd ml f 0 (zent (ml f) as) [] μ fun r ν => r = none ∧ K ν
def mCR (f t : Nat) (as : List mzV) (μ : mzM) (K : Int → mzM → Prop) : Prop := mW cd ml f 0 (zent (ml f) as) [] μ fun r ν => ∃ a, r = some (vR t a) ∧ K a ν
/-- on to an instruction: a loop's head is where the tree ends -/
def mgo (C : List mzN) (m : Nat) (rec : List mzN → Nat → List mzV → List mzV → mzM → Prop) (Q : Option mzV → mzM → Prop) (k : Nat) (ls st : List mzV) (μ : mzM) : List mzN → Prop
  | [] => False
  | (x0, x1, x2, x3, h) :: rest => match h with
    | true => mW cd ml m k ls st μ Q
    | false => rec ((x0, x1, x2, x3, h) :: rest) k ls st μ
/-- what is to be shown of method m (its code C), from its instruction k on (rest: the code from there) -/
def mvc (C : List mzN) (m : Nat) (Q : Option mzV → mzM → Prop) : Nat → List mzN → Nat → List mzV → List mzV → mzM → Prop
  | 0, _, k, ls, st, μ => mW cd ml m k ls st μ Q
  | _ + 1, [], _, _, _, _ => False
  | n + 1, (_, I, a, cs, _) :: rest, k, ls, st, μ => match zstep I a cs k ls st μ with
      | none => False
      | some (.inl c) => mgo cd ml C m (mvc C m Q n) Q c.1 c.2.1 c.2.2.1 c.2.2.2 (match Nat.beq c.1 (k + 1) with | true => rest | false => C.drop c.1)
      | some (.inr (.inl (q, c, d))) => @ite _ q.1 q.2 (mgo cd ml C m (mvc C m Q n) Q c.1 c.2.1 c.2.2.1 c.2.2.2 (match Nat.beq c.1 (k + 1) with | true => rest | false => C.drop c.1)) (mgo cd ml C m (mvc C m Q n) Q d.1 d.2.1 d.2.2.1 d.2.2.2 (match Nat.beq d.1 (k + 1) with | true => rest | false => C.drop d.1))
      | some (.inr (.inr (.inl (q, c)))) => q.1 ∧ mgo cd ml C m (mvc C m Q n) Q c.1 c.2.1 c.2.2.1 c.2.2.2 (match Nat.beq c.1 (k + 1) with | true => rest | false => C.drop c.1)
      | some (.inr (.inr (.inr (.inl (f, as, r, c))))) => (match r with
        | 0 => mCV cd ml f as c.2.2.2 fun ν => mgo cd ml C m (mvc C m Q n) Q c.1 c.2.1 c.2.2.1 ν (match Nat.beq c.1 (k + 1) with | true => rest | false => C.drop c.1)
        | 1 => mCI cd ml f as c.2.2.2 fun v ν => mgo cd ml C m (mvc C m Q n) Q c.1 c.2.1 (vI v :: c.2.2.1) ν (match Nat.beq c.1 (k + 1) with | true => rest | false => C.drop c.1)
        | 2 => mCL cd ml f as c.2.2.2 fun v ν => mgo cd ml C m (mvc C m Q n) Q c.1 c.2.1 (vL v :: c.2.2.1) ν (match Nat.beq c.1 (k + 1) with | true => rest | false => C.drop c.1)
        | t + 3 => mCR cd ml f t as c.2.2.2 fun v ν => mgo cd ml C m (mvc C m Q n) Q c.1 c.2.1 (vR t v :: c.2.2.1) ν (match Nat.beq c.1 (k + 1) with | true => rest | false => C.drop c.1))
      | some (.inr (.inr (.inr (.inr (.inl (v, ts, c)))))) => mvsw v c.1 (fun k' => mgo cd ml C m (mvc C m Q n) Q k' c.2.1 c.2.2.1 c.2.2.2 (C.drop k')) ts
      | some (.inr (.inr (.inr (.inr (.inr (r, ν)))))) => Q r ν
theorem mrun_up : ∀ (n m k : Nat) (ls st : List mzV) (μ : mzM) (q : Option mzV × mzM), mrun cd ml n m k ls st μ = some q → mrun cd ml (n + 1) m k ls st μ = some q := by
  intro n
  induction n with
  | zero => intro m k ls st μ q h; cases h
  | succ n ih =>
    intro m k ls st μ q h
    rw [mrun] at h ⊢
    cases hc : (cd m)[k]? with
    | none => rw [hc] at h; cases h
    | some ins =>
      obtain ⟨x0, I, a, cs, hd⟩ := ins
      rw [hc] at h
      dsimp only at h ⊢
      cases hs : zstep I a cs k ls st μ with
      | none => rw [hs] at h; cases h
      | some z =>
        rw [hs] at h
        rcases z with c | ⟨q1, c, d⟩ | ⟨q1, c⟩ | ⟨f, as, r, c⟩ | ⟨v, ts, c⟩ | ⟨r, ν⟩
        · exact ih _ _ _ _ _ _ h
        · dsimp only at h ⊢
          by_cases hq : q1.1
          · rw [@if_pos _ q1.2 hq] at h ⊢; exact ih _ _ _ _ _ _ h
          · rw [@if_neg _ q1.2 hq] at h ⊢; exact ih _ _ _ _ _ _ h
        · dsimp only at h ⊢
          by_cases hq : q1.1
          · rw [@if_pos _ q1.2 hq] at h ⊢; exact ih _ _ _ _ _ _ h
          · rw [@if_neg _ q1.2 hq] at h; cases h
        · dsimp only at h ⊢
          cases hf : mrun cd ml n f 0 (zent (ml f) as) [] c.2.2.2 with
          | none => rw [hf] at h; cases h
          | some p =>
            obtain ⟨r2, ν⟩ := p
            rw [hf] at h
            rw [ih _ _ _ _ _ _ hf]
            exact ih _ _ _ _ _ _ h
        · exact ih _ _ _ _ _ _ h
        · exact h
theorem mrun_le {n n2 m k : Nat} {ls st : List mzV} {μ : mzM} {q : Option mzV × mzM} (hn : n ≤ n2) (h : mrun cd ml n m k ls st μ = some q) : mrun cd ml n2 m k ls st μ = some q := by
  induction hn with
  | refl => exact h
  | step _ ih => exact mrun_up cd ml _ _ _ _ _ _ _ ih
theorem mW_mono {m k : Nat} {ls st : List mzV} {μ : mzM} {Q Q' : Option mzV → mzM → Prop} (h : mW cd ml m k ls st μ Q) (hq : ∀ r ν, Q r ν → Q' r ν) : mW cd ml m k ls st μ Q' := by
  obtain ⟨n, r, ν, h1, h2⟩ := h
  exact ⟨n, r, ν, h1, hq _ _ h2⟩
theorem mgo_iff {C : List mzN} {m k : Nat} {rec : List mzN → Nat → List mzV → List mzV → mzM → Prop} {Q : Option mzV → mzM → Prop} {ls st : List mzV} {μ : mzM} {rest : List mzN} (hr : rec rest k ls st μ → mW cd ml m k ls st μ Q) (h : mgo cd ml C m rec Q k ls st μ rest) : mW cd ml m k ls st μ Q := by
  cases rest with
  | nil => exact absurd h id
  | cons x rest =>
    obtain ⟨x0, x1, x2, x3, b⟩ := x
    cases b with
    | true => exact h
    | false => exact hr h
theorem mvsw_pick {v : Int} {d : Nat} {go : Nat → Prop} : ∀ (ts : List (Int × Nat)), mvsw v d go ts → go (zpick v ts d)
  | [], h => h
  | (b, k) :: l, h => by
    unfold mvsw at h
    unfold zpick
    by_cases hv : v = b
    · rw [if_pos hv] at h ⊢; exact h
    · rw [if_neg hv] at h ⊢; exact mvsw_pick l h
theorem mvc_sound {C : List mzN} {m : Nat} {Q : Option mzV → mzM → Prop} (hC : cd m = C) : ∀ (n : Nat) (rest : List mzN) (k : Nat) (ls st : List mzV) (μ : mzM), rest = C.drop k → mvc cd ml C m Q n rest k ls st μ → mW cd ml m k ls st μ Q := by
  intro n
  induction n with
  | zero => intro rest k ls st μ _ h; exact h
  | succ n ih =>
    intro rest k ls st μ hrest h
    cases rest with
    | nil => exact absurd h id
    | cons x rest =>
      obtain ⟨x0, I, a, cs, b⟩ := x
      have hk : (cd m)[k]? = some (x0, I, a, cs, b) := by
        rw [hC, ← List.head?_drop, ← hrest]; rfl
      have hnext : rest = C.drop (k + 1) := by
        rw [← List.tail_drop, ← hrest]; rfl
      have hpc : ∀ j, (match Nat.beq j (k + 1) with | true => rest | false => C.drop j) = C.drop j := by
        intro j
        cases hj : Nat.beq j (k + 1) with
        | true => rw [Nat.eq_of_beq_eq_true hj]; exact hnext
        | false => rfl
      unfold mvc at h
      cases hs : zstep I a cs k ls st μ with
      | none => rw [hs] at h; exact absurd h id
      | some z =>
        rw [hs] at h
        rcases z with c | ⟨q1, c, d⟩ | ⟨q1, c⟩ | ⟨f, as, r, c⟩ | ⟨v, ts, c⟩ | ⟨r, ν⟩
        · dsimp only at h
          rw [hpc] at h
          obtain ⟨n1, r, ν, h1, h2⟩ := mgo_iff cd ml (ih _ _ _ _ _ rfl) h
          exact ⟨n1 + 1, r, ν, by rw [mrun, hk]; dsimp only; rw [hs]; exact h1, h2⟩
        · dsimp only at h
          rw [hpc, hpc] at h
          by_cases hq : q1.1
          · rw [@if_pos _ q1.2 hq] at h
            obtain ⟨n1, r, ν, h1, h2⟩ := mgo_iff cd ml (ih _ _ _ _ _ rfl) h
            exact ⟨n1 + 1, r, ν, by rw [mrun, hk]; dsimp only; rw [hs]; dsimp only; rw [@if_pos _ q1.2 hq]; exact h1, h2⟩
          · rw [@if_neg _ q1.2 hq] at h
            obtain ⟨n1, r, ν, h1, h2⟩ := mgo_iff cd ml (ih _ _ _ _ _ rfl) h
            exact ⟨n1 + 1, r, ν, by rw [mrun, hk]; dsimp only; rw [hs]; dsimp only; rw [@if_neg _ q1.2 hq]; exact h1, h2⟩
        · dsimp only at h
          rw [hpc] at h
          obtain ⟨hq, h⟩ := h
          obtain ⟨n1, r, ν, h1, h2⟩ := mgo_iff cd ml (ih _ _ _ _ _ rfl) h
          exact ⟨n1 + 1, r, ν, by rw [mrun, hk]; dsimp only; rw [hs]; dsimp only; rw [@if_pos _ q1.2 hq]; exact h1, h2⟩
        · dsimp only at h
          rw [hpc] at h
          have key : mW cd ml f 0 (zent (ml f) as) [] c.2.2.2 (fun r ν => mW cd ml m c.1 c.2.1 (zpush r c.2.2.1) ν Q) := by
            match r, h with
            | 0, h => exact mW_mono cd ml h (fun r ν hr => by rw [hr.1]; exact mgo_iff cd ml (ih _ _ _ _ _ rfl) hr.2)
            | 1, h => exact mW_mono cd ml h (fun r ν hr => by obtain ⟨a, ha, hr⟩ := hr; rw [ha]; exact mgo_iff cd ml (ih _ _ _ _ _ rfl) hr)
            | 2, h => exact mW_mono cd ml h (fun r ν hr => by obtain ⟨a, ha, hr⟩ := hr; rw [ha]; exact mgo_iff cd ml (ih _ _ _ _ _ rfl) hr)
            | t + 3, h => exact mW_mono cd ml h (fun r ν hr => by obtain ⟨a, ha, hr⟩ := hr; rw [ha]; exact mgo_iff cd ml (ih _ _ _ _ _ rfl) hr)
          obtain ⟨n1, r1, ν1, h1, n2, r2, ν2, h2, h3⟩ := key
          refine ⟨n1 + n2 + 1, r2, ν2, ?_, h3⟩
          rw [mrun, hk]; dsimp only; rw [hs]; dsimp only
          rw [mrun_le cd ml (Nat.le_add_right n1 n2) h1]
          exact mrun_le cd ml (Nat.le_add_left n2 n1) h2
        · dsimp only at h
          have h := mvsw_pick ts h
          obtain ⟨n1, r, ν, h1, h2⟩ := mgo_iff cd ml (ih _ _ _ _ _ rfl) h
          exact ⟨n1 + 1, r, ν, by rw [mrun, hk]; dsimp only; rw [hs]; exact h1, h2⟩
        · exact ⟨1, r, ν, by rw [mrun, hk]; dsimp only; rw [hs], h⟩
theorem mvc_at {C : List mzN} {m : Nat} {Q : Option mzV → mzM → Prop} (hC : cd m = C) (n k : Nat) {ls st : List mzV} {μ : mzM} (h : mvc cd ml C m Q n (C.drop k) k ls st μ) : mW cd ml m k ls st μ Q := mvc_sound cd ml hC n _ k ls st μ rfl h
end Mini
end
section
abbrev f_X0_encode : Nat := 0
abbrev f_X0_encodeRaw : Nat := 1
abbrev f_X0_encodeWith : Nat := 2
abbrev f_X0_findMove : Nat := 3
abbrev f_X1_take : Nat := 4
abbrev f_X1_codePart : Nat := 5
abbrev f_X1_setCode : Nat := 6
abbrev f_X1_codesOfKind : Nat := 7
abbrev f_X2_reset : Nat := 8
abbrev f_X2_take : Nat := 9
abbrev f_X2_hasCell : Nat := 10
abbrev f_X2_numbered : Nat := 11
abbrev f_X2_putNumbered : Nat := 12
abbrev f_X2_at : Nat := 13
abbrev f_X2_blocks : Nat := 14
abbrev f_X2_left : Nat := 15
abbrev f_X2_top : Nat := 16
abbrev f_X2_hasPart : Nat := 17
abbrev f_X2_samePart : Nat := 18
abbrev f_X2_cellsUnlike : Nat := 19
abbrev f_X3_plan : Nat := 20
abbrev f_X3_measure : Nat := 21
abbrev f_X3_costOf : Nat := 22
abbrev f_X3_referenceOf : Nat := 23
abbrev f_X4_read : Nat := 24
abbrev f_X4_addCell : Nat := 25
abbrev f_X6_take : Nat := 26
abbrev f_X6_frameAt : Nat := 27
abbrev f_X6_isFrame : Nat := 28
abbrev f_X6_isImage : Nat := 29
abbrev f_X6_imageOf : Nat := 30
abbrev f_X6_isReadable : Nat := 31
abbrev f_X6_mayBeReference : Nat := 32
abbrev f_X6_depthOf : Nat := 33
abbrev f_X6_seekCost : Nat := 34
abbrev f_X6_chainHas : Nat := 35
abbrev f_X6_readableFrames : Nat := 36
abbrev f_X6_costOfRecords : Nat := 37
abbrev f_X7_setSize : Nat := 38
abbrev f_X7_setCell : Nat := 39
abbrev f_X7_cell : Nat := 40
abbrev f_X7_addKey : Nat := 41
abbrev f_X7_addDelta : Nat := 42
abbrev f_X7_addChosen : Nat := 43
abbrev f_X7_removeLast : Nat := 44
abbrev f_X7_recode : Nat := 45
abbrev f_X7_setLimits : Nat := 46
abbrev f_X7_setLost : Nat := 47
abbrev f_X7_frame : Nat := 48
abbrev f_X7_pixel : Nat := 49
abbrev f_X7_count : Nat := 50
abbrev f_X7_costWith : Nat := 51
abbrev f_X7_difference : Nat := 52
abbrev f_X7_greatestSeek : Nat := 53
abbrev f_X7_dependents : Nat := 54
abbrev f_X7_planCost : Nat := 55
abbrev f_X7_undo : Nat := 56
abbrev f_X7_isSize : Nat := 57
abbrev f_X7_save : Nat := 58
abbrev f_X7_savedSlot : Nat := 59
abbrev f_X7_add : Nat := 60
abbrev f_X7_costOfCanvas : Nat := 61
abbrev f_X7_chosenReference : Nat := 62
abbrev f_J6_bitCount_0f7a4 : Nat := 63
abbrev f_J9_abs_0f7a4 : Nat := 64
abbrev f_J9_max_7cf53 : Nat := 65
abbrev f_J9_min_7cf53 : Nat := 66
abbrev f_L_cell : Nat := 67
abbrev f_L_low : Nat := 68
abbrev f_L_tale : Nat := 69
abbrev f_L_does : Nat := 70
abbrev f_L_law : Nat := 71
def zc0 : List mzN := [(0, .iload_n 3, 0, [], false), (1, .iconst (-1), 0, [], false), (2, .if_icmp .ne 7, 5, [], false), (5, .aconst_null, 0, [], false), (6, .goto 8, 8, [], false), (9, .aload_n 2, 0, [], false), (10, .iload_n 3, 0, [], false), (11, .invokevirtual 28, 30, [(2, 6), (0, 2)], false), (14, .astore 4, 0, [], false), (16, .aload_n 1, 0, [], false), (17, .iload_n 3, 0, [], false), (18, .putfield 34, 2, [(2, 0), (0, 2), (0, 2), (0, 0)], false), (21, .aload_n 1, 0, [], false), (22, .iconst 0, 0, [], false), (23, .putfield 39, 4, [(4, 1), (0, 2), (0, 2), (0, 0)], false), (26, .aload_n 1, 0, [], false), (27, .iconst 2, 0, [], false), (28, .putfield 43, 3, [(3, 0), (0, 2), (0, 2), (0, 0)], false), (31, .iconst 0, 0, [], false), (32, .istore 5, 0, [], false), (34, .iload 5, 0, [], true), (36, .aload_n 1, 0, [], false), (37, .getfield 46, 0, [(0, 3), (0, 2), (0, 3), (0, 1)], false), (40, .invokevirtual 50, 14, [(1, 1), (0, 4)], false), (43, .if_icmp .ge 46, 46, [], false), (46, .aload_n 1, 0, [], false), (47, .dup, 0, [], false), (48, .getfield 43, 3, [(3, 0), (0, 2), (0, 2), (0, 0)], false), (51, .aload 4, 0, [], false), (53, .ifnonnull 13, 35, [], false), (56, .aload_n 0, 0, [], false), (57, .aload_n 1, 0, [], false), (58, .iload 5, 0, [], false), (60, .invokevirtual 56, 1, [(3, 1), (0, 12)], false), (63, .goto 16, 42, [], false), (66, .aload_n 0, 0, [], false), (67, .aload_n 1, 0, [], false), (68, .iload 5, 0, [], false), (70, .aload 4, 0, [], false), (72, .aload_n 2, 0, [], false), (73, .getfield 60, 4, [(4, 0), (0, 1), (0, 1), (0, 0)], false), (76, .invokevirtual 63, 2, [(5, 1), (0, 12)], false), (79, .iadd, 0, [], false), (80, .putfield 43, 3, [(3, 0), (0, 2), (0, 2), (0, 0)], false), (83, .iinc 5 1, 0, [], false), (86, .goto (-52), 20, [], false), (89, .return_, 0, [], false)]
def zc1 : List mzN := [(0, .aload_n 0, 0, [], false), (1, .getfield 12, 0, [(0, 3), (0, 11), (0, 12), (0, 0)], false), (4, .aload_n 1, 0, [], false), (5, .getfield 46, 0, [(0, 3), (0, 2), (0, 3), (0, 1)], false), (8, .aconst_null, 0, [], false), (9, .iload_n 2, 0, [], false), (10, .invokevirtual 67, 24, [(4, 0), (0, 13)], false), (13, .aload_n 1, 0, [], false), (14, .iload_n 2, 0, [], false), (15, .iconst 3, 0, [], false), (16, .iconst 0, 0, [], false), (17, .iconst 0, 0, [], false), (18, .aload_n 0, 0, [], false), (19, .getfield 12, 0, [(0, 3), (0, 11), (0, 12), (0, 0)], false), (22, .getfield 71, 2, [(2, 0), (0, 12), (0, 12), (0, 0)], false), (25, .invokevirtual 74, 6, [(6, 0), (0, 3)], false), (28, .iconst 2, 0, [], false), (29, .iconst 2, 0, [], false), (30, .aload_n 0, 0, [], false), (31, .getfield 12, 0, [(0, 3), (0, 11), (0, 12), (0, 0)], false), (34, .getfield 71, 2, [(2, 0), (0, 12), (0, 12), (0, 0)], false), (37, .imul, 0, [], false), (38, .iadd, 0, [], false), (39, .ireturn, 0, [], false)]
def zc2 : List mzN := [(0, .aload_n 1, 0, [], false), (1, .getfield 46, 0, [(0, 3), (0, 2), (0, 3), (0, 1)], false), (4, .iload_n 2, 0, [], false), (5, .invokevirtual 78, 15, [(2, 1), (0, 4)], false), (8, .istore 5, 0, [], false), (10, .aload_n 1, 0, [], false), (11, .getfield 46, 0, [(0, 3), (0, 2), (0, 3), (0, 1)], false), (14, .iload_n 2, 0, [], false), (15, .invokevirtual 82, 16, [(2, 1), (0, 4)], false), (18, .istore 6, 0, [], false), (20, .aload_n 1, 0, [], false), (21, .getfield 46, 0, [(0, 3), (0, 2), (0, 3), (0, 1)], false), (24, .iload 5, 0, [], false), (26, .iload 6, 0, [], false), (28, .aload_n 3, 0, [], false), (29, .iload 5, 0, [], false), (31, .iload 6, 0, [], false), (33, .invokevirtual 85, 18, [(6, 1), (0, 4)], false), (36, .ifCond .eq 14, 28, [], false), (39, .aload_n 1, 0, [], false), (40, .iload_n 2, 0, [], false), (41, .iconst 0, 0, [], false), (42, .iconst 0, 0, [], false), (43, .iconst 0, 0, [], false), (44, .iconst 0, 0, [], false), (45, .invokevirtual 74, 6, [(6, 0), (0, 3)], false), (48, .iconst 1, 0, [], false), (49, .ireturn, 0, [], false), (50, .aload_n 0, 0, [], false), (51, .aload_n 1, 0, [], false), (52, .getfield 46, 0, [(0, 3), (0, 2), (0, 3), (0, 1)], false), (55, .iload 5, 0, [], false), (57, .iload 6, 0, [], false), (59, .aload_n 3, 0, [], false), (60, .iload 4, 0, [], false), (62, .invokevirtual 89, 3, [(6, 1), (0, 12)], false), (65, .ifCond .eq 20, 48, [], false), (68, .aload_n 1, 0, [], false), (69, .iload_n 2, 0, [], false), (70, .iconst 1, 0, [], false), (71, .aload_n 0, 0, [], false), (72, .getfield 21, 2, [(2, 0), (0, 11), (0, 11), (0, 0)], false), (75, .aload_n 0, 0, [], false), (76, .getfield 25, 3, [(3, 0), (0, 11), (0, 11), (0, 0)], false), (79, .iconst 0, 0, [], false), (80, .invokevirtual 74, 6, [(6, 0), (0, 3)], false), (83, .iconst 3, 0, [], false), (84, .ireturn, 0, [], false), (85, .aload_n 0, 0, [], false), (86, .getfield 12, 0, [(0, 3), (0, 11), (0, 12), (0, 0)], false), (89, .aload_n 1, 0, [], false), (90, .getfield 46, 0, [(0, 3), (0, 2), (0, 3), (0, 1)], false), (93, .aconst_null, 0, [], false), (94, .iload_n 2, 0, [], false), (95, .invokevirtual 67, 24, [(4, 0), (0, 13)], false), (98, .aload_n 0, 0, [], false), (99, .getfield 18, 1, [(1, 3), (0, 11), (0, 12), (0, 0)], false), (102, .aload_n 1, 0, [], false), (103, .getfield 46, 0, [(0, 3), (0, 2), (0, 3), (0, 1)], false), (106, .aload_n 3, 0, [], false), (107, .iload_n 2, 0, [], false), (108, .invokevirtual 67, 24, [(4, 0), (0, 13)], false), (111, .aload_n 0, 0, [], false), (112, .getfield 12, 0, [(0, 3), (0, 11), (0, 12), (0, 0)], false), (115, .getfield 71, 2, [(2, 0), (0, 12), (0, 12), (0, 0)], false), (118, .aload_n 0, 0, [], false), (119, .getfield 18, 1, [(1, 3), (0, 11), (0, 12), (0, 0)], false), (122, .getfield 71, 2, [(2, 0), (0, 12), (0, 12), (0, 0)], false), (125, .if_icmp .ge 30, 86, [], false), (128, .aload_n 1, 0, [], false), (129, .iload_n 2, 0, [], false), (130, .iconst 3, 0, [], false), (131, .iconst 0, 0, [], false), (132, .iconst 0, 0, [], false), (133, .aload_n 0, 0, [], false), (134, .getfield 12, 0, [(0, 3), (0, 11), (0, 12), (0, 0)], false), (137, .getfield 71, 2, [(2, 0), (0, 12), (0, 12), (0, 0)], false), (140, .invokevirtual 74, 6, [(6, 0), (0, 3)], false), (143, .iconst 2, 0, [], false), (144, .iconst 2, 0, [], false), (145, .aload_n 0, 0, [], false), (146, .getfield 12, 0, [(0, 3), (0, 11), (0, 12), (0, 0)], false), (149, .getfield 71, 2, [(2, 0), (0, 12), (0, 12), (0, 0)], false), (152, .imul, 0, [], false), (153, .iadd, 0, [], false), (154, .ireturn, 0, [], false), (155, .aload_n 1, 0, [], false), (156, .iload_n 2, 0, [], false), (157, .iconst 2, 0, [], false), (158, .iconst 0, 0, [], false), (159, .iconst 0, 0, [], false), (160, .aload_n 0, 0, [], false), (161, .getfield 18, 1, [(1, 3), (0, 11), (0, 12), (0, 0)], false), (164, .getfield 71, 2, [(2, 0), (0, 12), (0, 12), (0, 0)], false), (167, .invokevirtual 74, 6, [(6, 0), (0, 3)], false), (170, .iconst 2, 0, [], false), (171, .iconst 2, 0, [], false), (172, .aload_n 0, 0, [], false), (173, .getfield 18, 1, [(1, 3), (0, 11), (0, 12), (0, 0)], false), (176, .getfield 71, 2, [(2, 0), (0, 12), (0, 12), (0, 0)], false), (179, .imul, 0, [], false), (180, .iadd, 0, [], false), (181, .ireturn, 0, [], false)]
def zc3 : List mzN := [(0, .iconst 1, 0, [], false), (1, .istore 6, 0, [], false), (3, .iload 6, 0, [], true), (5, .iconst 2, 0, [], false), (6, .iload 5, 0, [], false), (8, .imul, 0, [], false), (9, .if_icmp .gt 129, 72, [], false), (12, .iload 5, 0, [], false), (14, .ineg, 0, [], false), (15, .istore 7, 0, [], false), (17, .iload 7, 0, [], true), (19, .iload 5, 0, [], false), (21, .if_icmp .gt 111, 70, [], false), (24, .iload 6, 0, [], false), (26, .iload 7, 0, [], false), (28, .invokestatic 93, 64, [(1, 1), (0, 0)], false), (31, .isub, 0, [], false), (32, .istore 8, 0, [], false), (34, .iload 8, 0, [], false), (36, .ifCond .lt 90, 68, [], false), (39, .iload 8, 0, [], false), (41, .iload 5, 0, [], false), (43, .if_icmp .le 6, 24, [], false), (46, .goto 80, 68, [], false), (49, .iload 8, 0, [], false), (51, .ineg, 0, [], false), (52, .istore 9, 0, [], false), (54, .iload 9, 0, [], true), (56, .iload 8, 0, [], false), (58, .if_icmp .gt 68, 68, [], false), (61, .aload 4, 0, [], false), (63, .iload_n 2, 0, [], false), (64, .iload 9, 0, [], false), (66, .iadd, 0, [], false), (67, .iload_n 3, 0, [], false), (68, .iload 7, 0, [], false), (70, .iadd, 0, [], false), (71, .invokevirtual 98, 17, [(3, 1), (0, 4)], false), (74, .ifCond .eq 36, 59, [], false), (77, .aload_n 1, 0, [], false), (78, .iload_n 2, 0, [], false), (79, .iload_n 3, 0, [], false), (80, .aload 4, 0, [], false), (82, .iload_n 2, 0, [], false), (83, .iload 9, 0, [], false), (85, .iadd, 0, [], false), (86, .iload_n 3, 0, [], false), (87, .iload 7, 0, [], false), (89, .iadd, 0, [], false), (90, .invokevirtual 85, 18, [(6, 1), (0, 4)], false), (93, .ifCond .eq 17, 59, [], false), (96, .aload_n 0, 0, [], false), (97, .iload 9, 0, [], false), (99, .putfield 21, 2, [(2, 0), (0, 11), (0, 11), (0, 0)], false), (102, .aload_n 0, 0, [], false), (103, .iload 7, 0, [], false), (105, .putfield 25, 3, [(3, 0), (0, 11), (0, 11), (0, 0)], false), (108, .iconst 1, 0, [], false), (109, .ireturn, 1, [], false), (110, .iload 9, 0, [], false), (112, .iconst 1, 0, [], false), (113, .iconst 2, 0, [], false), (114, .iload 8, 0, [], false), (116, .imul, 0, [], false), (117, .invokestatic 102, 65, [(2, 1), (0, 0)], false), (120, .iadd, 0, [], false), (121, .istore 9, 0, [], false), (123, .goto (-69), 27, [], false), (126, .iinc 7 1, 0, [], false), (129, .goto (-112), 10, [], false), (132, .iinc 6 1, 0, [], false), (135, .goto (-132), 2, [], false), (138, .iconst 0, 0, [], false), (139, .ireturn, 1, [], false)]
def zc4 : List mzN := [(0, .aload_n 0, 0, [], false), (1, .getfield 12, 0, [(0, 3), (0, 2), (0, 3), (0, 1)], false), (4, .aload_n 1, 0, [], false), (5, .getfield 12, 0, [(0, 3), (0, 2), (0, 3), (0, 1)], false), (8, .invokevirtual 33, 9, [(2, 0), (0, 4)], false), (11, .aload_n 1, 0, [], false), (12, .getfield 18, 1, [(0, 3), (0, 2), (0, 5), (0, 1)], false), (15, .iconst 0, 0, [], false), (16, .aload_n 0, 0, [], false), (17, .getfield 18, 1, [(0, 3), (0, 2), (0, 5), (0, 1)], false), (20, .iconst 0, 0, [], false), (21, .bipush 36, 0, [], false), (23, .invokestatic 37, 999, [], false), (26, .aload_n 0, 0, [], false), (27, .aload_n 1, 0, [], false), (28, .getfield 22, 2, [(2, 0), (0, 2), (0, 2), (0, 0)], false), (31, .putfield 22, 2, [(2, 0), (0, 2), (0, 2), (0, 0)], false), (34, .aload_n 0, 0, [], false), (35, .aload_n 1, 0, [], false), (36, .getfield 26, 3, [(3, 0), (0, 2), (0, 2), (0, 0)], false), (39, .putfield 26, 3, [(3, 0), (0, 2), (0, 2), (0, 0)], false), (42, .aload_n 0, 0, [], false), (43, .aload_n 1, 0, [], false), (44, .getfield 29, 4, [(4, 1), (0, 2), (0, 2), (0, 0)], false), (47, .putfield 29, 4, [(4, 1), (0, 2), (0, 2), (0, 0)], false), (50, .return_, 0, [], false)]
def zc5 : List mzN := [(0, .iload_n 1, 0, [], false), (1, .iconst 4, 0, [], false), (2, .imul, 0, [], false), (3, .iload_n 2, 0, [], false), (4, .iadd, 0, [], false), (5, .istore_n 3, 0, [], false), (6, .iload_n 3, 0, [], false), (7, .ifCond .lt 21, 18, [], false), (10, .iload_n 3, 0, [], false), (11, .aload_n 0, 0, [], false), (12, .getfield 18, 1, [(0, 3), (0, 2), (0, 5), (0, 1)], false), (15, .arraylength, 0, [], false), (16, .if_icmp .ge 12, 18, [], false), (19, .aload_n 0, 0, [], false), (20, .getfield 18, 1, [(0, 3), (0, 2), (0, 5), (0, 1)], false), (23, .iload_n 3, 0, [], false), (24, .iaload, 0, [], false), (25, .goto 4, 19, [], false), (28, .iconst 0, 0, [], false), (29, .ireturn, 0, [], false)]
def zc6 : List mzN := [(0, .iload_n 1, 0, [], false), (1, .iconst 4, 0, [], false), (2, .imul, 0, [], false), (3, .istore 6, 0, [], false), (5, .iload 6, 0, [], false), (7, .ifCond .lt 57, 41, [], false), (10, .iload 6, 0, [], false), (12, .iconst 3, 0, [], false), (13, .iadd, 0, [], false), (14, .aload_n 0, 0, [], false), (15, .getfield 18, 1, [(0, 3), (0, 2), (0, 5), (0, 1)], false), (18, .arraylength, 0, [], false), (19, .if_icmp .ge 45, 41, [], false), (22, .aload_n 0, 0, [], false), (23, .getfield 18, 1, [(0, 3), (0, 2), (0, 5), (0, 1)], false), (26, .iload 6, 0, [], false), (28, .iconst 0, 0, [], false), (29, .iadd, 0, [], false), (30, .iload_n 2, 0, [], false), (31, .iastore, 0, [], false), (32, .aload_n 0, 0, [], false), (33, .getfield 18, 1, [(0, 3), (0, 2), (0, 5), (0, 1)], false), (36, .iload 6, 0, [], false), (38, .iconst 1, 0, [], false), (39, .iadd, 0, [], false), (40, .iload_n 3, 0, [], false), (41, .iastore, 0, [], false), (42, .aload_n 0, 0, [], false), (43, .getfield 18, 1, [(0, 3), (0, 2), (0, 5), (0, 1)], false), (46, .iload 6, 0, [], false), (48, .iconst 2, 0, [], false), (49, .iadd, 0, [], false), (50, .iload 4, 0, [], false), (52, .iastore, 0, [], false), (53, .aload_n 0, 0, [], false), (54, .getfield 18, 1, [(0, 3), (0, 2), (0, 5), (0, 1)], false), (57, .iload 6, 0, [], false), (59, .iconst 3, 0, [], false), (60, .iadd, 0, [], false), (61, .iload 5, 0, [], false), (63, .iastore, 0, [], false), (64, .return_, 0, [], false)]
def zc7 : List mzN := [(0, .iconst 0, 0, [], false), (1, .istore_n 2, 0, [], false), (2, .iconst 0, 0, [], false), (3, .istore_n 3, 0, [], false), (4, .iload_n 3, 0, [], true), (5, .aload_n 0, 0, [], false), (6, .getfield 12, 0, [(0, 3), (0, 2), (0, 3), (0, 1)], false), (9, .invokevirtual 43, 14, [(1, 1), (0, 4)], false), (12, .if_icmp .ge 22, 18, [], false), (15, .aload_n 0, 0, [], false), (16, .iload_n 3, 0, [], false), (17, .iconst 0, 0, [], false), (18, .invokevirtual 47, 5, [(3, 1), (0, 3)], false), (21, .iload_n 1, 0, [], false), (22, .if_icmp .ne 6, 16, [], false), (25, .iinc 2 1, 0, [], false), (28, .iinc 3 1, 0, [], false), (31, .goto (-27), 4, [], false), (34, .iload_n 2, 0, [], false), (35, .ireturn, 0, [], false)]
def zc8 : List mzN := [(0, .aload_n 0, 0, [], false), (1, .iload_n 1, 0, [], false), (2, .putfield 15, 1, [(1, 0), (0, 3), (0, 3), (0, 0)], false), (5, .aload_n 0, 0, [], false), (6, .iload_n 2, 0, [], false), (7, .putfield 19, 2, [(2, 0), (0, 3), (0, 3), (0, 0)], false), (10, .iconst 0, 0, [], false), (11, .istore_n 3, 0, [], false), (12, .iload_n 3, 0, [], true), (13, .aload_n 0, 0, [], false), (14, .getfield 9, 0, [(0, 3), (0, 3), (0, 4), (0, 1)], false), (17, .arraylength, 0, [], false), (18, .if_icmp .ge 16, 20, [], false), (21, .aload_n 0, 0, [], false), (22, .getfield 9, 0, [(0, 3), (0, 3), (0, 4), (0, 1)], false), (25, .iload_n 3, 0, [], false), (26, .iconst 0, 0, [], false), (27, .iastore, 0, [], false), (28, .iinc 3 1, 0, [], false), (31, .goto (-19), 8, [], false), (34, .return_, 0, [], false)]
def zc9 : List mzN := [(0, .aload_n 0, 0, [], false), (1, .aload_n 1, 0, [], false), (2, .getfield 15, 1, [(1, 0), (0, 3), (0, 3), (0, 0)], false), (5, .putfield 15, 1, [(1, 0), (0, 3), (0, 3), (0, 0)], false), (8, .aload_n 0, 0, [], false), (9, .aload_n 1, 0, [], false), (10, .getfield 19, 2, [(2, 0), (0, 3), (0, 3), (0, 0)], false), (13, .putfield 19, 2, [(2, 0), (0, 3), (0, 3), (0, 0)], false), (16, .aload_n 1, 0, [], false), (17, .getfield 9, 0, [(0, 3), (0, 3), (0, 4), (0, 1)], false), (20, .iconst 0, 0, [], false), (21, .aload_n 0, 0, [], false), (22, .getfield 9, 0, [(0, 3), (0, 3), (0, 4), (0, 1)], false), (25, .iconst 0, 0, [], false), (26, .sipush 144, 0, [], false), (29, .invokestatic 22, 999, [], false), (32, .return_, 0, [], false)]
def zc10 : List mzN := [(0, .iload_n 1, 0, [], false), (1, .ifCond .lt 20, 11, [], false), (4, .iload_n 1, 0, [], false), (5, .aload_n 0, 0, [], false), (6, .getfield 15, 1, [(1, 0), (0, 3), (0, 3), (0, 0)], false), (9, .aload_n 0, 0, [], false), (10, .getfield 19, 2, [(2, 0), (0, 3), (0, 3), (0, 0)], false), (13, .imul, 0, [], false), (14, .if_icmp .ge 7, 11, [], false), (17, .iconst 1, 0, [], false), (18, .goto 4, 12, [], false), (21, .iconst 0, 0, [], false), (22, .ireturn, 1, [], false)]
def zc11 : List mzN := [(0, .iload_n 1, 0, [], false), (1, .ifCond .lt 21, 12, [], false), (4, .iload_n 1, 0, [], false), (5, .aload_n 0, 0, [], false), (6, .getfield 9, 0, [(0, 3), (0, 3), (0, 4), (0, 1)], false), (9, .arraylength, 0, [], false), (10, .if_icmp .ge 12, 12, [], false), (13, .aload_n 0, 0, [], false), (14, .getfield 9, 0, [(0, 3), (0, 3), (0, 4), (0, 1)], false), (17, .iload_n 1, 0, [], false), (18, .iaload, 0, [], false), (19, .goto 4, 13, [], false), (22, .iconst 0, 0, [], false), (23, .ireturn, 0, [], false)]
def zc12 : List mzN := [(0, .iload_n 1, 0, [], false), (1, .ifCond .lt 19, 12, [], false), (4, .iload_n 1, 0, [], false), (5, .aload_n 0, 0, [], false), (6, .getfield 9, 0, [(0, 3), (0, 3), (0, 4), (0, 1)], false), (9, .arraylength, 0, [], false), (10, .if_icmp .ge 10, 12, [], false), (13, .aload_n 0, 0, [], false), (14, .getfield 9, 0, [(0, 3), (0, 3), (0, 4), (0, 1)], false), (17, .iload_n 1, 0, [], false), (18, .iload_n 2, 0, [], false), (19, .iastore, 0, [], false), (20, .return_, 0, [], false)]
def zc13 : List mzN := [(0, .iload_n 1, 0, [], false), (1, .ifCond .lt 23, 12, [], false), (4, .iload_n 1, 0, [], false), (5, .aload_n 0, 0, [], false), (6, .getfield 15, 1, [(1, 0), (0, 3), (0, 3), (0, 0)], false), (9, .if_icmp .ge 15, 12, [], false), (12, .iload_n 2, 0, [], false), (13, .ifCond .lt 11, 12, [], false), (16, .iload_n 2, 0, [], false), (17, .aload_n 0, 0, [], false), (18, .getfield 19, 2, [(2, 0), (0, 3), (0, 3), (0, 0)], false), (21, .if_icmp .lt 5, 14, [], false), (24, .iconst 0, 0, [], false), (25, .ireturn, 0, [], false), (26, .iload_n 2, 0, [], false), (27, .aload_n 0, 0, [], false), (28, .getfield 15, 1, [(1, 0), (0, 3), (0, 3), (0, 0)], false), (31, .imul, 0, [], false), (32, .iload_n 1, 0, [], false), (33, .iadd, 0, [], false), (34, .istore_n 3, 0, [], false), (35, .iload_n 3, 0, [], false), (36, .aload_n 0, 0, [], false), (37, .getfield 9, 0, [(0, 3), (0, 3), (0, 4), (0, 1)], false), (40, .arraylength, 0, [], false), (41, .if_icmp .ge 12, 31, [], false), (44, .aload_n 0, 0, [], false), (45, .getfield 9, 0, [(0, 3), (0, 3), (0, 4), (0, 1)], false), (48, .iload_n 3, 0, [], false), (49, .iaload, 0, [], false), (50, .goto 4, 32, [], false), (53, .iconst 0, 0, [], false), (54, .ireturn, 0, [], false)]
def zc14 : List mzN := [(0, .aload_n 0, 0, [], false), (1, .getfield 15, 1, [(1, 0), (0, 3), (0, 3), (0, 0)], false), (4, .iconst 4, 0, [], false), (5, .idiv, 0, [], false), (6, .aload_n 0, 0, [], false), (7, .getfield 19, 2, [(2, 0), (0, 3), (0, 3), (0, 0)], false), (10, .iconst 4, 0, [], false), (11, .idiv, 0, [], false), (12, .imul, 0, [], false), (13, .ireturn, 0, [], false)]
def zc15 : List mzN := [(0, .iconst 4, 0, [], false), (1, .iload_n 1, 0, [], false), (2, .iconst 1, 0, [], false), (3, .aload_n 0, 0, [], false), (4, .getfield 15, 1, [(1, 0), (0, 3), (0, 3), (0, 0)], false), (7, .iconst 4, 0, [], false), (8, .idiv, 0, [], false), (9, .invokestatic 32, 65, [(2, 1), (0, 0)], false), (12, .irem, 0, [], false), (13, .imul, 0, [], false), (14, .ireturn, 0, [], false)]
def zc16 : List mzN := [(0, .iconst 4, 0, [], false), (1, .iload_n 1, 0, [], false), (2, .iconst 1, 0, [], false), (3, .aload_n 0, 0, [], false), (4, .getfield 15, 1, [(1, 0), (0, 3), (0, 3), (0, 0)], false), (7, .iconst 4, 0, [], false), (8, .idiv, 0, [], false), (9, .invokestatic 32, 65, [(2, 1), (0, 0)], false), (12, .idiv, 0, [], false), (13, .imul, 0, [], false), (14, .ireturn, 0, [], false)]
def zc17 : List mzN := [(0, .iload_n 1, 0, [], false), (1, .ifCond .lt 31, 18, [], false), (4, .iload_n 1, 0, [], false), (5, .aload_n 0, 0, [], false), (6, .getfield 15, 1, [(1, 0), (0, 3), (0, 3), (0, 0)], false), (9, .iconst 4, 0, [], false), (10, .isub, 0, [], false), (11, .if_icmp .gt 21, 18, [], false), (14, .iload_n 2, 0, [], false), (15, .ifCond .lt 17, 18, [], false), (18, .iload_n 2, 0, [], false), (19, .aload_n 0, 0, [], false), (20, .getfield 19, 2, [(2, 0), (0, 3), (0, 3), (0, 0)], false), (23, .iconst 4, 0, [], false), (24, .isub, 0, [], false), (25, .if_icmp .gt 7, 18, [], false), (28, .iconst 1, 0, [], false), (29, .goto 4, 19, [], false), (32, .iconst 0, 0, [], false), (33, .ireturn, 1, [], false)]
def zc18 : List mzN := [(0, .iconst 0, 0, [], false), (1, .istore 6, 0, [], false), (3, .iload 6, 0, [], true), (5, .bipush 16, 0, [], false), (7, .if_icmp .ge 102, 64, [], false), (10, .iload_n 2, 0, [], false), (11, .iload 6, 0, [], false), (13, .iconst 4, 0, [], false), (14, .idiv, 0, [], false), (15, .iadd, 0, [], false), (16, .aload_n 0, 0, [], false), (17, .getfield 15, 1, [(1, 0), (0, 3), (0, 3), (0, 0)], false), (20, .imul, 0, [], false), (21, .iload_n 1, 0, [], false), (22, .iadd, 0, [], false), (23, .iload 6, 0, [], false), (25, .iconst 4, 0, [], false), (26, .irem, 0, [], false), (27, .iadd, 0, [], false), (28, .istore 7, 0, [], false), (30, .iload 5, 0, [], false), (32, .iload 6, 0, [], false), (34, .iconst 4, 0, [], false), (35, .idiv, 0, [], false), (36, .iadd, 0, [], false), (37, .aload_n 3, 0, [], false), (38, .getfield 15, 1, [(1, 0), (0, 3), (0, 3), (0, 0)], false), (41, .imul, 0, [], false), (42, .iload 4, 0, [], false), (44, .iadd, 0, [], false), (45, .iload 6, 0, [], false), (47, .iconst 4, 0, [], false), (48, .irem, 0, [], false), (49, .iadd, 0, [], false), (50, .istore 8, 0, [], false), (52, .iload 7, 0, [], false), (54, .ifCond .lt 28, 49, [], false), (57, .iload 7, 0, [], false), (59, .aload_n 0, 0, [], false), (60, .getfield 9, 0, [(0, 3), (0, 3), (0, 4), (0, 1)], false), (63, .arraylength, 0, [], false), (64, .if_icmp .ge 18, 49, [], false), (67, .iload 8, 0, [], false), (69, .ifCond .lt 13, 49, [], false), (72, .iload 8, 0, [], false), (74, .aload_n 3, 0, [], false), (75, .getfield 9, 0, [(0, 3), (0, 3), (0, 4), (0, 1)], false), (78, .arraylength, 0, [], false), (79, .if_icmp .lt 5, 51, [], false), (82, .iconst 0, 0, [], false), (83, .ireturn, 1, [], false), (84, .aload_n 0, 0, [], false), (85, .getfield 9, 0, [(0, 3), (0, 3), (0, 4), (0, 1)], false), (88, .iload 7, 0, [], false), (90, .iaload, 0, [], false), (91, .aload_n 3, 0, [], false), (92, .getfield 9, 0, [(0, 3), (0, 3), (0, 4), (0, 1)], false), (95, .iload 8, 0, [], false), (97, .iaload, 0, [], false), (98, .if_icmp .eq 5, 62, [], false), (101, .iconst 0, 0, [], false), (102, .ireturn, 1, [], false), (103, .iinc 6 1, 0, [], false), (106, .goto (-103), 2, [], false), (109, .iconst 1, 0, [], false), (110, .ireturn, 1, [], false)]
def zc19 : List mzN := [(0, .iconst 0, 0, [], false), (1, .istore_n 2, 0, [], false), (2, .iconst 0, 0, [], false), (3, .istore_n 3, 0, [], false), (4, .iload_n 3, 0, [], true), (5, .aload_n 0, 0, [], false), (6, .getfield 15, 1, [(1, 0), (0, 3), (0, 3), (0, 0)], false), (9, .aload_n 0, 0, [], false), (10, .getfield 19, 2, [(2, 0), (0, 3), (0, 3), (0, 0)], false), (13, .imul, 0, [], false), (14, .if_icmp .ge 25, 21, [], false), (17, .aload_n 0, 0, [], false), (18, .iload_n 3, 0, [], false), (19, .invokevirtual 41, 11, [(2, 1), (0, 4)], false), (22, .aload_n 1, 0, [], false), (23, .iload_n 3, 0, [], false), (24, .invokevirtual 41, 11, [(2, 1), (0, 4)], false), (27, .if_icmp .eq 6, 19, [], false), (30, .iinc 2 1, 0, [], false), (33, .iinc 3 1, 0, [], false), (36, .goto (-32), 4, [], false), (39, .iload_n 2, 0, [], false), (40, .ireturn, 0, [], false)]
def zc20 : List mzN := [(0, .aload_n 1, 0, [], false), (1, .getfield 25, 3, [(3, 0), (0, 1), (0, 1), (0, 0)], false), (4, .bipush 10, 0, [], false), (6, .invokestatic 30, 66, [(2, 1), (0, 0)], false), (9, .istore 4, 0, [], false), (11, .aload_n 0, 0, [], false), (12, .aload_n 1, 0, [], false), (13, .aload_n 2, 0, [], false), (14, .aload_n 3, 0, [], false), (15, .iload 4, 0, [], false), (17, .invokevirtual 36, 21, [(5, 0), (0, 16)], false), (20, .aload_n 0, 0, [], false), (21, .aload_n 0, 0, [], false), (22, .iconst 1, 0, [], false), (23, .iload 4, 0, [], false), (25, .aload_n 1, 0, [], false), (26, .getfield 40, 6, [(6, 0), (0, 1), (0, 1), (0, 0)], false), (29, .invokevirtual 43, 22, [(4, 1), (0, 16)], false), (32, .putfield 18, 2, [(2, 0), (0, 15), (0, 15), (0, 0)], false), (35, .aload_n 0, 0, [], false), (36, .iconst 1, 0, [], false), (37, .putfield 22, 3, [(3, 0), (0, 15), (0, 15), (0, 0)], false), (40, .iconst 3, 0, [], false), (41, .istore 5, 0, [], false), (43, .iload 5, 0, [], true), (45, .iconst 1, 0, [], false), (46, .iload 4, 0, [], false), (48, .ishl, 0, [], false), (49, .if_icmp .ge 80, 64, [], false), (52, .aload_n 0, 0, [], false), (53, .iload 5, 0, [], false), (55, .iload 4, 0, [], false), (57, .aload_n 1, 0, [], false), (58, .getfield 40, 6, [(6, 0), (0, 1), (0, 1), (0, 0)], false), (61, .invokevirtual 43, 22, [(4, 1), (0, 16)], false), (64, .istore 6, 0, [], false), (66, .iload 5, 0, [], false), (68, .invokestatic 47, 63, [(1, 1), (0, 0)], false), (71, .aload_n 0, 0, [], false), (72, .getfield 22, 3, [(3, 0), (0, 15), (0, 15), (0, 0)], false), (75, .invokestatic 47, 63, [(1, 1), (0, 0)], false), (78, .if_icmp .ge 7, 44, [], false), (81, .iconst 1, 0, [], false), (82, .goto 4, 45, [], false), (85, .iconst 0, 0, [], false), (86, .istore 7, 0, [], false), (88, .iload 6, 0, [], false), (90, .aload_n 0, 0, [], false), (91, .getfield 18, 2, [(2, 0), (0, 15), (0, 15), (0, 0)], false), (94, .if_icmp .lt 17, 56, [], false), (97, .iload 6, 0, [], false), (99, .aload_n 0, 0, [], false), (100, .getfield 18, 2, [(2, 0), (0, 15), (0, 15), (0, 0)], false), (103, .if_icmp .ne 20, 62, [], false), (106, .iload 7, 0, [], false), (108, .ifCond .eq 15, 62, [], false), (111, .aload_n 0, 0, [], false), (112, .iload 6, 0, [], false), (114, .putfield 18, 2, [(2, 0), (0, 15), (0, 15), (0, 0)], false), (117, .aload_n 0, 0, [], false), (118, .iload 5, 0, [], false), (120, .putfield 22, 3, [(3, 0), (0, 15), (0, 15), (0, 0)], false), (123, .iinc 5 2, 0, [], false), (126, .goto (-83), 24, [], false), (129, .return_, 0, [], false)]
def zc21 : List mzN := [(0, .iconst 0, 0, [], false), (1, .istore 5, 0, [], false), (3, .iload 5, 0, [], true), (5, .iload 4, 0, [], false), (7, .if_icmp .ge 86, 49, [], false), (10, .iload 5, 0, [], false), (12, .aload_n 0, 0, [], false), (13, .getfield 9, 0, [(0, 3), (0, 15), (0, 16), (0, 0)], false), (16, .arraylength, 0, [], false), (17, .if_icmp .ge 76, 49, [], false), (20, .iload 5, 0, [], false), (22, .aload_n 0, 0, [], false), (23, .getfield 15, 1, [(0, 3), (0, 15), (0, 17), (0, 0)], false), (26, .arraylength, 0, [], false), (27, .if_icmp .ge 66, 49, [], false), (30, .aload_n 3, 0, [], false), (31, .getfield 53, 0, [(0, 3), (0, 2), (0, 3), (0, 1)], false), (34, .aload_n 1, 0, [], false), (35, .iload 5, 0, [], false), (37, .invokevirtual 59, 30, [(2, 6), (0, 2)], false), (40, .invokevirtual 63, 9, [(2, 0), (0, 4)], false), (43, .aload_n 2, 0, [], false), (44, .aload_n 3, 0, [], false), (45, .aload_n 1, 0, [], false), (46, .iconst (-1), 0, [], false), (47, .invokevirtual 69, 0, [(4, 0), (0, 12)], false), (50, .aload_n 0, 0, [], false), (51, .getfield 9, 0, [(0, 3), (0, 15), (0, 16), (0, 0)], false), (54, .iload 5, 0, [], false), (56, .aload_n 3, 0, [], false), (57, .getfield 75, 3, [(3, 0), (0, 2), (0, 2), (0, 0)], false), (60, .iastore, 0, [], false), (61, .iload 5, 0, [], false), (63, .ifCond .le 24, 47, [], false), (66, .aload_n 2, 0, [], false), (67, .aload_n 3, 0, [], false), (68, .aload_n 1, 0, [], false), (69, .iload 5, 0, [], false), (71, .iconst 1, 0, [], false), (72, .isub, 0, [], false), (73, .invokevirtual 69, 0, [(4, 0), (0, 12)], false), (76, .aload_n 0, 0, [], false), (77, .getfield 15, 1, [(0, 3), (0, 15), (0, 17), (0, 0)], false), (80, .iload 5, 0, [], false), (82, .aload_n 3, 0, [], false), (83, .getfield 75, 3, [(3, 0), (0, 2), (0, 2), (0, 0)], false), (86, .iastore, 0, [], false), (87, .iinc 5 1, 0, [], false), (90, .goto (-87), 2, [], false), (93, .return_, 0, [], false)]
def zc22 : List mzN := [(0, .iconst 0, 0, [], false), (1, .istore 4, 0, [], false), (3, .iconst 0, 0, [], false), (4, .istore 5, 0, [], false), (6, .iconst 0, 0, [], false), (7, .istore 6, 0, [], false), (9, .iconst 0, 0, [], false), (10, .istore 7, 0, [], false), (12, .iload 7, 0, [], true), (14, .iload_n 2, 0, [], false), (15, .if_icmp .ge 103, 62, [], false), (18, .iload 7, 0, [], false), (20, .aload_n 0, 0, [], false), (21, .getfield 9, 0, [(0, 3), (0, 15), (0, 16), (0, 0)], false), (24, .arraylength, 0, [], false), (25, .if_icmp .ge 93, 62, [], false), (28, .iload 7, 0, [], false), (30, .aload_n 0, 0, [], false), (31, .getfield 15, 1, [(0, 3), (0, 15), (0, 17), (0, 0)], false), (34, .arraylength, 0, [], false), (35, .if_icmp .ge 83, 62, [], false), (38, .iload_n 1, 0, [], false), (39, .iload 7, 0, [], false), (41, .ishr, 0, [], false), (42, .iconst 1, 0, [], false), (43, .iand, 0, [], false), (44, .iconst 1, 0, [], false), (45, .if_icmp .ne 7, 30, [], false), (48, .iconst 1, 0, [], false), (49, .goto 4, 31, [], false), (52, .iconst 0, 0, [], false), (53, .istore 8, 0, [], false), (55, .iload 8, 0, [], false), (57, .ifCond .eq 13, 39, [], false), (60, .aload_n 0, 0, [], false), (61, .getfield 9, 0, [(0, 3), (0, 15), (0, 16), (0, 0)], false), (64, .iload 7, 0, [], false), (66, .iaload, 0, [], false), (67, .goto 10, 43, [], false), (70, .aload_n 0, 0, [], false), (71, .getfield 15, 1, [(0, 3), (0, 15), (0, 17), (0, 0)], false), (74, .iload 7, 0, [], false), (76, .iaload, 0, [], false), (77, .istore 9, 0, [], false), (79, .iload 4, 0, [], false), (81, .iload 9, 0, [], false), (83, .iadd, 0, [], false), (84, .istore 4, 0, [], false), (86, .iload 8, 0, [], false), (88, .ifCond .eq 8, 52, [], false), (91, .iload 9, 0, [], false), (93, .goto 8, 55, [], false), (96, .iload 5, 0, [], false), (98, .iload 9, 0, [], false), (100, .iadd, 0, [], false), (101, .istore 5, 0, [], false), (103, .iload 6, 0, [], false), (105, .iload 5, 0, [], false), (107, .invokestatic 76, 65, [(2, 1), (0, 0)], false), (110, .istore 6, 0, [], false), (112, .iinc 7 1, 0, [], false), (115, .goto (-103), 8, [], false), (118, .iload 4, 0, [], false), (120, .iload_n 3, 0, [], false), (121, .iload 6, 0, [], false), (123, .imul, 0, [], false), (124, .iadd, 0, [], false), (125, .ireturn, 0, [], false)]
def zc23 : List mzN := [(0, .aload_n 0, 0, [], false), (1, .getfield 22, 3, [(3, 0), (0, 15), (0, 15), (0, 0)], false), (4, .iload_n 1, 0, [], false), (5, .ishr, 0, [], false), (6, .iconst 1, 0, [], false), (7, .iand, 0, [], false), (8, .iconst 1, 0, [], false), (9, .if_icmp .ne 7, 10, [], false), (12, .iconst (-1), 0, [], false), (13, .goto 6, 13, [], false), (16, .iload_n 1, 0, [], false), (17, .iconst 1, 0, [], false), (18, .isub, 0, [], false), (19, .ireturn, 0, [], false)]
def zc24 : List mzN := [(0, .aload_n 1, 0, [], false), (1, .iload_n 3, 0, [], false), (2, .invokevirtual 22, 15, [(2, 1), (0, 4)], false), (5, .istore 4, 0, [], false), (7, .aload_n 1, 0, [], false), (8, .iload_n 3, 0, [], false), (9, .invokevirtual 28, 16, [(2, 1), (0, 4)], false), (12, .istore 5, 0, [], false), (14, .aload_n 0, 0, [], false), (15, .iconst 0, 0, [], false), (16, .putfield 18, 2, [(2, 0), (0, 12), (0, 12), (0, 0)], false), (19, .iconst 0, 0, [], false), (20, .istore 6, 0, [], false), (22, .iload 6, 0, [], true), (24, .bipush 16, 0, [], false), (26, .if_icmp .ge 63, 49, [], false), (29, .iload 4, 0, [], false), (31, .iload 6, 0, [], false), (33, .iconst 4, 0, [], false), (34, .irem, 0, [], false), (35, .iadd, 0, [], false), (36, .istore 7, 0, [], false), (38, .iload 5, 0, [], false), (40, .iload 6, 0, [], false), (42, .iconst 4, 0, [], false), (43, .idiv, 0, [], false), (44, .iadd, 0, [], false), (45, .istore 8, 0, [], false), (47, .aload_n 1, 0, [], false), (48, .iload 7, 0, [], false), (50, .iload 8, 0, [], false), (52, .invokevirtual 31, 13, [(3, 1), (0, 4)], false), (55, .istore 9, 0, [], false), (57, .aload_n 2, 0, [], false), (58, .ifnull 19, 44, [], false), (61, .iload 9, 0, [], false), (63, .aload_n 2, 0, [], false), (64, .iload 7, 0, [], false), (66, .iload 8, 0, [], false), (68, .invokevirtual 31, 13, [(3, 1), (0, 4)], false), (71, .isub, 0, [], false), (72, .bipush 15, 0, [], false), (74, .iand, 0, [], false), (75, .istore 9, 0, [], false), (77, .aload_n 0, 0, [], false), (78, .iload 9, 0, [], false), (80, .invokevirtual 35, 25, [(2, 0), (0, 13)], false), (83, .iinc 6 1, 0, [], false), (86, .goto (-64), 13, [], false), (89, .return_, 0, [], false)]
def zc25 : List mzN := [(0, .aload_n 0, 0, [], false), (1, .getfield 18, 2, [(2, 0), (0, 12), (0, 12), (0, 0)], false), (4, .iconst 1, 0, [], false), (5, .isub, 0, [], false), (6, .istore_n 2, 0, [], false), (7, .iload_n 2, 0, [], false), (8, .ifCond .lt 26, 20, [], false), (11, .iload_n 2, 0, [], false), (12, .aload_n 0, 0, [], false), (13, .getfield 15, 1, [(0, 3), (0, 12), (0, 14), (0, 1)], false), (16, .arraylength, 0, [], false), (17, .if_icmp .ge 17, 20, [], false), (20, .aload_n 0, 0, [], false), (21, .getfield 15, 1, [(0, 3), (0, 12), (0, 14), (0, 1)], false), (24, .iload_n 2, 0, [], false), (25, .iaload, 0, [], false), (26, .iload_n 1, 0, [], false), (27, .if_icmp .ne 7, 20, [], false), (30, .iconst 1, 0, [], false), (31, .goto 4, 21, [], false), (34, .iconst 0, 0, [], false), (35, .istore_n 3, 0, [], false), (36, .iload_n 3, 0, [], false), (37, .ifCond .eq 25, 38, [], false), (40, .iload_n 2, 0, [], false), (41, .aload_n 0, 0, [], false), (42, .getfield 9, 0, [(0, 3), (0, 12), (0, 13), (0, 1)], false), (45, .arraylength, 0, [], false), (46, .if_icmp .ge 16, 38, [], false), (49, .aload_n 0, 0, [], false), (50, .getfield 9, 0, [(0, 3), (0, 12), (0, 13), (0, 1)], false), (53, .iload_n 2, 0, [], false), (54, .dup2, 0, [], false), (55, .iaload, 0, [], false), (56, .iconst 1, 0, [], false), (57, .iadd, 0, [], false), (58, .iastore, 0, [], false), (59, .goto 64, 71, [], false), (62, .aload_n 0, 0, [], false), (63, .getfield 18, 2, [(2, 0), (0, 12), (0, 12), (0, 0)], false), (66, .ifCond .lt 57, 71, [], false), (69, .aload_n 0, 0, [], false), (70, .getfield 18, 2, [(2, 0), (0, 12), (0, 12), (0, 0)], false), (73, .aload_n 0, 0, [], false), (74, .getfield 9, 0, [(0, 3), (0, 12), (0, 13), (0, 1)], false), (77, .arraylength, 0, [], false), (78, .if_icmp .ge 45, 71, [], false), (81, .aload_n 0, 0, [], false), (82, .getfield 18, 2, [(2, 0), (0, 12), (0, 12), (0, 0)], false), (85, .aload_n 0, 0, [], false), (86, .getfield 15, 1, [(0, 3), (0, 12), (0, 14), (0, 1)], false), (89, .arraylength, 0, [], false), (90, .if_icmp .ge 33, 71, [], false), (93, .aload_n 0, 0, [], false), (94, .getfield 9, 0, [(0, 3), (0, 12), (0, 13), (0, 1)], false), (97, .aload_n 0, 0, [], false), (98, .getfield 18, 2, [(2, 0), (0, 12), (0, 12), (0, 0)], false), (101, .iconst 1, 0, [], false), (102, .iastore, 0, [], false), (103, .aload_n 0, 0, [], false), (104, .getfield 15, 1, [(0, 3), (0, 12), (0, 14), (0, 1)], false), (107, .aload_n 0, 0, [], false), (108, .getfield 18, 2, [(2, 0), (0, 12), (0, 12), (0, 0)], false), (111, .iload_n 1, 0, [], false), (112, .iastore, 0, [], false), (113, .aload_n 0, 0, [], false), (114, .dup, 0, [], false), (115, .getfield 18, 2, [(2, 0), (0, 12), (0, 12), (0, 0)], false), (118, .iconst 1, 0, [], false), (119, .iadd, 0, [], false), (120, .putfield 18, 2, [(2, 0), (0, 12), (0, 12), (0, 0)], false), (123, .return_, 0, [], false)]
def zc26 : List mzN := [(0, .aload_n 0, 0, [], false), (1, .getfield 12, 0, [(78, 3), (0, 1), (0, 3), (0, 2)], false), (4, .aload_n 1, 0, [], false), (5, .getfield 12, 0, [(78, 3), (0, 1), (0, 3), (0, 2)], false), (8, .invokevirtual 42, 9, [(2, 0), (0, 4)], false), (11, .aload_n 0, 0, [], false), (12, .aload_n 1, 0, [], false), (13, .getfield 29, 3, [(3, 0), (0, 1), (0, 1), (0, 0)], false), (16, .putfield 29, 3, [(3, 0), (0, 1), (0, 1), (0, 0)], false), (19, .aload_n 0, 0, [], false), (20, .aload_n 1, 0, [], false), (21, .getfield 33, 4, [(4, 0), (0, 1), (0, 1), (0, 0)], false), (24, .putfield 33, 4, [(4, 0), (0, 1), (0, 1), (0, 0)], false), (27, .aload_n 0, 0, [], false), (28, .aload_n 1, 0, [], false), (29, .getfield 36, 5, [(5, 0), (0, 1), (0, 1), (0, 0)], false), (32, .putfield 36, 5, [(5, 0), (0, 1), (0, 1), (0, 0)], false), (35, .aload_n 0, 0, [], false), (36, .aload_n 1, 0, [], false), (37, .getfield 39, 6, [(6, 0), (0, 1), (0, 1), (0, 0)], false), (40, .putfield 39, 6, [(6, 0), (0, 1), (0, 1), (0, 0)], false), (43, .iconst 0, 0, [], false), (44, .istore_n 2, 0, [], false), (45, .iload_n 2, 0, [], true), (46, .aload_n 0, 0, [], false), (47, .getfield 29, 3, [(3, 0), (0, 1), (0, 1), (0, 0)], false), (50, .if_icmp .ge 22, 36, [], false), (53, .aload_n 0, 0, [], false), (54, .iload_n 2, 0, [], false), (55, .invokevirtual 46, 27, [(2, 5), (0, 2)], false), (58, .aload_n 1, 0, [], false), (59, .iload_n 2, 0, [], false), (60, .invokevirtual 46, 27, [(2, 5), (0, 2)], false), (63, .invokevirtual 50, 4, [(2, 0), (0, 3)], false), (66, .iinc 2 1, 0, [], false), (69, .goto (-24), 23, [], false), (72, .return_, 0, [], false)]
def zc27 : List mzN := [(0, .iload_n 1, 0, [], false), (1, .ifCond .lt 21, 12, [], false), (4, .iload_n 1, 0, [], false), (5, .aload_n 0, 0, [], false), (6, .getfield 20, 1, [(0, 3), (0, 1), (0, 6), (0, 1)], false), (9, .arraylength, 0, [], false), (10, .if_icmp .ge 12, 12, [], false), (13, .aload_n 0, 0, [], false), (14, .getfield 20, 1, [(0, 3), (0, 1), (0, 6), (0, 1)], false), (17, .iload_n 1, 0, [], false), (18, .aaload, 0, [], false), (19, .goto 7, 14, [], false), (22, .aload_n 0, 0, [], false), (23, .getfield 25, 2, [(0, 3), (0, 1), (0, 2), (0, 3)], false), (26, .areturn, 0, [], false)]
def zc28 : List mzN := [(0, .iload_n 1, 0, [], false), (1, .ifCond .lt 15, 8, [], false), (4, .iload_n 1, 0, [], false), (5, .aload_n 0, 0, [], false), (6, .getfield 29, 3, [(3, 0), (0, 1), (0, 1), (0, 0)], false), (9, .if_icmp .ge 7, 8, [], false), (12, .iconst 1, 0, [], false), (13, .goto 4, 9, [], false), (16, .iconst 0, 0, [], false), (17, .ireturn, 1, [], false)]
def zc29 : List mzN := [(0, .iload_n 1, 0, [], false), (1, .iconst (-1), 0, [], false), (2, .if_icmp .eq 11, 7, [], false), (5, .aload_n 0, 0, [], false), (6, .iload_n 1, 0, [], false), (7, .invokevirtual 53, 28, [(2, 1), (0, 2)], false), (10, .ifCond .eq 7, 9, [], false), (13, .iconst 1, 0, [], false), (14, .goto 4, 10, [], false), (17, .iconst 0, 0, [], false), (18, .ireturn, 1, [], false)]
def zc30 : List mzN := [(0, .iload_n 1, 0, [], false), (1, .iconst (-1), 0, [], false), (2, .if_icmp .ne 10, 6, [], false), (5, .aload_n 0, 0, [], false), (6, .getfield 12, 0, [(78, 3), (0, 1), (0, 3), (0, 2)], false), (9, .goto 11, 10, [], false), (12, .aload_n 0, 0, [], false), (13, .iload_n 1, 0, [], false), (14, .invokevirtual 46, 27, [(2, 5), (0, 2)], false), (17, .getfield 57, 0, [(0, 3), (0, 2), (0, 3), (0, 1)], false), (20, .areturn, 0, [], false)]
def zc31 : List mzN := [(0, .iload_n 1, 0, [], false), (1, .istore_n 2, 0, [], false), (2, .iconst 0, 0, [], false), (3, .istore_n 3, 0, [], false), (4, .iload_n 3, 0, [], true), (5, .bipush 10, 0, [], false), (7, .if_icmp .ge 35, 23, [], false), (10, .iload_n 2, 0, [], false), (11, .ifCond .lt 31, 23, [], false), (14, .aload_n 0, 0, [], false), (15, .iload_n 2, 0, [], false), (16, .invokevirtual 46, 27, [(2, 5), (0, 2)], false), (19, .getfield 60, 4, [(4, 1), (0, 2), (0, 2), (0, 0)], false), (22, .ifCond .eq 5, 16, [], false), (25, .iconst 0, 0, [], false), (26, .ireturn, 1, [], false), (27, .aload_n 0, 0, [], false), (28, .iload_n 2, 0, [], false), (29, .invokevirtual 46, 27, [(2, 5), (0, 2)], false), (32, .getfield 64, 2, [(2, 0), (0, 2), (0, 2), (0, 0)], false), (35, .istore_n 2, 0, [], false), (36, .iinc 3 1, 0, [], false), (39, .goto (-35), 4, [], false), (42, .iconst 1, 0, [], false), (43, .ireturn, 1, [], false)]
def zc32 : List mzN := [(0, .aload_n 0, 0, [], false), (1, .iload_n 1, 0, [], false), (2, .invokevirtual 67, 31, [(2, 1), (0, 2)], false), (5, .ifCond .eq 19, 12, [], false), (8, .aload_n 0, 0, [], false), (9, .iload_n 1, 0, [], false), (10, .invokevirtual 70, 33, [(2, 1), (0, 2)], false), (13, .aload_n 0, 0, [], false), (14, .getfield 36, 5, [(5, 0), (0, 1), (0, 1), (0, 0)], false), (17, .if_icmp .ge 7, 12, [], false), (20, .iconst 1, 0, [], false), (21, .goto 4, 13, [], false), (24, .iconst 0, 0, [], false), (25, .ireturn, 1, [], false)]
def zc33 : List mzN := [(0, .iconst 0, 0, [], false), (1, .istore_n 2, 0, [], false), (2, .aload_n 0, 0, [], false), (3, .iload_n 1, 0, [], false), (4, .invokevirtual 46, 27, [(2, 5), (0, 2)], false), (7, .getfield 64, 2, [(2, 0), (0, 2), (0, 2), (0, 0)], false), (10, .istore_n 3, 0, [], false), (11, .iconst 0, 0, [], false), (12, .istore 4, 0, [], false), (14, .iload 4, 0, [], true), (16, .bipush 10, 0, [], false), (18, .if_icmp .ge 25, 22, [], false), (21, .iload_n 3, 0, [], false), (22, .ifCond .lt 21, 22, [], false), (25, .iinc 2 1, 0, [], false), (28, .aload_n 0, 0, [], false), (29, .iload_n 3, 0, [], false), (30, .invokevirtual 46, 27, [(2, 5), (0, 2)], false), (33, .getfield 64, 2, [(2, 0), (0, 2), (0, 2), (0, 0)], false), (36, .istore_n 3, 0, [], false), (37, .iinc 4 1, 0, [], false), (40, .goto (-26), 9, [], false), (43, .iload_n 2, 0, [], false), (44, .ireturn, 0, [], false)]
def zc34 : List mzN := [(0, .iconst 0, 0, [], false), (1, .istore_n 2, 0, [], false), (2, .iload_n 1, 0, [], false), (3, .istore_n 3, 0, [], false), (4, .iconst 0, 0, [], false), (5, .istore 4, 0, [], false), (7, .iload 4, 0, [], true), (9, .bipush 10, 0, [], false), (11, .if_icmp .ge 33, 25, [], false), (14, .iload_n 3, 0, [], false), (15, .ifCond .lt 29, 25, [], false), (18, .iload_n 2, 0, [], false), (19, .aload_n 0, 0, [], false), (20, .iload_n 3, 0, [], false), (21, .invokevirtual 46, 27, [(2, 5), (0, 2)], false), (24, .getfield 74, 3, [(3, 0), (0, 2), (0, 2), (0, 0)], false), (27, .iadd, 0, [], false), (28, .istore_n 2, 0, [], false), (29, .aload_n 0, 0, [], false), (30, .iload_n 3, 0, [], false), (31, .invokevirtual 46, 27, [(2, 5), (0, 2)], false), (34, .getfield 64, 2, [(2, 0), (0, 2), (0, 2), (0, 0)], false), (37, .istore_n 3, 0, [], false), (38, .iinc 4 1, 0, [], false), (41, .goto (-34), 6, [], false), (44, .iload_n 2, 0, [], false), (45, .ireturn, 0, [], false)]
def zc35 : List mzN := [(0, .iload_n 1, 0, [], false), (1, .istore_n 3, 0, [], false), (2, .iconst 0, 0, [], false), (3, .istore 4, 0, [], false), (5, .iload 4, 0, [], true), (7, .bipush 10, 0, [], false), (9, .if_icmp .ge 29, 21, [], false), (12, .iload_n 3, 0, [], false), (13, .ifCond .lt 25, 21, [], false), (16, .iload_n 3, 0, [], false), (17, .iload_n 2, 0, [], false), (18, .if_icmp .ne 5, 14, [], false), (21, .iconst 1, 0, [], false), (22, .ireturn, 1, [], false), (23, .aload_n 0, 0, [], false), (24, .iload_n 3, 0, [], false), (25, .invokevirtual 46, 27, [(2, 5), (0, 2)], false), (28, .getfield 64, 2, [(2, 0), (0, 2), (0, 2), (0, 0)], false), (31, .istore_n 3, 0, [], false), (32, .iinc 4 1, 0, [], false), (35, .goto (-30), 4, [], false), (38, .iconst 0, 0, [], false), (39, .ireturn, 1, [], false)]
def zc36 : List mzN := [(0, .iconst 0, 0, [], false), (1, .istore_n 1, 0, [], false), (2, .iconst 0, 0, [], false), (3, .istore_n 2, 0, [], false), (4, .iload_n 2, 0, [], true), (5, .aload_n 0, 0, [], false), (6, .getfield 29, 3, [(3, 0), (0, 1), (0, 1), (0, 0)], false), (9, .if_icmp .ge 20, 15, [], false), (12, .aload_n 0, 0, [], false), (13, .iload_n 2, 0, [], false), (14, .invokevirtual 67, 31, [(2, 1), (0, 2)], false), (17, .ifCond .eq 6, 13, [], false), (20, .iinc 1 1, 0, [], false), (23, .iinc 2 1, 0, [], false), (26, .goto (-22), 4, [], false), (29, .iload_n 1, 0, [], false), (30, .ireturn, 0, [], false)]
def zc37 : List mzN := [(0, .iconst 0, 0, [], false), (1, .istore_n 1, 0, [], false), (2, .iconst 0, 0, [], false), (3, .istore_n 2, 0, [], false), (4, .iload_n 2, 0, [], true), (5, .aload_n 0, 0, [], false), (6, .getfield 29, 3, [(3, 0), (0, 1), (0, 1), (0, 0)], false), (9, .if_icmp .ge 20, 17, [], false), (12, .iload_n 1, 0, [], false), (13, .aload_n 0, 0, [], false), (14, .iload_n 2, 0, [], false), (15, .invokevirtual 46, 27, [(2, 5), (0, 2)], false), (18, .getfield 74, 3, [(3, 0), (0, 2), (0, 2), (0, 0)], false), (21, .iadd, 0, [], false), (22, .istore_n 1, 0, [], false), (23, .iinc 2 1, 0, [], false), (26, .goto (-22), 4, [], false), (29, .iload_n 1, 0, [], false), (30, .ireturn, 0, [], false)]
def zc38 : List mzN := [(0, .iload_n 1, 0, [], false), (1, .invokestatic 66, 57, [(1, 1), (0, 0)], false), (4, .ifCond .eq 10, 6, [], false), (7, .iload_n 2, 0, [], false), (8, .invokestatic 66, 57, [(1, 1), (0, 0)], false), (11, .ifCond .ne 5, 8, [], false), (14, .iconst (-1), 0, [], false), (15, .ireturn, 0, [], false), (16, .aload_n 0, 0, [], false), (17, .invokevirtual 70, 58, [(1, 0), (0, 1)], false), (20, .aload_n 0, 0, [], false), (21, .getfield 10, 0, [(0, 3), (0, 0), (0, 1), (0, 0)], false), (24, .iconst 0, 0, [], false), (25, .putfield 73, 3, [(3, 0), (0, 1), (0, 1), (0, 0)], false), (28, .aload_n 0, 0, [], false), (29, .getfield 10, 0, [(0, 3), (0, 0), (0, 1), (0, 0)], false), (32, .getfield 76, 0, [(78, 3), (0, 1), (0, 3), (0, 2)], false), (35, .iload_n 1, 0, [], false), (36, .iload_n 2, 0, [], false), (37, .invokevirtual 79, 8, [(3, 0), (0, 4)], false), (40, .aload_n 0, 0, [], false), (41, .getfield 10, 0, [(0, 3), (0, 0), (0, 1), (0, 0)], false), (44, .getfield 76, 0, [(78, 3), (0, 1), (0, 3), (0, 2)], false), (47, .invokevirtual 83, 14, [(1, 1), (0, 4)], false), (50, .ireturn, 0, [], false)]
def zc39 : List mzN := [(0, .aload_n 0, 0, [], false), (1, .getfield 10, 0, [(0, 3), (0, 0), (0, 1), (0, 0)], false), (4, .getfield 76, 0, [(78, 3), (0, 1), (0, 3), (0, 2)], false), (7, .iload_n 1, 0, [], false), (8, .invokevirtual 87, 10, [(2, 1), (0, 4)], false), (11, .ifCond .eq 13, 11, [], false), (14, .iload_n 2, 0, [], false), (15, .ifCond .lt 9, 11, [], false), (18, .iload_n 2, 0, [], false), (19, .bipush 15, 0, [], false), (21, .if_icmp .le 5, 13, [], false), (24, .iconst (-1), 0, [], false), (25, .ireturn, 0, [], false), (26, .aload_n 0, 0, [], false), (27, .invokevirtual 70, 58, [(1, 0), (0, 1)], false), (30, .aload_n 0, 0, [], false), (31, .getfield 10, 0, [(0, 3), (0, 0), (0, 1), (0, 0)], false), (34, .getfield 76, 0, [(78, 3), (0, 1), (0, 3), (0, 2)], false), (37, .iload_n 1, 0, [], false), (38, .invokevirtual 90, 11, [(2, 1), (0, 4)], false), (41, .istore_n 3, 0, [], false), (42, .aload_n 0, 0, [], false), (43, .getfield 10, 0, [(0, 3), (0, 0), (0, 1), (0, 0)], false), (46, .getfield 76, 0, [(78, 3), (0, 1), (0, 3), (0, 2)], false), (49, .iload_n 1, 0, [], false), (50, .iload_n 2, 0, [], false), (51, .invokevirtual 94, 12, [(3, 0), (0, 4)], false), (54, .iload_n 3, 0, [], false), (55, .ireturn, 0, [], false)]
def zc40 : List mzN := [(0, .aload_n 0, 0, [], false), (1, .getfield 10, 0, [(0, 3), (0, 0), (0, 1), (0, 0)], false), (4, .getfield 76, 0, [(78, 3), (0, 1), (0, 3), (0, 2)], false), (7, .iload_n 1, 0, [], false), (8, .invokevirtual 87, 10, [(2, 1), (0, 4)], false), (11, .ifCond .ne 5, 8, [], false), (14, .iconst (-1), 0, [], false), (15, .ireturn, 0, [], false), (16, .aload_n 0, 0, [], false), (17, .getfield 10, 0, [(0, 3), (0, 0), (0, 1), (0, 0)], false), (20, .getfield 76, 0, [(78, 3), (0, 1), (0, 3), (0, 2)], false), (23, .iload_n 1, 0, [], false), (24, .invokevirtual 90, 11, [(2, 1), (0, 4)], false), (27, .ireturn, 0, [], false)]
def zc41 : List mzN := [(0, .aload_n 0, 0, [], false), (1, .getfield 10, 0, [(0, 3), (0, 0), (0, 1), (0, 0)], false), (4, .getfield 73, 3, [(3, 0), (0, 1), (0, 1), (0, 0)], false), (7, .bipush 10, 0, [], false), (9, .if_icmp .lt 6, 7, [], false), (12, .bipush (-3), 0, [], false), (14, .ireturn, 0, [], false), (15, .aload_n 0, 0, [], false), (16, .iconst (-1), 0, [], false), (17, .invokevirtual 130, 60, [(2, 1), (0, 1)], false), (20, .ireturn, 0, [], false)]
def zc42 : List mzN := [(0, .aload_n 0, 0, [], false), (1, .getfield 10, 0, [(0, 3), (0, 0), (0, 1), (0, 0)], false), (4, .iload_n 1, 0, [], false), (5, .invokevirtual 133, 28, [(2, 1), (0, 2)], false), (8, .ifCond .ne 5, 7, [], false), (11, .iconst (-1), 0, [], false), (12, .ireturn, 0, [], false), (13, .aload_n 0, 0, [], false), (14, .getfield 10, 0, [(0, 3), (0, 0), (0, 1), (0, 0)], false), (17, .iload_n 1, 0, [], false), (18, .invokevirtual 136, 32, [(2, 1), (0, 2)], false), (21, .ifCond .ne 6, 14, [], false), (24, .bipush (-2), 0, [], false), (26, .ireturn, 0, [], false), (27, .aload_n 0, 0, [], false), (28, .getfield 10, 0, [(0, 3), (0, 0), (0, 1), (0, 0)], false), (31, .getfield 73, 3, [(3, 0), (0, 1), (0, 1), (0, 0)], false), (34, .bipush 10, 0, [], false), (36, .if_icmp .lt 6, 21, [], false), (39, .bipush (-3), 0, [], false), (41, .ireturn, 0, [], false), (42, .aload_n 0, 0, [], false), (43, .iload_n 1, 0, [], false), (44, .invokevirtual 130, 60, [(2, 1), (0, 1)], false), (47, .ireturn, 0, [], false)]
def zc43 : List mzN := [(0, .aload_n 0, 0, [], false), (1, .getfield 10, 0, [(0, 3), (0, 0), (0, 1), (0, 0)], false), (4, .getfield 73, 3, [(3, 0), (0, 1), (0, 1), (0, 0)], false), (7, .bipush 10, 0, [], false), (9, .if_icmp .lt 6, 7, [], false), (12, .bipush (-3), 0, [], false), (14, .ireturn, 0, [], false), (15, .aload_n 0, 0, [], false), (16, .aload_n 0, 0, [], false), (17, .invokevirtual 139, 62, [(1, 1), (0, 1)], false), (20, .invokevirtual 130, 60, [(2, 1), (0, 1)], false), (23, .ireturn, 0, [], false)]
def zc44 : List mzN := [(0, .aload_n 0, 0, [], false), (1, .getfield 10, 0, [(0, 3), (0, 0), (0, 1), (0, 0)], false), (4, .getfield 73, 3, [(3, 0), (0, 1), (0, 1), (0, 0)], false), (7, .iconst 1, 0, [], false), (8, .if_icmp .ge 6, 7, [], false), (11, .bipush (-2), 0, [], false), (13, .ireturn, 0, [], false), (14, .aload_n 0, 0, [], false), (15, .invokevirtual 70, 58, [(1, 0), (0, 1)], false), (18, .aload_n 0, 0, [], false), (19, .getfield 10, 0, [(0, 3), (0, 0), (0, 1), (0, 0)], false), (22, .dup, 0, [], false), (23, .getfield 73, 3, [(3, 0), (0, 1), (0, 1), (0, 0)], false), (26, .iconst 1, 0, [], false), (27, .isub, 0, [], false), (28, .putfield 73, 3, [(3, 0), (0, 1), (0, 1), (0, 0)], false), (31, .aload_n 0, 0, [], false), (32, .getfield 10, 0, [(0, 3), (0, 0), (0, 1), (0, 0)], false), (35, .getfield 73, 3, [(3, 0), (0, 1), (0, 1), (0, 0)], false), (38, .ireturn, 0, [], false)]
def zc45 : List mzN := [(0, .aload_n 0, 0, [], false), (1, .getfield 10, 0, [(0, 3), (0, 0), (0, 1), (0, 0)], false), (4, .getfield 73, 3, [(3, 0), (0, 1), (0, 1), (0, 0)], false), (7, .iconst 1, 0, [], false), (8, .if_icmp .ge 6, 7, [], false), (11, .bipush (-2), 0, [], false), (13, .ireturn, 0, [], false), (14, .aload_n 0, 0, [], false), (15, .invokevirtual 70, 58, [(1, 0), (0, 1)], false), (18, .aload_n 0, 0, [], false), (19, .getfield 44, 6, [(0, 3), (0, 0), (0, 15), (0, 0)], false), (22, .aload_n 0, 0, [], false), (23, .getfield 10, 0, [(0, 3), (0, 0), (0, 1), (0, 0)], false), (26, .aload_n 0, 0, [], false), (27, .getfield 37, 5, [(0, 3), (0, 0), (0, 11), (0, 0)], false), (30, .aload_n 0, 0, [], false), (31, .getfield 51, 7, [(77, 3), (0, 0), (0, 2), (0, 0)], false), (34, .invokevirtual 142, 20, [(4, 0), (0, 16)], false), (37, .iconst 0, 0, [], false), (38, .istore_n 1, 0, [], false), (39, .iload_n 1, 0, [], true), (40, .aload_n 0, 0, [], false), (41, .getfield 10, 0, [(0, 3), (0, 0), (0, 1), (0, 0)], false), (44, .getfield 73, 3, [(3, 0), (0, 1), (0, 1), (0, 0)], false), (47, .if_icmp .ge 36, 40, [], false), (50, .aload_n 0, 0, [], false), (51, .getfield 37, 5, [(0, 3), (0, 0), (0, 11), (0, 0)], false), (54, .aload_n 0, 0, [], false), (55, .getfield 10, 0, [(0, 3), (0, 0), (0, 1), (0, 0)], false), (58, .iload_n 1, 0, [], false), (59, .invokevirtual 146, 27, [(2, 5), (0, 2)], false), (62, .aload_n 0, 0, [], false), (63, .getfield 10, 0, [(0, 3), (0, 0), (0, 1), (0, 0)], false), (66, .aload_n 0, 0, [], false), (67, .getfield 44, 6, [(0, 3), (0, 0), (0, 15), (0, 0)], false), (70, .iload_n 1, 0, [], false), (71, .invokevirtual 150, 23, [(2, 1), (0, 16)], false), (74, .invokevirtual 153, 0, [(4, 0), (0, 12)], false), (77, .iinc 1 1, 0, [], false), (80, .goto (-41), 20, [], false), (83, .aload_n 0, 0, [], false), (84, .getfield 44, 6, [(0, 3), (0, 0), (0, 15), (0, 0)], false), (87, .getfield 157, 2, [(2, 0), (0, 15), (0, 15), (0, 0)], false), (90, .ireturn, 0, [], false)]
def zc46 : List mzN := [(0, .iload_n 1, 0, [], false), (1, .ifCond .lt 18, 10, [], false), (4, .iload_n 1, 0, [], false), (5, .iconst 4, 0, [], false), (6, .if_icmp .gt 13, 10, [], false), (9, .iload_n 2, 0, [], false), (10, .ifCond .lt 9, 10, [], false), (13, .iload_n 2, 0, [], false), (14, .bipush 9, 0, [], false), (16, .if_icmp .le 5, 12, [], false), (19, .iconst (-1), 0, [], false), (20, .ireturn, 0, [], false), (21, .iload_n 3, 0, [], false), (22, .ifCond .lt 9, 17, [], false), (25, .iload_n 3, 0, [], false), (26, .bipush 9, 0, [], false), (28, .if_icmp .le 5, 19, [], false), (31, .iconst (-1), 0, [], false), (32, .ireturn, 0, [], false), (33, .aload_n 0, 0, [], false), (34, .invokevirtual 70, 58, [(1, 0), (0, 1)], false), (37, .aload_n 0, 0, [], false), (38, .getfield 10, 0, [(0, 3), (0, 0), (0, 1), (0, 0)], false), (41, .getfield 160, 4, [(4, 0), (0, 1), (0, 1), (0, 0)], false), (44, .iload_n 1, 0, [], false), (45, .if_icmp .ne 29, 38, [], false), (48, .aload_n 0, 0, [], false), (49, .getfield 10, 0, [(0, 3), (0, 0), (0, 1), (0, 0)], false), (52, .getfield 163, 5, [(5, 0), (0, 1), (0, 1), (0, 0)], false), (55, .iload_n 2, 0, [], false), (56, .if_icmp .ne 18, 38, [], false), (59, .aload_n 0, 0, [], false), (60, .getfield 10, 0, [(0, 3), (0, 0), (0, 1), (0, 0)], false), (63, .getfield 166, 6, [(6, 0), (0, 1), (0, 1), (0, 0)], false), (66, .iload_n 3, 0, [], false), (67, .if_icmp .ne 7, 38, [], false), (70, .iconst 1, 0, [], false), (71, .goto 4, 39, [], false), (74, .iconst 0, 0, [], false), (75, .istore 4, 0, [], false), (77, .aload_n 0, 0, [], false), (78, .getfield 10, 0, [(0, 3), (0, 0), (0, 1), (0, 0)], false), (81, .iload_n 1, 0, [], false), (82, .putfield 160, 4, [(4, 0), (0, 1), (0, 1), (0, 0)], false), (85, .aload_n 0, 0, [], false), (86, .getfield 10, 0, [(0, 3), (0, 0), (0, 1), (0, 0)], false), (89, .iload_n 2, 0, [], false), (90, .putfield 163, 5, [(5, 0), (0, 1), (0, 1), (0, 0)], false), (93, .aload_n 0, 0, [], false), (94, .getfield 10, 0, [(0, 3), (0, 0), (0, 1), (0, 0)], false), (97, .iload_n 3, 0, [], false), (98, .putfield 166, 6, [(6, 0), (0, 1), (0, 1), (0, 0)], false), (101, .iload 4, 0, [], false), (103, .ifCond .eq 7, 56, [], false), (106, .iconst 0, 0, [], false), (107, .goto 4, 57, [], false), (110, .iconst 1, 0, [], false), (111, .ireturn, 0, [], false)]
def zc47 : List mzN := [(0, .aload_n 0, 0, [], false), (1, .getfield 10, 0, [(0, 3), (0, 0), (0, 1), (0, 0)], false), (4, .iload_n 1, 0, [], false), (5, .invokevirtual 133, 28, [(2, 1), (0, 2)], false), (8, .ifCond .eq 12, 10, [], false), (11, .iload_n 2, 0, [], false), (12, .ifCond .lt 8, 10, [], false), (15, .iload_n 2, 0, [], false), (16, .iconst 1, 0, [], false), (17, .if_icmp .le 5, 12, [], false), (20, .iconst (-1), 0, [], false), (21, .ireturn, 0, [], false), (22, .iload_n 2, 0, [], false), (23, .iconst 1, 0, [], false), (24, .if_icmp .ne 7, 17, [], false), (27, .iconst 1, 0, [], false), (28, .goto 4, 18, [], false), (31, .iconst 0, 0, [], false), (32, .istore_n 3, 0, [], false), (33, .aload_n 0, 0, [], false), (34, .getfield 10, 0, [(0, 3), (0, 0), (0, 1), (0, 0)], false), (37, .iload_n 1, 0, [], false), (38, .invokevirtual 146, 27, [(2, 5), (0, 2)], false), (41, .getfield 169, 4, [(4, 1), (0, 2), (0, 2), (0, 0)], false), (44, .iload_n 3, 0, [], false), (45, .if_icmp .ne 6, 28, [], false), (48, .bipush (-2), 0, [], false), (50, .ireturn, 0, [], false), (51, .aload_n 0, 0, [], false), (52, .invokevirtual 70, 58, [(1, 0), (0, 1)], false), (55, .aload_n 0, 0, [], false), (56, .getfield 10, 0, [(0, 3), (0, 0), (0, 1), (0, 0)], false), (59, .iload_n 1, 0, [], false), (60, .invokevirtual 146, 27, [(2, 5), (0, 2)], false), (63, .iload_n 3, 0, [], false), (64, .putfield 169, 4, [(4, 1), (0, 2), (0, 2), (0, 0)], false), (67, .aload_n 0, 0, [], false), (68, .getfield 10, 0, [(0, 3), (0, 0), (0, 1), (0, 0)], false), (71, .invokevirtual 173, 36, [(1, 1), (0, 2)], false), (74, .ireturn, 0, [], false)]
def zc48 : List mzN := [(0, .aload_n 0, 0, [], false), (1, .getfield 10, 0, [(0, 3), (0, 0), (0, 1), (0, 0)], false), (4, .iload_n 1, 0, [], false), (5, .invokevirtual 133, 28, [(2, 1), (0, 2)], false), (8, .ifCond .ne 5, 7, [], false), (11, .iconst (-1), 0, [], false), (12, .ireturn, 0, [], false), (13, .aload_n 0, 0, [], false), (14, .getfield 10, 0, [(0, 3), (0, 0), (0, 1), (0, 0)], false), (17, .iload_n 1, 0, [], false), (18, .invokevirtual 146, 27, [(2, 5), (0, 2)], false), (21, .astore_n 3, 0, [], false), (22, .iload_n 2, 0, [], false), (23, .tableswitch 131 0 8 #[49, 67, 72, 81, 90, 107, 113, 119, 125], 61, [(0, 14), (1, 23), (2, 26), (3, 31), (4, 36), (5, 45), (6, 49), (7, 53), (8, 57)], false), (72, .aload_n 3, 0, [], false), (73, .getfield 176, 2, [(2, 0), (0, 2), (0, 2), (0, 0)], false), (76, .iconst (-1), 0, [], false), (77, .if_icmp .ne 8, 20, [], false), (80, .bipush (-9), 0, [], false), (82, .goto 7, 22, [], false), (85, .aload_n 3, 0, [], false), (86, .getfield 176, 2, [(2, 0), (0, 2), (0, 2), (0, 0)], false), (89, .ireturn, 0, [], false), (90, .aload_n 3, 0, [], false), (91, .getfield 179, 3, [(3, 0), (0, 2), (0, 2), (0, 0)], false), (94, .ireturn, 0, [], false), (95, .aload_n 0, 0, [], false), (96, .getfield 10, 0, [(0, 3), (0, 0), (0, 1), (0, 0)], false), (99, .iload_n 1, 0, [], false), (100, .invokevirtual 180, 34, [(2, 1), (0, 2)], false), (103, .ireturn, 0, [], false), (104, .aload_n 0, 0, [], false), (105, .getfield 10, 0, [(0, 3), (0, 0), (0, 1), (0, 0)], false), (108, .iload_n 1, 0, [], false), (109, .invokevirtual 183, 33, [(2, 1), (0, 2)], false), (112, .ireturn, 0, [], false), (113, .aload_n 0, 0, [], false), (114, .getfield 10, 0, [(0, 3), (0, 0), (0, 1), (0, 0)], false), (117, .iload_n 1, 0, [], false), (118, .invokevirtual 119, 31, [(2, 1), (0, 2)], false), (121, .ifCond .eq 7, 43, [], false), (124, .iconst 1, 0, [], false), (125, .goto 4, 44, [], false), (128, .iconst 0, 0, [], false), (129, .ireturn, 0, [], false), (130, .aload_n 3, 0, [], false), (131, .iconst 0, 0, [], false), (132, .invokevirtual 186, 7, [(2, 1), (0, 3)], false), (135, .ireturn, 0, [], false), (136, .aload_n 3, 0, [], false), (137, .iconst 1, 0, [], false), (138, .invokevirtual 186, 7, [(2, 1), (0, 3)], false), (141, .ireturn, 0, [], false), (142, .aload_n 3, 0, [], false), (143, .iconst 2, 0, [], false), (144, .invokevirtual 186, 7, [(2, 1), (0, 3)], false), (147, .ireturn, 0, [], false), (148, .aload_n 3, 0, [], false), (149, .iconst 3, 0, [], false), (150, .invokevirtual 186, 7, [(2, 1), (0, 3)], false), (153, .ireturn, 0, [], false), (154, .iconst (-1), 0, [], false), (155, .ireturn, 0, [], false)]
def zc49 : List mzN := [(0, .aload_n 0, 0, [], false), (1, .getfield 10, 0, [(0, 3), (0, 0), (0, 1), (0, 0)], false), (4, .iload_n 1, 0, [], false), (5, .invokevirtual 133, 28, [(2, 1), (0, 2)], false), (8, .ifCond .eq 17, 11, [], false), (11, .aload_n 0, 0, [], false), (12, .getfield 10, 0, [(0, 3), (0, 0), (0, 1), (0, 0)], false), (15, .getfield 76, 0, [(78, 3), (0, 1), (0, 3), (0, 2)], false), (18, .iload_n 2, 0, [], false), (19, .invokevirtual 87, 10, [(2, 1), (0, 4)], false), (22, .ifCond .ne 5, 13, [], false), (25, .iconst (-1), 0, [], false), (26, .ireturn, 0, [], false), (27, .aload_n 0, 0, [], false), (28, .getfield 10, 0, [(0, 3), (0, 0), (0, 1), (0, 0)], false), (31, .iload_n 1, 0, [], false), (32, .invokevirtual 119, 31, [(2, 1), (0, 2)], false), (35, .ifCond .ne 6, 20, [], false), (38, .bipush (-2), 0, [], false), (40, .ireturn, 0, [], false), (41, .aload_n 0, 0, [], false), (42, .getfield 10, 0, [(0, 3), (0, 0), (0, 1), (0, 0)], false), (45, .iload_n 1, 0, [], false), (46, .invokevirtual 122, 30, [(2, 6), (0, 2)], false), (49, .iload_n 2, 0, [], false), (50, .invokevirtual 90, 11, [(2, 1), (0, 4)], false), (53, .ireturn, 0, [], false)]
def zc50 : List mzN := [(0, .iload_n 1, 0, [], false), (1, .tableswitch 138 0 9 #[55, 66, 77, 85, 93, 101, 109, 117, 125, 133], 43, [(0, 2), (1, 7), (2, 12), (3, 16), (4, 20), (5, 24), (6, 28), (7, 32), (8, 36), (9, 40)], false), (56, .aload_n 0, 0, [], false), (57, .getfield 10, 0, [(0, 3), (0, 0), (0, 1), (0, 0)], false), (60, .getfield 76, 0, [(78, 3), (0, 1), (0, 3), (0, 2)], false), (63, .getfield 217, 1, [(1, 0), (0, 3), (0, 3), (0, 0)], false), (66, .ireturn, 0, [], false), (67, .aload_n 0, 0, [], false), (68, .getfield 10, 0, [(0, 3), (0, 0), (0, 1), (0, 0)], false), (71, .getfield 76, 0, [(78, 3), (0, 1), (0, 3), (0, 2)], false), (74, .getfield 220, 2, [(2, 0), (0, 3), (0, 3), (0, 0)], false), (77, .ireturn, 0, [], false), (78, .aload_n 0, 0, [], false), (79, .getfield 10, 0, [(0, 3), (0, 0), (0, 1), (0, 0)], false), (82, .getfield 73, 3, [(3, 0), (0, 1), (0, 1), (0, 0)], false), (85, .ireturn, 0, [], false), (86, .aload_n 0, 0, [], false), (87, .getfield 10, 0, [(0, 3), (0, 0), (0, 1), (0, 0)], false), (90, .getfield 160, 4, [(4, 0), (0, 1), (0, 1), (0, 0)], false), (93, .ireturn, 0, [], false), (94, .aload_n 0, 0, [], false), (95, .getfield 10, 0, [(0, 3), (0, 0), (0, 1), (0, 0)], false), (98, .getfield 163, 5, [(5, 0), (0, 1), (0, 1), (0, 0)], false), (101, .ireturn, 0, [], false), (102, .aload_n 0, 0, [], false), (103, .getfield 10, 0, [(0, 3), (0, 0), (0, 1), (0, 0)], false), (106, .getfield 166, 6, [(6, 0), (0, 1), (0, 1), (0, 0)], false), (109, .ireturn, 0, [], false), (110, .aload_n 0, 0, [], false), (111, .getfield 10, 0, [(0, 3), (0, 0), (0, 1), (0, 0)], false), (114, .invokevirtual 223, 37, [(1, 1), (0, 2)], false), (117, .ireturn, 0, [], false), (118, .aload_n 0, 0, [], false), (119, .getfield 10, 0, [(0, 3), (0, 0), (0, 1), (0, 0)], false), (122, .invokevirtual 173, 36, [(1, 1), (0, 2)], false), (125, .ireturn, 0, [], false), (126, .aload_n 0, 0, [], false), (127, .getfield 30, 4, [(0, 3), (0, 0), (0, 8), (0, 0)], false), (130, .getfield 97, 1, [(1, 0), (0, 8), (0, 8), (0, 0)], false), (133, .ireturn, 0, [], false), (134, .aload_n 0, 0, [], false), (135, .getfield 24, 3, [(3, 0), (0, 0), (0, 0), (0, 0)], false), (138, .ireturn, 0, [], false), (139, .iconst (-1), 0, [], false), (140, .ireturn, 0, [], false)]
def zc51 : List mzN := [(0, .aload_n 0, 0, [], false), (1, .getfield 10, 0, [(0, 3), (0, 0), (0, 1), (0, 0)], false), (4, .iload_n 1, 0, [], false), (5, .invokevirtual 112, 29, [(2, 1), (0, 2)], false), (8, .ifCond .ne 5, 7, [], false), (11, .iconst (-1), 0, [], false), (12, .ireturn, 0, [], false), (13, .aload_n 0, 0, [], false), (14, .getfield 10, 0, [(0, 3), (0, 0), (0, 1), (0, 0)], false), (17, .iload_n 1, 0, [], false), (18, .invokevirtual 119, 31, [(2, 1), (0, 2)], false), (21, .ifCond .ne 6, 14, [], false), (24, .bipush (-2), 0, [], false), (26, .ireturn, 0, [], false), (27, .aload_n 0, 0, [], false), (28, .iload_n 1, 0, [], false), (29, .invokevirtual 226, 61, [(2, 1), (0, 1)], false), (32, .ireturn, 0, [], false)]
def zc52 : List mzN := [(0, .aload_n 0, 0, [], false), (1, .getfield 10, 0, [(0, 3), (0, 0), (0, 1), (0, 0)], false), (4, .iload_n 1, 0, [], false), (5, .invokevirtual 112, 29, [(2, 1), (0, 2)], false), (8, .ifCond .eq 14, 10, [], false), (11, .aload_n 0, 0, [], false), (12, .getfield 10, 0, [(0, 3), (0, 0), (0, 1), (0, 0)], false), (15, .iload_n 2, 0, [], false), (16, .invokevirtual 112, 29, [(2, 1), (0, 2)], false), (19, .ifCond .ne 5, 12, [], false), (22, .iconst (-1), 0, [], false), (23, .ireturn, 0, [], false), (24, .aload_n 0, 0, [], false), (25, .getfield 10, 0, [(0, 3), (0, 0), (0, 1), (0, 0)], false), (28, .iload_n 1, 0, [], false), (29, .invokevirtual 119, 31, [(2, 1), (0, 2)], false), (32, .ifCond .eq 14, 22, [], false), (35, .aload_n 0, 0, [], false), (36, .getfield 10, 0, [(0, 3), (0, 0), (0, 1), (0, 0)], false), (39, .iload_n 2, 0, [], false), (40, .invokevirtual 119, 31, [(2, 1), (0, 2)], false), (43, .ifCond .ne 6, 24, [], false), (46, .bipush (-2), 0, [], false), (48, .ireturn, 0, [], false), (49, .aload_n 0, 0, [], false), (50, .getfield 10, 0, [(0, 3), (0, 0), (0, 1), (0, 0)], false), (53, .iload_n 1, 0, [], false), (54, .invokevirtual 122, 30, [(2, 6), (0, 2)], false), (57, .aload_n 0, 0, [], false), (58, .getfield 10, 0, [(0, 3), (0, 0), (0, 1), (0, 0)], false), (61, .iload_n 2, 0, [], false), (62, .invokevirtual 122, 30, [(2, 6), (0, 2)], false), (65, .invokevirtual 229, 19, [(2, 1), (0, 4)], false), (68, .ireturn, 0, [], false)]
def zc53 : List mzN := [(0, .aload_n 0, 0, [], false), (1, .getfield 10, 0, [(0, 3), (0, 0), (0, 1), (0, 0)], false), (4, .getfield 73, 3, [(3, 0), (0, 1), (0, 1), (0, 0)], false), (7, .iconst 1, 0, [], false), (8, .if_icmp .ge 6, 7, [], false), (11, .bipush (-9), 0, [], false), (13, .ireturn, 0, [], false), (14, .iconst 0, 0, [], false), (15, .istore_n 1, 0, [], false), (16, .iconst 0, 0, [], false), (17, .istore_n 2, 0, [], false), (18, .iload_n 2, 0, [], true), (19, .aload_n 0, 0, [], false), (20, .getfield 10, 0, [(0, 3), (0, 0), (0, 1), (0, 0)], false), (23, .getfield 73, 3, [(3, 0), (0, 1), (0, 1), (0, 0)], false), (26, .if_icmp .ge 22, 25, [], false), (29, .iload_n 1, 0, [], false), (30, .aload_n 0, 0, [], false), (31, .getfield 10, 0, [(0, 3), (0, 0), (0, 1), (0, 0)], false), (34, .iload_n 2, 0, [], false), (35, .invokevirtual 180, 34, [(2, 1), (0, 2)], false), (38, .invokestatic 246, 65, [(2, 1), (0, 0)], false), (41, .istore_n 1, 0, [], false), (42, .iinc 2 1, 0, [], false), (45, .goto (-27), 11, [], false), (48, .iload_n 1, 0, [], false), (49, .ireturn, 0, [], false)]
def zc54 : List mzN := [(0, .aload_n 0, 0, [], false), (1, .getfield 10, 0, [(0, 3), (0, 0), (0, 1), (0, 0)], false), (4, .iload_n 1, 0, [], false), (5, .invokevirtual 133, 28, [(2, 1), (0, 2)], false), (8, .ifCond .ne 5, 7, [], false), (11, .iconst (-1), 0, [], false), (12, .ireturn, 0, [], false), (13, .iconst 0, 0, [], false), (14, .istore_n 2, 0, [], false), (15, .iconst 0, 0, [], false), (16, .istore_n 3, 0, [], false), (17, .iload_n 3, 0, [], true), (18, .aload_n 0, 0, [], false), (19, .getfield 10, 0, [(0, 3), (0, 0), (0, 1), (0, 0)], false), (22, .getfield 73, 3, [(3, 0), (0, 1), (0, 1), (0, 0)], false), (25, .if_icmp .ge 24, 25, [], false), (28, .aload_n 0, 0, [], false), (29, .getfield 10, 0, [(0, 3), (0, 0), (0, 1), (0, 0)], false), (32, .iload_n 3, 0, [], false), (33, .iload_n 1, 0, [], false), (34, .invokevirtual 251, 35, [(3, 1), (0, 2)], false), (37, .ifCond .eq 6, 23, [], false), (40, .iinc 2 1, 0, [], false), (43, .iinc 3 1, 0, [], false), (46, .goto (-29), 11, [], false), (49, .iload_n 2, 0, [], false), (50, .ireturn, 0, [], false)]
def zc55 : List mzN := [(0, .aload_n 0, 0, [], false), (1, .getfield 10, 0, [(0, 3), (0, 0), (0, 1), (0, 0)], false), (4, .getfield 73, 3, [(3, 0), (0, 1), (0, 1), (0, 0)], false), (7, .iconst 1, 0, [], false), (8, .if_icmp .ge 6, 7, [], false), (11, .bipush (-9), 0, [], false), (13, .ireturn, 0, [], false), (14, .aload_n 0, 0, [], false), (15, .getfield 44, 6, [(0, 3), (0, 0), (0, 15), (0, 0)], false), (18, .aload_n 0, 0, [], false), (19, .getfield 10, 0, [(0, 3), (0, 0), (0, 1), (0, 0)], false), (22, .aload_n 0, 0, [], false), (23, .getfield 37, 5, [(0, 3), (0, 0), (0, 11), (0, 0)], false), (26, .aload_n 0, 0, [], false), (27, .getfield 51, 7, [(77, 3), (0, 0), (0, 2), (0, 0)], false), (30, .invokevirtual 142, 20, [(4, 0), (0, 16)], false), (33, .aload_n 0, 0, [], false), (34, .getfield 44, 6, [(0, 3), (0, 0), (0, 15), (0, 0)], false), (37, .getfield 157, 2, [(2, 0), (0, 15), (0, 15), (0, 0)], false), (40, .ireturn, 0, [], false)]
def zc56 : List mzN := [(0, .aload_n 0, 0, [], false), (1, .getfield 24, 3, [(3, 0), (0, 0), (0, 0), (0, 0)], false), (4, .iconst 1, 0, [], false), (5, .if_icmp .ge 6, 6, [], false), (8, .bipush (-2), 0, [], false), (10, .ireturn, 0, [], false), (11, .aload_n 0, 0, [], false), (12, .dup, 0, [], false), (13, .getfield 24, 3, [(3, 0), (0, 0), (0, 0), (0, 0)], false), (16, .iconst 1, 0, [], false), (17, .isub, 0, [], false), (18, .putfield 24, 3, [(3, 0), (0, 0), (0, 0), (0, 0)], false), (21, .aload_n 0, 0, [], false), (22, .getfield 10, 0, [(0, 3), (0, 0), (0, 1), (0, 0)], false), (25, .aload_n 0, 0, [], false), (26, .aload_n 0, 0, [], false), (27, .getfield 24, 3, [(3, 0), (0, 0), (0, 0), (0, 0)], false), (30, .invokevirtual 257, 59, [(2, 4), (0, 1)], false), (33, .invokevirtual 261, 26, [(2, 0), (0, 2)], false), (36, .aload_n 0, 0, [], false), (37, .getfield 24, 3, [(3, 0), (0, 0), (0, 0), (0, 0)], false), (40, .ireturn, 0, [], false)]
def zc57 : List mzN := [(0, .iload_n 0, 0, [], false), (1, .iconst 4, 0, [], false), (2, .if_icmp .eq 15, 9, [], false), (5, .iload_n 0, 0, [], false), (6, .bipush 8, 0, [], false), (8, .if_icmp .eq 9, 9, [], false), (11, .iload_n 0, 0, [], false), (12, .bipush 12, 0, [], false), (14, .if_icmp .ne 7, 11, [], false), (17, .iconst 1, 0, [], false), (18, .goto 4, 12, [], false), (21, .iconst 0, 0, [], false), (22, .ireturn, 1, [], false)]
def zc58 : List mzN := [(0, .aload_n 0, 0, [], false), (1, .aload_n 0, 0, [], false), (2, .getfield 24, 3, [(3, 0), (0, 0), (0, 0), (0, 0)], false), (5, .invokevirtual 257, 59, [(2, 4), (0, 1)], false), (8, .aload_n 0, 0, [], false), (9, .getfield 10, 0, [(0, 3), (0, 0), (0, 1), (0, 0)], false), (12, .invokevirtual 261, 26, [(2, 0), (0, 2)], false), (15, .aload_n 0, 0, [], false), (16, .getfield 24, 3, [(3, 0), (0, 0), (0, 0), (0, 0)], false), (19, .bipush 6, 0, [], false), (21, .if_icmp .ge 16, 18, [], false), (24, .aload_n 0, 0, [], false), (25, .dup, 0, [], false), (26, .getfield 24, 3, [(3, 0), (0, 0), (0, 0), (0, 0)], false), (29, .iconst 1, 0, [], false), (30, .iadd, 0, [], false), (31, .putfield 24, 3, [(3, 0), (0, 0), (0, 0), (0, 0)], false), (34, .goto 16, 26, [], false), (37, .aload_n 0, 0, [], false), (38, .aload_n 0, 0, [], false), (39, .getfield 20, 2, [(2, 0), (0, 0), (0, 0), (0, 0)], false), (42, .iconst 1, 0, [], false), (43, .iadd, 0, [], false), (44, .bipush 6, 0, [], false), (46, .irem, 0, [], false), (47, .putfield 20, 2, [(2, 0), (0, 0), (0, 0), (0, 0)], false), (50, .return_, 0, [], false)]
def zc59 : List mzN := [(0, .aload_n 0, 0, [], false), (1, .getfield 20, 2, [(2, 0), (0, 0), (0, 0), (0, 0)], false), (4, .iload_n 1, 0, [], false), (5, .iadd, 0, [], false), (6, .bipush 6, 0, [], false), (8, .irem, 0, [], false), (9, .istore_n 2, 0, [], false), (10, .iload_n 2, 0, [], false), (11, .ifCond .lt 21, 19, [], false), (14, .iload_n 2, 0, [], false), (15, .aload_n 0, 0, [], false), (16, .getfield 16, 1, [(0, 3), (0, 0), (0, 7), (0, 0)], false), (19, .arraylength, 0, [], false), (20, .if_icmp .ge 12, 19, [], false), (23, .aload_n 0, 0, [], false), (24, .getfield 16, 1, [(0, 3), (0, 0), (0, 7), (0, 0)], false), (27, .iload_n 2, 0, [], false), (28, .aaload, 0, [], false), (29, .goto 7, 21, [], false), (32, .aload_n 0, 0, [], false), (33, .getfield 10, 0, [(0, 3), (0, 0), (0, 1), (0, 0)], false), (36, .areturn, 0, [], false)]
def zc60 : List mzN := [(0, .aload_n 0, 0, [], false), (1, .invokevirtual 70, 58, [(1, 0), (0, 1)], false), (4, .aload_n 0, 0, [], false), (5, .getfield 10, 0, [(0, 3), (0, 0), (0, 1), (0, 0)], false), (8, .aload_n 0, 0, [], false), (9, .getfield 10, 0, [(0, 3), (0, 0), (0, 1), (0, 0)], false), (12, .getfield 73, 3, [(3, 0), (0, 1), (0, 1), (0, 0)], false), (15, .invokevirtual 146, 27, [(2, 5), (0, 2)], false), (18, .astore_n 2, 0, [], false), (19, .aload_n 2, 0, [], false), (20, .getfield 195, 0, [(0, 3), (0, 2), (0, 3), (0, 1)], false), (23, .aload_n 0, 0, [], false), (24, .getfield 10, 0, [(0, 3), (0, 0), (0, 1), (0, 0)], false), (27, .getfield 76, 0, [(78, 3), (0, 1), (0, 3), (0, 2)], false), (30, .invokevirtual 265, 9, [(2, 0), (0, 4)], false), (33, .aload_n 0, 0, [], false), (34, .getfield 37, 5, [(0, 3), (0, 0), (0, 11), (0, 0)], false), (37, .aload_n 2, 0, [], false), (38, .aload_n 0, 0, [], false), (39, .getfield 10, 0, [(0, 3), (0, 0), (0, 1), (0, 0)], false), (42, .iload_n 1, 0, [], false), (43, .invokevirtual 153, 0, [(4, 0), (0, 12)], false), (46, .aload_n 0, 0, [], false), (47, .getfield 10, 0, [(0, 3), (0, 0), (0, 1), (0, 0)], false), (50, .dup, 0, [], false), (51, .getfield 73, 3, [(3, 0), (0, 1), (0, 1), (0, 0)], false), (54, .iconst 1, 0, [], false), (55, .iadd, 0, [], false), (56, .putfield 73, 3, [(3, 0), (0, 1), (0, 1), (0, 0)], false), (59, .aload_n 2, 0, [], false), (60, .getfield 179, 3, [(3, 0), (0, 2), (0, 2), (0, 0)], false), (63, .ireturn, 0, [], false)]
def zc61 : List mzN := [(0, .aload_n 0, 0, [], false), (1, .getfield 51, 7, [(77, 3), (0, 0), (0, 2), (0, 0)], false), (4, .getfield 195, 0, [(0, 3), (0, 2), (0, 3), (0, 1)], false), (7, .aload_n 0, 0, [], false), (8, .getfield 10, 0, [(0, 3), (0, 0), (0, 1), (0, 0)], false), (11, .getfield 76, 0, [(78, 3), (0, 1), (0, 3), (0, 2)], false), (14, .invokevirtual 265, 9, [(2, 0), (0, 4)], false), (17, .aload_n 0, 0, [], false), (18, .getfield 37, 5, [(0, 3), (0, 0), (0, 11), (0, 0)], false), (21, .aload_n 0, 0, [], false), (22, .getfield 51, 7, [(77, 3), (0, 0), (0, 2), (0, 0)], false), (25, .aload_n 0, 0, [], false), (26, .getfield 10, 0, [(0, 3), (0, 0), (0, 1), (0, 0)], false), (29, .iload_n 1, 0, [], false), (30, .invokevirtual 153, 0, [(4, 0), (0, 12)], false), (33, .aload_n 0, 0, [], false), (34, .getfield 51, 7, [(77, 3), (0, 0), (0, 2), (0, 0)], false), (37, .getfield 179, 3, [(3, 0), (0, 2), (0, 2), (0, 0)], false), (40, .ireturn, 0, [], false)]
def zc62 : List mzN := [(0, .iconst (-1), 0, [], false), (1, .istore_n 1, 0, [], false), (2, .aload_n 0, 0, [], false), (3, .iconst (-1), 0, [], false), (4, .invokevirtual 226, 61, [(2, 1), (0, 1)], false), (7, .istore_n 2, 0, [], false), (8, .iconst 0, 0, [], false), (9, .istore_n 3, 0, [], false), (10, .iconst 0, 0, [], false), (11, .istore 4, 0, [], false), (13, .iload 4, 0, [], true), (15, .aload_n 0, 0, [], false), (16, .getfield 10, 0, [(0, 3), (0, 0), (0, 1), (0, 0)], false), (19, .getfield 73, 3, [(3, 0), (0, 1), (0, 1), (0, 0)], false), (22, .if_icmp .ge 72, 49, [], false), (25, .aload_n 0, 0, [], false), (26, .getfield 10, 0, [(0, 3), (0, 0), (0, 1), (0, 0)], false), (29, .iload 4, 0, [], false), (31, .invokevirtual 136, 32, [(2, 1), (0, 2)], false), (34, .ifCond .ne 6, 21, [], false), (37, .goto 51, 47, [], false), (40, .aload_n 0, 0, [], false), (41, .iload 4, 0, [], false), (43, .invokevirtual 226, 61, [(2, 1), (0, 1)], false), (46, .istore 5, 0, [], false), (48, .aload_n 0, 0, [], false), (49, .getfield 10, 0, [(0, 3), (0, 0), (0, 1), (0, 0)], false), (52, .iload 4, 0, [], false), (54, .invokevirtual 183, 33, [(2, 1), (0, 2)], false), (57, .iconst 1, 0, [], false), (58, .iadd, 0, [], false), (59, .istore 6, 0, [], false), (61, .iload 5, 0, [], false), (63, .iload_n 2, 0, [], false), (64, .if_icmp .lt 15, 41, [], false), (67, .iload 5, 0, [], false), (69, .iload_n 2, 0, [], false), (70, .if_icmp .ne 18, 47, [], false), (73, .iload 6, 0, [], false), (75, .iload_n 3, 0, [], false), (76, .if_icmp .gt 12, 47, [], false), (79, .iload 4, 0, [], false), (81, .istore_n 1, 0, [], false), (82, .iload 5, 0, [], false), (84, .istore_n 2, 0, [], false), (85, .iload 6, 0, [], false), (87, .istore_n 3, 0, [], false), (88, .iinc 4 1, 0, [], false), (91, .goto (-78), 10, [], false), (94, .iload_n 1, 0, [], false), (95, .ireturn, 0, [], false)]
def zc63 : List mzN := [(0, .iload_n 0, 0, [], false), (1, .iload_n 0, 0, [], false), (2, .iconst 1, 0, [], false), (3, .iushr, 0, [], false), (4, .ldc_w 265, 0, [(1431655765, 0)], false), (7, .iand, 0, [], false), (8, .isub, 0, [], false), (9, .istore_n 0, 0, [], false), (10, .iload_n 0, 0, [], false), (11, .ldc_w 266, 0, [(858993459, 0)], false), (14, .iand, 0, [], false), (15, .iload_n 0, 0, [], false), (16, .iconst 2, 0, [], false), (17, .iushr, 0, [], false), (18, .ldc_w 266, 0, [(858993459, 0)], false), (21, .iand, 0, [], false), (22, .iadd, 0, [], false), (23, .istore_n 0, 0, [], false), (24, .iload_n 0, 0, [], false), (25, .iload_n 0, 0, [], false), (26, .iconst 4, 0, [], false), (27, .iushr, 0, [], false), (28, .iadd, 0, [], false), (29, .ldc_w 267, 0, [(252645135, 0)], false), (32, .iand, 0, [], false), (33, .istore_n 0, 0, [], false), (34, .iload_n 0, 0, [], false), (35, .iload_n 0, 0, [], false), (36, .bipush 8, 0, [], false), (38, .iushr, 0, [], false), (39, .iadd, 0, [], false), (40, .istore_n 0, 0, [], false), (41, .iload_n 0, 0, [], false), (42, .iload_n 0, 0, [], false), (43, .bipush 16, 0, [], false), (45, .iushr, 0, [], false), (46, .iadd, 0, [], false), (47, .istore_n 0, 0, [], false), (48, .iload_n 0, 0, [], false), (49, .bipush 63, 0, [], false), (51, .iand, 0, [], false), (52, .ireturn, 0, [], false)]
def zc64 : List mzN := [(0, .iload_n 0, 0, [], false), (1, .ifCond .ge 8, 5, [], false), (4, .iload_n 0, 0, [], false), (5, .ineg, 0, [], false), (6, .goto 4, 6, [], false), (9, .iload_n 0, 0, [], false), (10, .ireturn, 0, [], false)]
def zc65 : List mzN := [(0, .iload_n 0, 0, [], false), (1, .iload_n 1, 0, [], false), (2, .if_icmp .lt 7, 5, [], false), (5, .iload_n 0, 0, [], false), (6, .goto 4, 6, [], false), (9, .iload_n 1, 0, [], false), (10, .ireturn, 0, [], false)]
def zc66 : List mzN := [(0, .iload_n 0, 0, [], false), (1, .iload_n 1, 0, [], false), (2, .if_icmp .gt 7, 5, [], false), (5, .iload_n 0, 0, [], false), (6, .goto 4, 6, [], false), (9, .iload_n 1, 0, [], false), (10, .ireturn, 0, [], false)]
def zc67 : List mzN := [(0, .iload_n 1, 0, [], false), (1, .aload_n 0, 0, [], false), (2, .arraylength, 0, [], false), (3, .if_icmp .ge 9, 8, [], false), (6, .aload_n 0, 0, [], false), (7, .iload_n 1, 0, [], false), (8, .iaload, 0, [], false), (9, .goto 15, 17, [], false), (12, .sipush 7919, 0, [], false), (15, .iload_n 1, 0, [], false), (16, .iconst 3, 0, [], false), (17, .iadd, 0, [], false), (18, .imul, 0, [], false), (19, .iload_n 1, 0, [], false), (20, .bipush 11, 0, [], false), (22, .iadd, 0, [], false), (23, .imul, 0, [], false), (24, .ireturn, 0, [], false)]
def zc68 : List mzN := [(0, .iload_n 0, 0, [], false), (1, .ldc 7, 0, [(2147483647, 0)], false), (3, .iand, 0, [], false), (4, .iload_n 1, 0, [], false), (5, .irem, 0, [], false), (6, .ireturn, 0, [], false)]
def zc69 : List mzN := [(0, .ldc2_w 8, 0, [(3, 0)], false), (3, .lstore_n 1, 0, [], false), (4, .iconst 0, 0, [], false), (5, .istore_n 3, 0, [], false), (6, .iload_n 3, 0, [], true), (7, .bipush 9, 0, [], false), (9, .if_icmp .ge 22, 18, [], false), (12, .lload_n 1, 0, [], false), (13, .ldc2_w 10, 0, [(31, 0)], false), (16, .lmul, 0, [], false), (17, .aload_n 0, 0, [], false), (18, .iload_n 3, 0, [], false), (19, .invokevirtual 12, 50, [(2, 1), (0, 1)], false), (22, .i2l, 0, [], false), (23, .ladd, 0, [], false), (24, .lstore_n 1, 0, [], false), (25, .iinc 3 1, 0, [], false), (28, .goto (-22), 4, [], false), (31, .iconst 0, 0, [], false), (32, .istore_n 3, 0, [], false), (33, .iload_n 3, 0, [], true), (34, .aload_n 0, 0, [], false), (35, .iconst 0, 0, [], false), (36, .invokevirtual 12, 50, [(2, 1), (0, 1)], false), (39, .aload_n 0, 0, [], false), (40, .iconst 1, 0, [], false), (41, .invokevirtual 12, 50, [(2, 1), (0, 1)], false), (44, .imul, 0, [], false), (45, .if_icmp .ge 22, 40, [], false), (48, .lload_n 1, 0, [], false), (49, .ldc2_w 18, 0, [(37, 0)], false), (52, .lmul, 0, [], false), (53, .aload_n 0, 0, [], false), (54, .iload_n 3, 0, [], false), (55, .invokevirtual 20, 40, [(2, 1), (0, 1)], false), (58, .i2l, 0, [], false), (59, .ladd, 0, [], false), (60, .lstore_n 1, 0, [], false), (61, .iinc 3 1, 0, [], false), (64, .goto (-31), 20, [], false), (67, .iconst 0, 0, [], false), (68, .istore_n 3, 0, [], false), (69, .iload_n 3, 0, [], true), (70, .aload_n 0, 0, [], false), (71, .iconst 2, 0, [], false), (72, .invokevirtual 12, 50, [(2, 1), (0, 1)], false), (75, .if_icmp .ge 67, 84, [], false), (78, .iconst 0, 0, [], false), (79, .istore 4, 0, [], false), (81, .iload 4, 0, [], true), (83, .bipush 9, 0, [], false), (85, .if_icmp .ge 24, 64, [], false), (88, .lload_n 1, 0, [], false), (89, .ldc2_w 23, 0, [(41, 0)], false), (92, .lmul, 0, [], false), (93, .aload_n 0, 0, [], false), (94, .iload_n 3, 0, [], false), (95, .iload 4, 0, [], false), (97, .invokevirtual 25, 48, [(3, 1), (0, 1)], false), (100, .i2l, 0, [], false), (101, .ladd, 0, [], false), (102, .lstore_n 1, 0, [], false), (103, .iinc 4 1, 0, [], false), (106, .goto (-25), 49, [], false), (109, .lload_n 1, 0, [], false), (110, .ldc2_w 29, 0, [(43, 0)], false), (113, .lmul, 0, [], false), (114, .aload_n 0, 0, [], false), (115, .iload_n 3, 0, [], false), (116, .iconst 0, 0, [], false), (117, .invokevirtual 31, 49, [(3, 1), (0, 1)], false), (120, .i2l, 0, [], false), (121, .ladd, 0, [], false), (122, .ldc2_w 8, 0, [(3, 0)], false), (125, .aload_n 0, 0, [], false), (126, .iload_n 3, 0, [], false), (127, .bipush 9, 0, [], false), (129, .invokevirtual 31, 49, [(3, 1), (0, 1)], false), (132, .i2l, 0, [], false), (133, .lmul, 0, [], false), (134, .ladd, 0, [], false), (135, .lstore_n 1, 0, [], false), (136, .iinc 3 1, 0, [], false), (139, .goto (-70), 42, [], false), (142, .lload_n 1, 0, [], false), (143, .lreturn, 0, [], false)]
def zc70 : List mzN := [(0, .iload_n 1, 0, [], false), (1, .bipush 15, 0, [], false), (3, .iand, 0, [], false), (4, .tableswitch 166 0 9 #[56, 89, 119, 124, 124, 143, 148, 148, 161, 161], 72, [(0, 4), (1, 24), (2, 42), (3, 45), (4, 45), (5, 58), (6, 61), (7, 61), (8, 69), (9, 69)], false), (60, .iload_n 1, 0, [], false), (61, .iconst 4, 0, [], false), (62, .ishr, 0, [], false), (63, .bipush 7, 0, [], false), (65, .iand, 0, [], false), (66, .ifCond .ne 22, 21, [], false), (69, .aload_n 0, 0, [], false), (70, .iconst 4, 0, [], false), (71, .iload_n 1, 0, [], false), (72, .bipush 7, 0, [], false), (74, .ishr, 0, [], false), (75, .iconst 3, 0, [], false), (76, .invokestatic 34, 68, [(2, 1), (0, 0)], false), (79, .imul, 0, [], false), (80, .bipush 8, 0, [], false), (82, .invokevirtual 39, 38, [(3, 1), (0, 1)], false), (85, .goto 7, 23, [], false), (88, .aload_n 0, 0, [], false), (89, .invokevirtual 42, 45, [(1, 1), (0, 1)], false), (92, .ireturn, 0, [], false), (93, .aload_n 0, 0, [], false), (94, .iload_n 1, 0, [], false), (95, .iconst 4, 0, [], false), (96, .ishr, 0, [], false), (97, .bipush 6, 0, [], false), (99, .invokestatic 34, 68, [(2, 1), (0, 0)], false), (102, .iload_n 1, 0, [], false), (103, .bipush 7, 0, [], false), (105, .ishr, 0, [], false), (106, .bipush 6, 0, [], false), (108, .invokestatic 34, 68, [(2, 1), (0, 0)], false), (111, .iload_n 1, 0, [], false), (112, .bipush 10, 0, [], false), (114, .ishr, 0, [], false), (115, .iconst 5, 0, [], false), (116, .invokestatic 34, 68, [(2, 1), (0, 0)], false), (119, .invokevirtual 46, 46, [(4, 1), (0, 1)], false), (122, .ireturn, 0, [], false), (123, .aload_n 0, 0, [], false), (124, .invokevirtual 50, 44, [(1, 1), (0, 1)], false), (127, .ireturn, 0, [], false), (128, .aload_n 0, 0, [], false), (129, .iload_n 1, 0, [], false), (130, .iconst 4, 0, [], false), (131, .ishr, 0, [], false), (132, .bipush 6, 0, [], false), (134, .invokestatic 34, 68, [(2, 1), (0, 0)], false), (137, .iload_n 1, 0, [], false), (138, .bipush 7, 0, [], false), (140, .ishr, 0, [], false), (141, .iconst 1, 0, [], false), (142, .iand, 0, [], false), (143, .invokevirtual 53, 47, [(3, 1), (0, 1)], false), (146, .ireturn, 0, [], false), (147, .aload_n 0, 0, [], false), (148, .invokevirtual 56, 41, [(1, 1), (0, 1)], false), (151, .ireturn, 0, [], false), (152, .aload_n 0, 0, [], false), (153, .iload_n 1, 0, [], false), (154, .iconst 4, 0, [], false), (155, .ishr, 0, [], false), (156, .bipush 6, 0, [], false), (158, .invokestatic 34, 68, [(2, 1), (0, 0)], false), (161, .invokevirtual 59, 42, [(2, 1), (0, 1)], false), (164, .ireturn, 0, [], false), (165, .aload_n 0, 0, [], false), (166, .invokevirtual 62, 43, [(1, 1), (0, 1)], false), (169, .ireturn, 0, [], false), (170, .aload_n 0, 0, [], false), (171, .iload_n 1, 0, [], false), (172, .iconst 4, 0, [], false), (173, .ishr, 0, [], false), (174, .bipush 66, 0, [], false), (176, .invokestatic 34, 68, [(2, 1), (0, 0)], false), (179, .iload_n 1, 0, [], false), (180, .bipush 11, 0, [], false), (182, .ishr, 0, [], false), (183, .bipush 17, 0, [], false), (185, .invokestatic 34, 68, [(2, 1), (0, 0)], false), (188, .invokevirtual 65, 39, [(3, 1), (0, 1)], false), (191, .ireturn, 0, [], false)]
def zc71 : List mzN := [(0, .new 13, 0, [], false), (3, .dup, 0, [], false), (4, .invokespecial 68, 998, [], false), (7, .astore_n 1, 0, [], false), (8, .iconst 0, 0, [], false), (9, .istore_n 2, 0, [], false), (10, .iconst 0, 0, [], false), (11, .istore_n 3, 0, [], false), (12, .iload_n 3, 0, [], true), (13, .bipush 40, 0, [], false), (15, .if_icmp .ge 365, 203, [], false), (18, .aload_n 0, 0, [], false), (19, .iload_n 3, 0, [], false), (20, .invokestatic 69, 67, [(2, 1), (0, 0)], false), (23, .istore 4, 0, [], false), (25, .aload_n 1, 0, [], false), (26, .invokestatic 72, 69, [(1, 2), (0, 0)], false), (29, .lstore 5, 0, [], false), (31, .aload_n 1, 0, [], false), (32, .iconst 2, 0, [], false), (33, .invokevirtual 12, 50, [(2, 1), (0, 1)], false), (36, .istore 7, 0, [], false), (38, .aload_n 1, 0, [], false), (39, .iconst (-1), 0, [], false), (40, .invokevirtual 76, 51, [(2, 1), (0, 1)], false), (43, .istore 8, 0, [], false), (45, .aload_n 1, 0, [], false), (46, .iload 4, 0, [], false), (48, .invokestatic 79, 70, [(2, 1), (0, 0)], false), (51, .istore 9, 0, [], false), (53, .iload 9, 0, [], false), (55, .ifCond .ge 15, 39, [], false), (58, .aload_n 1, 0, [], false), (59, .invokestatic 72, 69, [(1, 2), (0, 0)], false), (62, .lload 5, 0, [], false), (64, .lcmp, 0, [], false), (65, .ifCond .eq 5, 39, [], false), (68, .iconst 0, 0, [], false), (69, .ireturn, 1, [], false), (70, .iload 9, 0, [], false), (72, .ifCond .lt 26, 53, [], false), (75, .iload 4, 0, [], false), (77, .bipush 15, 0, [], false), (79, .iand, 0, [], false), (80, .iconst 4, 0, [], false), (81, .if_icmp .le 17, 53, [], false), (84, .iload 4, 0, [], false), (86, .bipush 15, 0, [], false), (88, .iand, 0, [], false), (89, .bipush 10, 0, [], false), (91, .if_icmp .ge 7, 53, [], false), (94, .iconst 1, 0, [], false), (95, .goto 4, 54, [], false), (98, .iconst 0, 0, [], false), (99, .istore 10, 0, [], false), (101, .iload 10, 0, [], false), (103, .ifCond .eq 56, 85, [], true), (106, .aload_n 1, 0, [], false), (107, .iconst 2, 0, [], false), (108, .invokevirtual 12, 50, [(2, 1), (0, 1)], false), (111, .iload 7, 0, [], false), (113, .iconst 1, 0, [], false), (114, .iadd, 0, [], false), (115, .if_icmp .ne 42, 83, [], false), (118, .aload_n 1, 0, [], false), (119, .iload 7, 0, [], false), (121, .iconst 1, 0, [], false), (122, .invokevirtual 25, 48, [(3, 1), (0, 1)], false), (125, .iload 9, 0, [], false), (127, .if_icmp .ne 30, 83, [], false), (130, .aload_n 1, 0, [], false), (131, .iload 7, 0, [], false), (133, .iconst (-1), 0, [], false), (134, .invokevirtual 83, 52, [(3, 1), (0, 1)], false), (137, .ifCond .ne 20, 83, [], false), (140, .iload 4, 0, [], false), (142, .bipush 15, 0, [], false), (144, .iand, 0, [], false), (145, .bipush 7, 0, [], false), (147, .if_icmp .le 12, 85, [], false), (150, .iload 9, 0, [], false), (152, .iload 8, 0, [], false), (154, .if_icmp .le 5, 85, [], false), (157, .iconst 0, 0, [], false), (158, .ireturn, 1, [], false), (159, .iload 9, 0, [], false), (161, .ifCond .ge 7, 89, [], false), (164, .iload_n 2, 0, [], false), (165, .goto 17, 97, [], false), (168, .iload_n 2, 0, [], false), (169, .bipush 6, 0, [], false), (171, .if_icmp .ge 9, 96, [], false), (174, .iload_n 2, 0, [], false), (175, .iconst 1, 0, [], false), (176, .iadd, 0, [], false), (177, .goto 5, 97, [], false), (180, .bipush 6, 0, [], false), (182, .istore_n 2, 0, [], false), (183, .iload 9, 0, [], false), (185, .ifCond .lt 38, 120, [], true), (188, .iload 4, 0, [], false), (190, .bipush 26, 0, [], false), (192, .ishr, 0, [], false), (193, .iconst 3, 0, [], false), (194, .iand, 0, [], false), (195, .ifCond .ne 28, 120, [], false), (198, .aload_n 1, 0, [], false), (199, .invokevirtual 86, 56, [(1, 1), (0, 1)], false), (202, .iload_n 2, 0, [], false), (203, .iconst 1, 0, [], false), (204, .isub, 0, [], false), (205, .if_icmp .ne 13, 117, [], false), (208, .aload_n 1, 0, [], false), (209, .invokestatic 72, 69, [(1, 2), (0, 0)], false), (212, .lload 5, 0, [], false), (214, .lcmp, 0, [], false), (215, .ifCond .eq 5, 119, [], false), (218, .iconst 0, 0, [], false), (219, .ireturn, 1, [], false), (220, .iinc 2 (-1), 0, [], false), (223, .aload_n 1, 0, [], false), (224, .bipush 9, 0, [], false), (226, .invokevirtual 12, 50, [(2, 1), (0, 1)], false), (229, .iload_n 2, 0, [], false), (230, .if_icmp .eq 5, 127, [], false), (233, .iconst 0, 0, [], false), (234, .ireturn, 1, [], false), (235, .iconst 0, 0, [], false), (236, .istore 11, 0, [], false), (238, .iconst 0, 0, [], false), (239, .istore 12, 0, [], false), (241, .iload 12, 0, [], true), (243, .aload_n 1, 0, [], false), (244, .iconst 2, 0, [], false), (245, .invokevirtual 12, 50, [(2, 1), (0, 1)], false), (248, .if_icmp .ge 113, 194, [], false), (251, .iconst 0, 0, [], false), (252, .istore 13, 0, [], false), (254, .iconst 5, 0, [], false), (255, .istore 14, 0, [], false), (257, .iload 14, 0, [], true), (259, .bipush 9, 0, [], false), (261, .if_icmp .ge 22, 152, [], false), (264, .iload 13, 0, [], false), (266, .aload_n 1, 0, [], false), (267, .iload 12, 0, [], false), (269, .iload 14, 0, [], false), (271, .invokevirtual 25, 48, [(3, 1), (0, 1)], false), (274, .iadd, 0, [], false), (275, .istore 13, 0, [], false), (277, .iinc 14 1, 0, [], false), (280, .goto (-23), 140, [], false), (283, .iload 11, 0, [], false), (285, .aload_n 1, 0, [], false), (286, .iload 12, 0, [], false), (288, .iconst 4, 0, [], false), (289, .invokevirtual 25, 48, [(3, 1), (0, 1)], false), (292, .iadd, 0, [], false), (293, .istore 11, 0, [], false), (295, .iload 13, 0, [], false), (297, .aload_n 1, 0, [], false), (298, .iconst 0, 0, [], false), (299, .invokevirtual 12, 50, [(2, 1), (0, 1)], false), (302, .aload_n 1, 0, [], false), (303, .iconst 1, 0, [], false), (304, .invokevirtual 12, 50, [(2, 1), (0, 1)], false), (307, .imul, 0, [], false), (308, .bipush 16, 0, [], false), (310, .idiv, 0, [], false), (311, .if_icmp .ne 42, 190, [], false), (314, .aload_n 1, 0, [], false), (315, .iload 12, 0, [], false), (317, .iconst 2, 0, [], false), (318, .invokevirtual 25, 48, [(3, 1), (0, 1)], false), (321, .aload_n 1, 0, [], false), (322, .iload 12, 0, [], false), (324, .iconst 1, 0, [], false), (325, .invokevirtual 25, 48, [(3, 1), (0, 1)], false), (328, .if_icmp .lt 25, 190, [], false), (331, .aload_n 1, 0, [], false), (332, .iload 12, 0, [], false), (334, .iconst 0, 0, [], false), (335, .invokevirtual 25, 48, [(3, 1), (0, 1)], false), (338, .iload 12, 0, [], false), (340, .if_icmp .ge 13, 190, [], false), (343, .aload_n 1, 0, [], false), (344, .iload 12, 0, [], false), (346, .invokevirtual 89, 54, [(2, 1), (0, 1)], false), (349, .iconst 1, 0, [], false), (350, .if_icmp .ge 5, 192, [], false), (353, .iconst 0, 0, [], false), (354, .ireturn, 1, [], false), (355, .iinc 12 1, 0, [], false), (358, .goto (-117), 131, [], false), (361, .iload 11, 0, [], false), (363, .aload_n 1, 0, [], false), (364, .bipush 7, 0, [], false), (366, .invokevirtual 12, 50, [(2, 1), (0, 1)], false), (369, .if_icmp .eq 5, 201, [], false), (372, .iconst 0, 0, [], false), (373, .ireturn, 1, [], false), (374, .iinc 3 1, 0, [], false), (377, .goto (-365), 8, [], false), (380, .aload_n 1, 0, [], false), (381, .iconst 2, 0, [], false), (382, .invokevirtual 12, 50, [(2, 1), (0, 1)], false), (385, .istore_n 3, 0, [], false), (386, .aload_n 1, 0, [], false), (387, .invokevirtual 92, 55, [(1, 1), (0, 1)], false), (390, .istore 4, 0, [], false), (392, .iload_n 3, 0, [], false), (393, .ifCond .ne 7, 214, [], false), (396, .iconst 1, 0, [], false), (397, .goto 4, 215, [], false), (400, .iconst 0, 0, [], false), (401, .iload 4, 0, [], false), (403, .bipush (-9), 0, [], false), (405, .if_icmp .ne 7, 220, [], false), (408, .iconst 1, 0, [], false), (409, .goto 4, 221, [], false), (412, .iconst 0, 0, [], false), (413, .if_icmp .ne 51, 246, [], false), (416, .iload_n 3, 0, [], false), (417, .ifCond .eq 43, 244, [], false), (420, .aload_n 1, 0, [], false), (421, .invokevirtual 42, 45, [(1, 1), (0, 1)], false), (424, .iload 4, 0, [], false), (426, .if_icmp .ne 38, 246, [], false), (429, .aload_n 1, 0, [], false), (430, .invokevirtual 92, 55, [(1, 1), (0, 1)], false), (433, .iload 4, 0, [], false), (435, .if_icmp .ne 29, 246, [], false), (438, .aload_n 1, 0, [], false), (439, .bipush 6, 0, [], false), (441, .invokevirtual 12, 50, [(2, 1), (0, 1)], false), (444, .aload_n 1, 0, [], false), (445, .iconst 5, 0, [], false), (446, .invokevirtual 12, 50, [(2, 1), (0, 1)], false), (449, .aload_n 1, 0, [], false), (450, .invokevirtual 95, 53, [(1, 1), (0, 1)], false), (453, .imul, 0, [], false), (454, .iadd, 0, [], false), (455, .iload 4, 0, [], false), (457, .if_icmp .ne 7, 246, [], false), (460, .iconst 1, 0, [], false), (461, .goto 4, 247, [], false), (464, .iconst 0, 0, [], false), (465, .ireturn, 1, [], false)]
def zcd : Nat → List mzN
  | 0 => zc0
  | 1 => zc1
  | 2 => zc2
  | 3 => zc3
  | 4 => zc4
  | 5 => zc5
  | 6 => zc6
  | 7 => zc7
  | 8 => zc8
  | 9 => zc9
  | 10 => zc10
  | 11 => zc11
  | 12 => zc12
  | 13 => zc13
  | 14 => zc14
  | 15 => zc15
  | 16 => zc16
  | 17 => zc17
  | 18 => zc18
  | 19 => zc19
  | 20 => zc20
  | 21 => zc21
  | 22 => zc22
  | 23 => zc23
  | 24 => zc24
  | 25 => zc25
  | 26 => zc26
  | 27 => zc27
  | 28 => zc28
  | 29 => zc29
  | 30 => zc30
  | 31 => zc31
  | 32 => zc32
  | 33 => zc33
  | 34 => zc34
  | 35 => zc35
  | 36 => zc36
  | 37 => zc37
  | 38 => zc38
  | 39 => zc39
  | 40 => zc40
  | 41 => zc41
  | 42 => zc42
  | 43 => zc43
  | 44 => zc44
  | 45 => zc45
  | 46 => zc46
  | 47 => zc47
  | 48 => zc48
  | 49 => zc49
  | 50 => zc50
  | 51 => zc51
  | 52 => zc52
  | 53 => zc53
  | 54 => zc54
  | 55 => zc55
  | 56 => zc56
  | 57 => zc57
  | 58 => zc58
  | 59 => zc59
  | 60 => zc60
  | 61 => zc61
  | 62 => zc62
  | 63 => zc63
  | 64 => zc64
  | 65 => zc65
  | 66 => zc66
  | 67 => zc67
  | 68 => zc68
  | 69 => zc69
  | 70 => zc70
  | 71 => zc71
  | _ => []
def zml : Nat → Nat
  | 0 => 6
  | 1 => 3
  | 2 => 7
  | 3 => 10
  | 4 => 2
  | 5 => 4
  | 6 => 7
  | 7 => 4
  | 8 => 4
  | 9 => 2
  | 10 => 2
  | 11 => 2
  | 12 => 3
  | 13 => 4
  | 14 => 1
  | 15 => 2
  | 16 => 2
  | 17 => 3
  | 18 => 9
  | 19 => 4
  | 20 => 8
  | 21 => 6
  | 22 => 10
  | 23 => 2
  | 24 => 10
  | 25 => 4
  | 26 => 3
  | 27 => 2
  | 28 => 2
  | 29 => 2
  | 30 => 2
  | 31 => 4
  | 32 => 2
  | 33 => 5
  | 34 => 5
  | 35 => 5
  | 36 => 3
  | 37 => 3
  | 38 => 3
  | 39 => 4
  | 40 => 2
  | 41 => 1
  | 42 => 2
  | 43 => 1
  | 44 => 1
  | 45 => 2
  | 46 => 5
  | 47 => 4
  | 48 => 4
  | 49 => 3
  | 50 => 2
  | 51 => 2
  | 52 => 3
  | 53 => 3
  | 54 => 4
  | 55 => 1
  | 56 => 1
  | 57 => 1
  | 58 => 1
  | 59 => 3
  | 60 => 3
  | 61 => 2
  | 62 => 7
  | 63 => 1
  | 64 => 1
  | 65 => 2
  | 66 => 2
  | 67 => 2
  | 68 => 2
  | 69 => 5
  | 70 => 2
  | 71 => 15
  | _ => 0
abbrev ZW (m k : Nat) (ls st : List mzV) (μ : mzM) (Q : Option mzV → mzM → Prop) : Prop := mW zcd zml m k ls st μ Q
abbrev ZI (f : Nat) (as : List mzV) (μ : mzM) (K : Int → mzM → Prop) : Prop := mCI zcd zml f as μ K
abbrev ZV (f : Nat) (as : List mzV) (μ : mzM) (K : mzM → Prop) : Prop := mCV zcd zml f as μ K
abbrev ZL (f : Nat) (as : List mzV) (μ : mzM) (K : Int → mzM → Prop) : Prop := mCL zcd zml f as μ K
abbrev ZR (f t : Nat) (as : List mzV) (μ : mzM) (K : Int → mzM → Prop) : Prop := mCR zcd zml f t as μ K
end
section
/-- what the cell at place p is: its kind and number -/
def zsh : List (Nat × Nat) := [(0, 0), (1, 0), (3, 78), (4, 78), (6, 0), (2, 0), (3, 0), (4, 0), (5, 0), (2, 1), (3, 1), (4, 1), (5, 1), (2, 2), (3, 2), (4, 2), (5, 2), (2, 3), (3, 3), (4, 3), (5, 3), (2, 4), (3, 4), (4, 4), (5, 4), (2, 5), (3, 5), (4, 5), (5, 5), (2, 6), (3, 6), (4, 6), (5, 6), (2, 7), (3, 7), (4, 7), (5, 7), (2, 8), (3, 8), (4, 8), (5, 8), (2, 9), (3, 9), (4, 9), (5, 9), (2, 10), (3, 10), (4, 10), (5, 10), (7, 0), (1, 1), (3, 79), (4, 79), (6, 1), (2, 11), (3, 11), (4, 11), (5, 11), (2, 12), (3, 12), (4, 12), (5, 12), (2, 13), (3, 13), (4, 13), (5, 13), (2, 14), (3, 14), (4, 14), (5, 14), (2, 15), (3, 15), (4, 15), (5, 15), (2, 16), (3, 16), (4, 16), (5, 16), (2, 17), (3, 17), (4, 17), (5, 17), (2, 18), (3, 18), (4, 18), (5, 18), (2, 19), (3, 19), (4, 19), (5, 19), (2, 20), (3, 20), (4, 20), (5, 20), (2, 21), (3, 21), (4, 21), (5, 21), (1, 2), (3, 80), (4, 80), (6, 2), (2, 22), (3, 22), (4, 22), (5, 22), (2, 23), (3, 23), (4, 23), (5, 23), (2, 24), (3, 24), (4, 24), (5, 24), (2, 25), (3, 25), (4, 25), (5, 25), (2, 26), (3, 26), (4, 26), (5, 26), (2, 27), (3, 27), (4, 27), (5, 27), (2, 28), (3, 28), (4, 28), (5, 28), (2, 29), (3, 29), (4, 29), (5, 29), (2, 30), (3, 30), (4, 30), (5, 30), (2, 31), (3, 31), (4, 31), (5, 31), (2, 32), (3, 32), (4, 32), (5, 32), (1, 3), (3, 81), (4, 81), (6, 3), (2, 33), (3, 33), (4, 33), (5, 33), (2, 34), (3, 34), (4, 34), (5, 34), (2, 35), (3, 35), (4, 35), (5, 35), (2, 36), (3, 36), (4, 36), (5, 36), (2, 37), (3, 37), (4, 37), (5, 37), (2, 38), (3, 38), (4, 38), (5, 38), (2, 39), (3, 39), (4, 39), (5, 39), (2, 40), (3, 40), (4, 40), (5, 40), (2, 41), (3, 41), (4, 41), (5, 41), (2, 42), (3, 42), (4, 42), (5, 42), (2, 43), (3, 43), (4, 43), (5, 43), (1, 4), (3, 82), (4, 82), (6, 4), (2, 44), (3, 44), (4, 44), (5, 44), (2, 45), (3, 45), (4, 45), (5, 45), (2, 46), (3, 46), (4, 46), (5, 46), (2, 47), (3, 47), (4, 47), (5, 47), (2, 48), (3, 48), (4, 48), (5, 48), (2, 49), (3, 49), (4, 49), (5, 49), (2, 50), (3, 50), (4, 50), (5, 50), (2, 51), (3, 51), (4, 51), (5, 51), (2, 52), (3, 52), (4, 52), (5, 52), (2, 53), (3, 53), (4, 53), (5, 53), (2, 54), (3, 54), (4, 54), (5, 54), (1, 5), (3, 83), (4, 83), (6, 5), (2, 55), (3, 55), (4, 55), (5, 55), (2, 56), (3, 56), (4, 56), (5, 56), (2, 57), (3, 57), (4, 57), (5, 57), (2, 58), (3, 58), (4, 58), (5, 58), (2, 59), (3, 59), (4, 59), (5, 59), (2, 60), (3, 60), (4, 60), (5, 60), (2, 61), (3, 61), (4, 61), (5, 61), (2, 62), (3, 62), (4, 62), (5, 62), (2, 63), (3, 63), (4, 63), (5, 63), (2, 64), (3, 64), (4, 64), (5, 64), (2, 65), (3, 65), (4, 65), (5, 65), (1, 6), (3, 84), (4, 84), (6, 6), (2, 66), (3, 66), (4, 66), (5, 66), (2, 67), (3, 67), (4, 67), (5, 67), (2, 68), (3, 68), (4, 68), (5, 68), (2, 69), (3, 69), (4, 69), (5, 69), (2, 70), (3, 70), (4, 70), (5, 70), (2, 71), (3, 71), (4, 71), (5, 71), (2, 72), (3, 72), (4, 72), (5, 72), (2, 73), (3, 73), (4, 73), (5, 73), (2, 74), (3, 74), (4, 74), (5, 74), (2, 75), (3, 75), (4, 75), (5, 75), (2, 76), (3, 76), (4, 76), (5, 76), (8, 0), (9, 0), (10, 0), (11, 0), (12, 0), (13, 0), (14, 0), (12, 1), (13, 1), (14, 1), (15, 0), (16, 0), (17, 0), (2, 77), (3, 77), (4, 77), (5, 77), (3, 85), (4, 85), (18, 0)]
def zcnt : Nat → Nat
  | 0 => 1
  | 1 => 7
  | 2 => 78
  | 3 => 86
  | 4 => 86
  | 5 => 78
  | 6 => 7
  | 7 => 1
  | 8 => 1
  | 9 => 1
  | 10 => 1
  | 11 => 1
  | 12 => 2
  | 13 => 2
  | 14 => 2
  | 15 => 1
  | 16 => 1
  | 17 => 1
  | 18 => 1
  | _ => 0
def zstp (k : Nat) : Nat := match k with | 0 => 1 | k + 1 => 50 + 48 * k
def zfrp (k : Nat) : Nat := match Nat.beq k 77 with | true => 351 | false => zstp (k / 11) + 4 + 4 * (k % 11)
def zimp (i : Nat) : Nat := match Nat.beq i 85 with | true => 355 | false => (match Nat.ble i 77 with | true => zfrp i + 1 | false => zstp (i - 78) + 1)
/-- the place of a cell -/
def zpos (t i : Nat) : Nat := match t with
  | 0 => 0 | 1 => zstp i | 2 => zfrp i | 3 => zimp i | 4 => zimp i + 1 | 5 => zfrp i + 3 | 6 => zstp i + 3 | 7 => 49 | 8 => 338 | 9 => 339 | 10 => 340 | 11 => 341
  | 12 => 342 + 3 * i | 13 => 343 + 3 * i | 14 => 344 + 3 * i | 15 => 348 | 16 => 349 | 17 => 350 | 18 => 357 | _ => 0
def zR_0 : String := "FrameDeltas"
def zF_0 : u_T := fun k => match k with
  | 0 => ("FrameDeltas", "state", "LFrameDeltas$State;", true)
  | 1 => ("FrameDeltas", "saved", "[LFrameDeltas$State;", true)
  | 2 => ("FrameDeltas", "oldestSaved", "I", false)
  | 3 => ("FrameDeltas", "savedStates", "I", false)
  | 4 => ("FrameDeltas", "script", "LFrameDeltas$Script;", true)
  | 5 => ("FrameDeltas", "coder", "LFrameDeltas$Coder;", true)
  | 6 => ("FrameDeltas", "planner", "LFrameDeltas$Planner;", true)
  | 7 => ("FrameDeltas", "trial", "LFrameDeltas$Frame;", true)
  | 8 => ("FrameDeltas", "spare", "LFrameDeltas$Image;", true)
  | _ => ("FrameDeltas", "digests", "[I", true)
def zty_0 : Nat → FieldType := fun k => match k with
  | 0 => .object "FrameDeltas$State"
  | 1 => .array (.object "FrameDeltas$State")
  | 2 => .int
  | 3 => .int
  | 4 => .object "FrameDeltas$Script"
  | 5 => .object "FrameDeltas$Coder"
  | 6 => .object "FrameDeltas$Planner"
  | 7 => .object "FrameDeltas$Frame"
  | 8 => .object "FrameDeltas$Image"
  | _ => .array .int
theorem znm_0 : ∀ a, a < 10 → ∀ b, b < 10 → a ≠ b → (zF_0 a).2.1 ≠ (zF_0 b).2.1 := by decide +kernel
theorem zty_0_ok : ∀ k, k < 10 → parseFieldDescriptor (zF_0 k).2.2.1 = some (zty_0 k) := by decide +kernel
theorem zin_0 : ∀ w ∈ u_ws zR_0 zF_0 10, w ∈ lw_tbl := by decide +kernel
theorem zgd_0 : (u_ws zR_0 zF_0 10).all goodWord = true := by decide +kernel
def zR_1 : String := "FrameDeltas$State"
def zF_1 : u_T := fun k => match k with
  | 0 => ("FrameDeltas$State", "canvas", "LFrameDeltas$Image;", true)
  | 1 => ("FrameDeltas$State", "frames", "[LFrameDeltas$Frame;", true)
  | 2 => ("FrameDeltas$State", "nowhere", "LFrameDeltas$Frame;", true)
  | 3 => ("FrameDeltas$State", "frameCount", "I", false)
  | 4 => ("FrameDeltas$State", "range", "I", false)
  | 5 => ("FrameDeltas$State", "depthLimit", "I", false)
  | _ => ("FrameDeltas$State", "rate", "I", false)
def zty_1 : Nat → FieldType := fun k => match k with
  | 0 => .object "FrameDeltas$Image"
  | 1 => .array (.object "FrameDeltas$Frame")
  | 2 => .object "FrameDeltas$Frame"
  | 3 => .int
  | 4 => .int
  | 5 => .int
  | _ => .int
theorem znm_1 : ∀ a, a < 7 → ∀ b, b < 7 → a ≠ b → (zF_1 a).2.1 ≠ (zF_1 b).2.1 := by decide +kernel
theorem zty_1_ok : ∀ k, k < 7 → parseFieldDescriptor (zF_1 k).2.2.1 = some (zty_1 k) := by decide +kernel
theorem zin_1 : ∀ w ∈ u_ws zR_1 zF_1 7, w ∈ lw_tbl := by decide +kernel
theorem zgd_1 : (u_ws zR_1 zF_1 7).all goodWord = true := by decide +kernel
def zR_2 : String := "FrameDeltas$Frame"
def zF_2 : u_T := fun k => match k with
  | 0 => ("FrameDeltas$Frame", "image", "LFrameDeltas$Image;", true)
  | 1 => ("FrameDeltas$Frame", "codes", "[I", true)
  | 2 => ("FrameDeltas$Frame", "reference", "I", false)
  | 3 => ("FrameDeltas$Frame", "cost", "I", false)
  | _ => ("FrameDeltas$Frame", "lost", "Z", false)
def zty_2 : Nat → FieldType := fun k => match k with
  | 0 => .object "FrameDeltas$Image"
  | 1 => .array .int
  | 2 => .int
  | 3 => .int
  | _ => .boolean
theorem znm_2 : ∀ a, a < 5 → ∀ b, b < 5 → a ≠ b → (zF_2 a).2.1 ≠ (zF_2 b).2.1 := by decide +kernel
theorem zty_2_ok : ∀ k, k < 5 → parseFieldDescriptor (zF_2 k).2.2.1 = some (zty_2 k) := by decide +kernel
theorem zin_2 : ∀ w ∈ u_ws zR_2 zF_2 5, w ∈ lw_tbl := by decide +kernel
theorem zgd_2 : (u_ws zR_2 zF_2 5).all goodWord = true := by decide +kernel
def zR_3 : String := "FrameDeltas$Image"
def zF_3 : u_T := fun k => match k with
  | 0 => ("FrameDeltas$Image", "cells", "[I", true)
  | 1 => ("FrameDeltas$Image", "width", "I", false)
  | _ => ("FrameDeltas$Image", "height", "I", false)
def zty_3 : Nat → FieldType := fun k => match k with
  | 0 => .array .int
  | 1 => .int
  | _ => .int
theorem znm_3 : ∀ a, a < 3 → ∀ b, b < 3 → a ≠ b → (zF_3 a).2.1 ≠ (zF_3 b).2.1 := by decide +kernel
theorem zty_3_ok : ∀ k, k < 3 → parseFieldDescriptor (zF_3 k).2.2.1 = some (zty_3 k) := by decide +kernel
theorem zin_3 : ∀ w ∈ u_ws zR_3 zF_3 3, w ∈ lw_tbl := by decide +kernel
theorem zgd_3 : (u_ws zR_3 zF_3 3).all goodWord = true := by decide +kernel
def zR_8 : String := "FrameDeltas$Script"
def zF_8 : u_T := fun k => match k with
  | 0 => ("FrameDeltas$Script", "text", "[C", true)
  | 1 => ("FrameDeltas$Script", "length", "I", false)
  | 2 => ("FrameDeltas$Script", "kind", "I", false)
  | 3 => ("FrameDeltas$Script", "start", "I", false)
  | 4 => ("FrameDeltas$Script", "behind", "I", false)
  | 5 => ("FrameDeltas$Script", "number", "I", false)
  | 6 => ("FrameDeltas$Script", "program", "[I", true)
  | _ => ("FrameDeltas$Script", "programLength", "I", false)
def zty_8 : Nat → FieldType := fun k => match k with
  | 0 => .array .char
  | 1 => .int
  | 2 => .int
  | 3 => .int
  | 4 => .int
  | 5 => .int
  | 6 => .array .int
  | _ => .int
theorem znm_8 : ∀ a, a < 8 → ∀ b, b < 8 → a ≠ b → (zF_8 a).2.1 ≠ (zF_8 b).2.1 := by decide +kernel
theorem zty_8_ok : ∀ k, k < 8 → parseFieldDescriptor (zF_8 k).2.2.1 = some (zty_8 k) := by decide +kernel
theorem zin_8 : ∀ w ∈ u_ws zR_8 zF_8 8, w ∈ lw_tbl := by decide +kernel
theorem zgd_8 : (u_ws zR_8 zF_8 8).all goodWord = true := by decide +kernel
def zR_11 : String := "FrameDeltas$Coder"
def zF_11 : u_T := fun k => match k with
  | 0 => ("FrameDeltas$Coder", "raw", "LFrameDeltas$RunList;", true)
  | 1 => ("FrameDeltas$Coder", "delta", "LFrameDeltas$RunList;", true)
  | 2 => ("FrameDeltas$Coder", "dx", "I", false)
  | _ => ("FrameDeltas$Coder", "dy", "I", false)
def zty_11 : Nat → FieldType := fun k => match k with
  | 0 => .object "FrameDeltas$RunList"
  | 1 => .object "FrameDeltas$RunList"
  | 2 => .int
  | _ => .int
theorem znm_11 : ∀ a, a < 4 → ∀ b, b < 4 → a ≠ b → (zF_11 a).2.1 ≠ (zF_11 b).2.1 := by decide +kernel
theorem zty_11_ok : ∀ k, k < 4 → parseFieldDescriptor (zF_11 k).2.2.1 = some (zty_11 k) := by decide +kernel
theorem zin_11 : ∀ w ∈ u_ws zR_11 zF_11 4, w ∈ lw_tbl := by decide +kernel
theorem zgd_11 : (u_ws zR_11 zF_11 4).all goodWord = true := by decide +kernel
def zR_12 : String := "FrameDeltas$RunList"
def zF_12 : u_T := fun k => match k with
  | 0 => ("FrameDeltas$RunList", "lengths", "[I", true)
  | 1 => ("FrameDeltas$RunList", "values", "[I", true)
  | _ => ("FrameDeltas$RunList", "size", "I", false)
def zty_12 : Nat → FieldType := fun k => match k with
  | 0 => .array .int
  | 1 => .array .int
  | _ => .int
theorem znm_12 : ∀ a, a < 3 → ∀ b, b < 3 → a ≠ b → (zF_12 a).2.1 ≠ (zF_12 b).2.1 := by decide +kernel
theorem zty_12_ok : ∀ k, k < 3 → parseFieldDescriptor (zF_12 k).2.2.1 = some (zty_12 k) := by decide +kernel
theorem zin_12 : ∀ w ∈ u_ws zR_12 zF_12 3, w ∈ lw_tbl := by decide +kernel
theorem zgd_12 : (u_ws zR_12 zF_12 3).all goodWord = true := by decide +kernel
def zR_15 : String := "FrameDeltas$Planner"
def zF_15 : u_T := fun k => match k with
  | 0 => ("FrameDeltas$Planner", "keyCosts", "[I", true)
  | 1 => ("FrameDeltas$Planner", "deltaCosts", "[I", true)
  | 2 => ("FrameDeltas$Planner", "cost", "I", false)
  | _ => ("FrameDeltas$Planner", "keys", "I", false)
def zty_15 : Nat → FieldType := fun k => match k with
  | 0 => .array .int
  | 1 => .array .int
  | 2 => .int
  | _ => .int
theorem znm_15 : ∀ a, a < 4 → ∀ b, b < 4 → a ≠ b → (zF_15 a).2.1 ≠ (zF_15 b).2.1 := by decide +kernel
theorem zty_15_ok : ∀ k, k < 4 → parseFieldDescriptor (zF_15 k).2.2.1 = some (zty_15 k) := by decide +kernel
theorem zin_15 : ∀ w ∈ u_ws zR_15 zF_15 4, w ∈ lw_tbl := by decide +kernel
theorem zgd_15 : (u_ws zR_15 zF_15 4).all goodWord = true := by decide +kernel
def zcl : List vw_C := [(zR_0, zF_0, 10), (zR_1, zF_1, 7), (zR_2, zF_2, 5), (zR_3, zF_3, 3), (zR_8, zF_8, 8), (zR_11, zF_11, 4), (zR_12, zF_12, 3), (zR_15, zF_15, 4)]
/-- the number of an object kind among the classes; 99: no object -/
def zci : Nat → Nat
  | 0 => 0
  | 1 => 1
  | 2 => 2
  | 3 => 3
  | 8 => 4
  | 11 => 5
  | 12 => 6
  | 15 => 7
  | _ => 99
/-- the fields of a kind: (sort, where kept or whither, mode, place) -/
def zfl : Nat → List (Nat × Nat × Nat × Int)
  | 0 => [(3, 1, 0, 0), (3, 7, 0, 0), (0, 0, 0, 2), (0, 0, 0, 3), (3, 8, 0, 0), (3, 11, 0, 0), (3, 15, 0, 0), (3, 2, 0, 77), (3, 3, 0, 85), (3, 18, 0, 0)]
  | 1 => [(3, 3, 2, 78), (3, 6, 1, 0), (3, 2, 3, 0), (0, 1, 0, 3), (0, 1, 0, 4), (0, 1, 0, 5), (0, 1, 0, 6)]
  | 2 => [(3, 3, 1, 0), (3, 5, 1, 0), (0, 2, 0, 2), (0, 2, 0, 3), (1, 2, 0, 4)]
  | 3 => [(3, 4, 1, 0), (0, 3, 0, 1), (0, 3, 0, 2)]
  | 8 => [(3, 9, 0, 0), (0, 8, 0, 1), (0, 8, 0, 2), (0, 8, 0, 3), (0, 8, 0, 4), (0, 8, 0, 5), (3, 10, 0, 0), (0, 8, 0, 7)]
  | 11 => [(3, 12, 0, 0), (3, 12, 0, 1), (0, 11, 0, 2), (0, 11, 0, 3)]
  | 12 => [(3, 13, 1, 0), (3, 14, 1, 0), (0, 12, 0, 2)]
  | 15 => [(3, 16, 0, 0), (3, 17, 0, 0), (0, 15, 0, 2), (0, 15, 0, 3)]
  | _ => []
theorem zpos_ok : ∀ t, t < 30 → ∀ i, i < zcnt t → zpos t i < 358 ∧ zsh.getD (zpos t i) (0, 0) = (t, i) := by decide +kernel
theorem zsh_ok : ∀ q, q < 358 → (zsh.getD q (0, 0)).1 < 30 ∧ (zsh.getD q (0, 0)).2 < zcnt (zsh.getD q (0, 0)).1 ∧ zpos (zsh.getD q (0, 0)).1 (zsh.getD q (0, 0)).2 = q := by decide +kernel
theorem zcnt_lt {t i : Nat} (h : i < zcnt t) : t < 30 := by
  rcases Nat.lt_or_ge t 30 with q | q
  · exact q
  · exfalso
    have h0 : zcnt t = 0 := by
      obtain ⟨k, rfl⟩ := Nat.exists_eq_add_of_le q
      rw [Nat.add_comm]
      rfl
    omega
/-- which class of rows -/
def zac (t : Nat) : Nat := match t with | 6 => 4 | 7 => 3 | _ => (match zrow t with | 2 => 1 | 3 => 2 | _ => 0)
def zln (t : Nat) : Nat := (zlen t 0 (fun _ _ _ => 0)).toNat
/-- whose field is kept under a kind of memory -/
def zow (t : Nat) : Nat := t
def zsee (t i j : Nat) : Nat := match t with | 6 => zpos 2 (11 * i + j) | _ => zpos 1 (1 + j)
def zval (b0 : Nat) (μ : mzM) (i : Int) (q : Nat × Nat × Nat × Int) : Value := match q.1 with
  | 3 => .ref (b0 + zpos q.2.1 (zlead q.2.2.1 q.2.2.2 i).toNat)
  | 2 => .long (Int64.ofInt (μ q.2.1 i q.2.2.2))
  | _ => .int (Int32.ofInt (μ q.2.1 i q.2.2.2))
def zcel (b0 : Nat) (ca : Nat → ClassId) (μ : mzM) (t i : Nat) : va_E := match zrow t with
  | 0 => .inr (zci t, (zfl t).map (zval b0 μ (i : Int)))
  | 4 => .inl (ca (zac t), zln t, .inr (.inr (.inr (.inr (fun j => some (b0 + zsee t i j))))))
  | _ => .inl (ca (zac t), zln t, .inl (fun j => Int32.ofInt (μ t (i : Int) (j : Int))))
def zws (b0 : Nat) (ca : Nat → ClassId) (μ : mzM) : va_W := (List.range 358).map fun q => (b0 + q, zcel b0 ca μ (zsh.getD q (0, 0)).1 (zsh.getD q (0, 0)).2)
theorem zws_q (b0 : Nat) (ca : Nat → ClassId) (μ : mzM) {q : Nat} (h : q < 358) : (zws b0 ca μ)[q]? = some (b0 + q, zcel b0 ca μ (zsh.getD q (0, 0)).1 (zsh.getD q (0, 0)).2) := by
  simp [zws, h]
theorem zws_at (b0 : Nat) (ca : Nat → ClassId) (μ : mzM) {t i : Nat} (h : i < zcnt t) : (zws b0 ca μ)[zpos t i]? = some (b0 + zpos t i, zcel b0 ca μ t i) := by
  obtain ⟨h1, h2⟩ := zpos_ok t (zcnt_lt h) i h
  rw [zws_q b0 ca μ h1, h2]
theorem zws_len (b0 : Nat) (ca : Nat → ClassId) (μ : mzM) : (zws b0 ca μ).length = 358 := by simp [zws]
theorem zws_set {b0 : Nat} {ca : Nat → ClassId} {μ μ' : mzM} {t i : Nat} (h : i < zcnt t) {x : va_E} (hx : zcel b0 ca μ' t i = x) (ho : ∀ t' i', i' < zcnt t' → (t' ≠ t ∨ i' ≠ i) → zcel b0 ca μ' t' i' = zcel b0 ca μ t' i') : (zws b0 ca μ).set (zpos t i) (b0 + zpos t i, x) = zws b0 ca μ' := by
  obtain ⟨h1, h2⟩ := zpos_ok t (zcnt_lt h) i h
  apply List.ext_getElem?
  intro q
  by_cases hq : q = zpos t i
  · rw [hq, List.getElem?_set_self (by rw [zws_len]; exact h1), zws_at b0 ca μ' h, hx]
  · rw [List.getElem?_set_ne (Ne.symm hq)]
    rcases Nat.lt_or_ge q 358 with hl | hl
    · obtain ⟨g1, g2, g3⟩ := zsh_ok q hl
      rw [zws_q b0 ca μ hl, zws_q b0 ca μ' hl, ho _ _ g2]
      by_cases ht : (zsh.getD q (0, 0)).1 = t
      · right
        intro hi
        rw [ht, hi] at g3
        exact hq g3.symm
      · exact Or.inl ht
    · rw [List.getElem?_eq_none (by rw [zws_len]; exact hl), List.getElem?_eq_none (by rw [zws_len]; exact hl)]
theorem zws_D (b0 : Nat) (ca : Nat → ClassId) (μ : mzM) : va_D (fun q => b0 ≤ q) (zws b0 ca μ) := by
  refine ⟨fun i j a b hi hj hab => ?_, fun k a hk => ?_⟩
  · have li : i < 358 := by have := (List.getElem?_eq_some_iff.mp hi).1; rwa [zws_len] at this
    have lj : j < 358 := by have := (List.getElem?_eq_some_iff.mp hj).1; rwa [zws_len] at this
    rw [zws_q b0 ca μ li] at hi
    rw [zws_q b0 ca μ lj] at hj
    cases hi
    cases hj
    exact Nat.add_left_cancel hab
  · have li : k < 358 := by have := (List.getElem?_eq_some_iff.mp hk).1; rwa [zws_len] at this
    rw [zws_q b0 ca μ li] at hk
    cases hk
    exact Nat.le_add_right _ _
theorem zfl_ow : ∀ t, t < 30 → ∀ q ∈ zfl t, q.1 ≠ 3 → zow q.2.1 = t := by decide +kernel
theorem zow_row : ∀ t, t < 30 → zow t = t := by decide +kernel
theorem mup_ne {μ : mzM} {t : Nat} {i k v : Int} {t' : Nat} {i' k' : Int} (h : ¬ (t' = t ∧ i' = i ∧ k' = k)) : mup μ t i k v t' i' k' = μ t' i' k' := by unfold mup; rw [if_neg h]
theorem mup_self (μ : mzM) (t : Nat) (i k v : Int) : mup μ t i k v t i k = v := by unfold mup; rw [if_pos ⟨rfl, rfl, rfl⟩]
/-- a cell that a store does not reach -/
theorem zcel_off {b0 : Nat} {ca : Nat → ClassId} {μ μ' : mzM} {x1 : Nat} {i : Nat} (hμ : ∀ t' i' k', ¬ (t' = x1 ∧ i' = (i : Int)) → μ' t' i' k' = μ t' i' k') {t' i' : Nat} (h : i' < zcnt t') (hne : t' ≠ zow x1 ∨ i' ≠ i) : zcel b0 ca μ' t' i' = zcel b0 ca μ t' i' := by
  have ht := zcnt_lt h
  unfold zcel
  split
  · congr 2
    apply List.map_congr_left
    intro q hq
    unfold zval
    have hm : q.1 ≠ 3 → μ' q.2.1 (i' : Int) q.2.2.2 = μ q.2.1 (i' : Int) q.2.2.2 := by
      intro h3
      apply hμ
      rintro ⟨h1, h2⟩
      have h4 := zfl_ow t' ht q hq h3
      rw [h1] at h4
      rcases hne with h5 | h5
      · exact h5 h4.symm
      · exact h5 (by omega)
    split
    · rfl
    · next h2 => rw [hm (by rw [h2]; decide)]
    · next h2 h3 => rw [hm h2]
  · rfl
  · congr 5
    funext j
    rw [hμ]
    rintro ⟨h1, h2⟩
    rcases hne with h5 | h5
    · apply h5; rw [← h1]; exact (zow_row t' ht).symm
    · exact h5 (by omega)
def zfa (t a : Nat) : Nat × Nat × Nat × Int := (zfl t).getD a (3, 0, 0, 0)
theorem zfl_apart0 : ∀ t, t < 30 → ∀ a, a < (zfl t).length → ∀ b, b < (zfl t).length → a = b ∨ (zfa t a).1 = 3 ∨ (zfa t b).1 = 3 ∨ (zfa t a).2.1 ≠ (zfa t b).2.1 ∨ (zfa t a).2.2.2 ≠ (zfa t b).2.2.2 := by decide +kernel
/-- the cell of an object behind a store into one of its fields -/
theorem zcel_put {b0 : Nat} {ca : Nat → ClassId} {μ : mzM} {t i k kd x1 md : Nat} {x2 v : Int} (h : i < zcnt t) (ho : zrow t = 0) (hk : (zfl t)[k]? = some (kd, x1, md, x2)) (h3 : kd ≠ 3) : zcel b0 ca (mup μ x1 (i : Int) x2 v) t i = .inr (zci t, ((zfl t).map (zval b0 μ (i : Int))).set k (zval b0 (fun _ _ _ => v) (i : Int) (kd, x1, md, x2))) := by
  have ht := zcnt_lt h
  have hl := (List.getElem?_eq_some_iff.mp hk).1
  unfold zcel
  rw [ho]
  show Sum.inr _ = Sum.inr _
  congr 2
  apply List.ext_getElem?
  intro j
  by_cases hj : j = k
  · rw [hj, List.getElem?_set_self (by simpa using hl), List.getElem?_map, hk]
    simp only [Option.map_some, zval]
    congr 1
    split <;> simp_all [mup_self]
  · rw [List.getElem?_set_ne (Ne.symm hj), List.getElem?_map, List.getElem?_map]
    cases hq : (zfl t)[j]? with
    | none => rfl
    | some q =>
      have hlj := (List.getElem?_eq_some_iff.mp hq).1
      simp only [Option.map_some]
      congr 1
      have hap := zfl_apart0 t ht j hlj k hl
      unfold zfa at hap
      rw [List.getD_eq_getElem?_getD, List.getD_eq_getElem?_getD, hq, hk] at hap
      simp only [Option.getD_some] at hap
      have hap2 : q.1 ≠ 3 → ¬ (q.2.1 = x1 ∧ q.2.2.2 = x2) := by
        rintro h5 ⟨g1, g2⟩
        rcases hap with h6 | h6 | h6 | h6 | h6
        · exact hj h6
        · exact h5 h6
        · exact h3 h6
        · exact h6 g1
        · exact h6 g2
      unfold zval
      split
      · rfl
      · next h2 => rw [mup_ne]; rintro ⟨g1, -, g2⟩; exact hap2 (by rw [h2]; decide) ⟨g1, g2⟩
      · next h2 h4 => rw [mup_ne]; rintro ⟨g1, -, g2⟩; exact hap2 h2 ⟨g1, g2⟩
end
section
def zy : Nat → MethodName
  | 0 => ⟨"FrameDeltas$Coder", "encode", "(LFrameDeltas$Frame;LFrameDeltas$State;I)V"⟩
  | 1 => ⟨"FrameDeltas$Coder", "encodeRaw", "(LFrameDeltas$Frame;I)I"⟩
  | 2 => ⟨"FrameDeltas$Coder", "encodeWith", "(LFrameDeltas$Frame;ILFrameDeltas$Image;I)I"⟩
  | 3 => ⟨"FrameDeltas$Coder", "findMove", "(LFrameDeltas$Image;IILFrameDeltas$Image;I)Z"⟩
  | 4 => ⟨"FrameDeltas$Frame", "take", "(LFrameDeltas$Frame;)V"⟩
  | 5 => ⟨"FrameDeltas$Frame", "codePart", "(II)I"⟩
  | 6 => ⟨"FrameDeltas$Frame", "setCode", "(IIIII)V"⟩
  | 7 => ⟨"FrameDeltas$Frame", "codesOfKind", "(I)I"⟩
  | 8 => ⟨"FrameDeltas$Image", "reset", "(II)V"⟩
  | 9 => ⟨"FrameDeltas$Image", "take", "(LFrameDeltas$Image;)V"⟩
  | 10 => ⟨"FrameDeltas$Image", "hasCell", "(I)Z"⟩
  | 11 => ⟨"FrameDeltas$Image", "numbered", "(I)I"⟩
  | 12 => ⟨"FrameDeltas$Image", "putNumbered", "(II)V"⟩
  | 13 => ⟨"FrameDeltas$Image", "at", "(II)I"⟩
  | 14 => ⟨"FrameDeltas$Image", "blocks", "()I"⟩
  | 15 => ⟨"FrameDeltas$Image", "left", "(I)I"⟩
  | 16 => ⟨"FrameDeltas$Image", "top", "(I)I"⟩
  | 17 => ⟨"FrameDeltas$Image", "hasPart", "(II)Z"⟩
  | 18 => ⟨"FrameDeltas$Image", "samePart", "(IILFrameDeltas$Image;II)Z"⟩
  | 19 => ⟨"FrameDeltas$Image", "cellsUnlike", "(LFrameDeltas$Image;)I"⟩
  | 20 => ⟨"FrameDeltas$Planner", "plan", "(LFrameDeltas$State;LFrameDeltas$Coder;LFrameDeltas$Frame;)V"⟩
  | 21 => ⟨"FrameDeltas$Planner", "measure", "(LFrameDeltas$State;LFrameDeltas$Coder;LFrameDeltas$Frame;I)V"⟩
  | 22 => ⟨"FrameDeltas$Planner", "costOf", "(III)I"⟩
  | 23 => ⟨"FrameDeltas$Planner", "referenceOf", "(I)I"⟩
  | 24 => ⟨"FrameDeltas$RunList", "read", "(LFrameDeltas$Image;LFrameDeltas$Image;I)V"⟩
  | 25 => ⟨"FrameDeltas$RunList", "addCell", "(I)V"⟩
  | 26 => ⟨"FrameDeltas$State", "take", "(LFrameDeltas$State;)V"⟩
  | 27 => ⟨"FrameDeltas$State", "frameAt", "(I)LFrameDeltas$Frame;"⟩
  | 28 => ⟨"FrameDeltas$State", "isFrame", "(I)Z"⟩
  | 29 => ⟨"FrameDeltas$State", "isImage", "(I)Z"⟩
  | 30 => ⟨"FrameDeltas$State", "imageOf", "(I)LFrameDeltas$Image;"⟩
  | 31 => ⟨"FrameDeltas$State", "isReadable", "(I)Z"⟩
  | 32 => ⟨"FrameDeltas$State", "mayBeReference", "(I)Z"⟩
  | 33 => ⟨"FrameDeltas$State", "depthOf", "(I)I"⟩
  | 34 => ⟨"FrameDeltas$State", "seekCost", "(I)I"⟩
  | 35 => ⟨"FrameDeltas$State", "chainHas", "(II)Z"⟩
  | 36 => ⟨"FrameDeltas$State", "readableFrames", "()I"⟩
  | 37 => ⟨"FrameDeltas$State", "costOfRecords", "()I"⟩
  | 38 => ⟨"FrameDeltas", "setSize", "(II)I"⟩
  | 39 => ⟨"FrameDeltas", "setCell", "(II)I"⟩
  | 40 => ⟨"FrameDeltas", "cell", "(I)I"⟩
  | 41 => ⟨"FrameDeltas", "addKey", "()I"⟩
  | 42 => ⟨"FrameDeltas", "addDelta", "(I)I"⟩
  | 43 => ⟨"FrameDeltas", "addChosen", "()I"⟩
  | 44 => ⟨"FrameDeltas", "removeLast", "()I"⟩
  | 45 => ⟨"FrameDeltas", "recode", "()I"⟩
  | 46 => ⟨"FrameDeltas", "setLimits", "(III)I"⟩
  | 47 => ⟨"FrameDeltas", "setLost", "(II)I"⟩
  | 48 => ⟨"FrameDeltas", "frame", "(II)I"⟩
  | 49 => ⟨"FrameDeltas", "pixel", "(II)I"⟩
  | 50 => ⟨"FrameDeltas", "count", "(I)I"⟩
  | 51 => ⟨"FrameDeltas", "costWith", "(I)I"⟩
  | 52 => ⟨"FrameDeltas", "difference", "(II)I"⟩
  | 53 => ⟨"FrameDeltas", "greatestSeek", "()I"⟩
  | 54 => ⟨"FrameDeltas", "dependents", "(I)I"⟩
  | 55 => ⟨"FrameDeltas", "planCost", "()I"⟩
  | 56 => ⟨"FrameDeltas", "undo", "()I"⟩
  | 57 => ⟨"FrameDeltas", "isSize", "(I)Z"⟩
  | 58 => ⟨"FrameDeltas", "save", "()V"⟩
  | 59 => ⟨"FrameDeltas", "savedSlot", "(I)LFrameDeltas$State;"⟩
  | 60 => ⟨"FrameDeltas", "add", "(I)I"⟩
  | 61 => ⟨"FrameDeltas", "costOfCanvas", "(I)I"⟩
  | 62 => ⟨"FrameDeltas", "chosenReference", "()I"⟩
  | 63 => ⟨"java/lang/Integer", "bitCount", "(I)I"⟩
  | 64 => ⟨"java/lang/Math", "abs", "(I)I"⟩
  | 65 => ⟨"java/lang/Math", "max", "(II)I"⟩
  | 66 => ⟨"java/lang/Math", "min", "(II)I"⟩
  | 67 => ⟨"FrameDeltasLaw", "cell", "([II)I"⟩
  | 68 => ⟨"FrameDeltasLaw", "low", "(II)I"⟩
  | 69 => ⟨"FrameDeltasLaw", "tale", "(LFrameDeltas;)J"⟩
  | 70 => ⟨"FrameDeltasLaw", "does", "(LFrameDeltas;I)I"⟩
  | 71 => ⟨"FrameDeltasLaw", "law", "([I)Z"⟩
  | _ => ⟨"", "", ""⟩
def zby : Nat → ByteArray
  | 0 => prog_2_method_2_code
  | 1 => prog_2_method_3_code
  | 2 => prog_2_method_4_code
  | 3 => prog_2_method_5_code
  | 4 => prog_3_method_2_code
  | 5 => prog_3_method_3_code
  | 6 => prog_3_method_4_code
  | 7 => prog_3_method_5_code
  | 8 => prog_4_method_2_code
  | 9 => prog_4_method_3_code
  | 10 => prog_4_method_4_code
  | 11 => prog_4_method_5_code
  | 12 => prog_4_method_6_code
  | 13 => prog_4_method_7_code
  | 14 => prog_4_method_8_code
  | 15 => prog_4_method_10_code
  | 16 => prog_4_method_11_code
  | 17 => prog_4_method_12_code
  | 18 => prog_4_method_14_code
  | 19 => prog_4_method_15_code
  | 20 => prog_5_method_2_code
  | 21 => prog_5_method_3_code
  | 22 => prog_5_method_4_code
  | 23 => prog_5_method_5_code
  | 24 => prog_6_method_2_code
  | 25 => prog_6_method_3_code
  | 26 => prog_8_method_2_code
  | 27 => prog_8_method_3_code
  | 28 => prog_8_method_4_code
  | 29 => prog_8_method_5_code
  | 30 => prog_8_method_6_code
  | 31 => prog_8_method_7_code
  | 32 => prog_8_method_8_code
  | 33 => prog_8_method_9_code
  | 34 => prog_8_method_10_code
  | 35 => prog_8_method_11_code
  | 36 => prog_8_method_12_code
  | 37 => prog_8_method_13_code
  | 38 => prog_1_method_2_code
  | 39 => prog_1_method_3_code
  | 40 => prog_1_method_4_code
  | 41 => prog_1_method_9_code
  | 42 => prog_1_method_10_code
  | 43 => prog_1_method_11_code
  | 44 => prog_1_method_12_code
  | 45 => prog_1_method_13_code
  | 46 => prog_1_method_14_code
  | 47 => prog_1_method_15_code
  | 48 => prog_1_method_16_code
  | 49 => prog_1_method_19_code
  | 50 => prog_1_method_20_code
  | 51 => prog_1_method_21_code
  | 52 => prog_1_method_22_code
  | 53 => prog_1_method_25_code
  | 54 => prog_1_method_26_code
  | 55 => prog_1_method_28_code
  | 56 => prog_1_method_30_code
  | 57 => prog_1_method_31_code
  | 58 => prog_1_method_32_code
  | 59 => prog_1_method_33_code
  | 60 => prog_1_method_34_code
  | 61 => prog_1_method_35_code
  | 62 => prog_1_method_36_code
  | 63 => prog_11_method_49_code
  | 64 => prog_12_method_59_code
  | 65 => prog_12_method_65_code
  | 66 => prog_12_method_69_code
  | 67 => method_2_code
  | 68 => method_3_code
  | 69 => method_4_code
  | 70 => method_5_code
  | 71 => code
  | _ => .empty
def zrt : Nat → Option FieldType
  | 0 => none
  | 1 => (some .int)
  | 2 => (some .int)
  | 3 => (some .boolean)
  | 4 => none
  | 5 => (some .int)
  | 6 => none
  | 7 => (some .int)
  | 8 => none
  | 9 => none
  | 10 => (some .boolean)
  | 11 => (some .int)
  | 12 => none
  | 13 => (some .int)
  | 14 => (some .int)
  | 15 => (some .int)
  | 16 => (some .int)
  | 17 => (some .boolean)
  | 18 => (some .boolean)
  | 19 => (some .int)
  | 20 => none
  | 21 => none
  | 22 => (some .int)
  | 23 => (some .int)
  | 24 => none
  | 25 => none
  | 26 => none
  | 27 => (some (.object "FrameDeltas$Frame"))
  | 28 => (some .boolean)
  | 29 => (some .boolean)
  | 30 => (some (.object "FrameDeltas$Image"))
  | 31 => (some .boolean)
  | 32 => (some .boolean)
  | 33 => (some .int)
  | 34 => (some .int)
  | 35 => (some .boolean)
  | 36 => (some .int)
  | 37 => (some .int)
  | 38 => (some .int)
  | 39 => (some .int)
  | 40 => (some .int)
  | 41 => (some .int)
  | 42 => (some .int)
  | 43 => (some .int)
  | 44 => (some .int)
  | 45 => (some .int)
  | 46 => (some .int)
  | 47 => (some .int)
  | 48 => (some .int)
  | 49 => (some .int)
  | 50 => (some .int)
  | 51 => (some .int)
  | 52 => (some .int)
  | 53 => (some .int)
  | 54 => (some .int)
  | 55 => (some .int)
  | 56 => (some .int)
  | 57 => (some .boolean)
  | 58 => none
  | 59 => (some (.object "FrameDeltas$State"))
  | 60 => (some .int)
  | 61 => (some .int)
  | 62 => (some .int)
  | 63 => (some .int)
  | 64 => (some .int)
  | 65 => (some .int)
  | 66 => (some .int)
  | 67 => (some .int)
  | 68 => (some .int)
  | 69 => (some .long)
  | 70 => (some .int)
  | 71 => (some .boolean)
  | _ => none
/-- frames and words of locals that a call takes at most -/
def zfr : Nat → Nat
  | 0 => 5
  | 1 => 4
  | 2 => 4
  | 3 => 2
  | 4 => 2
  | 5 => 1
  | 6 => 1
  | 7 => 2
  | 8 => 1
  | 9 => 1
  | 10 => 1
  | 11 => 1
  | 12 => 1
  | 13 => 1
  | 14 => 1
  | 15 => 2
  | 16 => 2
  | 17 => 1
  | 18 => 1
  | 19 => 2
  | 20 => 7
  | 21 => 6
  | 22 => 2
  | 23 => 1
  | 24 => 3
  | 25 => 1
  | 26 => 3
  | 27 => 1
  | 28 => 1
  | 29 => 2
  | 30 => 2
  | 31 => 2
  | 32 => 3
  | 33 => 2
  | 34 => 2
  | 35 => 2
  | 36 => 3
  | 37 => 2
  | 38 => 5
  | 39 => 5
  | 40 => 2
  | 41 => 7
  | 42 => 7
  | 43 => 8
  | 44 => 5
  | 45 => 8
  | 46 => 5
  | 47 => 5
  | 48 => 3
  | 49 => 3
  | 50 => 4
  | 51 => 7
  | 52 => 3
  | 53 => 3
  | 54 => 3
  | 55 => 8
  | 56 => 4
  | 57 => 1
  | 58 => 4
  | 59 => 1
  | 60 => 6
  | 61 => 6
  | 62 => 7
  | 63 => 1
  | 64 => 1
  | 65 => 1
  | 66 => 1
  | 67 => 1
  | 68 => 1
  | 69 => 5
  | 70 => 9
  | 71 => 10
  | _ => 0
def zlo : Nat → Nat
  | 0 => 109
  | 1 => 83
  | 2 => 83
  | 3 => 40
  | 4 => 61
  | 5 => 12
  | 6 => 12
  | 7 => 35
  | 8 => 12
  | 9 => 40
  | 10 => 12
  | 11 => 12
  | 12 => 12
  | 13 => 12
  | 14 => 12
  | 15 => 33
  | 16 => 33
  | 17 => 12
  | 18 => 12
  | 19 => 33
  | 20 => 159
  | 21 => 134
  | 22 => 33
  | 23 => 12
  | 24 => 54
  | 25 => 12
  | 26 => 82
  | 27 => 12
  | 28 => 12
  | 29 => 33
  | 30 => 33
  | 31 => 33
  | 32 => 57
  | 33 => 33
  | 34 => 33
  | 35 => 33
  | 36 => 56
  | 37 => 33
  | 38 => 124
  | 39 => 124
  | 40 => 33
  | 41 => 156
  | 42 => 156
  | 43 => 181
  | 44 => 124
  | 45 => 186
  | 46 => 124
  | 47 => 124
  | 48 => 58
  | 49 => 56
  | 50 => 78
  | 51 => 155
  | 52 => 56
  | 53 => 57
  | 54 => 57
  | 55 => 186
  | 56 => 104
  | 57 => 12
  | 58 => 104
  | 59 => 12
  | 60 => 134
  | 61 => 134
  | 62 => 155
  | 63 => 12
  | 64 => 12
  | 65 => 12
  | 66 => 12
  | 67 => 12
  | 68 => 12
  | 69 => 99
  | 70 => 207
  | 71 => 228
  | _ => 0
def zcname : Nat → String
  | 0 => "FrameDeltas"
  | 1 => "FrameDeltas$State"
  | 2 => "FrameDeltas$Frame"
  | 3 => "FrameDeltas$Image"
  | 8 => "FrameDeltas$Script"
  | 11 => "FrameDeltas$Coder"
  | 12 => "FrameDeltas$RunList"
  | 15 => "FrameDeltas$Planner"
  | _ => ""
/-- where a method keeps longs -/
def zlg (m i : Nat) : Bool := match m with
  | 69 => Nat.beq i 1 || Nat.beq i 1 || Nat.beq i 1 || Nat.beq i 1 || Nat.beq i 1
  | 71 => Nat.beq i 5
  | _ => false

def zML (own : String) (idx f : Nat) (n : Int) (tg : Nat) : Prop :=
  (zy f).cls ≠ "java/lang/invoke/MethodHandle" ∧ (zy f).cls ≠ "java/lang/invoke/VarHandle" ∧ (parseMethodDescriptor (zy f).desc).map (fun d => d.parameters.length) = some (n.toNat - (match tg with | 0 => 0 | _ => 1)) ∧ Cond.initialized (zy f).cls ∈ zTs ∧
  (match tg with
   | 0 => Cond.methodLink own idx (zy f) ∈ zTs ∧ Cond.static (zy f) ∈ zTs
   | g + 1 => Cond.instanceMethod (zy f) ∈ zTs ∧ Cond.selects (zy f).cls (zy f) (zy f) ∈ zTs ∧ zcname g = (zy f).cls ∧ (Cond.methodLink own idx (zy f) ∈ zTs ∨ Cond.methodLinkNest own idx (zy f) "FrameDeltas" ∈ zNs))
/-- a kind's class, its field table, how many fields -/
def zrec (o : Nat) : vw_C := (zcl[zci o]?).getD ("", (fun _ => ("", "", "", false)), 0)
def zFL (own : String) (idx o k : Nat) : Prop := Cond.fieldLink own idx (zrec o).1 ((zrec o).2.1 k).2.1 ((zrec o).2.1 k).2.2.1 ∈ zTs ∨ Cond.fieldLinkNest own idx (zrec o).1 ((zrec o).2.1 k).2.1 ((zrec o).2.1 k).2.2.1 "FrameDeltas" ∈ zNs
/-- what an instruction links, among the words -/
def zOK2 (own : String) (I : Instr) (a : Nat) (cs : List (Int × Nat)) : Prop := match I with
  | .getfield idx => (match cs with
    | _ :: (_, o) :: _ => zFL own idx o a
    | _ => True)
  | .putfield idx => (match cs with
    | _ :: (_, o) :: _ => zFL own idx o a
    | _ => True)
  | .invokevirtual idx => (match cs with
    | (n, _) :: (_, tg) :: _ => zML own idx a n tg
    | _ => True)
  | .invokestatic idx => (match a with
    | 999 => Cond.methodLink own idx arraycopyName ∈ zTs ∧ Cond.native arraycopyName ∈ zTs ∧ Cond.static arraycopyName ∈ zTs ∧ Cond.initialized "java/lang/System" ∈ zTs
    | _ => (match cs with
      | (n, _) :: (_, tg) :: _ => zML own idx a n tg
      | _ => True))
  | .ldc idx => (match cs with | (v, _) :: _ => Cond.constant own idx (Int32.ofInt v) ∈ zTs | _ => True)
  | .ldc2_w idx => (match cs with | (v, _) :: _ => Cond.constantLong own idx (Int64.ofInt v) ∈ zTs | _ => True)
  | .ldc_w idx => (match cs with | (v, _) :: _ => Cond.constant own idx (Int32.ofInt v) ∈ zTs | _ => True)
  | _ => True
def zall2 (own : String) : List mzN → Prop
  | [] => True
  | (_, I, a, cs, _) :: rest => zOK2 own I a cs ∧ zall2 own rest
def zil : Instr → Nat
  | .bipush _ => 2 | .sipush _ => 3 | .ldc _ => 2 | .ldc_w _ => 3 | .ldc2_w _ => 3 | .iload _ => 2 | .lload _ => 2 | .aload _ => 2 | .istore _ => 2 | .lstore _ => 2 | .astore _ => 2
  | .iinc _ _ => 3 | .ifCond _ _ => 3 | .if_icmp _ _ => 3 | .ifnull _ => 3 | .ifnonnull _ => 3 | .goto _ => 3 | .getfield _ => 3 | .putfield _ => 3 | .getstatic _ => 3 | .invokevirtual _ => 3
  | .invokestatic _ => 3 | .invokespecial _ => 3 | .new _ => 3 | .newarray _ => 2 | .anewarray _ => 3 | _ => 1
def zpcs (C : List mzN) (k : Nat) : Nat := match C[k]? with | some q => q.1 | none => 0
def zdk (bs : ByteArray) (pc : Nat) (I : Instr) : Bool := match I with
  | .tableswitch _ _ _ _ => (match decode bs pc with | .ok (J, _) => decide (J = I) | _ => false)
  | _ => decide (decode bs pc = .ok (I, zil I))
def zgt (C : List mzN) (pc : Nat) (off : Int) (a : Nat) : Bool := decide ((pc : Int) + off = (zpcs C a : Int)) && Nat.blt a C.length
def zsw (C : List mzN) (pc : Nat) (lo : Int) : List Int → List (Int × Nat) → Bool
  | [], [] => true
  | o :: os, (v, a) :: cs => decide (v = lo) && zgt C pc o a && zsw C pc (lo + 1) os cs
  | _, _ => false
def zsto (m i : Nat) : Bool := Nat.blt i (zml m) && (match i with | 0 => true | j + 1 => !(zlg m j))
/-- no fall over the end -/
def zfall (C : List mzN) (k : Nat) (pc : Nat) (I : Instr) : Bool := match I with
  | .goto _ => true | .ireturn => true | .areturn => true | .lreturn => true | .return_ => true | .athrow => true | .tableswitch _ _ _ _ => true
  | _ => decide (zpcs C (k + 1) = pc + zil I) && Nat.blt (k + 1) C.length
def zchk1 (m : Nat) (C : List mzN) (pc : Nat) (I : Instr) (a : Nat) (cs : List (Int × Nat)) : Bool := match I with
  | .iconst n => decide (-1 ≤ n) && decide (n ≤ 5)
  | .bipush n => decide (-128 ≤ n) && decide (n ≤ 127)
  | .sipush n => decide (-32768 ≤ n) && decide (n ≤ 32767)
  | .ldc_w _ => (match cs with | (v, _) :: _ => decide (-2147483648 ≤ v) && decide (v ≤ 2147483647) | _ => true)
  | .ldc2_w _ => (match cs with | (v, _) :: _ => decide (-9223372036854775808 ≤ v) && decide (v ≤ 9223372036854775807) | _ => true)
  | .ldc _ => (match cs with | (v, _) :: _ => decide (-2147483648 ≤ v) && decide (v ≤ 2147483647) | _ => true)
  | .istore i => zsto m i
  | .istore_n i => zsto m i.val
  | .astore i => zsto m i
  | .astore_n i => zsto m i.val
  | .lstore_n i => zsto m i.val && zlg m i.val && Nat.blt (i.val + 1) (zml m)
  | .lstore i => zsto m i && zlg m i && Nat.blt (i + 1) (zml m)
  | .iinc i n => zsto m i && decide (-32768 ≤ n) && decide (n ≤ 32767)
  | .goto o => zgt C pc o a
  | .if_icmp _ o => zgt C pc o a
  | .ifCond _ o => zgt C pc o a
  | .ifnull o => zgt C pc o a
  | .ifnonnull o => zgt C pc o a
  | .tableswitch d lo hi os => zgt C pc d a && zsw C pc lo os.toList cs && decide (hi = lo + (os.size : Int) - 1)
  | .getfield _ => (match cs with
    | (x2, kd) :: (_, o) :: (_, x1) :: (_, md) :: _ => (decide ((zfl o)[a]? = some (kd, x1, md, x2)) && Nat.blt 0 (zcnt o) && Nat.beq (zrow o) 0)
    | _ => true)
  | .putfield _ => (match cs with
    | (x2, kd) :: (_, o) :: (_, x1) :: (_, md) :: _ => decide ((zfl o)[a]? = some (kd, x1, md, x2)) && Nat.blt 0 (zcnt o) && Nat.beq (zrow o) 0 && Nat.blt kd 3
    | _ => false)
  | .invokevirtual _ => (match cs with | (n, _) :: (_, g) :: _ => Nat.ble (zfr a + 1) (zfr m) && Nat.ble (8 + (zml a + 11) + zlo a) (zlo m) && Nat.blt 0 g && Nat.blt 0 n.toNat && Nat.blt a 71 && Nat.ble n.toNat (zml a) && (Nat.beq (zrow (g - 1)) 0 && Nat.blt 0 (zcnt (g - 1))) | _ => true)
  | .invokestatic _ => (match cs with | (n, _) :: (_, g) :: _ => Nat.ble (zfr a + 1) (zfr m) && Nat.ble (8 + (zml a + 11) + zlo a) (zlo m) && Nat.beq g 0 && Nat.blt a 71 && Nat.ble n.toNat (zml a) | _ => true)
  | .ireturn => (match a with | 0 => decide (zrt m = some .int) | 1 => decide (zrt m = some .boolean) | 2 => decide (zrt m = some .char) | _ => decide (zrt m = some .byte))
  | .lreturn => decide (zrt m = some .long)
  | .areturn => (match zrt m with | some (.object _) => true | _ => false)
  | .return_ => decide (zrt m = none)
  | _ => true
def zchk0 (m : Nat) (C : List mzN) : Nat → List mzN → Bool
  | _, [] => true
  | k, (pc, I, a, cs, _) :: rest => zdk (zby m) pc I && zfall C k pc I && zchk1 m C pc I a cs && zchk0 m C (k + 1) rest
def zchk (m : Nat) (C D : List mzN) : Bool := zchk0 m C 0 D && (match C with | [] => true | (pc, _) :: _ => Nat.beq pc 0) && Nat.ble 40 (match D.any (fun q => Nat.beq q.2.2.1 999) with | true => zlo m | false => 40)

theorem zm_0_28 : zML "FrameDeltas$Coder" 28 30 2 2 := ⟨by decide +kernel, by decide +kernel, by decide +kernel, zl_2, zl_285, zs_8, rfl, Or.inr zl_292⟩
theorem zm_0_50 : zML "FrameDeltas$Coder" 50 14 1 4 := ⟨by decide +kernel, by decide +kernel, by decide +kernel, zl_3, zl_295, zs_10, rfl, Or.inr zl_293⟩
theorem zm_0_56 : zML "FrameDeltas$Coder" 56 1 3 12 := ⟨by decide +kernel, by decide +kernel, by decide +kernel, zl_6, zl_299, zs_11, rfl, Or.inl zl_297⟩
theorem zm_0_63 : zML "FrameDeltas$Coder" 63 2 5 12 := ⟨by decide +kernel, by decide +kernel, by decide +kernel, zl_6, zl_330, zs_18, rfl, Or.inl zl_328⟩
theorem zm_0_67 : zML "FrameDeltas$Coder" 67 24 4 13 := ⟨by decide +kernel, by decide +kernel, by decide +kernel, zl_7, zl_303, zs_12, rfl, Or.inr zl_301⟩
theorem zm_0_74 : zML "FrameDeltas$Coder" 74 6 6 3 := ⟨by decide +kernel, by decide +kernel, by decide +kernel, zl_4, zl_326, zs_17, rfl, Or.inr zl_324⟩
theorem zm_0_78 : zML "FrameDeltas$Coder" 78 15 2 4 := ⟨by decide +kernel, by decide +kernel, by decide +kernel, zl_3, zl_307, zs_13, rfl, Or.inr zl_332⟩
theorem zm_0_82 : zML "FrameDeltas$Coder" 82 16 2 4 := ⟨by decide +kernel, by decide +kernel, by decide +kernel, zl_3, zl_314, zs_14, rfl, Or.inr zl_333⟩
theorem zm_0_85 : zML "FrameDeltas$Coder" 85 18 6 4 := ⟨by decide +kernel, by decide +kernel, by decide +kernel, zl_3, zl_336, zs_19, rfl, Or.inr zl_334⟩
theorem zm_0_89 : zML "FrameDeltas$Coder" 89 3 6 12 := ⟨by decide +kernel, by decide +kernel, by decide +kernel, zl_6, zl_340, zs_20, rfl, Or.inl zl_338⟩
theorem zm_0_93 : zML "FrameDeltas$Coder" 93 64 1 0 := ⟨by decide +kernel, by decide +kernel, by decide +kernel, zl_10, zl_342, zl_343⟩
theorem zm_0_98 : zML "FrameDeltas$Coder" 98 17 3 4 := ⟨by decide +kernel, by decide +kernel, by decide +kernel, zl_3, zl_347, zs_21, rfl, Or.inr zl_345⟩
theorem zm_0_102 : zML "FrameDeltas$Coder" 102 65 2 0 := ⟨by decide +kernel, by decide +kernel, by decide +kernel, zl_10, zl_349, zl_310⟩
theorem zm_1_33 : zML "FrameDeltas$Frame" 33 9 2 4 := ⟨by decide +kernel, by decide +kernel, by decide +kernel, zl_3, zl_257, zs_3, rfl, Or.inr zl_270⟩
theorem zm_1_43 : zML "FrameDeltas$Frame" 43 14 1 4 := ⟨by decide +kernel, by decide +kernel, by decide +kernel, zl_3, zl_295, zs_10, rfl, Or.inr zl_391⟩
theorem zm_1_47 : zML "FrameDeltas$Frame" 47 5 3 3 := ⟨by decide +kernel, by decide +kernel, by decide +kernel, zl_4, zl_394, zs_29, rfl, Or.inl zl_392⟩
theorem zm_2_32 : zML "FrameDeltas$Image" 32 65 2 0 := ⟨by decide +kernel, by decide +kernel, by decide +kernel, zl_10, zl_309, zl_310⟩
theorem zm_2_41 : zML "FrameDeltas$Image" 41 11 2 4 := ⟨by decide +kernel, by decide +kernel, by decide +kernel, zl_3, zl_434, zs_35, rfl, Or.inl zl_432⟩
theorem zm_3_30 : zML "FrameDeltas$Planner" 30 66 2 0 := ⟨by decide +kernel, by decide +kernel, by decide +kernel, zl_10, zl_276, zl_277⟩
theorem zm_3_36 : zML "FrameDeltas$Planner" 36 21 5 16 := ⟨by decide +kernel, by decide +kernel, by decide +kernel, zl_8, zl_281, zs_7, rfl, Or.inl zl_279⟩
theorem zm_3_43 : zML "FrameDeltas$Planner" 43 22 4 16 := ⟨by decide +kernel, by decide +kernel, by decide +kernel, zl_8, zl_352, zs_22, rfl, Or.inl zl_350⟩
theorem zm_3_47 : zML "FrameDeltas$Planner" 47 63 1 0 := ⟨by decide +kernel, by decide +kernel, by decide +kernel, zl_11, zl_355, zl_356⟩
theorem zm_3_59 : zML "FrameDeltas$Planner" 59 30 2 2 := ⟨by decide +kernel, by decide +kernel, by decide +kernel, zl_2, zl_285, zs_8, rfl, Or.inr zl_283⟩
theorem zm_3_63 : zML "FrameDeltas$Planner" 63 9 2 4 := ⟨by decide +kernel, by decide +kernel, by decide +kernel, zl_3, zl_257, zs_3, rfl, Or.inr zl_287⟩
theorem zm_3_69 : zML "FrameDeltas$Planner" 69 0 4 12 := ⟨by decide +kernel, by decide +kernel, by decide +kernel, zl_6, zl_290, zs_9, rfl, Or.inr zl_288⟩
theorem zm_3_76 : zML "FrameDeltas$Planner" 76 65 2 0 := ⟨by decide +kernel, by decide +kernel, by decide +kernel, zl_10, zl_354, zl_310⟩
theorem zm_4_22 : zML "FrameDeltas$RunList" 22 15 2 4 := ⟨by decide +kernel, by decide +kernel, by decide +kernel, zl_3, zl_307, zs_13, rfl, Or.inr zl_305⟩
theorem zm_4_28 : zML "FrameDeltas$RunList" 28 16 2 4 := ⟨by decide +kernel, by decide +kernel, by decide +kernel, zl_3, zl_314, zs_14, rfl, Or.inr zl_312⟩
theorem zm_4_31 : zML "FrameDeltas$RunList" 31 13 3 4 := ⟨by decide +kernel, by decide +kernel, by decide +kernel, zl_3, zl_318, zs_15, rfl, Or.inr zl_316⟩
theorem zm_4_35 : zML "FrameDeltas$RunList" 35 25 2 13 := ⟨by decide +kernel, by decide +kernel, by decide +kernel, zl_7, zl_322, zs_16, rfl, Or.inl zl_320⟩
theorem zm_6_42 : zML "FrameDeltas$State" 42 9 2 4 := ⟨by decide +kernel, by decide +kernel, by decide +kernel, zl_3, zl_257, zs_3, rfl, Or.inr zl_255⟩
theorem zm_6_46 : zML "FrameDeltas$State" 46 27 2 2 := ⟨by decide +kernel, by decide +kernel, by decide +kernel, zl_2, zl_264, zs_4, rfl, Or.inl zl_262⟩
theorem zm_6_50 : zML "FrameDeltas$State" 50 4 2 3 := ⟨by decide +kernel, by decide +kernel, by decide +kernel, zl_4, zl_268, zs_5, rfl, Or.inr zl_266⟩
theorem zm_6_53 : zML "FrameDeltas$State" 53 28 2 2 := ⟨by decide +kernel, by decide +kernel, by decide +kernel, zl_2, zl_373, zs_24, rfl, Or.inl zl_417⟩
theorem zm_6_67 : zML "FrameDeltas$State" 67 31 2 2 := ⟨by decide +kernel, by decide +kernel, by decide +kernel, zl_2, zl_385, zs_27, rfl, Or.inl zl_408⟩
theorem zm_6_70 : zML "FrameDeltas$State" 70 33 2 2 := ⟨by decide +kernel, by decide +kernel, by decide +kernel, zl_2, zl_381, zs_26, rfl, Or.inl zl_528⟩
theorem zm_7_66 : zML "FrameDeltas" 66 57 1 0 := ⟨by decide +kernel, by decide +kernel, by decide +kernel, zl_1, zl_492, zl_493⟩
theorem zm_7_70 : zML "FrameDeltas" 70 58 1 1 := ⟨by decide +kernel, by decide +kernel, by decide +kernel, zl_1, zl_245, zs_0, rfl, Or.inl zl_243⟩
theorem zm_7_79 : zML "FrameDeltas" 79 8 3 4 := ⟨by decide +kernel, by decide +kernel, by decide +kernel, zl_3, zl_497, zs_38, rfl, Or.inr zl_495⟩
theorem zm_7_83 : zML "FrameDeltas" 83 14 1 4 := ⟨by decide +kernel, by decide +kernel, by decide +kernel, zl_3, zl_295, zs_10, rfl, Or.inr zl_499⟩
theorem zm_7_87 : zML "FrameDeltas" 87 10 2 4 := ⟨by decide +kernel, by decide +kernel, by decide +kernel, zl_3, zl_472, zs_37, rfl, Or.inr zl_470⟩
theorem zm_7_90 : zML "FrameDeltas" 90 11 2 4 := ⟨by decide +kernel, by decide +kernel, by decide +kernel, zl_3, zl_434, zs_35, rfl, Or.inr zl_474⟩
theorem zm_7_94 : zML "FrameDeltas" 94 12 3 4 := ⟨by decide +kernel, by decide +kernel, by decide +kernel, zl_3, zl_543, zs_42, rfl, Or.inr zl_541⟩
theorem zm_7_130 : zML "FrameDeltas" 130 60 2 1 := ⟨by decide +kernel, by decide +kernel, by decide +kernel, zl_1, zl_518, zs_39, rfl, Or.inl zl_516⟩
theorem zm_7_133 : zML "FrameDeltas" 133 28 2 2 := ⟨by decide +kernel, by decide +kernel, by decide +kernel, zl_2, zl_373, zs_24, rfl, Or.inr zl_371⟩
theorem zm_7_136 : zML "FrameDeltas" 136 32 2 2 := ⟨by decide +kernel, by decide +kernel, by decide +kernel, zl_2, zl_526, zs_40, rfl, Or.inr zl_524⟩
theorem zm_7_139 : zML "FrameDeltas" 139 62 1 1 := ⟨by decide +kernel, by decide +kernel, by decide +kernel, zl_1, zl_535, zs_41, rfl, Or.inl zl_533⟩
theorem zm_7_142 : zML "FrameDeltas" 142 20 4 16 := ⟨by decide +kernel, by decide +kernel, by decide +kernel, zl_8, zl_274, zs_6, rfl, Or.inr zl_272⟩
theorem zm_7_146 : zML "FrameDeltas" 146 27 2 2 := ⟨by decide +kernel, by decide +kernel, by decide +kernel, zl_2, zl_264, zs_4, rfl, Or.inr zl_361⟩
theorem zm_7_150 : zML "FrameDeltas" 150 23 2 16 := ⟨by decide +kernel, by decide +kernel, by decide +kernel, zl_8, zl_364, zs_23, rfl, Or.inr zl_362⟩
theorem zm_7_153 : zML "FrameDeltas" 153 0 4 12 := ⟨by decide +kernel, by decide +kernel, by decide +kernel, zl_6, zl_290, zs_9, rfl, Or.inr zl_366⟩
theorem zm_7_173 : zML "FrameDeltas" 173 36 1 2 := ⟨by decide +kernel, by decide +kernel, by decide +kernel, zl_2, zl_406, zs_31, rfl, Or.inr zl_404⟩
theorem zm_7_180 : zML "FrameDeltas" 180 34 2 2 := ⟨by decide +kernel, by decide +kernel, by decide +kernel, zl_2, zl_377, zs_25, rfl, Or.inr zl_375⟩
theorem zm_7_183 : zML "FrameDeltas" 183 33 2 2 := ⟨by decide +kernel, by decide +kernel, by decide +kernel, zl_2, zl_381, zs_26, rfl, Or.inr zl_379⟩
theorem zm_7_119 : zML "FrameDeltas" 119 31 2 2 := ⟨by decide +kernel, by decide +kernel, by decide +kernel, zl_2, zl_385, zs_27, rfl, Or.inr zl_383⟩
theorem zm_7_186 : zML "FrameDeltas" 186 7 2 3 := ⟨by decide +kernel, by decide +kernel, by decide +kernel, zl_4, zl_389, zs_28, rfl, Or.inr zl_387⟩
theorem zm_7_122 : zML "FrameDeltas" 122 30 2 2 := ⟨by decide +kernel, by decide +kernel, by decide +kernel, zl_2, zl_285, zs_8, rfl, Or.inr zl_427⟩
theorem zm_7_223 : zML "FrameDeltas" 223 37 1 2 := ⟨by decide +kernel, by decide +kernel, by decide +kernel, zl_2, zl_402, zs_30, rfl, Or.inr zl_400⟩
theorem zm_7_112 : zML "FrameDeltas" 112 29 2 2 := ⟨by decide +kernel, by decide +kernel, by decide +kernel, zl_2, zl_415, zs_32, rfl, Or.inr zl_413⟩
theorem zm_7_226 : zML "FrameDeltas" 226 61 2 1 := ⟨by decide +kernel, by decide +kernel, by decide +kernel, zl_1, zl_420, zs_33, rfl, Or.inl zl_418⟩
theorem zm_7_229 : zML "FrameDeltas" 229 19 2 4 := ⟨by decide +kernel, by decide +kernel, by decide +kernel, zl_3, zl_430, zs_34, rfl, Or.inr zl_428⟩
theorem zm_7_246 : zML "FrameDeltas" 246 65 2 0 := ⟨by decide +kernel, by decide +kernel, by decide +kernel, zl_10, zl_440, zl_310⟩
theorem zm_7_251 : zML "FrameDeltas" 251 35 3 2 := ⟨by decide +kernel, by decide +kernel, by decide +kernel, zl_2, zl_447, zs_36, rfl, Or.inr zl_445⟩
theorem zm_7_257 : zML "FrameDeltas" 257 59 2 1 := ⟨by decide +kernel, by decide +kernel, by decide +kernel, zl_1, zl_249, zs_1, rfl, Or.inl zl_247⟩
theorem zm_7_261 : zML "FrameDeltas" 261 26 2 2 := ⟨by decide +kernel, by decide +kernel, by decide +kernel, zl_2, zl_253, zs_2, rfl, Or.inr zl_251⟩
theorem zm_7_265 : zML "FrameDeltas" 265 9 2 4 := ⟨by decide +kernel, by decide +kernel, by decide +kernel, zl_3, zl_257, zs_3, rfl, Or.inr zl_422⟩
theorem zm_12_12 : zML "FrameDeltasLaw" 12 50 2 1 := ⟨by decide +kernel, by decide +kernel, by decide +kernel, zl_1, zl_397, zl_398, rfl, Or.inl zl_396⟩
theorem zm_12_20 : zML "FrameDeltasLaw" 20 40 2 1 := ⟨by decide +kernel, by decide +kernel, by decide +kernel, zl_1, zl_467, zl_468, rfl, Or.inl zl_466⟩
theorem zm_12_25 : zML "FrameDeltasLaw" 25 48 3 1 := ⟨by decide +kernel, by decide +kernel, by decide +kernel, zl_1, zl_368, zl_369, rfl, Or.inl zl_367⟩
theorem zm_12_31 : zML "FrameDeltasLaw" 31 49 3 1 := ⟨by decide +kernel, by decide +kernel, by decide +kernel, zl_1, zl_478, zl_479, rfl, Or.inl zl_477⟩
theorem zm_12_34 : zML "FrameDeltasLaw" 34 68 2 0 := ⟨by decide +kernel, by decide +kernel, by decide +kernel, zl_0, zl_484, zl_485⟩
theorem zm_12_39 : zML "FrameDeltasLaw" 39 38 3 1 := ⟨by decide +kernel, by decide +kernel, by decide +kernel, zl_1, zl_489, zl_490, rfl, Or.inl zl_488⟩
theorem zm_12_42 : zML "FrameDeltasLaw" 42 45 1 1 := ⟨by decide +kernel, by decide +kernel, by decide +kernel, zl_1, zl_240, zl_241, rfl, Or.inl zl_239⟩
theorem zm_12_46 : zML "FrameDeltasLaw" 46 46 4 1 := ⟨by decide +kernel, by decide +kernel, by decide +kernel, zl_1, zl_501, zl_502, rfl, Or.inl zl_500⟩
theorem zm_12_50 : zML "FrameDeltasLaw" 50 44 1 1 := ⟨by decide +kernel, by decide +kernel, by decide +kernel, zl_1, zl_505, zl_506, rfl, Or.inl zl_504⟩
theorem zm_12_53 : zML "FrameDeltasLaw" 53 47 3 1 := ⟨by decide +kernel, by decide +kernel, by decide +kernel, zl_1, zl_509, zl_510, rfl, Or.inl zl_508⟩
theorem zm_12_56 : zML "FrameDeltasLaw" 56 41 1 1 := ⟨by decide +kernel, by decide +kernel, by decide +kernel, zl_1, zl_513, zl_514, rfl, Or.inl zl_512⟩
theorem zm_12_59 : zML "FrameDeltasLaw" 59 42 2 1 := ⟨by decide +kernel, by decide +kernel, by decide +kernel, zl_1, zl_521, zl_522, rfl, Or.inl zl_520⟩
theorem zm_12_62 : zML "FrameDeltasLaw" 62 43 1 1 := ⟨by decide +kernel, by decide +kernel, by decide +kernel, zl_1, zl_530, zl_531, rfl, Or.inl zl_529⟩
theorem zm_12_65 : zML "FrameDeltasLaw" 65 39 3 1 := ⟨by decide +kernel, by decide +kernel, by decide +kernel, zl_1, zl_538, zl_539, rfl, Or.inl zl_537⟩
theorem zm_12_69 : zML "FrameDeltasLaw" 69 67 2 0 := ⟨by decide +kernel, by decide +kernel, by decide +kernel, zl_0, zl_457, zl_458⟩
theorem zm_12_72 : zML "FrameDeltasLaw" 72 69 1 0 := ⟨by decide +kernel, by decide +kernel, by decide +kernel, zl_0, zl_460, zl_461⟩
theorem zm_12_76 : zML "FrameDeltasLaw" 76 51 2 1 := ⟨by decide +kernel, by decide +kernel, by decide +kernel, zl_1, zl_410, zl_411, rfl, Or.inl zl_409⟩
theorem zm_12_79 : zML "FrameDeltasLaw" 79 70 2 0 := ⟨by decide +kernel, by decide +kernel, by decide +kernel, zl_0, zl_481, zl_482⟩
theorem zm_12_83 : zML "FrameDeltasLaw" 83 52 3 1 := ⟨by decide +kernel, by decide +kernel, by decide +kernel, zl_1, zl_424, zl_425, rfl, Or.inl zl_423⟩
theorem zm_12_86 : zML "FrameDeltasLaw" 86 56 1 1 := ⟨by decide +kernel, by decide +kernel, by decide +kernel, zl_1, zl_454, zl_455, rfl, Or.inl zl_453⟩
theorem zm_12_89 : zML "FrameDeltasLaw" 89 54 2 1 := ⟨by decide +kernel, by decide +kernel, by decide +kernel, zl_1, zl_442, zl_443, rfl, Or.inl zl_441⟩
theorem zm_12_92 : zML "FrameDeltasLaw" 92 55 1 1 := ⟨by decide +kernel, by decide +kernel, by decide +kernel, zl_1, zl_450, zl_451, rfl, Or.inl zl_449⟩
theorem zm_12_95 : zML "FrameDeltasLaw" 95 53 1 1 := ⟨by decide +kernel, by decide +kernel, by decide +kernel, zl_1, zl_437, zl_438, rfl, Or.inl zl_436⟩
theorem zcw_0 : Cond.code (zy 0) (zby 0) (zml 0) (zrt 0) ∈ zTs := zl_291
theorem zcw_1 : Cond.code (zy 1) (zby 1) (zml 1) (zrt 1) ∈ zTs := zl_300
theorem zcw_2 : Cond.code (zy 2) (zby 2) (zml 2) (zrt 2) ∈ zTs := zl_331
theorem zcw_3 : Cond.code (zy 3) (zby 3) (zml 3) (zrt 3) ∈ zTs := zl_341
theorem zcw_4 : Cond.code (zy 4) (zby 4) (zml 4) (zrt 4) ∈ zTs := zl_269
theorem zcw_5 : Cond.code (zy 5) (zby 5) (zml 5) (zrt 5) ∈ zTs := zl_395
theorem zcw_6 : Cond.code (zy 6) (zby 6) (zml 6) (zrt 6) ∈ zTs := zl_327
theorem zcw_7 : Cond.code (zy 7) (zby 7) (zml 7) (zrt 7) ∈ zTs := zl_390
theorem zcw_8 : Cond.code (zy 8) (zby 8) (zml 8) (zrt 8) ∈ zTs := zl_498
theorem zcw_9 : Cond.code (zy 9) (zby 9) (zml 9) (zrt 9) ∈ zTs := zl_258
theorem zcw_10 : Cond.code (zy 10) (zby 10) (zml 10) (zrt 10) ∈ zTs := zl_473
theorem zcw_11 : Cond.code (zy 11) (zby 11) (zml 11) (zrt 11) ∈ zTs := zl_435
theorem zcw_12 : Cond.code (zy 12) (zby 12) (zml 12) (zrt 12) ∈ zTs := zl_544
theorem zcw_13 : Cond.code (zy 13) (zby 13) (zml 13) (zrt 13) ∈ zTs := zl_319
theorem zcw_14 : Cond.code (zy 14) (zby 14) (zml 14) (zrt 14) ∈ zTs := zl_296
theorem zcw_15 : Cond.code (zy 15) (zby 15) (zml 15) (zrt 15) ∈ zTs := zl_308
theorem zcw_16 : Cond.code (zy 16) (zby 16) (zml 16) (zrt 16) ∈ zTs := zl_315
theorem zcw_17 : Cond.code (zy 17) (zby 17) (zml 17) (zrt 17) ∈ zTs := zl_348
theorem zcw_18 : Cond.code (zy 18) (zby 18) (zml 18) (zrt 18) ∈ zTs := zl_337
theorem zcw_19 : Cond.code (zy 19) (zby 19) (zml 19) (zrt 19) ∈ zTs := zl_431
theorem zcw_20 : Cond.code (zy 20) (zby 20) (zml 20) (zrt 20) ∈ zTs := zl_275
theorem zcw_21 : Cond.code (zy 21) (zby 21) (zml 21) (zrt 21) ∈ zTs := zl_282
theorem zcw_22 : Cond.code (zy 22) (zby 22) (zml 22) (zrt 22) ∈ zTs := zl_353
theorem zcw_23 : Cond.code (zy 23) (zby 23) (zml 23) (zrt 23) ∈ zTs := zl_365
theorem zcw_24 : Cond.code (zy 24) (zby 24) (zml 24) (zrt 24) ∈ zTs := zl_304
theorem zcw_25 : Cond.code (zy 25) (zby 25) (zml 25) (zrt 25) ∈ zTs := zl_323
theorem zcw_26 : Cond.code (zy 26) (zby 26) (zml 26) (zrt 26) ∈ zTs := zl_254
theorem zcw_27 : Cond.code (zy 27) (zby 27) (zml 27) (zrt 27) ∈ zTs := zl_265
theorem zcw_28 : Cond.code (zy 28) (zby 28) (zml 28) (zrt 28) ∈ zTs := zl_374
theorem zcw_29 : Cond.code (zy 29) (zby 29) (zml 29) (zrt 29) ∈ zTs := zl_416
theorem zcw_30 : Cond.code (zy 30) (zby 30) (zml 30) (zrt 30) ∈ zTs := zl_286
theorem zcw_31 : Cond.code (zy 31) (zby 31) (zml 31) (zrt 31) ∈ zTs := zl_386
theorem zcw_32 : Cond.code (zy 32) (zby 32) (zml 32) (zrt 32) ∈ zTs := zl_527
theorem zcw_33 : Cond.code (zy 33) (zby 33) (zml 33) (zrt 33) ∈ zTs := zl_382
theorem zcw_34 : Cond.code (zy 34) (zby 34) (zml 34) (zrt 34) ∈ zTs := zl_378
theorem zcw_35 : Cond.code (zy 35) (zby 35) (zml 35) (zrt 35) ∈ zTs := zl_448
theorem zcw_36 : Cond.code (zy 36) (zby 36) (zml 36) (zrt 36) ∈ zTs := zl_407
theorem zcw_37 : Cond.code (zy 37) (zby 37) (zml 37) (zrt 37) ∈ zTs := zl_403
theorem zcw_38 : Cond.code (zy 38) (zby 38) (zml 38) (zrt 38) ∈ zTs := zl_491
theorem zcw_39 : Cond.code (zy 39) (zby 39) (zml 39) (zrt 39) ∈ zTs := zl_540
theorem zcw_40 : Cond.code (zy 40) (zby 40) (zml 40) (zrt 40) ∈ zTs := zl_469
theorem zcw_41 : Cond.code (zy 41) (zby 41) (zml 41) (zrt 41) ∈ zTs := zl_515
theorem zcw_42 : Cond.code (zy 42) (zby 42) (zml 42) (zrt 42) ∈ zTs := zl_523
theorem zcw_43 : Cond.code (zy 43) (zby 43) (zml 43) (zrt 43) ∈ zTs := zl_532
theorem zcw_44 : Cond.code (zy 44) (zby 44) (zml 44) (zrt 44) ∈ zTs := zl_507
theorem zcw_45 : Cond.code (zy 45) (zby 45) (zml 45) (zrt 45) ∈ zTs := zl_242
theorem zcw_46 : Cond.code (zy 46) (zby 46) (zml 46) (zrt 46) ∈ zTs := zl_503
theorem zcw_47 : Cond.code (zy 47) (zby 47) (zml 47) (zrt 47) ∈ zTs := zl_511
theorem zcw_48 : Cond.code (zy 48) (zby 48) (zml 48) (zrt 48) ∈ zTs := zl_370
theorem zcw_49 : Cond.code (zy 49) (zby 49) (zml 49) (zrt 49) ∈ zTs := zl_480
theorem zcw_50 : Cond.code (zy 50) (zby 50) (zml 50) (zrt 50) ∈ zTs := zl_399
theorem zcw_51 : Cond.code (zy 51) (zby 51) (zml 51) (zrt 51) ∈ zTs := zl_412
theorem zcw_52 : Cond.code (zy 52) (zby 52) (zml 52) (zrt 52) ∈ zTs := zl_426
theorem zcw_53 : Cond.code (zy 53) (zby 53) (zml 53) (zrt 53) ∈ zTs := zl_439
theorem zcw_54 : Cond.code (zy 54) (zby 54) (zml 54) (zrt 54) ∈ zTs := zl_444
theorem zcw_55 : Cond.code (zy 55) (zby 55) (zml 55) (zrt 55) ∈ zTs := zl_452
theorem zcw_56 : Cond.code (zy 56) (zby 56) (zml 56) (zrt 56) ∈ zTs := zl_456
theorem zcw_57 : Cond.code (zy 57) (zby 57) (zml 57) (zrt 57) ∈ zTs := zl_494
theorem zcw_58 : Cond.code (zy 58) (zby 58) (zml 58) (zrt 58) ∈ zTs := zl_246
theorem zcw_59 : Cond.code (zy 59) (zby 59) (zml 59) (zrt 59) ∈ zTs := zl_250
theorem zcw_60 : Cond.code (zy 60) (zby 60) (zml 60) (zrt 60) ∈ zTs := zl_519
theorem zcw_61 : Cond.code (zy 61) (zby 61) (zml 61) (zrt 61) ∈ zTs := zl_421
theorem zcw_62 : Cond.code (zy 62) (zby 62) (zml 62) (zrt 62) ∈ zTs := zl_536
theorem zcw_63 : Cond.code (zy 63) (zby 63) (zml 63) (zrt 63) ∈ zTs := zl_357
theorem zcw_64 : Cond.code (zy 64) (zby 64) (zml 64) (zrt 64) ∈ zTs := zl_344
theorem zcw_65 : Cond.code (zy 65) (zby 65) (zml 65) (zrt 65) ∈ zTs := zl_311
theorem zcw_66 : Cond.code (zy 66) (zby 66) (zml 66) (zrt 66) ∈ zTs := zl_278
theorem zcw_67 : Cond.code (zy 67) (zby 67) (zml 67) (zrt 67) ∈ zTs := zl_459
theorem zcw_68 : Cond.code (zy 68) (zby 68) (zml 68) (zrt 68) ∈ zTs := zl_486
theorem zcw_69 : Cond.code (zy 69) (zby 69) (zml 69) (zrt 69) ∈ zTs := zl_462
theorem zcw_70 : Cond.code (zy 70) (zby 70) (zml 70) (zrt 70) ∈ zTs := zl_483
theorem zchk0_split (m : Nat) (C : List mzN) (n : Nat) : ∀ (k : Nat) (D : List mzN), zchk0 m C k (D.take n) = true → zchk0 m C (k + n) (D.drop n) = true → zchk0 m C k D = true := by
  induction n with
  | zero => intro k D _ h; exact h
  | succ n ih =>
    intro k D h1 h2
    cases D with
    | nil => rfl
    | cons x D =>
      obtain ⟨pc, I, a, cs, b⟩ := x
      simp only [List.take_succ_cons, zchk0, Bool.and_eq_true] at h1
      simp only [zchk0, Bool.and_eq_true]
      refine ⟨h1.1, ih (k + 1) D h1.2 ?_⟩
      rw [Nat.add_assoc, Nat.add_comm 1 n]
      exact h2
set_option maxRecDepth 100000 in
theorem zok1_0 : zchk 0 zc0 zc0 = true := by decide +kernel
set_option maxRecDepth 100000 in
theorem zok2_0 : zall2 "FrameDeltas$Coder" zc0 := ⟨trivial, trivial, trivial, trivial, trivial, trivial, trivial, zm_0_28, trivial, trivial, trivial, Or.inr zl_61, trivial, trivial, Or.inr zl_70, trivial, trivial, Or.inr zl_65, trivial, trivial, trivial, trivial, Or.inr zl_55, zm_0_50, trivial, trivial, trivial, Or.inr zl_65, trivial, trivial, trivial, trivial, trivial, zm_0_56, trivial, trivial, trivial, trivial, trivial, trivial, Or.inr zl_92, zm_0_63, trivial, Or.inr zl_65, trivial, trivial, trivial, trivial⟩
set_option maxRecDepth 100000 in
theorem zok1_1 : zchk 1 zc1 zc1 = true := by decide +kernel
set_option maxRecDepth 100000 in
theorem zok2_1 : zall2 "FrameDeltas$Coder" zc1 := ⟨trivial, Or.inl zl_171, trivial, Or.inr zl_55, trivial, trivial, zm_0_67, trivial, trivial, trivial, trivial, trivial, trivial, Or.inl zl_171, Or.inr zl_163, zm_0_74, trivial, trivial, trivial, Or.inl zl_171, Or.inr zl_163, trivial, trivial, trivial, trivial⟩
set_option maxRecDepth 100000 in
theorem zok1_2 : zchk 2 zc2 zc2 = true := by decide +kernel
set_option maxRecDepth 100000 in
theorem zok2_2 : zall2 "FrameDeltas$Coder" zc2 := ⟨trivial, Or.inr zl_55, trivial, zm_0_78, trivial, trivial, Or.inr zl_55, trivial, zm_0_82, trivial, trivial, Or.inr zl_55, trivial, trivial, trivial, trivial, trivial, zm_0_85, trivial, trivial, trivial, trivial, trivial, trivial, trivial, zm_0_74, trivial, trivial, trivial, trivial, Or.inr zl_55, trivial, trivial, trivial, trivial, zm_0_89, trivial, trivial, trivial, trivial, trivial, Or.inl zl_173, trivial, Or.inl zl_174, trivial, zm_0_74, trivial, trivial, trivial, Or.inl zl_171, trivial, Or.inr zl_55, trivial, trivial, zm_0_67, trivial, Or.inl zl_172, trivial, Or.inr zl_55, trivial, trivial, zm_0_67, trivial, Or.inl zl_171, Or.inr zl_163, trivial, Or.inl zl_172, Or.inr zl_163, trivial, trivial, trivial, trivial, trivial, trivial, trivial, Or.inl zl_171, Or.inr zl_163, zm_0_74, trivial, trivial, trivial, Or.inl zl_171, Or.inr zl_163, trivial, trivial, trivial, trivial, trivial, trivial, trivial, trivial, trivial, Or.inl zl_172, Or.inr zl_163, zm_0_74, trivial, trivial, trivial, Or.inl zl_172, Or.inr zl_163, trivial, trivial, trivial, trivial⟩
set_option maxRecDepth 100000 in
theorem zok1_3 : zchk 3 zc3 zc3 = true := by decide +kernel
set_option maxRecDepth 100000 in
theorem zok2_3 : zall2 "FrameDeltas$Coder" zc3 := ⟨trivial, trivial, trivial, trivial, trivial, trivial, trivial, trivial, trivial, trivial, trivial, trivial, trivial, trivial, trivial, zm_0_93, trivial, trivial, trivial, trivial, trivial, trivial, trivial, trivial, trivial, trivial, trivial, trivial, trivial, trivial, trivial, trivial, trivial, trivial, trivial, trivial, trivial, zm_0_98, trivial, trivial, trivial, trivial, trivial, trivial, trivial, trivial, trivial, trivial, trivial, zm_0_85, trivial, trivial, trivial, Or.inl zl_173, trivial, trivial, Or.inl zl_174, trivial, trivial, trivial, trivial, trivial, trivial, trivial, zm_0_102, trivial, trivial, trivial, trivial, trivial, trivial, trivial, trivial, trivial, trivial⟩
set_option maxRecDepth 100000 in
theorem zok1_4 : zchk 4 zc4 zc4 = true := by decide +kernel
set_option maxRecDepth 100000 in
theorem zok2_4 : zall2 "FrameDeltas$Frame" zc4 := ⟨trivial, Or.inl zl_54, trivial, Or.inl zl_54, zm_1_33, trivial, Or.inl zl_59, trivial, trivial, Or.inl zl_59, trivial, trivial, ⟨zl_271, zl_261, zl_260, zl_9⟩, trivial, trivial, Or.inl zl_60, Or.inl zl_60, trivial, trivial, Or.inl zl_64, Or.inl zl_64, trivial, trivial, Or.inl zl_69, Or.inl zl_69, trivial, trivial⟩
set_option maxRecDepth 100000 in
theorem zok1_5 : zchk 5 zc5 zc5 = true := by decide +kernel
set_option maxRecDepth 100000 in
theorem zok2_5 : zall2 "FrameDeltas$Frame" zc5 := ⟨trivial, trivial, trivial, trivial, trivial, trivial, trivial, trivial, trivial, trivial, Or.inl zl_59, trivial, trivial, trivial, Or.inl zl_59, trivial, trivial, trivial, trivial, trivial, trivial⟩
set_option maxRecDepth 100000 in
theorem zok1_6 : zchk 6 zc6 zc6 = true := by decide +kernel
set_option maxRecDepth 100000 in
theorem zok2_6 : zall2 "FrameDeltas$Frame" zc6 := ⟨trivial, trivial, trivial, trivial, trivial, trivial, trivial, trivial, trivial, trivial, Or.inl zl_59, trivial, trivial, trivial, Or.inl zl_59, trivial, trivial, trivial, trivial, trivial, trivial, Or.inl zl_59, trivial, trivial, trivial, trivial, trivial, trivial, Or.inl zl_59, trivial, trivial, trivial, trivial, trivial, trivial, Or.inl zl_59, trivial, trivial, trivial, trivial, trivial, trivial, trivial⟩
set_option maxRecDepth 100000 in
theorem zok1_7 : zchk 7 zc7 zc7 = true := by decide +kernel
set_option maxRecDepth 100000 in
theorem zok2_7 : zall2 "FrameDeltas$Frame" zc7 := ⟨trivial, trivial, trivial, trivial, trivial, trivial, Or.inl zl_54, zm_1_43, trivial, trivial, trivial, trivial, zm_1_47, trivial, trivial, trivial, trivial, trivial, trivial, trivial, trivial⟩
set_option maxRecDepth 100000 in
theorem zok1_8 : zchk 8 zc8 zc8 = true := by decide +kernel
set_option maxRecDepth 100000 in
theorem zok2_8 : zall2 "FrameDeltas$Image" zc8 := ⟨trivial, trivial, Or.inl zl_33, trivial, trivial, Or.inl zl_35, trivial, trivial, trivial, trivial, Or.inl zl_32, trivial, trivial, trivial, Or.inl zl_32, trivial, trivial, trivial, trivial, trivial, trivial, trivial⟩
set_option maxRecDepth 100000 in
theorem zok1_9 : zchk 9 zc9 zc9 = true := by decide +kernel
set_option maxRecDepth 100000 in
theorem zok2_9 : zall2 "FrameDeltas$Image" zc9 := ⟨trivial, trivial, Or.inl zl_33, Or.inl zl_33, trivial, trivial, Or.inl zl_35, Or.inl zl_35, trivial, Or.inl zl_32, trivial, trivial, Or.inl zl_32, trivial, trivial, ⟨zl_259, zl_261, zl_260, zl_9⟩, trivial, trivial⟩
set_option maxRecDepth 100000 in
theorem zok1_10 : zchk 10 zc10 zc10 = true := by decide +kernel
set_option maxRecDepth 100000 in
theorem zok2_10 : zall2 "FrameDeltas$Image" zc10 := ⟨trivial, trivial, trivial, trivial, Or.inl zl_33, trivial, Or.inl zl_35, trivial, trivial, trivial, trivial, trivial, trivial, trivial⟩
set_option maxRecDepth 100000 in
theorem zok1_11 : zchk 11 zc11 zc11 = true := by decide +kernel
set_option maxRecDepth 100000 in
theorem zok2_11 : zall2 "FrameDeltas$Image" zc11 := ⟨trivial, trivial, trivial, trivial, Or.inl zl_32, trivial, trivial, trivial, Or.inl zl_32, trivial, trivial, trivial, trivial, trivial, trivial⟩
set_option maxRecDepth 100000 in
theorem zok1_12 : zchk 12 zc12 zc12 = true := by decide +kernel
set_option maxRecDepth 100000 in
theorem zok2_12 : zall2 "FrameDeltas$Image" zc12 := ⟨trivial, trivial, trivial, trivial, Or.inl zl_32, trivial, trivial, trivial, Or.inl zl_32, trivial, trivial, trivial, trivial, trivial⟩
set_option maxRecDepth 100000 in
theorem zok1_13 : zchk 13 zc13 zc13 = true := by decide +kernel
set_option maxRecDepth 100000 in
theorem zok2_13 : zall2 "FrameDeltas$Image" zc13 := ⟨trivial, trivial, trivial, trivial, Or.inl zl_33, trivial, trivial, trivial, trivial, trivial, Or.inl zl_35, trivial, trivial, trivial, trivial, trivial, Or.inl zl_33, trivial, trivial, trivial, trivial, trivial, trivial, Or.inl zl_32, trivial, trivial, trivial, Or.inl zl_32, trivial, trivial, trivial, trivial, trivial, trivial⟩
set_option maxRecDepth 100000 in
theorem zok1_14 : zchk 14 zc14 zc14 = true := by decide +kernel
set_option maxRecDepth 100000 in
theorem zok2_14 : zall2 "FrameDeltas$Image" zc14 := ⟨trivial, Or.inl zl_33, trivial, trivial, trivial, Or.inl zl_35, trivial, trivial, trivial, trivial, trivial⟩
set_option maxRecDepth 100000 in
theorem zok1_15 : zchk 15 zc15 zc15 = true := by decide +kernel
set_option maxRecDepth 100000 in
theorem zok2_15 : zall2 "FrameDeltas$Image" zc15 := ⟨trivial, trivial, trivial, trivial, Or.inl zl_33, trivial, trivial, zm_2_32, trivial, trivial, trivial, trivial⟩
set_option maxRecDepth 100000 in
theorem zok1_16 : zchk 16 zc16 zc16 = true := by decide +kernel
set_option maxRecDepth 100000 in
theorem zok2_16 : zall2 "FrameDeltas$Image" zc16 := ⟨trivial, trivial, trivial, trivial, Or.inl zl_33, trivial, trivial, zm_2_32, trivial, trivial, trivial, trivial⟩
set_option maxRecDepth 100000 in
theorem zok1_17 : zchk 17 zc17 zc17 = true := by decide +kernel
set_option maxRecDepth 100000 in
theorem zok2_17 : zall2 "FrameDeltas$Image" zc17 := ⟨trivial, trivial, trivial, trivial, Or.inl zl_33, trivial, trivial, trivial, trivial, trivial, trivial, trivial, Or.inl zl_35, trivial, trivial, trivial, trivial, trivial, trivial, trivial, trivial⟩
set_option maxRecDepth 100000 in
theorem zok1_18 : zchk 18 zc18 zc18 = true := by decide +kernel
set_option maxRecDepth 100000 in
theorem zok2_18 : zall2 "FrameDeltas$Image" zc18 := ⟨trivial, trivial, trivial, trivial, trivial, trivial, trivial, trivial, trivial, trivial, trivial, Or.inl zl_33, trivial, trivial, trivial, trivial, trivial, trivial, trivial, trivial, trivial, trivial, trivial, trivial, trivial, trivial, Or.inl zl_33, trivial, trivial, trivial, trivial, trivial, trivial, trivial, trivial, trivial, trivial, trivial, trivial, Or.inl zl_32, trivial, trivial, trivial, trivial, trivial, trivial, Or.inl zl_32, trivial, trivial, trivial, trivial, trivial, Or.inl zl_32, trivial, trivial, trivial, Or.inl zl_32, trivial, trivial, trivial, trivial, trivial, trivial, trivial, trivial, trivial, trivial⟩
set_option maxRecDepth 100000 in
theorem zok1_19 : zchk 19 zc19 zc19 = true := by decide +kernel
set_option maxRecDepth 100000 in
theorem zok2_19 : zall2 "FrameDeltas$Image" zc19 := ⟨trivial, trivial, trivial, trivial, trivial, trivial, Or.inl zl_33, trivial, Or.inl zl_35, trivial, trivial, trivial, trivial, zm_2_41, trivial, trivial, zm_2_41, trivial, trivial, trivial, trivial, trivial, trivial, trivial⟩
set_option maxRecDepth 100000 in
theorem zok1_20 : zchk 20 zc20 zc20 = true := by decide +kernel
set_option maxRecDepth 100000 in
theorem zok2_20 : zall2 "FrameDeltas$Planner" zc20 := ⟨trivial, Or.inr zl_89, trivial, zm_3_30, trivial, trivial, trivial, trivial, trivial, trivial, zm_3_36, trivial, trivial, trivial, trivial, trivial, Or.inr zl_97, zm_3_43, Or.inl zl_192, trivial, trivial, Or.inl zl_194, trivial, trivial, trivial, trivial, trivial, trivial, trivial, trivial, trivial, trivial, trivial, Or.inr zl_97, zm_3_43, trivial, trivial, zm_3_47, trivial, Or.inl zl_194, zm_3_47, trivial, trivial, trivial, trivial, trivial, trivial, trivial, Or.inl zl_192, trivial, trivial, trivial, Or.inl zl_192, trivial, trivial, trivial, trivial, trivial, Or.inl zl_192, trivial, trivial, Or.inl zl_194, trivial, trivial, trivial, trivial⟩
set_option maxRecDepth 100000 in
theorem zok1_21 : zchk 21 zc21 zc21 = true := by decide +kernel
set_option maxRecDepth 100000 in
theorem zok2_21 : zall2 "FrameDeltas$Planner" zc21 := ⟨trivial, trivial, trivial, trivial, trivial, trivial, trivial, Or.inl zl_190, trivial, trivial, trivial, trivial, Or.inl zl_191, trivial, trivial, trivial, Or.inr zl_56, trivial, trivial, zm_3_59, zm_3_63, trivial, trivial, trivial, trivial, zm_3_69, trivial, Or.inl zl_190, trivial, trivial, Or.inr zl_66, trivial, trivial, trivial, trivial, trivial, trivial, trivial, trivial, trivial, zm_3_69, trivial, Or.inl zl_191, trivial, trivial, Or.inr zl_66, trivial, trivial, trivial, trivial, trivial⟩
set_option maxRecDepth 100000 in
theorem zok1_22 : zchk 22 zc22 zc22 = true := by decide +kernel
set_option maxRecDepth 100000 in
theorem zok2_22 : zall2 "FrameDeltas$Planner" zc22 := ⟨trivial, trivial, trivial, trivial, trivial, trivial, trivial, trivial, trivial, trivial, trivial, trivial, trivial, Or.inl zl_190, trivial, trivial, trivial, trivial, Or.inl zl_191, trivial, trivial, trivial, trivial, trivial, trivial, trivial, trivial, trivial, trivial, trivial, trivial, trivial, trivial, trivial, trivial, Or.inl zl_190, trivial, trivial, trivial, trivial, Or.inl zl_191, trivial, trivial, trivial, trivial, trivial, trivial, trivial, trivial, trivial, trivial, trivial, trivial, trivial, trivial, trivial, trivial, trivial, zm_3_76, trivial, trivial, trivial, trivial, trivial, trivial, trivial, trivial, trivial, trivial⟩
set_option maxRecDepth 100000 in
theorem zok1_23 : zchk 23 zc23 zc23 = true := by decide +kernel
set_option maxRecDepth 100000 in
theorem zok2_23 : zall2 "FrameDeltas$Planner" zc23 := ⟨trivial, Or.inl zl_194, trivial, trivial, trivial, trivial, trivial, trivial, trivial, trivial, trivial, trivial, trivial, trivial, trivial⟩
set_option maxRecDepth 100000 in
theorem zok1_24 : zchk 24 zc24 zc24 = true := by decide +kernel
set_option maxRecDepth 100000 in
theorem zok2_24 : zall2 "FrameDeltas$RunList" zc24 := ⟨trivial, trivial, zm_4_22, trivial, trivial, trivial, zm_4_28, trivial, trivial, trivial, Or.inl zl_162, trivial, trivial, trivial, trivial, trivial, trivial, trivial, trivial, trivial, trivial, trivial, trivial, trivial, trivial, trivial, trivial, trivial, trivial, trivial, trivial, zm_4_31, trivial, trivial, trivial, trivial, trivial, trivial, trivial, zm_4_31, trivial, trivial, trivial, trivial, trivial, trivial, zm_4_35, trivial, trivial, trivial, trivial⟩
set_option maxRecDepth 100000 in
theorem zok1_25 : zchk 25 zc25 zc25 = true := by decide +kernel
set_option maxRecDepth 100000 in
theorem zok2_25 : zall2 "FrameDeltas$RunList" zc25 := ⟨trivial, Or.inl zl_162, trivial, trivial, trivial, trivial, trivial, trivial, trivial, Or.inl zl_161, trivial, trivial, trivial, Or.inl zl_161, trivial, trivial, trivial, trivial, trivial, trivial, trivial, trivial, trivial, trivial, trivial, trivial, Or.inl zl_160, trivial, trivial, trivial, Or.inl zl_160, trivial, trivial, trivial, trivial, trivial, trivial, trivial, trivial, Or.inl zl_162, trivial, trivial, Or.inl zl_162, trivial, Or.inl zl_160, trivial, trivial, trivial, Or.inl zl_162, trivial, Or.inl zl_161, trivial, trivial, trivial, Or.inl zl_160, trivial, Or.inl zl_162, trivial, trivial, trivial, Or.inl zl_161, trivial, Or.inl zl_162, trivial, trivial, trivial, trivial, Or.inl zl_162, trivial, trivial, Or.inl zl_162, trivial, trivial⟩
set_option maxRecDepth 100000 in
theorem zok1_26 : zchk 26 zc26 zc26 = true := by decide +kernel
set_option maxRecDepth 100000 in
theorem zok2_26 : zall2 "FrameDeltas$State" zc26 := ⟨trivial, Or.inl zl_84, trivial, Or.inl zl_84, zm_6_42, trivial, trivial, Or.inl zl_88, Or.inl zl_88, trivial, trivial, Or.inl zl_91, Or.inl zl_91, trivial, trivial, Or.inl zl_94, Or.inl zl_94, trivial, trivial, Or.inl zl_96, Or.inl zl_96, trivial, trivial, trivial, trivial, Or.inl zl_88, trivial, trivial, trivial, zm_6_46, trivial, trivial, zm_6_46, zm_6_50, trivial, trivial, trivial, trivial⟩
set_option maxRecDepth 100000 in
theorem zok1_27 : zchk 27 zc27 zc27 = true := by decide +kernel
set_option maxRecDepth 100000 in
theorem zok2_27 : zall2 "FrameDeltas$State" zc27 := ⟨trivial, trivial, trivial, trivial, Or.inl zl_86, trivial, trivial, trivial, Or.inl zl_86, trivial, trivial, trivial, trivial, Or.inl zl_87, trivial, trivial⟩
set_option maxRecDepth 100000 in
theorem zok1_28 : zchk 28 zc28 zc28 = true := by decide +kernel
set_option maxRecDepth 100000 in
theorem zok2_28 : zall2 "FrameDeltas$State" zc28 := ⟨trivial, trivial, trivial, trivial, Or.inl zl_88, trivial, trivial, trivial, trivial, trivial, trivial⟩
set_option maxRecDepth 100000 in
theorem zok1_29 : zchk 29 zc29 zc29 = true := by decide +kernel
set_option maxRecDepth 100000 in
theorem zok2_29 : zall2 "FrameDeltas$State" zc29 := ⟨trivial, trivial, trivial, trivial, trivial, zm_6_53, trivial, trivial, trivial, trivial, trivial, trivial⟩
set_option maxRecDepth 100000 in
theorem zok1_30 : zchk 30 zc30 zc30 = true := by decide +kernel
set_option maxRecDepth 100000 in
theorem zok2_30 : zall2 "FrameDeltas$State" zc30 := ⟨trivial, trivial, trivial, trivial, Or.inl zl_84, trivial, trivial, trivial, zm_6_46, Or.inr zl_57, trivial, trivial⟩
set_option maxRecDepth 100000 in
theorem zok1_31 : zchk 31 zc31 zc31 = true := by decide +kernel
set_option maxRecDepth 100000 in
theorem zok2_31 : zall2 "FrameDeltas$State" zc31 := ⟨trivial, trivial, trivial, trivial, trivial, trivial, trivial, trivial, trivial, trivial, trivial, zm_6_46, Or.inr zl_71, trivial, trivial, trivial, trivial, trivial, zm_6_46, Or.inr zl_62, trivial, trivial, trivial, trivial, trivial, trivial⟩
set_option maxRecDepth 100000 in
theorem zok1_32 : zchk 32 zc32 zc32 = true := by decide +kernel
set_option maxRecDepth 100000 in
theorem zok2_32 : zall2 "FrameDeltas$State" zc32 := ⟨trivial, trivial, zm_6_67, trivial, trivial, trivial, zm_6_70, trivial, Or.inl zl_94, trivial, trivial, trivial, trivial, trivial, trivial⟩
set_option maxRecDepth 100000 in
theorem zok1_33 : zchk 33 zc33 zc33 = true := by decide +kernel
set_option maxRecDepth 100000 in
theorem zok2_33 : zall2 "FrameDeltas$State" zc33 := ⟨trivial, trivial, trivial, trivial, zm_6_46, Or.inr zl_62, trivial, trivial, trivial, trivial, trivial, trivial, trivial, trivial, trivial, trivial, trivial, zm_6_46, Or.inr zl_62, trivial, trivial, trivial, trivial, trivial, trivial⟩
set_option maxRecDepth 100000 in
theorem zok1_34 : zchk 34 zc34 zc34 = true := by decide +kernel
set_option maxRecDepth 100000 in
theorem zok2_34 : zall2 "FrameDeltas$State" zc34 := ⟨trivial, trivial, trivial, trivial, trivial, trivial, trivial, trivial, trivial, trivial, trivial, trivial, trivial, trivial, zm_6_46, Or.inr zl_67, trivial, trivial, trivial, trivial, zm_6_46, Or.inr zl_62, trivial, trivial, trivial, trivial, trivial, trivial⟩
set_option maxRecDepth 100000 in
theorem zok1_35 : zchk 35 zc35 zc35 = true := by decide +kernel
set_option maxRecDepth 100000 in
theorem zok2_35 : zall2 "FrameDeltas$State" zc35 := ⟨trivial, trivial, trivial, trivial, trivial, trivial, trivial, trivial, trivial, trivial, trivial, trivial, trivial, trivial, trivial, trivial, zm_6_46, Or.inr zl_62, trivial, trivial, trivial, trivial, trivial, trivial⟩
set_option maxRecDepth 100000 in
theorem zok1_36 : zchk 36 zc36 zc36 = true := by decide +kernel
set_option maxRecDepth 100000 in
theorem zok2_36 : zall2 "FrameDeltas$State" zc36 := ⟨trivial, trivial, trivial, trivial, trivial, trivial, Or.inl zl_88, trivial, trivial, trivial, zm_6_67, trivial, trivial, trivial, trivial, trivial, trivial, trivial⟩
set_option maxRecDepth 100000 in
theorem zok1_37 : zchk 37 zc37 zc37 = true := by decide +kernel
set_option maxRecDepth 100000 in
theorem zok2_37 : zall2 "FrameDeltas$State" zc37 := ⟨trivial, trivial, trivial, trivial, trivial, trivial, Or.inl zl_88, trivial, trivial, trivial, trivial, zm_6_46, Or.inr zl_67, trivial, trivial, trivial, trivial, trivial, trivial, trivial⟩
set_option maxRecDepth 100000 in
theorem zok1_38 : zchk 38 zc38 zc38 = true := by decide +kernel
set_option maxRecDepth 100000 in
theorem zok2_38 : zall2 "FrameDeltas" zc38 := ⟨trivial, zm_7_66, trivial, trivial, zm_7_66, trivial, trivial, trivial, trivial, zm_7_70, trivial, Or.inl zl_208, trivial, Or.inr zl_90, trivial, Or.inl zl_208, Or.inr zl_85, trivial, trivial, zm_7_79, trivial, Or.inl zl_208, Or.inr zl_85, zm_7_83, trivial, trivial⟩
set_option maxRecDepth 100000 in
theorem zok1_39 : zchk 39 zc39 zc39 = true := by decide +kernel
set_option maxRecDepth 100000 in
theorem zok2_39 : zall2 "FrameDeltas" zc39 := ⟨trivial, Or.inl zl_208, Or.inr zl_85, trivial, zm_7_87, trivial, trivial, trivial, trivial, trivial, trivial, trivial, trivial, trivial, zm_7_70, trivial, Or.inl zl_208, Or.inr zl_85, trivial, zm_7_90, trivial, trivial, Or.inl zl_208, Or.inr zl_85, trivial, trivial, zm_7_94, trivial, trivial, trivial⟩
set_option maxRecDepth 100000 in
theorem zok1_40 : zchk 40 zc40 zc40 = true := by decide +kernel
set_option maxRecDepth 100000 in
theorem zok2_40 : zall2 "FrameDeltas" zc40 := ⟨trivial, Or.inl zl_208, Or.inr zl_85, trivial, zm_7_87, trivial, trivial, trivial, trivial, Or.inl zl_208, Or.inr zl_85, trivial, zm_7_90, trivial, trivial⟩
set_option maxRecDepth 100000 in
theorem zok1_41 : zchk 41 zc41 zc41 = true := by decide +kernel
set_option maxRecDepth 100000 in
theorem zok2_41 : zall2 "FrameDeltas" zc41 := ⟨trivial, Or.inl zl_208, Or.inr zl_90, trivial, trivial, trivial, trivial, trivial, trivial, zm_7_130, trivial, trivial⟩
set_option maxRecDepth 100000 in
theorem zok1_42 : zchk 42 zc42 zc42 = true := by decide +kernel
set_option maxRecDepth 100000 in
theorem zok2_42 : zall2 "FrameDeltas" zc42 := ⟨trivial, Or.inl zl_208, trivial, zm_7_133, trivial, trivial, trivial, trivial, Or.inl zl_208, trivial, zm_7_136, trivial, trivial, trivial, trivial, Or.inl zl_208, Or.inr zl_90, trivial, trivial, trivial, trivial, trivial, trivial, zm_7_130, trivial, trivial⟩
set_option maxRecDepth 100000 in
theorem zok1_43 : zchk 43 zc43 zc43 = true := by decide +kernel
set_option maxRecDepth 100000 in
theorem zok2_43 : zall2 "FrameDeltas" zc43 := ⟨trivial, Or.inl zl_208, Or.inr zl_90, trivial, trivial, trivial, trivial, trivial, trivial, zm_7_139, zm_7_130, trivial, trivial⟩
set_option maxRecDepth 100000 in
theorem zok1_44 : zchk 44 zc44 zc44 = true := by decide +kernel
set_option maxRecDepth 100000 in
theorem zok2_44 : zall2 "FrameDeltas" zc44 := ⟨trivial, Or.inl zl_208, Or.inr zl_90, trivial, trivial, trivial, trivial, trivial, zm_7_70, trivial, Or.inl zl_208, trivial, Or.inr zl_90, trivial, trivial, Or.inr zl_90, trivial, Or.inl zl_208, Or.inr zl_90, trivial, trivial⟩
set_option maxRecDepth 100000 in
theorem zok1_45 : zchk 45 zc45 zc45 = true := by decide +kernel
set_option maxRecDepth 100000 in
theorem zok2_45 : zall2 "FrameDeltas" zc45 := ⟨trivial, Or.inl zl_208, Or.inr zl_90, trivial, trivial, trivial, trivial, trivial, zm_7_70, trivial, Or.inl zl_214, trivial, Or.inl zl_208, trivial, Or.inl zl_213, trivial, Or.inl zl_215, zm_7_142, trivial, trivial, trivial, trivial, Or.inl zl_208, Or.inr zl_90, trivial, trivial, Or.inl zl_213, trivial, Or.inl zl_208, trivial, zm_7_146, trivial, Or.inl zl_208, trivial, Or.inl zl_214, trivial, zm_7_150, zm_7_153, trivial, trivial, trivial, Or.inl zl_214, Or.inr zl_193, trivial, trivial⟩
set_option maxRecDepth 100000 in
theorem zok1_46 : zchk 46 zc46 zc46 = true := by decide +kernel
set_option maxRecDepth 100000 in
theorem zok2_46 : zall2 "FrameDeltas" zc46 := ⟨trivial, trivial, trivial, trivial, trivial, trivial, trivial, trivial, trivial, trivial, trivial, trivial, trivial, trivial, trivial, trivial, trivial, trivial, trivial, trivial, zm_7_70, trivial, Or.inl zl_208, Or.inr zl_93, trivial, trivial, trivial, Or.inl zl_208, Or.inr zl_95, trivial, trivial, trivial, Or.inl zl_208, Or.inr zl_98, trivial, trivial, trivial, trivial, trivial, trivial, trivial, Or.inl zl_208, trivial, Or.inr zl_93, trivial, Or.inl zl_208, trivial, Or.inr zl_95, trivial, Or.inl zl_208, trivial, Or.inr zl_98, trivial, trivial, trivial, trivial, trivial, trivial, trivial⟩
set_option maxRecDepth 100000 in
theorem zok1_47 : zchk 47 zc47 zc47 = true := by decide +kernel
set_option maxRecDepth 100000 in
theorem zok2_47 : zall2 "FrameDeltas" zc47 := ⟨trivial, Or.inl zl_208, trivial, zm_7_133, trivial, trivial, trivial, trivial, trivial, trivial, trivial, trivial, trivial, trivial, trivial, trivial, trivial, trivial, trivial, trivial, Or.inl zl_208, trivial, zm_7_146, Or.inr zl_72, trivial, trivial, trivial, trivial, trivial, zm_7_70, trivial, Or.inl zl_208, trivial, zm_7_146, trivial, Or.inr zl_72, trivial, Or.inl zl_208, zm_7_173, trivial, trivial⟩
set_option maxRecDepth 100000 in
theorem zok1_48 : zchk 48 zc48 zc48 = true := by decide +kernel
set_option maxRecDepth 100000 in
theorem zok2_48 : zall2 "FrameDeltas" zc48 := ⟨trivial, Or.inl zl_208, trivial, zm_7_133, trivial, trivial, trivial, trivial, Or.inl zl_208, trivial, zm_7_146, trivial, trivial, trivial, trivial, Or.inr zl_63, trivial, trivial, trivial, trivial, trivial, Or.inr zl_63, trivial, trivial, Or.inr zl_68, trivial, trivial, Or.inl zl_208, trivial, zm_7_180, trivial, trivial, Or.inl zl_208, trivial, zm_7_183, trivial, trivial, Or.inl zl_208, trivial, zm_7_119, trivial, trivial, trivial, trivial, trivial, trivial, trivial, zm_7_186, trivial, trivial, trivial, zm_7_186, trivial, trivial, trivial, zm_7_186, trivial, trivial, trivial, zm_7_186, trivial, trivial, trivial, trivial⟩
set_option maxRecDepth 100000 in
theorem zok1_49 : zchk 49 zc49 zc49 = true := by decide +kernel
set_option maxRecDepth 100000 in
theorem zok2_49 : zall2 "FrameDeltas" zc49 := ⟨trivial, Or.inl zl_208, trivial, zm_7_133, trivial, trivial, Or.inl zl_208, Or.inr zl_85, trivial, zm_7_87, trivial, trivial, trivial, trivial, Or.inl zl_208, trivial, zm_7_119, trivial, trivial, trivial, trivial, Or.inl zl_208, trivial, zm_7_122, trivial, zm_7_90, trivial, trivial⟩
set_option maxRecDepth 100000 in
theorem zok1_50 : zchk 50 zc50 zc50 = true := by decide +kernel
set_option maxRecDepth 100000 in
theorem zok2_50 : zall2 "FrameDeltas" zc50 := ⟨trivial, trivial, trivial, Or.inl zl_208, Or.inr zl_85, Or.inr zl_34, trivial, trivial, Or.inl zl_208, Or.inr zl_85, Or.inr zl_36, trivial, trivial, Or.inl zl_208, Or.inr zl_90, trivial, trivial, Or.inl zl_208, Or.inr zl_93, trivial, trivial, Or.inl zl_208, Or.inr zl_95, trivial, trivial, Or.inl zl_208, Or.inr zl_98, trivial, trivial, Or.inl zl_208, zm_7_223, trivial, trivial, Or.inl zl_208, zm_7_173, trivial, trivial, Or.inl zl_212, Or.inr zl_123, trivial, trivial, Or.inl zl_211, trivial, trivial, trivial, trivial⟩
set_option maxRecDepth 100000 in
theorem zok1_51 : zchk 51 zc51 zc51 = true := by decide +kernel
set_option maxRecDepth 100000 in
theorem zok2_51 : zall2 "FrameDeltas" zc51 := ⟨trivial, Or.inl zl_208, trivial, zm_7_112, trivial, trivial, trivial, trivial, Or.inl zl_208, trivial, zm_7_119, trivial, trivial, trivial, trivial, trivial, zm_7_226, trivial, trivial⟩
set_option maxRecDepth 100000 in
theorem zok1_52 : zchk 52 zc52 zc52 = true := by decide +kernel
set_option maxRecDepth 100000 in
theorem zok2_52 : zall2 "FrameDeltas" zc52 := ⟨trivial, Or.inl zl_208, trivial, zm_7_112, trivial, trivial, Or.inl zl_208, trivial, zm_7_112, trivial, trivial, trivial, trivial, Or.inl zl_208, trivial, zm_7_119, trivial, trivial, Or.inl zl_208, trivial, zm_7_119, trivial, trivial, trivial, trivial, Or.inl zl_208, trivial, zm_7_122, trivial, Or.inl zl_208, trivial, zm_7_122, zm_7_229, trivial, trivial⟩
set_option maxRecDepth 100000 in
theorem zok1_53 : zchk 53 zc53 zc53 = true := by decide +kernel
set_option maxRecDepth 100000 in
theorem zok2_53 : zall2 "FrameDeltas" zc53 := ⟨trivial, Or.inl zl_208, Or.inr zl_90, trivial, trivial, trivial, trivial, trivial, trivial, trivial, trivial, trivial, trivial, Or.inl zl_208, Or.inr zl_90, trivial, trivial, trivial, Or.inl zl_208, trivial, zm_7_180, zm_7_246, trivial, trivial, trivial, trivial, trivial, trivial⟩
set_option maxRecDepth 100000 in
theorem zok1_54 : zchk 54 zc54 zc54 = true := by decide +kernel
set_option maxRecDepth 100000 in
theorem zok2_54 : zall2 "FrameDeltas" zc54 := ⟨trivial, Or.inl zl_208, trivial, zm_7_133, trivial, trivial, trivial, trivial, trivial, trivial, trivial, trivial, trivial, Or.inl zl_208, Or.inr zl_90, trivial, trivial, Or.inl zl_208, trivial, trivial, zm_7_251, trivial, trivial, trivial, trivial, trivial, trivial, trivial⟩
set_option maxRecDepth 100000 in
theorem zok1_55 : zchk 55 zc55 zc55 = true := by decide +kernel
set_option maxRecDepth 100000 in
theorem zok2_55 : zall2 "FrameDeltas" zc55 := ⟨trivial, Or.inl zl_208, Or.inr zl_90, trivial, trivial, trivial, trivial, trivial, Or.inl zl_214, trivial, Or.inl zl_208, trivial, Or.inl zl_213, trivial, Or.inl zl_215, zm_7_142, trivial, Or.inl zl_214, Or.inr zl_193, trivial, trivial⟩
set_option maxRecDepth 100000 in
theorem zok1_56 : zchk 56 zc56 zc56 = true := by decide +kernel
set_option maxRecDepth 100000 in
theorem zok2_56 : zall2 "FrameDeltas" zc56 := ⟨trivial, Or.inl zl_211, trivial, trivial, trivial, trivial, trivial, trivial, Or.inl zl_211, trivial, trivial, Or.inl zl_211, trivial, Or.inl zl_208, trivial, trivial, Or.inl zl_211, zm_7_257, zm_7_261, trivial, Or.inl zl_211, trivial, trivial⟩
set_option maxRecDepth 100000 in
theorem zok1_57 : zchk 57 zc57 zc57 = true := by decide +kernel
set_option maxRecDepth 100000 in
theorem zok2_57 : zall2 "FrameDeltas" zc57 := ⟨trivial, trivial, trivial, trivial, trivial, trivial, trivial, trivial, trivial, trivial, trivial, trivial, trivial, trivial⟩
set_option maxRecDepth 100000 in
theorem zok1_58 : zchk 58 zc58 zc58 = true := by decide +kernel
set_option maxRecDepth 100000 in
theorem zok2_58 : zall2 "FrameDeltas" zc58 := ⟨trivial, trivial, Or.inl zl_211, zm_7_257, trivial, Or.inl zl_208, zm_7_261, trivial, Or.inl zl_211, trivial, trivial, trivial, trivial, Or.inl zl_211, trivial, trivial, Or.inl zl_211, trivial, trivial, trivial, Or.inl zl_210, trivial, trivial, trivial, trivial, Or.inl zl_210, trivial, trivial⟩
set_option maxRecDepth 100000 in
theorem zok1_59 : zchk 59 zc59 zc59 = true := by decide +kernel
set_option maxRecDepth 100000 in
theorem zok2_59 : zall2 "FrameDeltas" zc59 := ⟨trivial, Or.inl zl_210, trivial, trivial, trivial, trivial, trivial, trivial, trivial, trivial, trivial, Or.inl zl_209, trivial, trivial, trivial, Or.inl zl_209, trivial, trivial, trivial, trivial, Or.inl zl_208, trivial, trivial⟩
set_option maxRecDepth 100000 in
theorem zok1_60 : zchk 60 zc60 zc60 = true := by decide +kernel
set_option maxRecDepth 100000 in
theorem zok2_60 : zall2 "FrameDeltas" zc60 := ⟨trivial, zm_7_70, trivial, Or.inl zl_208, trivial, Or.inl zl_208, Or.inr zl_90, zm_7_146, trivial, trivial, Or.inr zl_58, trivial, Or.inl zl_208, Or.inr zl_85, zm_7_265, trivial, Or.inl zl_213, trivial, trivial, Or.inl zl_208, trivial, zm_7_153, trivial, Or.inl zl_208, trivial, Or.inr zl_90, trivial, trivial, Or.inr zl_90, trivial, Or.inr zl_68, trivial, trivial⟩
set_option maxRecDepth 100000 in
theorem zok1_61 : zchk 61 zc61 zc61 = true := by decide +kernel
set_option maxRecDepth 100000 in
theorem zok2_61 : zall2 "FrameDeltas" zc61 := ⟨trivial, Or.inl zl_215, Or.inr zl_58, trivial, Or.inl zl_208, Or.inr zl_85, zm_7_265, trivial, Or.inl zl_213, trivial, Or.inl zl_215, trivial, Or.inl zl_208, trivial, zm_7_153, trivial, Or.inl zl_215, Or.inr zl_68, trivial, trivial⟩
set_option maxRecDepth 100000 in
theorem zok1_62 : zchk 62 zc62 zc62 = true := by decide +kernel
set_option maxRecDepth 100000 in
theorem zok2_62 : zall2 "FrameDeltas" zc62 := ⟨trivial, trivial, trivial, trivial, zm_7_226, trivial, trivial, trivial, trivial, trivial, trivial, trivial, Or.inl zl_208, Or.inr zl_90, trivial, trivial, Or.inl zl_208, trivial, zm_7_136, trivial, trivial, trivial, trivial, zm_7_226, trivial, trivial, Or.inl zl_208, trivial, zm_7_183, trivial, trivial, trivial, trivial, trivial, trivial, trivial, trivial, trivial, trivial, trivial, trivial, trivial, trivial, trivial, trivial, trivial, trivial, trivial, trivial, trivial, trivial, trivial⟩
set_option maxRecDepth 100000 in
theorem zok1_63 : zchk 63 zc63 zc63 = true := by decide +kernel
set_option maxRecDepth 100000 in
theorem zok2_63 : zall2 "java/lang/Integer" zc63 := ⟨trivial, trivial, trivial, trivial, zl_358, trivial, trivial, trivial, trivial, zl_359, trivial, trivial, trivial, trivial, zl_359, trivial, trivial, trivial, trivial, trivial, trivial, trivial, trivial, zl_360, trivial, trivial, trivial, trivial, trivial, trivial, trivial, trivial, trivial, trivial, trivial, trivial, trivial, trivial, trivial, trivial, trivial, trivial, trivial⟩
set_option maxRecDepth 100000 in
theorem zok1_64 : zchk 64 zc64 zc64 = true := by decide +kernel
set_option maxRecDepth 100000 in
theorem zok2_64 : zall2 "java/lang/Math" zc64 := ⟨trivial, trivial, trivial, trivial, trivial, trivial, trivial, trivial⟩
set_option maxRecDepth 100000 in
theorem zok1_65 : zchk 65 zc65 zc65 = true := by decide +kernel
set_option maxRecDepth 100000 in
theorem zok2_65 : zall2 "java/lang/Math" zc65 := ⟨trivial, trivial, trivial, trivial, trivial, trivial, trivial, trivial⟩
set_option maxRecDepth 100000 in
theorem zok1_66 : zchk 66 zc66 zc66 = true := by decide +kernel
set_option maxRecDepth 100000 in
theorem zok2_66 : zall2 "java/lang/Math" zc66 := ⟨trivial, trivial, trivial, trivial, trivial, trivial, trivial, trivial⟩
set_option maxRecDepth 100000 in
theorem zok1_67 : zchk 67 zc67 zc67 = true := by decide +kernel
set_option maxRecDepth 100000 in
theorem zok2_67 : zall2 "FrameDeltasLaw" zc67 := ⟨trivial, trivial, trivial, trivial, trivial, trivial, trivial, trivial, trivial, trivial, trivial, trivial, trivial, trivial, trivial, trivial, trivial, trivial, trivial⟩
set_option maxRecDepth 100000 in
theorem zok1_68 : zchk 68 zc68 zc68 = true := by decide +kernel
set_option maxRecDepth 100000 in
theorem zok2_68 : zall2 "FrameDeltasLaw" zc68 := ⟨trivial, zl_487, trivial, trivial, trivial, trivial, trivial⟩
set_option maxRecDepth 100000 in
theorem zok1_69 : zchk 69 zc69 zc69 = true := by decide +kernel
set_option maxRecDepth 100000 in
theorem zok2_69 : zall2 "FrameDeltasLaw" zc69 := ⟨zl_463, trivial, trivial, trivial, trivial, trivial, trivial, trivial, zl_464, trivial, trivial, trivial, zm_12_12, trivial, trivial, trivial, trivial, trivial, trivial, trivial, trivial, trivial, trivial, zm_12_12, trivial, trivial, zm_12_12, trivial, trivial, trivial, zl_465, trivial, trivial, trivial, zm_12_20, trivial, trivial, trivial, trivial, trivial, trivial, trivial, trivial, trivial, trivial, zm_12_12, trivial, trivial, trivial, trivial, trivial, trivial, trivial, zl_475, trivial, trivial, trivial, trivial, zm_12_25, trivial, trivial, trivial, trivial, trivial, trivial, zl_476, trivial, trivial, trivial, trivial, zm_12_31, trivial, trivial, zl_463, trivial, trivial, trivial, zm_12_31, trivial, trivial, trivial, trivial, trivial, trivial, trivial, trivial, trivial⟩
set_option maxRecDepth 100000 in
theorem zok1_70 : zchk 70 zc70 zc70 = true := by decide +kernel
set_option maxRecDepth 100000 in
theorem zok2_70 : zall2 "FrameDeltasLaw" zc70 := ⟨trivial, trivial, trivial, trivial, trivial, trivial, trivial, trivial, trivial, trivial, trivial, trivial, trivial, trivial, trivial, trivial, zm_12_34, trivial, trivial, zm_12_39, trivial, trivial, zm_12_42, trivial, trivial, trivial, trivial, trivial, trivial, zm_12_34, trivial, trivial, trivial, trivial, zm_12_34, trivial, trivial, trivial, trivial, zm_12_34, zm_12_46, trivial, trivial, zm_12_50, trivial, trivial, trivial, trivial, trivial, trivial, zm_12_34, trivial, trivial, trivial, trivial, trivial, zm_12_53, trivial, trivial, zm_12_56, trivial, trivial, trivial, trivial, trivial, trivial, zm_12_34, zm_12_59, trivial, trivial, zm_12_62, trivial, trivial, trivial, trivial, trivial, trivial, zm_12_34, trivial, trivial, trivial, trivial, zm_12_34, zm_12_65, trivial, trivial⟩
set_option maxRecDepth 100000 in
theorem zok1_71_0 : zchk0 71 zc71 0 ((zc71.drop 0).take 50) = true := by decide +kernel
set_option maxRecDepth 100000 in
theorem zok1_71_50 : zchk0 71 zc71 50 ((zc71.drop 50).take 50) = true := by decide +kernel
set_option maxRecDepth 100000 in
theorem zok1_71_100 : zchk0 71 zc71 100 ((zc71.drop 100).take 50) = true := by decide +kernel
set_option maxRecDepth 100000 in
theorem zok1_71_150 : zchk0 71 zc71 150 ((zc71.drop 150).take 50) = true := by decide +kernel
set_option maxRecDepth 100000 in
theorem zok1_71_200 : zchk0 71 zc71 200 ((zc71.drop 200).take 50) = true := by decide +kernel
theorem zok1_71_e : zchk0 71 zc71 250 (zc71.drop 250) = true := by decide +kernel
theorem zok1_71_r200 : zchk0 71 zc71 200 (zc71.drop 200) = true := zchk0_split _ _ 50 _ _ zok1_71_200 (by rw [List.drop_drop]; exact zok1_71_e)
theorem zok1_71_r150 : zchk0 71 zc71 150 (zc71.drop 150) = true := zchk0_split _ _ 50 _ _ zok1_71_150 (by rw [List.drop_drop]; exact zok1_71_r200)
theorem zok1_71_r100 : zchk0 71 zc71 100 (zc71.drop 100) = true := zchk0_split _ _ 50 _ _ zok1_71_100 (by rw [List.drop_drop]; exact zok1_71_r150)
theorem zok1_71_r50 : zchk0 71 zc71 50 (zc71.drop 50) = true := zchk0_split _ _ 50 _ _ zok1_71_50 (by rw [List.drop_drop]; exact zok1_71_r100)
theorem zok1_71_r0 : zchk0 71 zc71 0 (zc71.drop 0) = true := zchk0_split _ _ 50 _ _ zok1_71_0 (by rw [List.drop_drop]; exact zok1_71_r50)
set_option maxRecDepth 100000 in
theorem zok1_71 : zchk 71 zc71 zc71 = true := by
  unfold zchk
  rw [show zchk0 71 zc71 0 zc71 = true from zok1_71_r0]
  decide +kernel
set_option maxRecDepth 100000 in
theorem zok2_71 : zall2 "FrameDeltasLaw" zc71 := ⟨trivial, trivial, trivial, trivial, trivial, trivial, trivial, trivial, trivial, trivial, trivial, trivial, trivial, zm_12_69, trivial, trivial, zm_12_72, trivial, trivial, trivial, zm_12_12, trivial, trivial, trivial, zm_12_76, trivial, trivial, trivial, zm_12_79, trivial, trivial, trivial, trivial, zm_12_72, trivial, trivial, trivial, trivial, trivial, trivial, trivial, trivial, trivial, trivial, trivial, trivial, trivial, trivial, trivial, trivial, trivial, trivial, trivial, trivial, trivial, trivial, trivial, trivial, trivial, zm_12_12, trivial, trivial, trivial, trivial, trivial, trivial, trivial, zm_12_25, trivial, trivial, trivial, trivial, trivial, zm_12_83, trivial, trivial, trivial, trivial, trivial, trivial, trivial, trivial, trivial, trivial, trivial, trivial, trivial, trivial, trivial, trivial, trivial, trivial, trivial, trivial, trivial, trivial, trivial, trivial, trivial, trivial, trivial, trivial, trivial, trivial, trivial, trivial, trivial, zm_12_86, trivial, trivial, trivial, trivial, trivial, zm_12_72, trivial, trivial, trivial, trivial, trivial, trivial, trivial, trivial, zm_12_12, trivial, trivial, trivial, trivial, trivial, trivial, trivial, trivial, trivial, trivial, trivial, zm_12_12, trivial, trivial, trivial, trivial, trivial, trivial, trivial, trivial, trivial, trivial, trivial, trivial, zm_12_25, trivial, trivial, trivial, trivial, trivial, trivial, trivial, trivial, zm_12_25, trivial, trivial, trivial, trivial, trivial, zm_12_12, trivial, trivial, zm_12_12, trivial, trivial, trivial, trivial, trivial, trivial, trivial, zm_12_25, trivial, trivial, trivial, zm_12_25, trivial, trivial, trivial, trivial, zm_12_25, trivial, trivial, trivial, trivial, zm_12_89, trivial, trivial, trivial, trivial, trivial, trivial, trivial, trivial, trivial, zm_12_12, trivial, trivial, trivial, trivial, trivial, trivial, trivial, zm_12_12, trivial, trivial, zm_12_92, trivial, trivial, trivial, trivial, trivial, trivial, trivial, trivial, trivial, trivial, trivial, trivial, trivial, trivial, trivial, trivial, zm_12_42, trivial, trivial, trivial, zm_12_92, trivial, trivial, trivial, trivial, zm_12_12, trivial, trivial, zm_12_12, trivial, zm_12_95, trivial, trivial, trivial, trivial, trivial, trivial, trivial, trivial, trivial⟩
theorem zok1_all (m : Nat) : zchk m (zcd m) (zcd m) = true := match m with
  | 0 => zok1_0
  | 1 => zok1_1
  | 2 => zok1_2
  | 3 => zok1_3
  | 4 => zok1_4
  | 5 => zok1_5
  | 6 => zok1_6
  | 7 => zok1_7
  | 8 => zok1_8
  | 9 => zok1_9
  | 10 => zok1_10
  | 11 => zok1_11
  | 12 => zok1_12
  | 13 => zok1_13
  | 14 => zok1_14
  | 15 => zok1_15
  | 16 => zok1_16
  | 17 => zok1_17
  | 18 => zok1_18
  | 19 => zok1_19
  | 20 => zok1_20
  | 21 => zok1_21
  | 22 => zok1_22
  | 23 => zok1_23
  | 24 => zok1_24
  | 25 => zok1_25
  | 26 => zok1_26
  | 27 => zok1_27
  | 28 => zok1_28
  | 29 => zok1_29
  | 30 => zok1_30
  | 31 => zok1_31
  | 32 => zok1_32
  | 33 => zok1_33
  | 34 => zok1_34
  | 35 => zok1_35
  | 36 => zok1_36
  | 37 => zok1_37
  | 38 => zok1_38
  | 39 => zok1_39
  | 40 => zok1_40
  | 41 => zok1_41
  | 42 => zok1_42
  | 43 => zok1_43
  | 44 => zok1_44
  | 45 => zok1_45
  | 46 => zok1_46
  | 47 => zok1_47
  | 48 => zok1_48
  | 49 => zok1_49
  | 50 => zok1_50
  | 51 => zok1_51
  | 52 => zok1_52
  | 53 => zok1_53
  | 54 => zok1_54
  | 55 => zok1_55
  | 56 => zok1_56
  | 57 => zok1_57
  | 58 => zok1_58
  | 59 => zok1_59
  | 60 => zok1_60
  | 61 => zok1_61
  | 62 => zok1_62
  | 63 => zok1_63
  | 64 => zok1_64
  | 65 => zok1_65
  | 66 => zok1_66
  | 67 => zok1_67
  | 68 => zok1_68
  | 69 => zok1_69
  | 70 => zok1_70
  | 71 => zok1_71
  | _ + 72 => rfl
theorem zok2_all (m : Nat) : zall2 (zy m).cls (zcd m) := match m with
  | 0 => zok2_0
  | 1 => zok2_1
  | 2 => zok2_2
  | 3 => zok2_3
  | 4 => zok2_4
  | 5 => zok2_5
  | 6 => zok2_6
  | 7 => zok2_7
  | 8 => zok2_8
  | 9 => zok2_9
  | 10 => zok2_10
  | 11 => zok2_11
  | 12 => zok2_12
  | 13 => zok2_13
  | 14 => zok2_14
  | 15 => zok2_15
  | 16 => zok2_16
  | 17 => zok2_17
  | 18 => zok2_18
  | 19 => zok2_19
  | 20 => zok2_20
  | 21 => zok2_21
  | 22 => zok2_22
  | 23 => zok2_23
  | 24 => zok2_24
  | 25 => zok2_25
  | 26 => zok2_26
  | 27 => zok2_27
  | 28 => zok2_28
  | 29 => zok2_29
  | 30 => zok2_30
  | 31 => zok2_31
  | 32 => zok2_32
  | 33 => zok2_33
  | 34 => zok2_34
  | 35 => zok2_35
  | 36 => zok2_36
  | 37 => zok2_37
  | 38 => zok2_38
  | 39 => zok2_39
  | 40 => zok2_40
  | 41 => zok2_41
  | 42 => zok2_42
  | 43 => zok2_43
  | 44 => zok2_44
  | 45 => zok2_45
  | 46 => zok2_46
  | 47 => zok2_47
  | 48 => zok2_48
  | 49 => zok2_49
  | 50 => zok2_50
  | 51 => zok2_51
  | 52 => zok2_52
  | 53 => zok2_53
  | 54 => zok2_54
  | 55 => zok2_55
  | 56 => zok2_56
  | 57 => zok2_57
  | 58 => zok2_58
  | 59 => zok2_59
  | 60 => zok2_60
  | 61 => zok2_61
  | 62 => zok2_62
  | 63 => zok2_63
  | 64 => zok2_64
  | 65 => zok2_65
  | 66 => zok2_66
  | 67 => zok2_67
  | 68 => zok2_68
  | 69 => zok2_69
  | 70 => zok2_70
  | 71 => zok2_71
  | _ + 72 => trivial
theorem zcw_all (m : Nat) (h : m < 71) : Cond.code (zy m) (zby m) (zml m) (zrt m) ∈ zTs := match m, h with
  | 0, _ => zcw_0
  | 1, _ => zcw_1
  | 2, _ => zcw_2
  | 3, _ => zcw_3
  | 4, _ => zcw_4
  | 5, _ => zcw_5
  | 6, _ => zcw_6
  | 7, _ => zcw_7
  | 8, _ => zcw_8
  | 9, _ => zcw_9
  | 10, _ => zcw_10
  | 11, _ => zcw_11
  | 12, _ => zcw_12
  | 13, _ => zcw_13
  | 14, _ => zcw_14
  | 15, _ => zcw_15
  | 16, _ => zcw_16
  | 17, _ => zcw_17
  | 18, _ => zcw_18
  | 19, _ => zcw_19
  | 20, _ => zcw_20
  | 21, _ => zcw_21
  | 22, _ => zcw_22
  | 23, _ => zcw_23
  | 24, _ => zcw_24
  | 25, _ => zcw_25
  | 26, _ => zcw_26
  | 27, _ => zcw_27
  | 28, _ => zcw_28
  | 29, _ => zcw_29
  | 30, _ => zcw_30
  | 31, _ => zcw_31
  | 32, _ => zcw_32
  | 33, _ => zcw_33
  | 34, _ => zcw_34
  | 35, _ => zcw_35
  | 36, _ => zcw_36
  | 37, _ => zcw_37
  | 38, _ => zcw_38
  | 39, _ => zcw_39
  | 40, _ => zcw_40
  | 41, _ => zcw_41
  | 42, _ => zcw_42
  | 43, _ => zcw_43
  | 44, _ => zcw_44
  | 45, _ => zcw_45
  | 46, _ => zcw_46
  | 47, _ => zcw_47
  | 48, _ => zcw_48
  | 49, _ => zcw_49
  | 50, _ => zcw_50
  | 51, _ => zcw_51
  | 52, _ => zcw_52
  | 53, _ => zcw_53
  | 54, _ => zcw_54
  | 55, _ => zcw_55
  | 56, _ => zcw_56
  | 57, _ => zcw_57
  | 58, _ => zcw_58
  | 59, _ => zcw_59
  | 60, _ => zcw_60
  | 61, _ => zcw_61
  | 62, _ => zcw_62
  | 63, _ => zcw_63
  | 64, _ => zcw_64
  | 65, _ => zcw_65
  | 66, _ => zcw_66
  | 67, _ => zcw_67
  | 68, _ => zcw_68
  | 69, _ => zcw_69
  | 70, _ => zcw_70
  | n + 71, h => absurd h (by omega)
end
section
/-! ===== numbers ===== -/
theorem zi_of {a : Int32} {n : Int} (h : a.toInt = n) : a = Int32.ofInt n := by rw [← h, Int32.ofInt_toInt]
theorem zl_of {a : Int64} {n : Int} (h : a.toInt = n) : a = Int64.ofInt n := by rw [← h, Int64.ofInt_toInt]
theorem zi_to {n : Int} (h : zin n) : (Int32.ofInt n).toInt = n := Int32.toInt_ofInt_of_le (by have := h.1; omega) (by have := h.2; omega)
theorem zl_to {n : Int} (h : zin6 n) : (Int64.ofInt n).toInt = n := Int64.toInt_ofInt_of_le (by have := h.1; omega) (by have := h.2; omega)
theorem zin_32 (a : Int32) : zin a.toInt := ⟨by have := Int32.le_toInt a; omega, by have := Int32.toInt_lt a; omega⟩
theorem zbm {n : Int} (h : zin n) : n.bmod (2 ^ 32) = n := by
  have h1 := h.1
  have h2 := h.2
  rw [Int.bmod_def]
  split <;> omega
theorem zbm6 {n : Int} (h : zin6 n) : n.bmod (2 ^ 64) = n := by
  have h1 := h.1
  have h2 := h.2
  rw [Int.bmod_def]
  split <;> omega
theorem zw_bm (n : Int) : zw n = n.bmod (2 ^ 32) := by
  unfold zw
  rw [Int.bmod_def]
  split <;> omega
theorem zw_in (n : Int) : zin (zw n) := by unfold zw; constructor <;> omega
theorem zb_bm (n : Int) : zb n = n.bmod (2 ^ 8) := by
  unfold zb
  rw [Int.bmod_def]
  split <;> omega
theorem zb_in (n : Int) : zin (zb n) := by unfold zb; constructor <;> omega
theorem zn_add {a b : Int} (ha : zin a) (hb : zin b) (h : zin (a + b)) : Int32.ofInt a + Int32.ofInt b = Int32.ofInt (a + b) := zi_of (by rw [Int32.toInt_add, zi_to ha, zi_to hb, zbm h])
theorem zn_sub {a b : Int} (ha : zin a) (hb : zin b) (h : zin (a - b)) : Int32.ofInt a - Int32.ofInt b = Int32.ofInt (a - b) := zi_of (by rw [Int32.toInt_sub, zi_to ha, zi_to hb, zbm h])
theorem zn_mul {a b : Int} (ha : zin a) (hb : zin b) (h : zin (a * b)) : Int32.ofInt a * Int32.ofInt b = Int32.ofInt (a * b) := zi_of (by rw [Int32.toInt_mul, zi_to ha, zi_to hb, zbm h])
theorem zn_div {a b : Int} (ha : zin a) (hb : zin b) (h : zin (a.tdiv b)) : Int32.ofInt a / Int32.ofInt b = Int32.ofInt (a.tdiv b) := zi_of (by rw [Int32.toInt_div, zi_to ha, zi_to hb, zbm h])
theorem zin_tmod {a b : Int} (ha : zin a) (hb : zin b) (h : b ≠ 0) : zin (a.tmod b) := by
  have h1 : (a.tmod b).natAbs ≤ a.natAbs := by
    rw [Int.natAbs_tmod]
    exact Nat.mod_le _ _
  have h2 : (a.tmod b).natAbs < b.natAbs := by
    rw [Int.natAbs_tmod]
    exact Nat.mod_lt _ (by omega)
  have h3 := ha.1; have h4 := ha.2; have h5 := hb.1; have h6 := hb.2
  constructor <;> omega
theorem zn_rem {a b : Int} (ha : zin a) (hb : zin b) (h : b ≠ 0) : Int32.ofInt a - Int32.ofInt a / Int32.ofInt b * Int32.ofInt b = Int32.ofInt (a.tmod b) := zi_of (by
  have h1 := zbm (zin_tmod ha hb h)
  rw [Int32.toInt_sub, Int32.toInt_mul, Int32.toInt_div, zi_to ha, zi_to hb]
  rw [Int.bmod_mul_bmod, Int.sub_bmod_bmod, Int.mul_comm, ← Int.tmod_def, h1])
theorem zn_neg {a : Int} (ha : zin a) : -(Int32.ofInt a) = Int32.ofInt (zw (-a)) := zi_of (by rw [Int32.toInt_neg, zi_to ha, zw_bm])
theorem zw6_bm (n : Int) : zw6 n = n.bmod (2 ^ 64) := Int64.toInt_ofInt
theorem zw6_in (n : Int) : zin6 (zw6 n) := by
  unfold zw6
  have h1 := Int64.le_toInt (Int64.ofInt n)
  have h2 := Int64.toInt_lt (Int64.ofInt n)
  constructor <;> omega
theorem zl_add {a b : Int} (ha : zin6 a) (hb : zin6 b) : Int64.ofInt a + Int64.ofInt b = Int64.ofInt (zw6 (a + b)) := zl_of (by rw [Int64.toInt_add, zl_to ha, zl_to hb, zw6_bm])
theorem zl_mul {a b : Int} (ha : zin6 a) (hb : zin6 b) : Int64.ofInt a * Int64.ofInt b = Int64.ofInt (zw6 (a * b)) := zl_of (by rw [Int64.toInt_mul, zl_to ha, zl_to hb, zw6_bm])
theorem zl_cmp {a b : Int} (ha : zin6 a) (hb : zin6 b) : lg_cmp (Int64.ofInt a) (Int64.ofInt b) = Int32.ofInt (zcmp a b) := by
  unfold lg_cmp zcmp
  simp only [gt_iff_lt, Int64.lt_iff_toInt_lt, ← Int64.toInt_inj, zl_to ha, zl_to hb]
  by_cases h1 : a < b
  · rw [if_pos h1, if_neg (by omega), if_neg (by omega)]; rfl
  · rw [if_neg h1]
    by_cases h2 : a = b
    · rw [if_pos h2, if_neg (by omega), if_pos h2]; rfl
    · rw [if_pos (by omega), if_neg h2]; rfl
theorem zn_i2l {a : Int} (ha : zin a) : (Int32.ofInt a).toInt64 = Int64.ofInt a := zl_of (by rw [Int32.toInt_toInt64, zi_to ha])
theorem zn_l2i {a : Int} (ha : zin6 a) : (Int64.ofInt a).toInt32 = Int32.ofInt (zw a) := zi_of (by rw [Int64.toInt_toInt32, zl_to ha, zw_bm])
theorem zn_i2b {a : Int} (ha : zin a) : (Int32.ofInt a).toInt8.toInt32 = Int32.ofInt (zb a) := zi_of (by rw [Int8.toInt_toInt32, Int32.toInt_toInt8, zi_to ha, zb_bm])
theorem zn_u16 (x : Int32) : (x.toUInt32 % 65536).toInt32.toInt = x.toInt % 65536 := by
  have h1 : (x.toUInt32 % 65536).toInt32.toInt = ((x.toUInt32 % 65536).toInt32.toBitVec).toInt := rfl
  have h2 : (x.toUInt32 % 65536).toInt32.toBitVec = x.toBitVec % 65536#32 := rfl
  have h3 : x.toInt = x.toBitVec.toInt := rfl
  rw [h1, h2, h3, BitVec.toInt_eq_toNat_cond, BitVec.toInt_eq_toNat_cond, BitVec.toNat_umod]
  have h4 := x.toBitVec.isLt
  have h5 : (65536#32).toNat = 65536 := rfl
  rw [h5]
  split <;> split <;> omega
theorem zn_i2c {a : Int} (ha : zin a) : ((Int32.ofInt a).toUInt32 % 65536).toInt32 = Int32.ofInt (a % 65536) := zi_of (by rw [zn_u16, zi_to ha])
theorem zn_char (x : Int32) : x.toUInt32.toUInt16.toUInt32.toInt32 = (x.toUInt32 % 65536).toInt32 := by
  congr 1
theorem zn_bool (x : Int32) : (x &&& 1).toInt = x.toInt % 2 := by
  have h1 : (x &&& 1).toInt = (x.toBitVec &&& 1#32).toInt := rfl
  have h3 : x.toInt = x.toBitVec.toInt := rfl
  have h6 : (x.toBitVec &&& 1#32).toNat = x.toBitVec.toNat % 2 := by
    rw [BitVec.toNat_and]
    exact Nat.and_one_is_mod _
  rw [h1, h3, BitVec.toInt_eq_toNat_cond, BitVec.toInt_eq_toNat_cond, h6]
  have h4 := x.toBitVec.isLt
  split <;> split <;> omega
theorem zn_lt {a b : Int} (ha : zin a) (hb : zin b) : Int32.ofInt a < Int32.ofInt b ↔ a < b := by rw [Int32.lt_iff_toInt_lt, zi_to ha, zi_to hb]
theorem zn_le {a b : Int} (ha : zin a) (hb : zin b) : Int32.ofInt a ≤ Int32.ofInt b ↔ a ≤ b := by rw [Int32.le_iff_toInt_le, zi_to ha, zi_to hb]
theorem zn_eq {a b : Int} (ha : zin a) (hb : zin b) : Int32.ofInt a = Int32.ofInt b ↔ a = b := by rw [← Int32.toInt_inj, zi_to ha, zi_to hb]
theorem zn_nat {a : Int} (ha : zin a) : (Int32.ofInt a).toNatClampNeg = a.toNat := by
  show (Int32.ofInt a).toInt.toNat = a.toNat
  rw [zi_to ha]
theorem zn_vin {a : Int} {n : Nat} (ha : zin a) (h0 : 0 ≤ a) (h1 : a < n) : vp_in (Int32.ofInt a) n := vp_in_iff.mpr (by rw [zi_to ha]; exact ⟨h0, h1⟩)
theorem zin_z : zin 0 := ⟨by decide, by decide⟩
end
section
/-! ===== what a value, the locals, the stack, the heap are to the small machine ===== -/
def zarr (ca : Nat → ClassId) : List (ClassId × FieldType) := [(ca 0, .int), (ca 1, .char), (ca 2, .int), (ca 3, .object "FrameDeltas$State"), (ca 4, .object "FrameDeltas$Frame")]
def zrv (b0 : Nat) (adK adV : Nat → Nat) (bS : Nat) (w : mzV) (v : Value) : Prop := match w with
  | none => False
  | some (.inl n) => zin n ∧ v = .int (Int32.ofInt n)
  | some (.inr (.inl n)) => zin6 n ∧ v = .long (Int64.ofInt n)
  | some (.inr (.inr (t, i))) => (t = 99 ∧ v = .null) ∨ (t = 32 ∧ i = 0 ∧ v = .ref bS) ∨ (0 ≤ i ∧ i.toNat < zcnt t ∧ v = .ref (b0 + zpos t i.toNat))
def zrs (b0 : Nat) (adK adV : Nat → Nat) (bS : Nat) (st : List mzV) (sa : List Value) : Prop := st.length = sa.length ∧ ∀ (i : Nat) (w : mzV) (v : Value), st[i]? = some w → sa[i]? = some v → zrv b0 adK adV bS w v
def zrl (b0 : Nat) (adK adV : Nat → Nat) (bS : Nat) (ls : List mzV) (la : Array Slot) : Prop := la.size = ls.length ∧ lv_wf la ∧ ∀ (i : Nat) (w : Int ⊕ (Int ⊕ (Nat × Int))), ls[i]? = some (some w) → ∃ v, zrv b0 adK adV bS (some w) v ∧ la[i]? = some (.val v)
def zlgo (mi : Nat) (ls : List mzV) : Prop := ls.length = zml mi ∧ ∀ (i : Nat) (n : Int), ls[i]? = some (some (.inr (.inl n))) → zlg mi i = true
/-- the numbers of a memory, and the script in it -/
def zM (L : Nat) (xs : Nat → Int32) (μ : mzM) : Prop := (∀ t i k, t ≠ 33 → zin (μ t i k)) ∧ (∀ i k, zin6 (μ 33 i k)) ∧ μ 33 0 1 = (L : Int) ∧ ∀ j : Nat, j < L → μ 32 0 (j : Int) = (xs j).toInt
/-- what stays as it is, at a state: the classes, the texts, the script, the statics, the nest mates' words -/
def zBk (b0 : Nat) (D : va_G) (ca : Nat → ClassId) (adK adV : Nat → Nat) (bS L : Nat) (xs : Nat → Int32) (U : State) : Prop :=
  va_K D zcl (zarr ca) U ∧ va_X bS L xs U U.heap ∧ (bS < b0 ∧ b0 ≤ U.heap.size ∧ L < 2 ^ 31) ∧ ∀ w ∈ zNs, va_Nw w U
def zB (b0 : Nat) (D : va_G) (ca : Nat → ClassId) (adK adV : Nat → Nat) (bS L : Nat) (xs : Nat → Int32) (μ : mzM) (U : State) : Prop := zBk b0 D ca adK adV bS L xs U ∧ va_P D zcl (zws b0 ca μ) U.heap ∧ zM L xs μ
def zrO (b0 : Nat) (adK adV : Nat → Nat) (bS : Nat) (r : Option mzV) (v : Option Value) : Prop := match r, v with
  | none, none => True
  | some w, some v => zrv b0 adK adV bS w v
  | _, _ => False
def zQc (b0 : Nat) (D : va_G) (ca : Nat → ClassId) (adK adV : Nat → Nat) (bS L : Nat) (xs : Nat → Int32) (r : Option mzV) (ν : mzM) : Array Value → State → Outcome → State → Prop := fun _ st o t =>
  (∃ v : Option Value, o = .returned v ∧ zrO b0 adK adV bS r v) ∧ va_P D zcl (zws b0 ca ν) t.heap ∧ zM L xs ν ∧ va_F (fun q => b0 ≤ q) st t
def zwf (f : Nat) : List Cond := .code (zy f) (zby f) (zml f) (zrt f) :: zTs
def zrm (f : Nat) : Room := { frames := zfr f, cells := 0, slots := 0, locals := zlo f }
/-- the contract of method f on these arguments and this memory -/
def zMet (l : Launch) (b0 : Nat) (D : va_G) (ca : Nat → ClassId) (adK adV : Nat → Nat) (bS L : Nat) (xs : Nat → Int32) (f : Nat) (as : List mzV) (μ : mzM) (r : Option mzV) (ν : mzM) : Prop :=
  ∀ av : List Value, zrs b0 adK adV bS as av → Met l (zy f) (zwf f) (zrm f) (va_Pc av (zB b0 D ca adK adV bS L xs μ)) (zQc b0 D ca adK adV bS L xs r ν) 0 0 (fun q => b0 ≤ q)
section Rel
variable {b0 : Nat} {D : va_G} {ca : Nat → ClassId} {adK adV : Nat → Nat} {bS L : Nat} {xs : Nat → Int32}
theorem zrs_nil : zrs b0 adK adV bS [] [] := ⟨rfl, fun i w v h _ => by simp at h⟩
theorem zrs_cons {w : mzV} {v : Value} {st : List mzV} {sa : List Value} (h : zrv b0 adK adV bS w v) (hs : zrs b0 adK adV bS st sa) : zrs b0 adK adV bS (w :: st) (v :: sa) := by
  refine ⟨by simp [hs.1], fun i w' v' h1 h2 => ?_⟩
  cases i with
  | zero => simp at h1 h2; rw [← h1, ← h2]; exact h
  | succ i => simp at h1 h2; exact hs.2 i w' v' h1 h2
theorem zrs_un {w : mzV} {st : List mzV} {sa : List Value} (h : zrs b0 adK adV bS (w :: st) sa) : ∃ v ra, sa = v :: ra ∧ zrv b0 adK adV bS w v ∧ zrs b0 adK adV bS st ra := by
  cases sa with
  | nil => have := h.1; simp at this
  | cons v ra => exact ⟨v, ra, rfl, h.2 0 w v rfl rfl, by have := h.1; simpa using this, fun i w' v' h1 h2 => h.2 (i + 1) w' v' (by simpa using h1) (by simpa using h2)⟩
theorem zrs_unI {n : Int} {st : List mzV} {sa : List Value} (h : zrs b0 adK adV bS (some (.inl n) :: st) sa) : ∃ ra, sa = .int (Int32.ofInt n) :: ra ∧ zin n ∧ zrs b0 adK adV bS st ra := by
  obtain ⟨v, ra, h1, h2, h3⟩ := zrs_un h
  exact ⟨ra, by rw [h1, h2.2], h2.1, h3⟩
theorem zrs_unL {n : Int} {st : List mzV} {sa : List Value} (h : zrs b0 adK adV bS (some (.inr (.inl n)) :: st) sa) : ∃ ra, sa = .long (Int64.ofInt n) :: ra ∧ zin6 n ∧ zrs b0 adK adV bS st ra := by
  obtain ⟨v, ra, h1, h2, h3⟩ := zrs_un h
  exact ⟨ra, by rw [h1, h2.2], h2.1, h3⟩
theorem zrv_I {n : Int} (h : zin n) : zrv b0 adK adV bS (vI n) (.int (Int32.ofInt n)) := ⟨h, rfl⟩
theorem zrv_L {n : Int} (h : zin6 n) : zrv b0 adK adV bS (vL n) (.long (Int64.ofInt n)) := ⟨h, rfl⟩
theorem zrv_R {t : Nat} {i : Int} (h0 : 0 ≤ i) (h : i.toNat < zcnt t) : zrv b0 adK adV bS (vR t i) (.ref (b0 + zpos t i.toNat)) := Or.inr (Or.inr ⟨h0, h, rfl⟩)
theorem zcnt_hi {t : Nat} (h : 30 ≤ t) : zcnt t = 0 := by
  obtain ⟨k, rfl⟩ := Nat.exists_eq_add_of_le h
  rw [Nat.add_comm]
  rfl
/-- a place of the heap's own kinds -/
theorem zrv_unR {t : Nat} {i : Int} {v : Value} (h : zrv b0 adK adV bS (some (.inr (.inr (t, i)))) v) (ht : t < 30) : 0 ≤ i ∧ i.toNat < zcnt t ∧ v = .ref (b0 + zpos t i.toNat) := by
  rcases h with h | h | h
  · omega
  · omega
  · exact h
theorem zrv_un32 {i : Int} {v : Value} (h : zrv b0 adK adV bS (some (.inr (.inr (32, i)))) v) : i = 0 ∧ v = .ref bS := by
  rcases h with h | h | h
  · omega
  · exact h.2
  · exact absurd h.2.1 (by rw [zcnt_hi (by omega)]; omega)
/-- null, or a reference -/
theorem zrv_ref {t : Nat} {i : Int} {v : Value} (h : zrv b0 adK adV bS (some (.inr (.inr (t, i)))) v) : v = .null ∨ ∃ a, v = .ref a := by
  rcases h with h | h | h
  · exact Or.inl h.2
  · exact Or.inr ⟨_, h.2.2⟩
  · exact Or.inr ⟨_, h.2.2⟩
theorem zrv_null {t : Nat} {i : Int} {v : Value} (h : zrv b0 adK adV bS (some (.inr (.inr (t, i)))) v) (h1 : t = 99) : v = .null := by
  subst h1
  rcases h with h | h | h
  · exact h.2
  · omega
  · exact absurd h.2.1 (by rw [zcnt_hi (by omega)]; omega)
theorem zrv_nn {t : Nat} {i : Int} {v : Value} (h : zrv b0 adK adV bS (some (.inr (.inr (t, i)))) v) (h1 : t ≠ 99) (h2 : t ≠ 98) : ∃ a, v = .ref a := by
  rcases h with h | h | h
  · exact absurd h.1 h1
  · exact ⟨_, h.2.2⟩
  · exact ⟨_, h.2.2⟩
theorem zrv_cat {w : mzV} {v : Value} (h : zrv b0 adK adV bS w v) : v.category = (match zisL w with | true => 2 | false => 1) := by
  rcases w with _ | n | n | ⟨t, i⟩
  · exact absurd h id
  · rw [h.2]; rfl
  · rw [h.2]; rfl
  · rcases zrv_ref h with h | ⟨a, h⟩ <;> rw [h] <;> rfl
theorem zrs_words : ∀ {st : List mzV} {sa : List Value}, zrs b0 adK adV bS st sa → (sa.map fun v => v.category).sum = zwords st
  | [], sa, h => by
    have h0 : sa = [] := by have := h.1; cases sa with | nil => rfl | cons _ _ => simp at this
    subst h0
    rfl
  | w :: st, sa, h => by
    obtain ⟨v, ra, rfl, h1, h2⟩ := zrs_un h
    simp only [List.map_cons, List.sum_cons, zwords]
    rw [zrs_words h2, zrv_cat h1]
    cases zisL w <;> rfl
theorem zrs_take {st : List mzV} {sa : List Value} (n : Nat) (h : zrs b0 adK adV bS st sa) : zrs b0 adK adV bS (st.take n) (sa.take n) := by
  refine ⟨by simp [h.1], fun i w v h1 h2 => ?_⟩
  rw [List.getElem?_take] at h1 h2
  split at h1
  · next hi => rw [if_pos hi] at h2; exact h.2 i w v h1 h2
  · cases h1
theorem zrs_drop {st : List mzV} {sa : List Value} (n : Nat) (h : zrs b0 adK adV bS st sa) : zrs b0 adK adV bS (st.drop n) (sa.drop n) := by
  refine ⟨by simp [h.1], fun i w v h1 h2 => ?_⟩
  rw [List.getElem?_drop] at h1 h2
  exact h.2 _ w v h1 h2
theorem zrs_rev {st : List mzV} {sa : List Value} (h : zrs b0 adK adV bS st sa) : zrs b0 adK adV bS st.reverse sa.reverse := by
  refine ⟨by simp [h.1], fun i w v h1 h2 => ?_⟩
  have hi : i < st.length := by have := (List.getElem?_eq_some_iff.mp h1).1; simpa using this
  rw [List.getElem?_reverse hi] at h1
  rw [List.getElem?_reverse (by rw [← h.1]; exact hi)] at h2
  rw [← h.1] at h2
  exact h.2 _ w v h1 h2
theorem zrs_push {r : Option mzV} {v : Option Value} {st : List mzV} {sa : List Value} (h : zrO b0 adK adV bS r v) (hs : zrs b0 adK adV bS st sa) : zrs b0 adK adV bS (zpush r st) (v.toList ++ sa) := by
  cases r with
  | none => cases v with
    | none => exact hs
    | some v => exact absurd h id
  | some w => cases v with
    | none => exact absurd h id
    | some v => exact zrs_cons h hs
/-- the listed values of some locals -/
def zlv (la : Array Slot) : List (Nat × Value) := (List.range la.size).filterMap fun i => match la[i]? with | some (Slot.val v) => some (i, v) | _ => none
theorem zlv_mem {la : Array Slot} {i : Nat} {v : Value} : (i, v) ∈ zlv la ↔ la[i]? = some (.val v) := by
  unfold zlv
  rw [List.mem_filterMap]
  constructor
  · rintro ⟨j, -, h⟩
    split at h
    · next v' hv => cases h; exact hv
    · cases h
  · intro h
    refine ⟨i, List.mem_range.mpr (Array.getElem?_eq_some_iff.mp h).1, ?_⟩
    rw [h]
theorem zlv_has {la : Array Slot} (h : lv_wf la) : lv_has la la.size (zlv la) := ⟨rfl, h, fun q hq => zlv_mem.mp hq⟩
/-- a store of one word into a local -/
theorem zrl_set {mi : Nat} {ls : List mzV} {la la' : Array Slot} {i : Nat} {v : Value} {w : Int ⊕ (Int ⊕ (Nat × Int))} (h : zrl b0 adK adV bS ls la) (hg : zlgo mi ls) (hi : zsto mi i = true) (hv : zrv b0 adK adV bS (some w) v) (hw : zisL (some w) = false)
    (h' : lv_has la' la.size ((i, v) :: (zlv la).filter (fun q => !(q.1 == i) && !(q.1 + 1 == i && q.2.category == 2)))) : zrl b0 adK adV bS (ls.set i (some w)) la' ∧ zlgo mi (ls.set i (some w)) := by
  have hil : i < ls.length := by
    rw [hg.1]
    unfold zsto at hi
    simp only [Bool.and_eq_true] at hi
    exact Nat.blt_eq.mp hi.1
  refine ⟨⟨by rw [List.length_set, ← h.1]; exact h'.1, h'.2.1, fun j x hj => ?_⟩, by rw [List.length_set]; exact hg.1, fun j n hj => ?_⟩
  · by_cases hji : j = i
    · subst hji
      rw [List.getElem?_set_self hil] at hj
      cases hj
      exact ⟨v, hv, h'.2.2 (j, v) List.mem_cons_self⟩
    · rw [List.getElem?_set_ne (Ne.symm hji)] at hj
      obtain ⟨u, hu, hl⟩ := h.2.2 j x hj
      refine ⟨u, hu, h'.2.2 (j, u) (List.mem_cons_of_mem _ (List.mem_filter.mpr ⟨zlv_mem.mpr hl, ?_⟩))⟩
      simp only [Bool.and_eq_true, Bool.not_eq_true', beq_eq_false_iff_ne, ne_eq, Bool.and_eq_false_iff]
      refine ⟨hji, ?_⟩
      by_cases hj1 : j + 1 = i
      · right
        intro hc
        rw [zrv_cat hu] at hc
        have hl2 : zisL (some x) = true := by
          cases hx : zisL (some x) with
          | true => rfl
          | false => rw [hx] at hc; exact absurd hc (by decide)
        rcases x with n | n | ⟨t, k⟩
        · cases hl2
        · have := hg.2 j n hj
          subst hj1
          unfold zsto at hi
          simp only [Bool.and_eq_true, Bool.not_eq_true'] at hi
          rw [this] at hi
          exact absurd hi.2 (by decide)
        · cases hl2
      · exact Or.inl hj1
  · by_cases hji : j = i
    · subst hji
      rw [List.getElem?_set_self hil] at hj
      cases hj
      cases hw
    · rw [List.getElem?_set_ne (Ne.symm hji)] at hj
      exact hg.2 j n hj
end Rel
end
section
theorem zfl_p {A : Prop} {q : Bool} {h : Decidable A} (hh : (@decide A h && q) = true) : A := of_decide_eq_true (Bool.and_eq_true_iff.mp hh).1
theorem zdk_p {bs : ByteArray} {pc : Nat} {I : Instr} (h : zdk bs pc I = true) : (∃ d lo hi os, I = .tableswitch d lo hi os) ∨ decode bs pc = .ok (I, zil I) := by
  unfold zdk at h
  split at h
  · exact Or.inl ⟨_, _, _, _, rfl⟩
  · exact Or.inr (of_decide_eq_true h)
theorem zgt_p {C : List mzN} {pc : Nat} {off : Int} {a : Nat} (h : zgt C pc off a = true) : (pc : Int) + off = (zpcs C a : Int) := zfl_p h
theorem ztag_ok : ∀ t, t < 30 → 0 < zcnt t → zrow t = 0 → (zcl[zci t]?).map (fun q => q.1) = some (zcname t) := by decide +kernel
theorem zrow_hi {t : Nat} (h : 33 ≤ t) : zrow t = 0 := by
  obtain ⟨k, rfl⟩ := Nat.exists_eq_add_of_le h
  rw [Nat.add_comm]
  rfl
theorem zrow_lt {t w : Nat} (h : zrow t = w) (h0 : w ≠ 0) : t < 33 := by
  rcases Nat.lt_or_ge t 33 with q | q
  · exact q
  · rw [zrow_hi q] at h; exact absurd h.symm h0
theorem zrow_a : ∀ t, t < 33 → (zrow t = 1 → t < 30 ∧ zac t = 0) ∧ (zrow t = 2 → t < 30 ∧ zac t = 1) ∧ (zrow t = 3 → t < 30 ∧ zac t = 2) ∧ (zrow t = 4 → t = 6 ∨ t = 7) ∧ (zrow t = 6 → t = 32) := by decide +kernel
theorem zlen_n : ∀ t, t < 30 → zrow t ≠ 0 → ∀ (i : Int) (μ : mzM), zlen t i μ = (zln t : Int) := by
  intro t ht h0 i μ
  match t, ht, h0 with
  | 0, _, h0 => exact absurd rfl h0
  | 1, _, h0 => exact absurd rfl h0
  | 2, _, h0 => exact absurd rfl h0
  | 3, _, h0 => exact absurd rfl h0
  | 4, _, _ => exact rfl
  | 5, _, _ => exact rfl
  | 6, _, _ => exact rfl
  | 7, _, _ => exact rfl
  | 8, _, h0 => exact absurd rfl h0
  | 9, _, _ => exact rfl
  | 10, _, _ => exact rfl
  | 11, _, h0 => exact absurd rfl h0
  | 12, _, h0 => exact absurd rfl h0
  | 13, _, _ => exact rfl
  | 14, _, _ => exact rfl
  | 15, _, h0 => exact absurd rfl h0
  | 16, _, _ => exact rfl
  | 17, _, _ => exact rfl
  | 18, _, _ => exact rfl
  | 19, _, h0 => exact absurd rfl h0
  | 20, _, h0 => exact absurd rfl h0
  | 21, _, h0 => exact absurd rfl h0
  | 22, _, h0 => exact absurd rfl h0
  | 23, _, h0 => exact absurd rfl h0
  | 24, _, h0 => exact absurd rfl h0
  | 25, _, h0 => exact absurd rfl h0
  | 26, _, h0 => exact absurd rfl h0
  | 27, _, h0 => exact absurd rfl h0
  | 28, _, h0 => exact absurd rfl h0
  | 29, _, h0 => exact absurd rfl h0
  | n + 30, h, _ => exact absurd h (by omega)
theorem zln_lt : ∀ t, t < 30 → zln t < 20000 := by decide +kernel
theorem zfl_ref : ∀ t, t < 30 → ∀ q ∈ zfl t, q.1 = 3 → ∀ i, i < zcnt t → 0 ≤ zlead q.2.2.1 q.2.2.2 (i : Int) ∧ (zlead q.2.2.1 q.2.2.2 (i : Int)).toNat < zcnt q.2.1 := by decide +kernel
theorem zfl_mem : ∀ t, t < 30 → ∀ q ∈ zfl t, q.1 = 3 ∨ (q.2.1 ≠ 32 ∧ (q.2.1 ≠ 33 ∨ (q.1 = 2 ∧ q.2.2.2 = 0)) ∧ (q.1 ≠ 2 ∨ q.2.1 = 33)) := by decide +kernel
/-- what the tables say of a class of ours -/
def zcls (t : Nat) (C : String) (T : u_T) (N : Nat) (ty : Nat → FieldType) : Prop := zcl[zci t]? = some (C, T, N) ∧ zrec t = (C, T, N) ∧ (∀ w ∈ u_ws C T N, w ∈ zTs) ∧ (∀ k, k < N → parseFieldDescriptor (T k).2.2.1 = some (ty k)) ∧ (∀ a, a < N → ∀ b, b < N → a ≠ b → (T a).2.1 ≠ (T b).2.1) ∧ N = (zfl t).length ∧ (∀ k, k < N → (T k).1 = C) ∧
  ∀ k, k < N → ((zfa t k).1 = 0 → ty k = .int ∧ (T k).2.2.2 = false) ∧ ((zfa t k).1 = 1 → ty k = .boolean ∧ (T k).2.2.2 = false) ∧ ((zfa t k).1 = 2 → ty k = .long ∧ (T k).2.2.2 = false)
theorem zcls_0 : zcls 0 zR_0 zF_0 10 zty_0 := ⟨rfl, rfl, fun w h => zTs_l (zin_0 w h) (List.all_eq_true.mp zgd_0 w h), zty_0_ok, znm_0, rfl, by decide +kernel, by decide +kernel⟩
theorem zcls_1 : zcls 1 zR_1 zF_1 7 zty_1 := ⟨rfl, rfl, fun w h => zTs_l (zin_1 w h) (List.all_eq_true.mp zgd_1 w h), zty_1_ok, znm_1, rfl, by decide +kernel, by decide +kernel⟩
theorem zcls_2 : zcls 2 zR_2 zF_2 5 zty_2 := ⟨rfl, rfl, fun w h => zTs_l (zin_2 w h) (List.all_eq_true.mp zgd_2 w h), zty_2_ok, znm_2, rfl, by decide +kernel, by decide +kernel⟩
theorem zcls_3 : zcls 3 zR_3 zF_3 3 zty_3 := ⟨rfl, rfl, fun w h => zTs_l (zin_3 w h) (List.all_eq_true.mp zgd_3 w h), zty_3_ok, znm_3, rfl, by decide +kernel, by decide +kernel⟩
theorem zcls_8 : zcls 8 zR_8 zF_8 8 zty_8 := ⟨rfl, rfl, fun w h => zTs_l (zin_8 w h) (List.all_eq_true.mp zgd_8 w h), zty_8_ok, znm_8, rfl, by decide +kernel, by decide +kernel⟩
theorem zcls_11 : zcls 11 zR_11 zF_11 4 zty_11 := ⟨rfl, rfl, fun w h => zTs_l (zin_11 w h) (List.all_eq_true.mp zgd_11 w h), zty_11_ok, znm_11, rfl, by decide +kernel, by decide +kernel⟩
theorem zcls_12 : zcls 12 zR_12 zF_12 3 zty_12 := ⟨rfl, rfl, fun w h => zTs_l (zin_12 w h) (List.all_eq_true.mp zgd_12 w h), zty_12_ok, znm_12, rfl, by decide +kernel, by decide +kernel⟩
theorem zcls_15 : zcls 15 zR_15 zF_15 4 zty_15 := ⟨rfl, rfl, fun w h => zTs_l (zin_15 w h) (List.all_eq_true.mp zgd_15 w h), zty_15_ok, znm_15, rfl, by decide +kernel, by decide +kernel⟩
theorem zcls_of {t : Nat} (ht : t < 30) (h : 0 < zcnt t) (h0 : zrow t = 0) : ∃ C T N ty, zcls t C T N ty := by
  match t, ht, h, h0 with
  | 0, _, _, _ => exact ⟨_, _, _, _, zcls_0⟩
  | 1, _, _, _ => exact ⟨_, _, _, _, zcls_1⟩
  | 2, _, _, _ => exact ⟨_, _, _, _, zcls_2⟩
  | 3, _, _, _ => exact ⟨_, _, _, _, zcls_3⟩
  | 4, _, h, h0 => exact absurd (And.intro h h0) (by decide)
  | 5, _, h, h0 => exact absurd (And.intro h h0) (by decide)
  | 6, _, h, h0 => exact absurd (And.intro h h0) (by decide)
  | 7, _, h, h0 => exact absurd (And.intro h h0) (by decide)
  | 8, _, _, _ => exact ⟨_, _, _, _, zcls_8⟩
  | 9, _, h, h0 => exact absurd (And.intro h h0) (by decide)
  | 10, _, h, h0 => exact absurd (And.intro h h0) (by decide)
  | 11, _, _, _ => exact ⟨_, _, _, _, zcls_11⟩
  | 12, _, _, _ => exact ⟨_, _, _, _, zcls_12⟩
  | 13, _, h, h0 => exact absurd (And.intro h h0) (by decide)
  | 14, _, h, h0 => exact absurd (And.intro h h0) (by decide)
  | 15, _, _, _ => exact ⟨_, _, _, _, zcls_15⟩
  | 16, _, h, h0 => exact absurd (And.intro h h0) (by decide)
  | 17, _, h, h0 => exact absurd (And.intro h h0) (by decide)
  | 18, _, h, h0 => exact absurd (And.intro h h0) (by decide)
  | 19, _, h, h0 => exact absurd (And.intro h h0) (by decide)
  | 20, _, h, h0 => exact absurd (And.intro h h0) (by decide)
  | 21, _, h, h0 => exact absurd (And.intro h h0) (by decide)
  | 22, _, h, h0 => exact absurd (And.intro h h0) (by decide)
  | 23, _, h, h0 => exact absurd (And.intro h h0) (by decide)
  | 24, _, h, h0 => exact absurd (And.intro h h0) (by decide)
  | 25, _, h, h0 => exact absurd (And.intro h h0) (by decide)
  | 26, _, h, h0 => exact absurd (And.intro h h0) (by decide)
  | 27, _, h, h0 => exact absurd (And.intro h h0) (by decide)
  | 28, _, h, h0 => exact absurd (And.intro h h0) (by decide)
  | 29, _, h, h0 => exact absurd (And.intro h h0) (by decide)
  | n + 30, h, _, _ => exact absurd h (by omega)
section Sim
variable {p : Program} {l : Launch} {e : Env} {R : Room} {s : State} {m : MethodId} {args : Array Value} {below : List Frame} {meth : Method} {c : Code} {cells slots : Nat} {Q : State → Prop}
variable {b0 : Nat} {D : va_G} {ca : Nat → ClassId} {adK adV : Nat → Nat} {bS L : Nat} {xs : Nat → Int32} {mi : Nat} {C : List mzN}
def zA (b0 : Nat) (D : va_G) (ca : Nat → ClassId) (adK adV : Nat → Nat) (bS L : Nat) (xs : Nat → Int32) (s : State) (mi : Nat) (ls st : List mzV) (μ : mzM) (H : Heap) (locs : List Loc) (la : Array Slot) (sa : List Value) : Prop :=
  zrl b0 adK adV bS ls la ∧ zlgo mi ls ∧ zrs b0 adK adV bS st sa ∧ va_P D zcl (zws b0 ca μ) H ∧ zM L xs μ ∧ va_S (fun q => b0 ≤ q) s.heap H locs
/-- from an instruction on, whatever the machine's state that fits -/
def zK (p : Program) (l : Launch) (e : Env) (R : Room) (s : State) (m : MethodId) (args : Array Value) (below : List Frame) (meth : Method) (c : Code) (cells slots : Nat) (Q : State → Prop) (b0 : Nat) (D : va_G) (ca : Nat → ClassId) (adK adV : Nat → Nat) (bS L : Nat) (xs : Nat → Int32) (mi : Nat) (C : List mzN) (x : mzC) : Prop :=
  ∀ (H : Heap) (locs : List Loc) (la : Array Slot) (sa : List Value), zA b0 D ca adK adV bS L xs s mi x.2.1 x.2.2.1 x.2.2.2 H locs la sa → W p l e R s m args below meth c H locs cells slots Q (F0 m (zpcs C x.1) la sa)
/-- the last instruction: what lies on the stack, what the answer is -/
def zraw (b0 : Nat) (adK adV : Nat → Nat) (bS : Nat) (mi : Nat) (pc : Nat) (r : Option mzV) (sa : List Value) : Prop :=
  (r = none ∧ sa = [] ∧ decode (zby mi) pc = .ok (.return_, 1) ∧ zrt mi = none) ∨
  (∃ n n' ty, r = some (vI n') ∧ sa = [.int (Int32.ofInt n)] ∧ zin n ∧ zin n' ∧ decode (zby mi) pc = .ok (.ireturn, 1) ∧ zrt mi = some ty ∧ narrow ty (.int (Int32.ofInt n)) = .int (Int32.ofInt n') ∧ (ty = .int ∨ ty = .boolean ∨ ty = .char ∨ ty = .byte)) ∨
  (∃ n, r = some (vL n) ∧ sa = [.long (Int64.ofInt n)] ∧ zin6 n ∧ decode (zby mi) pc = .ok (.lreturn, 1) ∧ zrt mi = some .long) ∨
  (∃ t i v cn, r = some (vR t i) ∧ sa = [v] ∧ zrv b0 adK adV bS (vR t i) v ∧ decode (zby mi) pc = .ok (.areturn, 1) ∧ zrt mi = some (.object cn))
def zgoal (Wc : Prop) (K : mzC → Prop) (KC : Nat → List mzV → Nat → mzC → Prop) (KE : Option mzV → mzM → Prop) (r : mzS) : Prop := match r with
  | none => True
  | some (.inl x) => K x → Wc
  | some (.inr (.inl (q, x, y))) => (q.1 → K x) → (¬ q.1 → K y) → Wc
  | some (.inr (.inr (.inl (q, x)))) => q.1 → K x → Wc
  | some (.inr (.inr (.inr (.inl (f, as, r, x))))) => KC f as r x → Wc
  | some (.inr (.inr (.inr (.inr (.inl (v, ts, x)))))) => K (zpick v ts x.1, x.2) → Wc
  | some (.inr (.inr (.inr (.inr (.inr (r, ν)))))) => KE r ν → Wc
section Stk
variable {Wc : Prop} {K : mzC → Prop} {KC : Nat → List mzV → Nat → mzC → Prop} {KE : Option mzV → mzM → Prop}
theorem zi1_ok {st : List mzV} {sa : List Value} {f : Int → List mzV → mzS} (hs : zrs b0 adK adV bS st sa) (h : ∀ a r ra, sa = .int (Int32.ofInt a) :: ra → zin a → zrs b0 adK adV bS r ra → zgoal Wc K KC KE (f a r)) : zgoal Wc K KC KE (zi1 st f) := by
  unfold zi1
  split
  · next a r => obtain ⟨ra, h1, h2, h3⟩ := zrs_unI hs; exact h a r ra h1 h2 h3
  · trivial
theorem zl1_ok {st : List mzV} {sa : List Value} {f : Int → List mzV → mzS} (hs : zrs b0 adK adV bS st sa) (h : ∀ a r ra, sa = .long (Int64.ofInt a) :: ra → zin6 a → zrs b0 adK adV bS r ra → zgoal Wc K KC KE (f a r)) : zgoal Wc K KC KE (zl1 st f) := by
  unfold zl1
  split
  · next a r => obtain ⟨ra, h1, h2, h3⟩ := zrs_unL hs; exact h a r ra h1 h2 h3
  · trivial
theorem zi2_ok {st : List mzV} {sa : List Value} {f : Int → Int → List mzV → mzS} (hs : zrs b0 adK adV bS st sa) (h : ∀ a b r ra, sa = .int (Int32.ofInt b) :: .int (Int32.ofInt a) :: ra → zin a → zin b → zrs b0 adK adV bS r ra → zgoal Wc K KC KE (f a b r)) : zgoal Wc K KC KE (zi2 st f) := by
  unfold zi2
  split
  · next b a r =>
    obtain ⟨r1, h1, h2, h3⟩ := zrs_unI hs
    obtain ⟨r2, h4, h5, h6⟩ := zrs_unI h3
    exact h a b r r2 (by rw [h1, h4]) h5 h2 h6
  · trivial
theorem zl2_ok {st : List mzV} {sa : List Value} {f : Int → Int → List mzV → mzS} (hs : zrs b0 adK adV bS st sa) (h : ∀ a b r ra, sa = .long (Int64.ofInt b) :: .long (Int64.ofInt a) :: ra → zin6 a → zin6 b → zrs b0 adK adV bS r ra → zgoal Wc K KC KE (f a b r)) : zgoal Wc K KC KE (zl2 st f) := by
  unfold zl2
  split
  · next b a r =>
    obtain ⟨r1, h1, h2, h3⟩ := zrs_unL hs
    obtain ⟨r2, h4, h5, h6⟩ := zrs_unL h3
    exact h a b r r2 (by rw [h1, h4]) h5 h2 h6
  · trivial
theorem zr1_ok {st : List mzV} {sa : List Value} {f : Nat → Int → List mzV → mzS} (hs : zrs b0 adK adV bS st sa) (h : ∀ t i r v ra, sa = v :: ra → zrv b0 adK adV bS (vR t i) v → zrs b0 adK adV bS r ra → zgoal Wc K KC KE (f t i r)) : zgoal Wc K KC KE (zr1 st f) := by
  unfold zr1
  split
  · next t i r => obtain ⟨v, ra, h1, h2, h3⟩ := zrs_un hs; exact h t i r v ra h1 h2 h3
  · trivial
theorem zld_ok {ls : List mzV} {la : Array Slot} {i : Nat} {f : mzV → mzS} (hl : zrl b0 adK adV bS ls la) (h : ∀ w v, ls[i]? = some (some w) → zrv b0 adK adV bS (some w) v → la[i]? = some (.val v) → zgoal Wc K KC KE (f (some w))) : zgoal Wc K KC KE (zld ls i f) := by
  unfold zld
  split
  · next w hw => obtain ⟨v, h1, h2⟩ := hl.2.2 i w hw; exact h w v hw h1 h2
  · trivial
theorem zst_ok {ls : List mzV} {i : Nat} {v : mzV} {f : List mzV → mzS} (h : zgoal Wc K KC KE (f (ls.set i v))) : zgoal Wc K KC KE (zst ls i v f) := by
  unfold zst
  split
  · exact h
  · trivial
theorem zir_ok {st : List mzV} {sa : List Value} {f : Int → Nat → Int → List mzV → mzS} (hs : zrs b0 adK adV bS st sa) (h : ∀ j t i r v ra, sa = .int (Int32.ofInt j) :: v :: ra → zin j → zrv b0 adK adV bS (vR t i) v → zrs b0 adK adV bS r ra → zgoal Wc K KC KE (f j t i r)) : zgoal Wc K KC KE (zir st f) := by
  unfold zir
  split
  · next j t i r =>
    obtain ⟨r1, h1, h2, h3⟩ := zrs_unI hs
    obtain ⟨v, r2, h4, h5, h6⟩ := zrs_un h3
    exact h j t i r v r2 (by rw [h1, h4]) h2 h5 h6
  · trivial
theorem zvir_ok {st : List mzV} {sa : List Value} {f : Int → Int → Nat → Int → List mzV → mzS} (hs : zrs b0 adK adV bS st sa) (h : ∀ n j t i r v ra, sa = .int (Int32.ofInt n) :: .int (Int32.ofInt j) :: v :: ra → zin n → zin j → zrv b0 adK adV bS (vR t i) v → zrs b0 adK adV bS r ra → zgoal Wc K KC KE (f n j t i r)) : zgoal Wc K KC KE (zvir st f) := by
  unfold zvir
  split
  · next n j t i r =>
    obtain ⟨r0, h1, h2, h3⟩ := zrs_unI hs
    obtain ⟨r1, h4, h5, h6⟩ := zrs_unI h3
    obtain ⟨v, r2, h7, h8, h9⟩ := zrs_un h6
    exact h n j t i r v r2 (by rw [h1, h4, h7]) h2 h5 h8 h9
  · trivial
end Stk
theorem zM_up {μ : mzM} {t : Nat} {i k n : Int} (h : zM L xs μ) (ht : t ≠ 32) (h1 : t ≠ 33 → zin n) (h2 : t = 33 → zin6 n ∧ k ≠ 1) : zM L xs (mup μ t i k n) := by
  refine ⟨fun t' i' k' ht' => ?_, fun i' k' => ?_, ?_, fun j hj => ?_⟩
  · unfold mup
    split
    · next hq => exact h1 (by rw [← hq.1]; exact ht')
    · exact h.1 t' i' k' ht'
  · unfold mup
    split
    · next hq => exact (h2 hq.1.symm).1
    · exact h.2.1 i' k'
  · rw [mup_ne (by rintro ⟨q1, -, q3⟩; exact (h2 q1.symm).2 q3.symm)]
    exact h.2.2.1
  · rw [mup_ne (by rintro ⟨q1, -, -⟩; exact ht q1.symm)]
    exact h.2.2.2 j hj
theorem zM_cp {μ : mzM} {ts td : Nat} {is sp id dp n : Int} (h : zM L xs μ) (hs : ts ≠ 33) (h1 : td ≠ 32) (h2 : td ≠ 33) : zM L xs (mcp μ ts is sp td id dp n) := by
  refine ⟨fun t' i' k' ht' => ?_, fun i' k' => ?_, ?_, fun j hj => ?_⟩
  · unfold mcp
    split
    · exact h.1 _ _ _ hs
    · exact h.1 t' i' k' ht'
  · unfold mcp
    rw [if_neg (by rintro ⟨q, -⟩; exact h2 q.symm)]
    exact h.2.1 i' k'
  · unfold mcp
    rw [if_neg (by rintro ⟨q, -⟩; exact h2 q.symm)]
    exact h.2.2.1
  · unfold mcp
    rw [if_neg (by rintro ⟨q, -⟩; exact h1 q.symm)]
    exact h.2.2.2 j hj
theorem zTor {own : String} {idx : Nat} {args : Array Value} {s : State} (hts : ∀ w ∈ zTs, w.before args s = true) {w : Cond} (h : w ∈ zTs) : w.before args s = true := hts w h

def zKC (p : Program) (l : Launch) (e : Env) (R : Room) (s : State) (m : MethodId) (args : Array Value) (below : List Frame) (meth : Method) (c : Code) (cells slots : Nat) (Q : State → Prop) (b0 : Nat) (D : va_G) (ca : Nat → ClassId) (adK adV : Nat → Nat) (bS L : Nat) (xs : Nat → Int32) (mi : Nat) (C : List mzN) (f : Nat) (as : List mzV) (_ : Nat) (x : mzC) : Prop :=
  ∃ r ν, ((f < 71 ∧ as.length ≤ zml f ∧ ∀ w ∈ as, zisL w = false) → zMet l b0 D ca adK adV bS L xs f as x.2.2.2 r ν) ∧ zK p l e R s m args below meth c cells slots Q b0 D ca adK adV bS L xs mi C (x.1, x.2.1, zpush r x.2.2.1, ν)
def zKE (p : Program) (l : Launch) (e : Env) (R : Room) (s : State) (m : MethodId) (args : Array Value) (below : List Frame) (meth : Method) (c : Code) (cells slots : Nat) (Q : State → Prop) (b0 : Nat) (D : va_G) (ca : Nat → ClassId) (adK adV : Nat → Nat) (bS L : Nat) (xs : Nat → Int32) (mi : Nat) (r : Option mzV) (ν : mzM) : Prop :=
  ∀ (H : Heap) (locs : List Loc) (la : Array Slot) (sa : List Value) (pc : Nat), zraw b0 adK adV bS mi pc r sa → va_P D zcl (zws b0 ca ν) H → zM L xs ν → va_S (fun q => b0 ≤ q) s.heap H locs → W p l e R s m args below meth c H locs cells slots Q (F0 m pc la sa)
theorem zc_iconst (hx : p.tables.exec = Jvm.exec) (hb : c.code = zby mi) (hml : c.maxLocals = zml mi) (hown : s.vm.findClass (zy mi).cls = some m.cls) (hts : ∀ w ∈ zTs, w.before args s = true) (hB : zBk b0 D ca adK adV bS L xs s) (hR : zfr mi ≤ R.frames ∧ zlo mi ≤ R.locals ∧ cells ≤ R.cells ∧ slots ≤ R.slots) {v : Int} {k pc a : Nat} {cs : List (Int × Nat)} (hd : zdk (zby mi) pc (.iconst v) = true) (hf : zfall C k pc (.iconst v) = true) (h1 : zchk1 mi C pc (.iconst v) a cs = true) (h2 : zOK2 (zy mi).cls (.iconst v) a cs) {ls st : List mzV} {μ : mzM} {H : Heap} {locs : List Loc} {la : Array Slot} {sa : List Value} (hA : zA b0 D ca adK adV bS L xs s mi ls st μ H locs la sa) : zgoal (W p l e R s m args below meth c H locs cells slots Q (F0 m pc la sa)) (zK p l e R s m args below meth c cells slots Q b0 D ca adK adV bS L xs mi C) (zKC p l e R s m args below meth c cells slots Q b0 D ca adK adV bS L xs mi C) (zKE p l e R s m args below meth c cells slots Q b0 D ca adK adV bS L xs mi) (zstep (.iconst v) a cs k ls st μ) := by
  have hd0 : decode (zby mi) pc = .ok (.iconst v, 1) := (zdk_p hd).resolve_left (by rintro ⟨_, _, _, _, h⟩; cases h)
  have hp : zpcs C (k + 1) = pc + 1 := zfl_p hf
  obtain ⟨al, ag, as, aP, aM, aS⟩ := hA
  have hv : zin v := by
    have h3 := Bool.and_eq_true_iff.mp h1
    have h4 := of_decide_eq_true h3.1
    have h5 := of_decide_eq_true h3.2
    constructor <;> omega
  intro hK
  refine lv_iconst (v := Int32.ofInt v) hx hb hd0 rfl ?_
  rw [← hp]
  exact hK _ _ _ _ ⟨al, ag, zrs_cons (zrv_I hv) as, aP, aM, aS⟩
theorem zc_bipush (hx : p.tables.exec = Jvm.exec) (hb : c.code = zby mi) (hml : c.maxLocals = zml mi) (hown : s.vm.findClass (zy mi).cls = some m.cls) (hts : ∀ w ∈ zTs, w.before args s = true) (hB : zBk b0 D ca adK adV bS L xs s) (hR : zfr mi ≤ R.frames ∧ zlo mi ≤ R.locals ∧ cells ≤ R.cells ∧ slots ≤ R.slots) {v : Int} {k pc a : Nat} {cs : List (Int × Nat)} (hd : zdk (zby mi) pc (.bipush v) = true) (hf : zfall C k pc (.bipush v) = true) (h1 : zchk1 mi C pc (.bipush v) a cs = true) (h2 : zOK2 (zy mi).cls (.bipush v) a cs) {ls st : List mzV} {μ : mzM} {H : Heap} {locs : List Loc} {la : Array Slot} {sa : List Value} (hA : zA b0 D ca adK adV bS L xs s mi ls st μ H locs la sa) : zgoal (W p l e R s m args below meth c H locs cells slots Q (F0 m pc la sa)) (zK p l e R s m args below meth c cells slots Q b0 D ca adK adV bS L xs mi C) (zKC p l e R s m args below meth c cells slots Q b0 D ca adK adV bS L xs mi C) (zKE p l e R s m args below meth c cells slots Q b0 D ca adK adV bS L xs mi) (zstep (.bipush v) a cs k ls st μ) := by
  have hd0 : decode (zby mi) pc = .ok (.bipush v, 2) := (zdk_p hd).resolve_left (by rintro ⟨_, _, _, _, h⟩; cases h)
  have hp : zpcs C (k + 1) = pc + 2 := zfl_p hf
  obtain ⟨al, ag, as, aP, aM, aS⟩ := hA
  have h3 := Bool.and_eq_true_iff.mp h1
  have h4 : -128 ≤ v := of_decide_eq_true h3.1
  have h5 : v ≤ 127 := of_decide_eq_true h3.2
  have hv : zin v := by constructor <;> omega
  intro hK
  refine lv_bipush (v := Int32.ofInt v) hx hb hd0 (zi_of (by rw [Int8.toInt_toInt32]; exact Int8.toInt_ofInt_of_le (by omega) (by omega))) ?_
  rw [← hp]
  exact hK _ _ _ _ ⟨al, ag, zrs_cons (zrv_I hv) as, aP, aM, aS⟩
theorem zc_sipush (hx : p.tables.exec = Jvm.exec) (hb : c.code = zby mi) (hml : c.maxLocals = zml mi) (hown : s.vm.findClass (zy mi).cls = some m.cls) (hts : ∀ w ∈ zTs, w.before args s = true) (hB : zBk b0 D ca adK adV bS L xs s) (hR : zfr mi ≤ R.frames ∧ zlo mi ≤ R.locals ∧ cells ≤ R.cells ∧ slots ≤ R.slots) {v : Int} {k pc a : Nat} {cs : List (Int × Nat)} (hd : zdk (zby mi) pc (.sipush v) = true) (hf : zfall C k pc (.sipush v) = true) (h1 : zchk1 mi C pc (.sipush v) a cs = true) (h2 : zOK2 (zy mi).cls (.sipush v) a cs) {ls st : List mzV} {μ : mzM} {H : Heap} {locs : List Loc} {la : Array Slot} {sa : List Value} (hA : zA b0 D ca adK adV bS L xs s mi ls st μ H locs la sa) : zgoal (W p l e R s m args below meth c H locs cells slots Q (F0 m pc la sa)) (zK p l e R s m args below meth c cells slots Q b0 D ca adK adV bS L xs mi C) (zKC p l e R s m args below meth c cells slots Q b0 D ca adK adV bS L xs mi C) (zKE p l e R s m args below meth c cells slots Q b0 D ca adK adV bS L xs mi) (zstep (.sipush v) a cs k ls st μ) := by
  have hd0 : decode (zby mi) pc = .ok (.sipush v, 3) := (zdk_p hd).resolve_left (by rintro ⟨_, _, _, _, h⟩; cases h)
  have hp : zpcs C (k + 1) = pc + 3 := zfl_p hf
  obtain ⟨al, ag, as, aP, aM, aS⟩ := hA
  have h3 := Bool.and_eq_true_iff.mp h1
  have h4 : -32768 ≤ v := of_decide_eq_true h3.1
  have h5 : v ≤ 32767 := of_decide_eq_true h3.2
  have hv : zin v := by constructor <;> omega
  intro hK
  refine lv_sipush (v := Int32.ofInt v) hx hb hd0 (zi_of (by rw [Int16.toInt_toInt32]; exact Int16.toInt_ofInt_of_le (by omega) (by omega))) ?_
  rw [← hp]
  exact hK _ _ _ _ ⟨al, ag, zrs_cons (zrv_I hv) as, aP, aM, aS⟩
theorem zc_ldc_w (hx : p.tables.exec = Jvm.exec) (hb : c.code = zby mi) (hml : c.maxLocals = zml mi) (hown : s.vm.findClass (zy mi).cls = some m.cls) (hts : ∀ w ∈ zTs, w.before args s = true) (hB : zBk b0 D ca adK adV bS L xs s) (hR : zfr mi ≤ R.frames ∧ zlo mi ≤ R.locals ∧ cells ≤ R.cells ∧ slots ≤ R.slots) {v : Nat} {k pc a : Nat} {cs : List (Int × Nat)} (hd : zdk (zby mi) pc (.ldc_w v) = true) (hf : zfall C k pc (.ldc_w v) = true) (h1 : zchk1 mi C pc (.ldc_w v) a cs = true) (h2 : zOK2 (zy mi).cls (.ldc_w v) a cs) {ls st : List mzV} {μ : mzM} {H : Heap} {locs : List Loc} {la : Array Slot} {sa : List Value} (hA : zA b0 D ca adK adV bS L xs s mi ls st μ H locs la sa) : zgoal (W p l e R s m args below meth c H locs cells slots Q (F0 m pc la sa)) (zK p l e R s m args below meth c cells slots Q b0 D ca adK adV bS L xs mi C) (zKC p l e R s m args below meth c cells slots Q b0 D ca adK adV bS L xs mi C) (zKE p l e R s m args below meth c cells slots Q b0 D ca adK adV bS L xs mi) (zstep (.ldc_w v) a cs k ls st μ) := by
  have hd0 : decode (zby mi) pc = .ok (.ldc_w v, 3) := (zdk_p hd).resolve_left (by rintro ⟨_, _, _, _, h⟩; cases h)
  have hp : zpcs C (k + 1) = pc + 3 := zfl_p hf
  obtain ⟨al, ag, as, aP, aM, aS⟩ := hA
  match cs, h1, h2 with
  | [], _, _ => trivial
  | (n, z) :: cs, h1, h2 =>
    have h3 := Bool.and_eq_true_iff.mp h1
    have h4 : -2147483648 ≤ n := of_decide_eq_true h3.1
    have h5 : n ≤ 2147483647 := of_decide_eq_true h3.2
    intro hK
    refine lv_ldcw hx hb hown (hts _ h2) hd0 ?_
    rw [← hp]
    exact hK _ _ _ _ ⟨al, ag, zrs_cons (zrv_I ⟨h4, h5⟩) as, aP, aM, aS⟩
theorem zc_ldc (hx : p.tables.exec = Jvm.exec) (hb : c.code = zby mi) (hml : c.maxLocals = zml mi) (hown : s.vm.findClass (zy mi).cls = some m.cls) (hts : ∀ w ∈ zTs, w.before args s = true) (hB : zBk b0 D ca adK adV bS L xs s) (hR : zfr mi ≤ R.frames ∧ zlo mi ≤ R.locals ∧ cells ≤ R.cells ∧ slots ≤ R.slots) {v : Nat} {k pc a : Nat} {cs : List (Int × Nat)} (hd : zdk (zby mi) pc (.ldc v) = true) (hf : zfall C k pc (.ldc v) = true) (h1 : zchk1 mi C pc (.ldc v) a cs = true) (h2 : zOK2 (zy mi).cls (.ldc v) a cs) {ls st : List mzV} {μ : mzM} {H : Heap} {locs : List Loc} {la : Array Slot} {sa : List Value} (hA : zA b0 D ca adK adV bS L xs s mi ls st μ H locs la sa) : zgoal (W p l e R s m args below meth c H locs cells slots Q (F0 m pc la sa)) (zK p l e R s m args below meth c cells slots Q b0 D ca adK adV bS L xs mi C) (zKC p l e R s m args below meth c cells slots Q b0 D ca adK adV bS L xs mi C) (zKE p l e R s m args below meth c cells slots Q b0 D ca adK adV bS L xs mi) (zstep (.ldc v) a cs k ls st μ) := by
  have hd0 : decode (zby mi) pc = .ok (.ldc v, 2) := (zdk_p hd).resolve_left (by rintro ⟨_, _, _, _, h⟩; cases h)
  have hp : zpcs C (k + 1) = pc + 2 := zfl_p hf
  obtain ⟨al, ag, as, aP, aM, aS⟩ := hA
  match cs, h1, h2 with
  | [], _, _ => trivial
  | (n, z) :: cs, h1, h2 =>
    have h3 := Bool.and_eq_true_iff.mp h1
    have h4 : -2147483648 ≤ n := of_decide_eq_true h3.1
    have h5 : n ≤ 2147483647 := of_decide_eq_true h3.2
    intro hK
    refine lv_ldc hx hb hown (hts _ h2) hd0 ?_
    rw [← hp]
    exact hK _ _ _ _ ⟨al, ag, zrs_cons (zrv_I ⟨h4, h5⟩) as, aP, aM, aS⟩
theorem zc_ldc2_w (hx : p.tables.exec = Jvm.exec) (hb : c.code = zby mi) (hml : c.maxLocals = zml mi) (hown : s.vm.findClass (zy mi).cls = some m.cls) (hts : ∀ w ∈ zTs, w.before args s = true) (hB : zBk b0 D ca adK adV bS L xs s) (hR : zfr mi ≤ R.frames ∧ zlo mi ≤ R.locals ∧ cells ≤ R.cells ∧ slots ≤ R.slots) {v : Nat} {k pc a : Nat} {cs : List (Int × Nat)} (hd : zdk (zby mi) pc (.ldc2_w v) = true) (hf : zfall C k pc (.ldc2_w v) = true) (h1 : zchk1 mi C pc (.ldc2_w v) a cs = true) (h2 : zOK2 (zy mi).cls (.ldc2_w v) a cs) {ls st : List mzV} {μ : mzM} {H : Heap} {locs : List Loc} {la : Array Slot} {sa : List Value} (hA : zA b0 D ca adK adV bS L xs s mi ls st μ H locs la sa) : zgoal (W p l e R s m args below meth c H locs cells slots Q (F0 m pc la sa)) (zK p l e R s m args below meth c cells slots Q b0 D ca adK adV bS L xs mi C) (zKC p l e R s m args below meth c cells slots Q b0 D ca adK adV bS L xs mi C) (zKE p l e R s m args below meth c cells slots Q b0 D ca adK adV bS L xs mi) (zstep (.ldc2_w v) a cs k ls st μ) := by
  have hd0 : decode (zby mi) pc = .ok (.ldc2_w v, 3) := (zdk_p hd).resolve_left (by rintro ⟨_, _, _, _, h⟩; cases h)
  have hp : zpcs C (k + 1) = pc + 3 := zfl_p hf
  obtain ⟨al, ag, as, aP, aM, aS⟩ := hA
  match cs, h1, h2 with
  | [], _, _ => trivial
  | (n, z) :: cs, h1, h2 =>
    have h3 := Bool.and_eq_true_iff.mp h1
    have h4 : -9223372036854775808 ≤ n := of_decide_eq_true h3.1
    have h5 : n ≤ 9223372036854775807 := of_decide_eq_true h3.2
    intro hK
    refine W.ldc2 hx hb hown (hts _ h2) (g := F0 m pc la sa) rfl hd0 ?_
    show W p l e R s m args below meth c H locs cells slots Q (F0 m (pc + 3) la (.long (Int64.ofInt n) :: sa))
    rw [← hp]
    exact hK _ _ _ _ ⟨al, ag, zrs_cons (zrv_L ⟨h4, h5⟩) as, aP, aM, aS⟩
theorem zc_lconst (hx : p.tables.exec = Jvm.exec) (hb : c.code = zby mi) (hml : c.maxLocals = zml mi) (hown : s.vm.findClass (zy mi).cls = some m.cls) (hts : ∀ w ∈ zTs, w.before args s = true) (hB : zBk b0 D ca adK adV bS L xs s) (hR : zfr mi ≤ R.frames ∧ zlo mi ≤ R.locals ∧ cells ≤ R.cells ∧ slots ≤ R.slots) {v : Fin 2} {k pc a : Nat} {cs : List (Int × Nat)} (hd : zdk (zby mi) pc (.lconst v) = true) (hf : zfall C k pc (.lconst v) = true) (h1 : zchk1 mi C pc (.lconst v) a cs = true) (h2 : zOK2 (zy mi).cls (.lconst v) a cs) {ls st : List mzV} {μ : mzM} {H : Heap} {locs : List Loc} {la : Array Slot} {sa : List Value} (hA : zA b0 D ca adK adV bS L xs s mi ls st μ H locs la sa) : zgoal (W p l e R s m args below meth c H locs cells slots Q (F0 m pc la sa)) (zK p l e R s m args below meth c cells slots Q b0 D ca adK adV bS L xs mi C) (zKC p l e R s m args below meth c cells slots Q b0 D ca adK adV bS L xs mi C) (zKE p l e R s m args below meth c cells slots Q b0 D ca adK adV bS L xs mi) (zstep (.lconst v) a cs k ls st μ) := by
  have hd0 : decode (zby mi) pc = .ok (.lconst v, 1) := (zdk_p hd).resolve_left (by rintro ⟨_, _, _, _, h⟩; cases h)
  have hp : zpcs C (k + 1) = pc + 1 := zfl_p hf
  obtain ⟨al, ag, as, aP, aM, aS⟩ := hA
  intro hK
  refine lv_lconst (v := Int64.ofInt ((v.val : Nat) : Int)) hx hb hd0 rfl ?_
  rw [← hp]
  exact hK _ _ _ _ ⟨al, ag, zrs_cons (zrv_L (by have := v.isLt; constructor <;> omega)) as, aP, aM, aS⟩
theorem zc_aconst_null (hx : p.tables.exec = Jvm.exec) (hb : c.code = zby mi) (hml : c.maxLocals = zml mi) (hown : s.vm.findClass (zy mi).cls = some m.cls) (hts : ∀ w ∈ zTs, w.before args s = true) (hB : zBk b0 D ca adK adV bS L xs s) (hR : zfr mi ≤ R.frames ∧ zlo mi ≤ R.locals ∧ cells ≤ R.cells ∧ slots ≤ R.slots) {k pc a : Nat} {cs : List (Int × Nat)} (hd : zdk (zby mi) pc (.aconst_null) = true) (hf : zfall C k pc (.aconst_null) = true) (h1 : zchk1 mi C pc (.aconst_null) a cs = true) (h2 : zOK2 (zy mi).cls (.aconst_null) a cs) {ls st : List mzV} {μ : mzM} {H : Heap} {locs : List Loc} {la : Array Slot} {sa : List Value} (hA : zA b0 D ca adK adV bS L xs s mi ls st μ H locs la sa) : zgoal (W p l e R s m args below meth c H locs cells slots Q (F0 m pc la sa)) (zK p l e R s m args below meth c cells slots Q b0 D ca adK adV bS L xs mi C) (zKC p l e R s m args below meth c cells slots Q b0 D ca adK adV bS L xs mi C) (zKE p l e R s m args below meth c cells slots Q b0 D ca adK adV bS L xs mi) (zstep (.aconst_null) a cs k ls st μ) := by
  have hd0 : decode (zby mi) pc = .ok (.aconst_null, 1) := (zdk_p hd).resolve_left (by rintro ⟨_, _, _, _, h⟩; cases h)
  have hp : zpcs C (k + 1) = pc + 1 := zfl_p hf
  obtain ⟨al, ag, as, aP, aM, aS⟩ := hA
  intro hK
  refine lv_null hx hb hd0 ?_
  rw [← hp]
  exact hK _ _ _ _ ⟨al, ag, zrs_cons (Or.inl ⟨rfl, rfl⟩) as, aP, aM, aS⟩
theorem zc_iload (hx : p.tables.exec = Jvm.exec) (hb : c.code = zby mi) (hml : c.maxLocals = zml mi) (hown : s.vm.findClass (zy mi).cls = some m.cls) (hts : ∀ w ∈ zTs, w.before args s = true) (hB : zBk b0 D ca adK adV bS L xs s) (hR : zfr mi ≤ R.frames ∧ zlo mi ≤ R.locals ∧ cells ≤ R.cells ∧ slots ≤ R.slots) {v : Nat} {k pc a : Nat} {cs : List (Int × Nat)} (hd : zdk (zby mi) pc (.iload v) = true) (hf : zfall C k pc (.iload v) = true) (h1 : zchk1 mi C pc (.iload v) a cs = true) (h2 : zOK2 (zy mi).cls (.iload v) a cs) {ls st : List mzV} {μ : mzM} {H : Heap} {locs : List Loc} {la : Array Slot} {sa : List Value} (hA : zA b0 D ca adK adV bS L xs s mi ls st μ H locs la sa) : zgoal (W p l e R s m args below meth c H locs cells slots Q (F0 m pc la sa)) (zK p l e R s m args below meth c cells slots Q b0 D ca adK adV bS L xs mi C) (zKC p l e R s m args below meth c cells slots Q b0 D ca adK adV bS L xs mi C) (zKE p l e R s m args below meth c cells slots Q b0 D ca adK adV bS L xs mi) (zstep (.iload v) a cs k ls st μ) := by
  have hd0 : decode (zby mi) pc = .ok (.iload v, 2) := (zdk_p hd).resolve_left (by rintro ⟨_, _, _, _, h⟩; cases h)
  have hp : zpcs C (k + 1) = pc + 2 := zfl_p hf
  obtain ⟨al, ag, as, aP, aM, aS⟩ := hA
  show zgoal _ _ _ _ (zld ls v (fun u => match zisI u with | true => sN (k + 1, ls, u :: st, μ) | false => none))
  refine zld_ok al (fun w v0 hw hv hl => ?_)
  rcases w with n | n | ⟨t, i⟩
  · intro hK
    obtain ⟨hn, rfl⟩ := hv
    refine lv_iload hx hb hd0 hl ?_
    rw [← hp]
    exact hK _ _ _ _ ⟨al, ag, zrs_cons (zrv_I hn) as, aP, aM, aS⟩
  · trivial
  · trivial
theorem zc_iload_n (hx : p.tables.exec = Jvm.exec) (hb : c.code = zby mi) (hml : c.maxLocals = zml mi) (hown : s.vm.findClass (zy mi).cls = some m.cls) (hts : ∀ w ∈ zTs, w.before args s = true) (hB : zBk b0 D ca adK adV bS L xs s) (hR : zfr mi ≤ R.frames ∧ zlo mi ≤ R.locals ∧ cells ≤ R.cells ∧ slots ≤ R.slots) {v : Fin 4} {k pc a : Nat} {cs : List (Int × Nat)} (hd : zdk (zby mi) pc (.iload_n v) = true) (hf : zfall C k pc (.iload_n v) = true) (h1 : zchk1 mi C pc (.iload_n v) a cs = true) (h2 : zOK2 (zy mi).cls (.iload_n v) a cs) {ls st : List mzV} {μ : mzM} {H : Heap} {locs : List Loc} {la : Array Slot} {sa : List Value} (hA : zA b0 D ca adK adV bS L xs s mi ls st μ H locs la sa) : zgoal (W p l e R s m args below meth c H locs cells slots Q (F0 m pc la sa)) (zK p l e R s m args below meth c cells slots Q b0 D ca adK adV bS L xs mi C) (zKC p l e R s m args below meth c cells slots Q b0 D ca adK adV bS L xs mi C) (zKE p l e R s m args below meth c cells slots Q b0 D ca adK adV bS L xs mi) (zstep (.iload_n v) a cs k ls st μ) := by
  have hd0 : decode (zby mi) pc = .ok (.iload_n v, 1) := (zdk_p hd).resolve_left (by rintro ⟨_, _, _, _, h⟩; cases h)
  have hp : zpcs C (k + 1) = pc + 1 := zfl_p hf
  obtain ⟨al, ag, as, aP, aM, aS⟩ := hA
  show zgoal _ _ _ _ (zld ls v.val (fun u => match zisI u with | true => sN (k + 1, ls, u :: st, μ) | false => none))
  refine zld_ok al (fun w v0 hw hv hl => ?_)
  rcases w with n | n | ⟨t, i⟩
  · intro hK
    obtain ⟨hn, rfl⟩ := hv
    refine lv_iload_n hx hb hd0 rfl hl ?_
    rw [← hp]
    exact hK _ _ _ _ ⟨al, ag, zrs_cons (zrv_I hn) as, aP, aM, aS⟩
  · trivial
  · trivial
theorem zc_lload_n (hx : p.tables.exec = Jvm.exec) (hb : c.code = zby mi) (hml : c.maxLocals = zml mi) (hown : s.vm.findClass (zy mi).cls = some m.cls) (hts : ∀ w ∈ zTs, w.before args s = true) (hB : zBk b0 D ca adK adV bS L xs s) (hR : zfr mi ≤ R.frames ∧ zlo mi ≤ R.locals ∧ cells ≤ R.cells ∧ slots ≤ R.slots) {v : Fin 4} {k pc a : Nat} {cs : List (Int × Nat)} (hd : zdk (zby mi) pc (.lload_n v) = true) (hf : zfall C k pc (.lload_n v) = true) (h1 : zchk1 mi C pc (.lload_n v) a cs = true) (h2 : zOK2 (zy mi).cls (.lload_n v) a cs) {ls st : List mzV} {μ : mzM} {H : Heap} {locs : List Loc} {la : Array Slot} {sa : List Value} (hA : zA b0 D ca adK adV bS L xs s mi ls st μ H locs la sa) : zgoal (W p l e R s m args below meth c H locs cells slots Q (F0 m pc la sa)) (zK p l e R s m args below meth c cells slots Q b0 D ca adK adV bS L xs mi C) (zKC p l e R s m args below meth c cells slots Q b0 D ca adK adV bS L xs mi C) (zKE p l e R s m args below meth c cells slots Q b0 D ca adK adV bS L xs mi) (zstep (.lload_n v) a cs k ls st μ) := by
  have hd0 : decode (zby mi) pc = .ok (.lload_n v, 1) := (zdk_p hd).resolve_left (by rintro ⟨_, _, _, _, h⟩; cases h)
  have hp : zpcs C (k + 1) = pc + 1 := zfl_p hf
  obtain ⟨al, ag, as, aP, aM, aS⟩ := hA
  show zgoal _ _ _ _ (zld ls v.val (fun u => match zisL u with | true => sN (k + 1, ls, u :: st, μ) | false => none))
  refine zld_ok al (fun w v0 hw hv hl => ?_)
  rcases w with n | n | ⟨t, i⟩
  · trivial
  · intro hK
    obtain ⟨hn, rfl⟩ := hv
    refine lv_lload_n hx hb hd0 rfl hl ?_
    rw [← hp]
    exact hK _ _ _ _ ⟨al, ag, zrs_cons (zrv_L hn) as, aP, aM, aS⟩
  · trivial
theorem zc_lload (hx : p.tables.exec = Jvm.exec) (hb : c.code = zby mi) (hml : c.maxLocals = zml mi) (hown : s.vm.findClass (zy mi).cls = some m.cls) (hts : ∀ w ∈ zTs, w.before args s = true) (hB : zBk b0 D ca adK adV bS L xs s) (hR : zfr mi ≤ R.frames ∧ zlo mi ≤ R.locals ∧ cells ≤ R.cells ∧ slots ≤ R.slots) {v : Nat} {k pc a : Nat} {cs : List (Int × Nat)} (hd : zdk (zby mi) pc (.lload v) = true) (hf : zfall C k pc (.lload v) = true) (h1 : zchk1 mi C pc (.lload v) a cs = true) (h2 : zOK2 (zy mi).cls (.lload v) a cs) {ls st : List mzV} {μ : mzM} {H : Heap} {locs : List Loc} {la : Array Slot} {sa : List Value} (hA : zA b0 D ca adK adV bS L xs s mi ls st μ H locs la sa) : zgoal (W p l e R s m args below meth c H locs cells slots Q (F0 m pc la sa)) (zK p l e R s m args below meth c cells slots Q b0 D ca adK adV bS L xs mi C) (zKC p l e R s m args below meth c cells slots Q b0 D ca adK adV bS L xs mi C) (zKE p l e R s m args below meth c cells slots Q b0 D ca adK adV bS L xs mi) (zstep (.lload v) a cs k ls st μ) := by
  have hd0 : decode (zby mi) pc = .ok (.lload v, 2) := (zdk_p hd).resolve_left (by rintro ⟨_, _, _, _, h⟩; cases h)
  have hp : zpcs C (k + 1) = pc + 2 := zfl_p hf
  obtain ⟨al, ag, as, aP, aM, aS⟩ := hA
  show zgoal _ _ _ _ (zld ls v (fun u => match zisL u with | true => sN (k + 1, ls, u :: st, μ) | false => none))
  refine zld_ok al (fun w v0 hw hv hl => ?_)
  rcases w with n | n | ⟨t, i⟩
  · trivial
  · intro hK
    obtain ⟨hn, rfl⟩ := hv
    refine lv_lload hx hb hd0 hl ?_
    rw [← hp]
    exact hK _ _ _ _ ⟨al, ag, zrs_cons (zrv_L hn) as, aP, aM, aS⟩
  · trivial
theorem zc_aload (hx : p.tables.exec = Jvm.exec) (hb : c.code = zby mi) (hml : c.maxLocals = zml mi) (hown : s.vm.findClass (zy mi).cls = some m.cls) (hts : ∀ w ∈ zTs, w.before args s = true) (hB : zBk b0 D ca adK adV bS L xs s) (hR : zfr mi ≤ R.frames ∧ zlo mi ≤ R.locals ∧ cells ≤ R.cells ∧ slots ≤ R.slots) {v : Nat} {k pc a : Nat} {cs : List (Int × Nat)} (hd : zdk (zby mi) pc (.aload v) = true) (hf : zfall C k pc (.aload v) = true) (h1 : zchk1 mi C pc (.aload v) a cs = true) (h2 : zOK2 (zy mi).cls (.aload v) a cs) {ls st : List mzV} {μ : mzM} {H : Heap} {locs : List Loc} {la : Array Slot} {sa : List Value} (hA : zA b0 D ca adK adV bS L xs s mi ls st μ H locs la sa) : zgoal (W p l e R s m args below meth c H locs cells slots Q (F0 m pc la sa)) (zK p l e R s m args below meth c cells slots Q b0 D ca adK adV bS L xs mi C) (zKC p l e R s m args below meth c cells slots Q b0 D ca adK adV bS L xs mi C) (zKE p l e R s m args below meth c cells slots Q b0 D ca adK adV bS L xs mi) (zstep (.aload v) a cs k ls st μ) := by
  have hd0 : decode (zby mi) pc = .ok (.aload v, 2) := (zdk_p hd).resolve_left (by rintro ⟨_, _, _, _, h⟩; cases h)
  have hp : zpcs C (k + 1) = pc + 2 := zfl_p hf
  obtain ⟨al, ag, as, aP, aM, aS⟩ := hA
  show zgoal _ _ _ _ (zld ls v (fun u => match zisR u with | true => sN (k + 1, ls, u :: st, μ) | false => none))
  refine zld_ok al (fun w v0 hw hv hl => ?_)
  rcases w with n | n | ⟨t, i⟩
  · trivial
  · trivial
  · intro hK
    rcases zrv_ref hv with hv0 | ⟨a0, hv0⟩
    · subst hv0
      refine lv_aloadN hx hb hd0 hl ?_
      rw [← hp]
      exact hK _ _ _ _ ⟨al, ag, zrs_cons hv as, aP, aM, aS⟩
    · subst hv0
      refine lv_aload hx hb hd0 hl ?_
      rw [← hp]
      exact hK _ _ _ _ ⟨al, ag, zrs_cons hv as, aP, aM, aS⟩
theorem zc_aload_n (hx : p.tables.exec = Jvm.exec) (hb : c.code = zby mi) (hml : c.maxLocals = zml mi) (hown : s.vm.findClass (zy mi).cls = some m.cls) (hts : ∀ w ∈ zTs, w.before args s = true) (hB : zBk b0 D ca adK adV bS L xs s) (hR : zfr mi ≤ R.frames ∧ zlo mi ≤ R.locals ∧ cells ≤ R.cells ∧ slots ≤ R.slots) {v : Fin 4} {k pc a : Nat} {cs : List (Int × Nat)} (hd : zdk (zby mi) pc (.aload_n v) = true) (hf : zfall C k pc (.aload_n v) = true) (h1 : zchk1 mi C pc (.aload_n v) a cs = true) (h2 : zOK2 (zy mi).cls (.aload_n v) a cs) {ls st : List mzV} {μ : mzM} {H : Heap} {locs : List Loc} {la : Array Slot} {sa : List Value} (hA : zA b0 D ca adK adV bS L xs s mi ls st μ H locs la sa) : zgoal (W p l e R s m args below meth c H locs cells slots Q (F0 m pc la sa)) (zK p l e R s m args below meth c cells slots Q b0 D ca adK adV bS L xs mi C) (zKC p l e R s m args below meth c cells slots Q b0 D ca adK adV bS L xs mi C) (zKE p l e R s m args below meth c cells slots Q b0 D ca adK adV bS L xs mi) (zstep (.aload_n v) a cs k ls st μ) := by
  have hd0 : decode (zby mi) pc = .ok (.aload_n v, 1) := (zdk_p hd).resolve_left (by rintro ⟨_, _, _, _, h⟩; cases h)
  have hp : zpcs C (k + 1) = pc + 1 := zfl_p hf
  obtain ⟨al, ag, as, aP, aM, aS⟩ := hA
  show zgoal _ _ _ _ (zld ls v.val (fun u => match zisR u with | true => sN (k + 1, ls, u :: st, μ) | false => none))
  refine zld_ok al (fun w v0 hw hv hl => ?_)
  rcases w with n | n | ⟨t, i⟩
  · trivial
  · trivial
  · intro hK
    rcases zrv_ref hv with hv0 | ⟨a0, hv0⟩
    · subst hv0
      refine lv_aload_nN hx hb hd0 rfl hl ?_
      rw [← hp]
      exact hK _ _ _ _ ⟨al, ag, zrs_cons hv as, aP, aM, aS⟩
    · subst hv0
      refine lv_aload_n hx hb hd0 rfl hl ?_
      rw [← hp]
      exact hK _ _ _ _ ⟨al, ag, zrs_cons hv as, aP, aM, aS⟩
theorem zc_istore (hx : p.tables.exec = Jvm.exec) (hb : c.code = zby mi) (hml : c.maxLocals = zml mi) (hown : s.vm.findClass (zy mi).cls = some m.cls) (hts : ∀ w ∈ zTs, w.before args s = true) (hB : zBk b0 D ca adK adV bS L xs s) (hR : zfr mi ≤ R.frames ∧ zlo mi ≤ R.locals ∧ cells ≤ R.cells ∧ slots ≤ R.slots) {v : Nat} {k pc a : Nat} {cs : List (Int × Nat)} (hd : zdk (zby mi) pc (.istore v) = true) (hf : zfall C k pc (.istore v) = true) (h1 : zchk1 mi C pc (.istore v) a cs = true) (h2 : zOK2 (zy mi).cls (.istore v) a cs) {ls st : List mzV} {μ : mzM} {H : Heap} {locs : List Loc} {la : Array Slot} {sa : List Value} (hA : zA b0 D ca adK adV bS L xs s mi ls st μ H locs la sa) : zgoal (W p l e R s m args below meth c H locs cells slots Q (F0 m pc la sa)) (zK p l e R s m args below meth c cells slots Q b0 D ca adK adV bS L xs mi C) (zKC p l e R s m args below meth c cells slots Q b0 D ca adK adV bS L xs mi C) (zKE p l e R s m args below meth c cells slots Q b0 D ca adK adV bS L xs mi) (zstep (.istore v) a cs k ls st μ) := by
  have hd0 : decode (zby mi) pc = .ok (.istore v, 2) := (zdk_p hd).resolve_left (by rintro ⟨_, _, _, _, h⟩; cases h)
  have hp : zpcs C (k + 1) = pc + 2 := zfl_p hf
  obtain ⟨al, ag, as, aP, aM, aS⟩ := hA
  refine zi1_ok as (fun n r ra hsa hn hr => ?_)
  refine zst_ok ?_
  subst hsa
  intro hK
  have hlt : v < la.size := by
    rw [al.1, ag.1]
    exact Nat.blt_eq.mp (Bool.and_eq_true_iff.mp h1).1
  refine lv_istore hx hb hd0 (zlv_has al.2.1) hlt rfl (fun l1 hl1 => ?_)
  obtain ⟨z1, z2⟩ := zrl_set (b0 := b0) (adK := adK) (adV := adV) (bS := bS) al ag h1 (zrv_I hn) rfl hl1
  rw [← hp]
  exact hK _ _ _ _ ⟨z1, z2, hr, aP, aM, aS⟩
theorem zc_istore_n (hx : p.tables.exec = Jvm.exec) (hb : c.code = zby mi) (hml : c.maxLocals = zml mi) (hown : s.vm.findClass (zy mi).cls = some m.cls) (hts : ∀ w ∈ zTs, w.before args s = true) (hB : zBk b0 D ca adK adV bS L xs s) (hR : zfr mi ≤ R.frames ∧ zlo mi ≤ R.locals ∧ cells ≤ R.cells ∧ slots ≤ R.slots) {v : Fin 4} {k pc a : Nat} {cs : List (Int × Nat)} (hd : zdk (zby mi) pc (.istore_n v) = true) (hf : zfall C k pc (.istore_n v) = true) (h1 : zchk1 mi C pc (.istore_n v) a cs = true) (h2 : zOK2 (zy mi).cls (.istore_n v) a cs) {ls st : List mzV} {μ : mzM} {H : Heap} {locs : List Loc} {la : Array Slot} {sa : List Value} (hA : zA b0 D ca adK adV bS L xs s mi ls st μ H locs la sa) : zgoal (W p l e R s m args below meth c H locs cells slots Q (F0 m pc la sa)) (zK p l e R s m args below meth c cells slots Q b0 D ca adK adV bS L xs mi C) (zKC p l e R s m args below meth c cells slots Q b0 D ca adK adV bS L xs mi C) (zKE p l e R s m args below meth c cells slots Q b0 D ca adK adV bS L xs mi) (zstep (.istore_n v) a cs k ls st μ) := by
  have hd0 : decode (zby mi) pc = .ok (.istore_n v, 1) := (zdk_p hd).resolve_left (by rintro ⟨_, _, _, _, h⟩; cases h)
  have hp : zpcs C (k + 1) = pc + 1 := zfl_p hf
  obtain ⟨al, ag, as, aP, aM, aS⟩ := hA
  refine zi1_ok as (fun n r ra hsa hn hr => ?_)
  refine zst_ok ?_
  subst hsa
  intro hK
  have hlt : v.val < la.size := by
    rw [al.1, ag.1]
    exact Nat.blt_eq.mp (Bool.and_eq_true_iff.mp h1).1
  refine lv_istore_n hx hb hd0 rfl (zlv_has al.2.1) hlt rfl (fun l1 hl1 => ?_)
  obtain ⟨z1, z2⟩ := zrl_set (b0 := b0) (adK := adK) (adV := adV) (bS := bS) al ag h1 (zrv_I hn) rfl hl1
  rw [← hp]
  exact hK _ _ _ _ ⟨z1, z2, hr, aP, aM, aS⟩
theorem zc_astore (hx : p.tables.exec = Jvm.exec) (hb : c.code = zby mi) (hml : c.maxLocals = zml mi) (hown : s.vm.findClass (zy mi).cls = some m.cls) (hts : ∀ w ∈ zTs, w.before args s = true) (hB : zBk b0 D ca adK adV bS L xs s) (hR : zfr mi ≤ R.frames ∧ zlo mi ≤ R.locals ∧ cells ≤ R.cells ∧ slots ≤ R.slots) {v : Nat} {k pc a : Nat} {cs : List (Int × Nat)} (hd : zdk (zby mi) pc (.astore v) = true) (hf : zfall C k pc (.astore v) = true) (h1 : zchk1 mi C pc (.astore v) a cs = true) (h2 : zOK2 (zy mi).cls (.astore v) a cs) {ls st : List mzV} {μ : mzM} {H : Heap} {locs : List Loc} {la : Array Slot} {sa : List Value} (hA : zA b0 D ca adK adV bS L xs s mi ls st μ H locs la sa) : zgoal (W p l e R s m args below meth c H locs cells slots Q (F0 m pc la sa)) (zK p l e R s m args below meth c cells slots Q b0 D ca adK adV bS L xs mi C) (zKC p l e R s m args below meth c cells slots Q b0 D ca adK adV bS L xs mi C) (zKE p l e R s m args below meth c cells slots Q b0 D ca adK adV bS L xs mi) (zstep (.astore v) a cs k ls st μ) := by
  have hd0 : decode (zby mi) pc = .ok (.astore v, 2) := (zdk_p hd).resolve_left (by rintro ⟨_, _, _, _, h⟩; cases h)
  have hp : zpcs C (k + 1) = pc + 2 := zfl_p hf
  obtain ⟨al, ag, as, aP, aM, aS⟩ := hA
  refine zr1_ok as (fun t j r v0 ra hsa hv hr => ?_)
  refine zst_ok ?_
  subst hsa
  intro hK
  have hlt : v < la.size := by
    rw [al.1, ag.1]
    exact Nat.blt_eq.mp (Bool.and_eq_true_iff.mp h1).1
  rcases zrv_ref hv with hv0 | ⟨a0, hv0⟩
  · subst hv0
    refine lv_astoreN hx hb hd0 (zlv_has al.2.1) hlt rfl (fun l1 hl1 => ?_)
    obtain ⟨z1, z2⟩ := zrl_set (b0 := b0) (adK := adK) (adV := adV) (bS := bS) al ag h1 hv rfl hl1
    rw [← hp]
    exact hK _ _ _ _ ⟨z1, z2, hr, aP, aM, aS⟩
  · subst hv0
    refine lv_astore hx hb hd0 (zlv_has al.2.1) hlt rfl (fun l1 hl1 => ?_)
    obtain ⟨z1, z2⟩ := zrl_set (b0 := b0) (adK := adK) (adV := adV) (bS := bS) al ag h1 hv rfl hl1
    rw [← hp]
    exact hK _ _ _ _ ⟨z1, z2, hr, aP, aM, aS⟩
theorem zc_astore_n (hx : p.tables.exec = Jvm.exec) (hb : c.code = zby mi) (hml : c.maxLocals = zml mi) (hown : s.vm.findClass (zy mi).cls = some m.cls) (hts : ∀ w ∈ zTs, w.before args s = true) (hB : zBk b0 D ca adK adV bS L xs s) (hR : zfr mi ≤ R.frames ∧ zlo mi ≤ R.locals ∧ cells ≤ R.cells ∧ slots ≤ R.slots) {v : Fin 4} {k pc a : Nat} {cs : List (Int × Nat)} (hd : zdk (zby mi) pc (.astore_n v) = true) (hf : zfall C k pc (.astore_n v) = true) (h1 : zchk1 mi C pc (.astore_n v) a cs = true) (h2 : zOK2 (zy mi).cls (.astore_n v) a cs) {ls st : List mzV} {μ : mzM} {H : Heap} {locs : List Loc} {la : Array Slot} {sa : List Value} (hA : zA b0 D ca adK adV bS L xs s mi ls st μ H locs la sa) : zgoal (W p l e R s m args below meth c H locs cells slots Q (F0 m pc la sa)) (zK p l e R s m args below meth c cells slots Q b0 D ca adK adV bS L xs mi C) (zKC p l e R s m args below meth c cells slots Q b0 D ca adK adV bS L xs mi C) (zKE p l e R s m args below meth c cells slots Q b0 D ca adK adV bS L xs mi) (zstep (.astore_n v) a cs k ls st μ) := by
  have hd0 : decode (zby mi) pc = .ok (.astore_n v, 1) := (zdk_p hd).resolve_left (by rintro ⟨_, _, _, _, h⟩; cases h)
  have hp : zpcs C (k + 1) = pc + 1 := zfl_p hf
  obtain ⟨al, ag, as, aP, aM, aS⟩ := hA
  refine zr1_ok as (fun t j r v0 ra hsa hv hr => ?_)
  refine zst_ok ?_
  subst hsa
  intro hK
  have hlt : v.val < la.size := by
    rw [al.1, ag.1]
    exact Nat.blt_eq.mp (Bool.and_eq_true_iff.mp h1).1
  rcases zrv_ref hv with hv0 | ⟨a0, hv0⟩
  · subst hv0
    refine lv_astore_nN hx hb hd0 rfl (zlv_has al.2.1) hlt rfl (fun l1 hl1 => ?_)
    obtain ⟨z1, z2⟩ := zrl_set (b0 := b0) (adK := adK) (adV := adV) (bS := bS) al ag h1 hv rfl hl1
    rw [← hp]
    exact hK _ _ _ _ ⟨z1, z2, hr, aP, aM, aS⟩
  · subst hv0
    refine lv_astore_n hx hb hd0 rfl (zlv_has al.2.1) hlt rfl (fun l1 hl1 => ?_)
    obtain ⟨z1, z2⟩ := zrl_set (b0 := b0) (adK := adK) (adV := adV) (bS := bS) al ag h1 hv rfl hl1
    rw [← hp]
    exact hK _ _ _ _ ⟨z1, z2, hr, aP, aM, aS⟩
theorem zc_iadd (hx : p.tables.exec = Jvm.exec) (hb : c.code = zby mi) (hml : c.maxLocals = zml mi) (hown : s.vm.findClass (zy mi).cls = some m.cls) (hts : ∀ w ∈ zTs, w.before args s = true) (hB : zBk b0 D ca adK adV bS L xs s) (hR : zfr mi ≤ R.frames ∧ zlo mi ≤ R.locals ∧ cells ≤ R.cells ∧ slots ≤ R.slots) {k pc a : Nat} {cs : List (Int × Nat)} (hd : zdk (zby mi) pc (.iadd) = true) (hf : zfall C k pc (.iadd) = true) (h1 : zchk1 mi C pc (.iadd) a cs = true) (h2 : zOK2 (zy mi).cls (.iadd) a cs) {ls st : List mzV} {μ : mzM} {H : Heap} {locs : List Loc} {la : Array Slot} {sa : List Value} (hA : zA b0 D ca adK adV bS L xs s mi ls st μ H locs la sa) : zgoal (W p l e R s m args below meth c H locs cells slots Q (F0 m pc la sa)) (zK p l e R s m args below meth c cells slots Q b0 D ca adK adV bS L xs mi C) (zKC p l e R s m args below meth c cells slots Q b0 D ca adK adV bS L xs mi C) (zKE p l e R s m args below meth c cells slots Q b0 D ca adK adV bS L xs mi) (zstep (.iadd) a cs k ls st μ) := by
  have hd0 : decode (zby mi) pc = .ok (.iadd, 1) := (zdk_p hd).resolve_left (by rintro ⟨_, _, _, _, h⟩; cases h)
  have hp : zpcs C (k + 1) = pc + 1 := zfl_p hf
  obtain ⟨al, ag, as, aP, aM, aS⟩ := hA
  refine zi2_ok as (fun v w r ra hsa hv hw hr => ?_)
  subst hsa
  intro hq hK
  have hq : zin (v + w) := hq
  refine lv_iadd hx hb hd0 ?_
  rw [zn_add hv hw hq, ← hp]
  exact hK _ _ _ _ ⟨al, ag, zrs_cons (zrv_I hq) hr, aP, aM, aS⟩
theorem zc_isub (hx : p.tables.exec = Jvm.exec) (hb : c.code = zby mi) (hml : c.maxLocals = zml mi) (hown : s.vm.findClass (zy mi).cls = some m.cls) (hts : ∀ w ∈ zTs, w.before args s = true) (hB : zBk b0 D ca adK adV bS L xs s) (hR : zfr mi ≤ R.frames ∧ zlo mi ≤ R.locals ∧ cells ≤ R.cells ∧ slots ≤ R.slots) {k pc a : Nat} {cs : List (Int × Nat)} (hd : zdk (zby mi) pc (.isub) = true) (hf : zfall C k pc (.isub) = true) (h1 : zchk1 mi C pc (.isub) a cs = true) (h2 : zOK2 (zy mi).cls (.isub) a cs) {ls st : List mzV} {μ : mzM} {H : Heap} {locs : List Loc} {la : Array Slot} {sa : List Value} (hA : zA b0 D ca adK adV bS L xs s mi ls st μ H locs la sa) : zgoal (W p l e R s m args below meth c H locs cells slots Q (F0 m pc la sa)) (zK p l e R s m args below meth c cells slots Q b0 D ca adK adV bS L xs mi C) (zKC p l e R s m args below meth c cells slots Q b0 D ca adK adV bS L xs mi C) (zKE p l e R s m args below meth c cells slots Q b0 D ca adK adV bS L xs mi) (zstep (.isub) a cs k ls st μ) := by
  have hd0 : decode (zby mi) pc = .ok (.isub, 1) := (zdk_p hd).resolve_left (by rintro ⟨_, _, _, _, h⟩; cases h)
  have hp : zpcs C (k + 1) = pc + 1 := zfl_p hf
  obtain ⟨al, ag, as, aP, aM, aS⟩ := hA
  refine zi2_ok as (fun v w r ra hsa hv hw hr => ?_)
  subst hsa
  intro hq hK
  have hq : zin (v - w) := hq
  refine lv_isub hx hb hd0 ?_
  rw [zn_sub hv hw hq, ← hp]
  exact hK _ _ _ _ ⟨al, ag, zrs_cons (zrv_I hq) hr, aP, aM, aS⟩
theorem zc_imul (hx : p.tables.exec = Jvm.exec) (hb : c.code = zby mi) (hml : c.maxLocals = zml mi) (hown : s.vm.findClass (zy mi).cls = some m.cls) (hts : ∀ w ∈ zTs, w.before args s = true) (hB : zBk b0 D ca adK adV bS L xs s) (hR : zfr mi ≤ R.frames ∧ zlo mi ≤ R.locals ∧ cells ≤ R.cells ∧ slots ≤ R.slots) {k pc a : Nat} {cs : List (Int × Nat)} (hd : zdk (zby mi) pc (.imul) = true) (hf : zfall C k pc (.imul) = true) (h1 : zchk1 mi C pc (.imul) a cs = true) (h2 : zOK2 (zy mi).cls (.imul) a cs) {ls st : List mzV} {μ : mzM} {H : Heap} {locs : List Loc} {la : Array Slot} {sa : List Value} (hA : zA b0 D ca adK adV bS L xs s mi ls st μ H locs la sa) : zgoal (W p l e R s m args below meth c H locs cells slots Q (F0 m pc la sa)) (zK p l e R s m args below meth c cells slots Q b0 D ca adK adV bS L xs mi C) (zKC p l e R s m args below meth c cells slots Q b0 D ca adK adV bS L xs mi C) (zKE p l e R s m args below meth c cells slots Q b0 D ca adK adV bS L xs mi) (zstep (.imul) a cs k ls st μ) := by
  have hd0 : decode (zby mi) pc = .ok (.imul, 1) := (zdk_p hd).resolve_left (by rintro ⟨_, _, _, _, h⟩; cases h)
  have hp : zpcs C (k + 1) = pc + 1 := zfl_p hf
  obtain ⟨al, ag, as, aP, aM, aS⟩ := hA
  refine zi2_ok as (fun v w r ra hsa hv hw hr => ?_)
  subst hsa
  intro hq hK
  have hq : zin (v * w) := hq
  refine lv_imul hx hb hd0 ?_
  rw [zn_mul hv hw hq, ← hp]
  exact hK _ _ _ _ ⟨al, ag, zrs_cons (zrv_I hq) hr, aP, aM, aS⟩
theorem zc_idiv (hx : p.tables.exec = Jvm.exec) (hb : c.code = zby mi) (hml : c.maxLocals = zml mi) (hown : s.vm.findClass (zy mi).cls = some m.cls) (hts : ∀ w ∈ zTs, w.before args s = true) (hB : zBk b0 D ca adK adV bS L xs s) (hR : zfr mi ≤ R.frames ∧ zlo mi ≤ R.locals ∧ cells ≤ R.cells ∧ slots ≤ R.slots) {k pc a : Nat} {cs : List (Int × Nat)} (hd : zdk (zby mi) pc (.idiv) = true) (hf : zfall C k pc (.idiv) = true) (h1 : zchk1 mi C pc (.idiv) a cs = true) (h2 : zOK2 (zy mi).cls (.idiv) a cs) {ls st : List mzV} {μ : mzM} {H : Heap} {locs : List Loc} {la : Array Slot} {sa : List Value} (hA : zA b0 D ca adK adV bS L xs s mi ls st μ H locs la sa) : zgoal (W p l e R s m args below meth c H locs cells slots Q (F0 m pc la sa)) (zK p l e R s m args below meth c cells slots Q b0 D ca adK adV bS L xs mi C) (zKC p l e R s m args below meth c cells slots Q b0 D ca adK adV bS L xs mi C) (zKE p l e R s m args below meth c cells slots Q b0 D ca adK adV bS L xs mi) (zstep (.idiv) a cs k ls st μ) := by
  have hd0 : decode (zby mi) pc = .ok (.idiv, 1) := (zdk_p hd).resolve_left (by rintro ⟨_, _, _, _, h⟩; cases h)
  have hp : zpcs C (k + 1) = pc + 1 := zfl_p hf
  obtain ⟨al, ag, as, aP, aM, aS⟩ := hA
  refine zi2_ok as (fun v w r ra hsa hv hw hr => ?_)
  subst hsa
  intro hq hK
  have hq : w ≠ 0 ∧ zin (v.tdiv w) := hq
  refine lv_idiv hx hb hd0 (by rw [show (0 : Int32) = Int32.ofInt 0 from rfl, zn_eq hw zin_z]; exact hq.1) ?_
  rw [zn_div hv hw hq.2, ← hp]
  exact hK _ _ _ _ ⟨al, ag, zrs_cons (zrv_I hq.2) hr, aP, aM, aS⟩
theorem zc_irem (hx : p.tables.exec = Jvm.exec) (hb : c.code = zby mi) (hml : c.maxLocals = zml mi) (hown : s.vm.findClass (zy mi).cls = some m.cls) (hts : ∀ w ∈ zTs, w.before args s = true) (hB : zBk b0 D ca adK adV bS L xs s) (hR : zfr mi ≤ R.frames ∧ zlo mi ≤ R.locals ∧ cells ≤ R.cells ∧ slots ≤ R.slots) {k pc a : Nat} {cs : List (Int × Nat)} (hd : zdk (zby mi) pc (.irem) = true) (hf : zfall C k pc (.irem) = true) (h1 : zchk1 mi C pc (.irem) a cs = true) (h2 : zOK2 (zy mi).cls (.irem) a cs) {ls st : List mzV} {μ : mzM} {H : Heap} {locs : List Loc} {la : Array Slot} {sa : List Value} (hA : zA b0 D ca adK adV bS L xs s mi ls st μ H locs la sa) : zgoal (W p l e R s m args below meth c H locs cells slots Q (F0 m pc la sa)) (zK p l e R s m args below meth c cells slots Q b0 D ca adK adV bS L xs mi C) (zKC p l e R s m args below meth c cells slots Q b0 D ca adK adV bS L xs mi C) (zKE p l e R s m args below meth c cells slots Q b0 D ca adK adV bS L xs mi) (zstep (.irem) a cs k ls st μ) := by
  have hd0 : decode (zby mi) pc = .ok (.irem, 1) := (zdk_p hd).resolve_left (by rintro ⟨_, _, _, _, h⟩; cases h)
  have hp : zpcs C (k + 1) = pc + 1 := zfl_p hf
  obtain ⟨al, ag, as, aP, aM, aS⟩ := hA
  refine zi2_ok as (fun v w r ra hsa hv hw hr => ?_)
  subst hsa
  intro hq hK
  have hq : w ≠ 0 := hq
  refine lv_irem hx hb hd0 (by rw [show (0 : Int32) = Int32.ofInt 0 from rfl, zn_eq hw zin_z]; exact hq) ?_
  rw [zn_rem hv hw hq, ← hp]
  exact hK _ _ _ _ ⟨al, ag, zrs_cons (zrv_I (zin_tmod hv hw hq)) hr, aP, aM, aS⟩
theorem zc_ineg (hx : p.tables.exec = Jvm.exec) (hb : c.code = zby mi) (hml : c.maxLocals = zml mi) (hown : s.vm.findClass (zy mi).cls = some m.cls) (hts : ∀ w ∈ zTs, w.before args s = true) (hB : zBk b0 D ca adK adV bS L xs s) (hR : zfr mi ≤ R.frames ∧ zlo mi ≤ R.locals ∧ cells ≤ R.cells ∧ slots ≤ R.slots) {k pc a : Nat} {cs : List (Int × Nat)} (hd : zdk (zby mi) pc (.ineg) = true) (hf : zfall C k pc (.ineg) = true) (h1 : zchk1 mi C pc (.ineg) a cs = true) (h2 : zOK2 (zy mi).cls (.ineg) a cs) {ls st : List mzV} {μ : mzM} {H : Heap} {locs : List Loc} {la : Array Slot} {sa : List Value} (hA : zA b0 D ca adK adV bS L xs s mi ls st μ H locs la sa) : zgoal (W p l e R s m args below meth c H locs cells slots Q (F0 m pc la sa)) (zK p l e R s m args below meth c cells slots Q b0 D ca adK adV bS L xs mi C) (zKC p l e R s m args below meth c cells slots Q b0 D ca adK adV bS L xs mi C) (zKE p l e R s m args below meth c cells slots Q b0 D ca adK adV bS L xs mi) (zstep (.ineg) a cs k ls st μ) := by
  have hd0 : decode (zby mi) pc = .ok (.ineg, 1) := (zdk_p hd).resolve_left (by rintro ⟨_, _, _, _, h⟩; cases h)
  have hp : zpcs C (k + 1) = pc + 1 := zfl_p hf
  obtain ⟨al, ag, as, aP, aM, aS⟩ := hA
  refine zi1_ok as (fun v r ra hsa hv hr => ?_)
  subst hsa
  intro hK
  refine lv_ineg hx hb hd0 ?_
  rw [zn_neg hv, ← hp]
  exact hK _ _ _ _ ⟨al, ag, zrs_cons (zrv_I (zw_in _)) hr, aP, aM, aS⟩
theorem zc_iand (hx : p.tables.exec = Jvm.exec) (hb : c.code = zby mi) (hml : c.maxLocals = zml mi) (hown : s.vm.findClass (zy mi).cls = some m.cls) (hts : ∀ w ∈ zTs, w.before args s = true) (hB : zBk b0 D ca adK adV bS L xs s) (hR : zfr mi ≤ R.frames ∧ zlo mi ≤ R.locals ∧ cells ≤ R.cells ∧ slots ≤ R.slots) {k pc a : Nat} {cs : List (Int × Nat)} (hd : zdk (zby mi) pc (.iand) = true) (hf : zfall C k pc (.iand) = true) (h1 : zchk1 mi C pc (.iand) a cs = true) (h2 : zOK2 (zy mi).cls (.iand) a cs) {ls st : List mzV} {μ : mzM} {H : Heap} {locs : List Loc} {la : Array Slot} {sa : List Value} (hA : zA b0 D ca adK adV bS L xs s mi ls st μ H locs la sa) : zgoal (W p l e R s m args below meth c H locs cells slots Q (F0 m pc la sa)) (zK p l e R s m args below meth c cells slots Q b0 D ca adK adV bS L xs mi C) (zKC p l e R s m args below meth c cells slots Q b0 D ca adK adV bS L xs mi C) (zKE p l e R s m args below meth c cells slots Q b0 D ca adK adV bS L xs mi) (zstep (.iand) a cs k ls st μ) := by
  have hd0 : decode (zby mi) pc = .ok (.iand, 1) := (zdk_p hd).resolve_left (by rintro ⟨_, _, _, _, h⟩; cases h)
  have hp : zpcs C (k + 1) = pc + 1 := zfl_p hf
  obtain ⟨al, ag, as, aP, aM, aS⟩ := hA
  refine zi2_ok as (fun v w r ra hsa hv hw hr => ?_)
  subst hsa
  intro hK
  refine lv_iand hx hb hd0 ?_
  rw [show _ = Int32.ofInt (zand v w) from zi_of rfl, ← hp]
  exact hK _ _ _ _ ⟨al, ag, zrs_cons (zrv_I (zin_32 _)) hr, aP, aM, aS⟩
theorem zc_ixor (hx : p.tables.exec = Jvm.exec) (hb : c.code = zby mi) (hml : c.maxLocals = zml mi) (hown : s.vm.findClass (zy mi).cls = some m.cls) (hts : ∀ w ∈ zTs, w.before args s = true) (hB : zBk b0 D ca adK adV bS L xs s) (hR : zfr mi ≤ R.frames ∧ zlo mi ≤ R.locals ∧ cells ≤ R.cells ∧ slots ≤ R.slots) {k pc a : Nat} {cs : List (Int × Nat)} (hd : zdk (zby mi) pc (.ixor) = true) (hf : zfall C k pc (.ixor) = true) (h1 : zchk1 mi C pc (.ixor) a cs = true) (h2 : zOK2 (zy mi).cls (.ixor) a cs) {ls st : List mzV} {μ : mzM} {H : Heap} {locs : List Loc} {la : Array Slot} {sa : List Value} (hA : zA b0 D ca adK adV bS L xs s mi ls st μ H locs la sa) : zgoal (W p l e R s m args below meth c H locs cells slots Q (F0 m pc la sa)) (zK p l e R s m args below meth c cells slots Q b0 D ca adK adV bS L xs mi C) (zKC p l e R s m args below meth c cells slots Q b0 D ca adK adV bS L xs mi C) (zKE p l e R s m args below meth c cells slots Q b0 D ca adK adV bS L xs mi) (zstep (.ixor) a cs k ls st μ) := by
  have hd0 : decode (zby mi) pc = .ok (.ixor, 1) := (zdk_p hd).resolve_left (by rintro ⟨_, _, _, _, h⟩; cases h)
  have hp : zpcs C (k + 1) = pc + 1 := zfl_p hf
  obtain ⟨al, ag, as, aP, aM, aS⟩ := hA
  refine zi2_ok as (fun v w r ra hsa hv hw hr => ?_)
  subst hsa
  intro hK
  refine lv_ixor hx hb hd0 ?_
  rw [show _ = Int32.ofInt (zxor v w) from zi_of rfl, ← hp]
  exact hK _ _ _ _ ⟨al, ag, zrs_cons (zrv_I (zin_32 _)) hr, aP, aM, aS⟩
theorem zc_ishl (hx : p.tables.exec = Jvm.exec) (hb : c.code = zby mi) (hml : c.maxLocals = zml mi) (hown : s.vm.findClass (zy mi).cls = some m.cls) (hts : ∀ w ∈ zTs, w.before args s = true) (hB : zBk b0 D ca adK adV bS L xs s) (hR : zfr mi ≤ R.frames ∧ zlo mi ≤ R.locals ∧ cells ≤ R.cells ∧ slots ≤ R.slots) {k pc a : Nat} {cs : List (Int × Nat)} (hd : zdk (zby mi) pc (.ishl) = true) (hf : zfall C k pc (.ishl) = true) (h1 : zchk1 mi C pc (.ishl) a cs = true) (h2 : zOK2 (zy mi).cls (.ishl) a cs) {ls st : List mzV} {μ : mzM} {H : Heap} {locs : List Loc} {la : Array Slot} {sa : List Value} (hA : zA b0 D ca adK adV bS L xs s mi ls st μ H locs la sa) : zgoal (W p l e R s m args below meth c H locs cells slots Q (F0 m pc la sa)) (zK p l e R s m args below meth c cells slots Q b0 D ca adK adV bS L xs mi C) (zKC p l e R s m args below meth c cells slots Q b0 D ca adK adV bS L xs mi C) (zKE p l e R s m args below meth c cells slots Q b0 D ca adK adV bS L xs mi) (zstep (.ishl) a cs k ls st μ) := by
  have hd0 : decode (zby mi) pc = .ok (.ishl, 1) := (zdk_p hd).resolve_left (by rintro ⟨_, _, _, _, h⟩; cases h)
  have hp : zpcs C (k + 1) = pc + 1 := zfl_p hf
  obtain ⟨al, ag, as, aP, aM, aS⟩ := hA
  refine zi2_ok as (fun v w r ra hsa hv hw hr => ?_)
  subst hsa
  intro hK
  refine lv_ishl hx hb hd0 ?_
  rw [show _ = Int32.ofInt (zshl v w) from zi_of rfl, ← hp]
  exact hK _ _ _ _ ⟨al, ag, zrs_cons (zrv_I (zin_32 _)) hr, aP, aM, aS⟩
theorem zc_ishr (hx : p.tables.exec = Jvm.exec) (hb : c.code = zby mi) (hml : c.maxLocals = zml mi) (hown : s.vm.findClass (zy mi).cls = some m.cls) (hts : ∀ w ∈ zTs, w.before args s = true) (hB : zBk b0 D ca adK adV bS L xs s) (hR : zfr mi ≤ R.frames ∧ zlo mi ≤ R.locals ∧ cells ≤ R.cells ∧ slots ≤ R.slots) {k pc a : Nat} {cs : List (Int × Nat)} (hd : zdk (zby mi) pc (.ishr) = true) (hf : zfall C k pc (.ishr) = true) (h1 : zchk1 mi C pc (.ishr) a cs = true) (h2 : zOK2 (zy mi).cls (.ishr) a cs) {ls st : List mzV} {μ : mzM} {H : Heap} {locs : List Loc} {la : Array Slot} {sa : List Value} (hA : zA b0 D ca adK adV bS L xs s mi ls st μ H locs la sa) : zgoal (W p l e R s m args below meth c H locs cells slots Q (F0 m pc la sa)) (zK p l e R s m args below meth c cells slots Q b0 D ca adK adV bS L xs mi C) (zKC p l e R s m args below meth c cells slots Q b0 D ca adK adV bS L xs mi C) (zKE p l e R s m args below meth c cells slots Q b0 D ca adK adV bS L xs mi) (zstep (.ishr) a cs k ls st μ) := by
  have hd0 : decode (zby mi) pc = .ok (.ishr, 1) := (zdk_p hd).resolve_left (by rintro ⟨_, _, _, _, h⟩; cases h)
  have hp : zpcs C (k + 1) = pc + 1 := zfl_p hf
  obtain ⟨al, ag, as, aP, aM, aS⟩ := hA
  refine zi2_ok as (fun v w r ra hsa hv hw hr => ?_)
  subst hsa
  intro hK
  refine lv_ishr hx hb hd0 ?_
  rw [show _ = Int32.ofInt (zshr v w) from zi_of rfl, ← hp]
  exact hK _ _ _ _ ⟨al, ag, zrs_cons (zrv_I (zin_32 _)) hr, aP, aM, aS⟩
theorem zc_iushr (hx : p.tables.exec = Jvm.exec) (hb : c.code = zby mi) (hml : c.maxLocals = zml mi) (hown : s.vm.findClass (zy mi).cls = some m.cls) (hts : ∀ w ∈ zTs, w.before args s = true) (hB : zBk b0 D ca adK adV bS L xs s) (hR : zfr mi ≤ R.frames ∧ zlo mi ≤ R.locals ∧ cells ≤ R.cells ∧ slots ≤ R.slots) {k pc a : Nat} {cs : List (Int × Nat)} (hd : zdk (zby mi) pc (.iushr) = true) (hf : zfall C k pc (.iushr) = true) (h1 : zchk1 mi C pc (.iushr) a cs = true) (h2 : zOK2 (zy mi).cls (.iushr) a cs) {ls st : List mzV} {μ : mzM} {H : Heap} {locs : List Loc} {la : Array Slot} {sa : List Value} (hA : zA b0 D ca adK adV bS L xs s mi ls st μ H locs la sa) : zgoal (W p l e R s m args below meth c H locs cells slots Q (F0 m pc la sa)) (zK p l e R s m args below meth c cells slots Q b0 D ca adK adV bS L xs mi C) (zKC p l e R s m args below meth c cells slots Q b0 D ca adK adV bS L xs mi C) (zKE p l e R s m args below meth c cells slots Q b0 D ca adK adV bS L xs mi) (zstep (.iushr) a cs k ls st μ) := by
  have hd0 : decode (zby mi) pc = .ok (.iushr, 1) := (zdk_p hd).resolve_left (by rintro ⟨_, _, _, _, h⟩; cases h)
  have hp : zpcs C (k + 1) = pc + 1 := zfl_p hf
  obtain ⟨al, ag, as, aP, aM, aS⟩ := hA
  refine zi2_ok as (fun v w r ra hsa hv hw hr => ?_)
  subst hsa
  intro hK
  refine lv_iushr (v := Int32.ofInt (zushr v w)) hx hb hd0 (zi_of rfl) ?_
  rw [← hp]
  exact hK _ _ _ _ ⟨al, ag, zrs_cons (zrv_I (zin_32 _)) hr, aP, aM, aS⟩
theorem zc_ladd (hx : p.tables.exec = Jvm.exec) (hb : c.code = zby mi) (hml : c.maxLocals = zml mi) (hown : s.vm.findClass (zy mi).cls = some m.cls) (hts : ∀ w ∈ zTs, w.before args s = true) (hB : zBk b0 D ca adK adV bS L xs s) (hR : zfr mi ≤ R.frames ∧ zlo mi ≤ R.locals ∧ cells ≤ R.cells ∧ slots ≤ R.slots) {k pc a : Nat} {cs : List (Int × Nat)} (hd : zdk (zby mi) pc (.ladd) = true) (hf : zfall C k pc (.ladd) = true) (h1 : zchk1 mi C pc (.ladd) a cs = true) (h2 : zOK2 (zy mi).cls (.ladd) a cs) {ls st : List mzV} {μ : mzM} {H : Heap} {locs : List Loc} {la : Array Slot} {sa : List Value} (hA : zA b0 D ca adK adV bS L xs s mi ls st μ H locs la sa) : zgoal (W p l e R s m args below meth c H locs cells slots Q (F0 m pc la sa)) (zK p l e R s m args below meth c cells slots Q b0 D ca adK adV bS L xs mi C) (zKC p l e R s m args below meth c cells slots Q b0 D ca adK adV bS L xs mi C) (zKE p l e R s m args below meth c cells slots Q b0 D ca adK adV bS L xs mi) (zstep (.ladd) a cs k ls st μ) := by
  have hd0 : decode (zby mi) pc = .ok (.ladd, 1) := (zdk_p hd).resolve_left (by rintro ⟨_, _, _, _, h⟩; cases h)
  have hp : zpcs C (k + 1) = pc + 1 := zfl_p hf
  obtain ⟨al, ag, as, aP, aM, aS⟩ := hA
  refine zl2_ok as (fun v w r ra hsa hv hw hr => ?_)
  subst hsa
  intro hK
  refine lv_ladd hx hb hd0 ?_
  rw [zl_add hv hw, ← hp]
  exact hK _ _ _ _ ⟨al, ag, zrs_cons (zrv_L (zw6_in _)) hr, aP, aM, aS⟩
theorem zc_lmul (hx : p.tables.exec = Jvm.exec) (hb : c.code = zby mi) (hml : c.maxLocals = zml mi) (hown : s.vm.findClass (zy mi).cls = some m.cls) (hts : ∀ w ∈ zTs, w.before args s = true) (hB : zBk b0 D ca adK adV bS L xs s) (hR : zfr mi ≤ R.frames ∧ zlo mi ≤ R.locals ∧ cells ≤ R.cells ∧ slots ≤ R.slots) {k pc a : Nat} {cs : List (Int × Nat)} (hd : zdk (zby mi) pc (.lmul) = true) (hf : zfall C k pc (.lmul) = true) (h1 : zchk1 mi C pc (.lmul) a cs = true) (h2 : zOK2 (zy mi).cls (.lmul) a cs) {ls st : List mzV} {μ : mzM} {H : Heap} {locs : List Loc} {la : Array Slot} {sa : List Value} (hA : zA b0 D ca adK adV bS L xs s mi ls st μ H locs la sa) : zgoal (W p l e R s m args below meth c H locs cells slots Q (F0 m pc la sa)) (zK p l e R s m args below meth c cells slots Q b0 D ca adK adV bS L xs mi C) (zKC p l e R s m args below meth c cells slots Q b0 D ca adK adV bS L xs mi C) (zKE p l e R s m args below meth c cells slots Q b0 D ca adK adV bS L xs mi) (zstep (.lmul) a cs k ls st μ) := by
  have hd0 : decode (zby mi) pc = .ok (.lmul, 1) := (zdk_p hd).resolve_left (by rintro ⟨_, _, _, _, h⟩; cases h)
  have hp : zpcs C (k + 1) = pc + 1 := zfl_p hf
  obtain ⟨al, ag, as, aP, aM, aS⟩ := hA
  refine zl2_ok as (fun v w r ra hsa hv hw hr => ?_)
  subst hsa
  intro hK
  refine lv_lmul hx hb hd0 ?_
  rw [zl_mul hv hw, ← hp]
  exact hK _ _ _ _ ⟨al, ag, zrs_cons (zrv_L (zw6_in _)) hr, aP, aM, aS⟩
theorem zc_lcmp (hx : p.tables.exec = Jvm.exec) (hb : c.code = zby mi) (hml : c.maxLocals = zml mi) (hown : s.vm.findClass (zy mi).cls = some m.cls) (hts : ∀ w ∈ zTs, w.before args s = true) (hB : zBk b0 D ca adK adV bS L xs s) (hR : zfr mi ≤ R.frames ∧ zlo mi ≤ R.locals ∧ cells ≤ R.cells ∧ slots ≤ R.slots) {k pc a : Nat} {cs : List (Int × Nat)} (hd : zdk (zby mi) pc (.lcmp) = true) (hf : zfall C k pc (.lcmp) = true) (h1 : zchk1 mi C pc (.lcmp) a cs = true) (h2 : zOK2 (zy mi).cls (.lcmp) a cs) {ls st : List mzV} {μ : mzM} {H : Heap} {locs : List Loc} {la : Array Slot} {sa : List Value} (hA : zA b0 D ca adK adV bS L xs s mi ls st μ H locs la sa) : zgoal (W p l e R s m args below meth c H locs cells slots Q (F0 m pc la sa)) (zK p l e R s m args below meth c cells slots Q b0 D ca adK adV bS L xs mi C) (zKC p l e R s m args below meth c cells slots Q b0 D ca adK adV bS L xs mi C) (zKE p l e R s m args below meth c cells slots Q b0 D ca adK adV bS L xs mi) (zstep (.lcmp) a cs k ls st μ) := by
  have hd0 : decode (zby mi) pc = .ok (.lcmp, 1) := (zdk_p hd).resolve_left (by rintro ⟨_, _, _, _, h⟩; cases h)
  have hp : zpcs C (k + 1) = pc + 1 := zfl_p hf
  obtain ⟨al, ag, as, aP, aM, aS⟩ := hA
  refine zl2_ok as (fun v w r ra hsa hv hw hr => ?_)
  subst hsa
  intro hK
  refine W.lcmp hx hb hd0 ?_
  rw [zl_cmp hv hw, ← hp]
  exact hK _ _ _ _ ⟨al, ag, zrs_cons (zrv_I (by unfold zcmp; constructor <;> split <;> (try split) <;> omega)) hr, aP, aM, aS⟩
theorem zc_i2l (hx : p.tables.exec = Jvm.exec) (hb : c.code = zby mi) (hml : c.maxLocals = zml mi) (hown : s.vm.findClass (zy mi).cls = some m.cls) (hts : ∀ w ∈ zTs, w.before args s = true) (hB : zBk b0 D ca adK adV bS L xs s) (hR : zfr mi ≤ R.frames ∧ zlo mi ≤ R.locals ∧ cells ≤ R.cells ∧ slots ≤ R.slots) {k pc a : Nat} {cs : List (Int × Nat)} (hd : zdk (zby mi) pc (.i2l) = true) (hf : zfall C k pc (.i2l) = true) (h1 : zchk1 mi C pc (.i2l) a cs = true) (h2 : zOK2 (zy mi).cls (.i2l) a cs) {ls st : List mzV} {μ : mzM} {H : Heap} {locs : List Loc} {la : Array Slot} {sa : List Value} (hA : zA b0 D ca adK adV bS L xs s mi ls st μ H locs la sa) : zgoal (W p l e R s m args below meth c H locs cells slots Q (F0 m pc la sa)) (zK p l e R s m args below meth c cells slots Q b0 D ca adK adV bS L xs mi C) (zKC p l e R s m args below meth c cells slots Q b0 D ca adK adV bS L xs mi C) (zKE p l e R s m args below meth c cells slots Q b0 D ca adK adV bS L xs mi) (zstep (.i2l) a cs k ls st μ) := by
  have hd0 : decode (zby mi) pc = .ok (.i2l, 1) := (zdk_p hd).resolve_left (by rintro ⟨_, _, _, _, h⟩; cases h)
  have hp : zpcs C (k + 1) = pc + 1 := zfl_p hf
  obtain ⟨al, ag, as, aP, aM, aS⟩ := hA
  refine zi1_ok as (fun v r ra hsa hv hr => ?_)
  subst hsa
  intro hK
  refine lv_i2l hx hb hd0 (zn_i2l hv) ?_
  rw [← hp]
  exact hK _ _ _ _ ⟨al, ag, zrs_cons (zrv_L (by have h3 := hv.1; have h4 := hv.2; constructor <;> omega)) hr, aP, aM, aS⟩
theorem zc_l2i (hx : p.tables.exec = Jvm.exec) (hb : c.code = zby mi) (hml : c.maxLocals = zml mi) (hown : s.vm.findClass (zy mi).cls = some m.cls) (hts : ∀ w ∈ zTs, w.before args s = true) (hB : zBk b0 D ca adK adV bS L xs s) (hR : zfr mi ≤ R.frames ∧ zlo mi ≤ R.locals ∧ cells ≤ R.cells ∧ slots ≤ R.slots) {k pc a : Nat} {cs : List (Int × Nat)} (hd : zdk (zby mi) pc (.l2i) = true) (hf : zfall C k pc (.l2i) = true) (h1 : zchk1 mi C pc (.l2i) a cs = true) (h2 : zOK2 (zy mi).cls (.l2i) a cs) {ls st : List mzV} {μ : mzM} {H : Heap} {locs : List Loc} {la : Array Slot} {sa : List Value} (hA : zA b0 D ca adK adV bS L xs s mi ls st μ H locs la sa) : zgoal (W p l e R s m args below meth c H locs cells slots Q (F0 m pc la sa)) (zK p l e R s m args below meth c cells slots Q b0 D ca adK adV bS L xs mi C) (zKC p l e R s m args below meth c cells slots Q b0 D ca adK adV bS L xs mi C) (zKE p l e R s m args below meth c cells slots Q b0 D ca adK adV bS L xs mi) (zstep (.l2i) a cs k ls st μ) := by
  have hd0 : decode (zby mi) pc = .ok (.l2i, 1) := (zdk_p hd).resolve_left (by rintro ⟨_, _, _, _, h⟩; cases h)
  have hp : zpcs C (k + 1) = pc + 1 := zfl_p hf
  obtain ⟨al, ag, as, aP, aM, aS⟩ := hA
  refine zl1_ok as (fun v r ra hsa hv hr => ?_)
  subst hsa
  intro hK
  refine lv_l2i hx hb hd0 (zn_l2i hv) ?_
  rw [← hp]
  exact hK _ _ _ _ ⟨al, ag, zrs_cons (zrv_I (zw_in _)) hr, aP, aM, aS⟩
theorem zc_i2c (hx : p.tables.exec = Jvm.exec) (hb : c.code = zby mi) (hml : c.maxLocals = zml mi) (hown : s.vm.findClass (zy mi).cls = some m.cls) (hts : ∀ w ∈ zTs, w.before args s = true) (hB : zBk b0 D ca adK adV bS L xs s) (hR : zfr mi ≤ R.frames ∧ zlo mi ≤ R.locals ∧ cells ≤ R.cells ∧ slots ≤ R.slots) {k pc a : Nat} {cs : List (Int × Nat)} (hd : zdk (zby mi) pc (.i2c) = true) (hf : zfall C k pc (.i2c) = true) (h1 : zchk1 mi C pc (.i2c) a cs = true) (h2 : zOK2 (zy mi).cls (.i2c) a cs) {ls st : List mzV} {μ : mzM} {H : Heap} {locs : List Loc} {la : Array Slot} {sa : List Value} (hA : zA b0 D ca adK adV bS L xs s mi ls st μ H locs la sa) : zgoal (W p l e R s m args below meth c H locs cells slots Q (F0 m pc la sa)) (zK p l e R s m args below meth c cells slots Q b0 D ca adK adV bS L xs mi C) (zKC p l e R s m args below meth c cells slots Q b0 D ca adK adV bS L xs mi C) (zKE p l e R s m args below meth c cells slots Q b0 D ca adK adV bS L xs mi) (zstep (.i2c) a cs k ls st μ) := by
  have hd0 : decode (zby mi) pc = .ok (.i2c, 1) := (zdk_p hd).resolve_left (by rintro ⟨_, _, _, _, h⟩; cases h)
  have hp : zpcs C (k + 1) = pc + 1 := zfl_p hf
  obtain ⟨al, ag, as, aP, aM, aS⟩ := hA
  refine zi1_ok as (fun v r ra hsa hv hr => ?_)
  subst hsa
  intro hK
  refine lv_i2c hx hb hd0 (zn_i2c hv) ?_
  rw [← hp]
  exact hK _ _ _ _ ⟨al, ag, zrs_cons (zrv_I (by constructor <;> omega)) hr, aP, aM, aS⟩
theorem zc_i2b (hx : p.tables.exec = Jvm.exec) (hb : c.code = zby mi) (hml : c.maxLocals = zml mi) (hown : s.vm.findClass (zy mi).cls = some m.cls) (hts : ∀ w ∈ zTs, w.before args s = true) (hB : zBk b0 D ca adK adV bS L xs s) (hR : zfr mi ≤ R.frames ∧ zlo mi ≤ R.locals ∧ cells ≤ R.cells ∧ slots ≤ R.slots) {k pc a : Nat} {cs : List (Int × Nat)} (hd : zdk (zby mi) pc (.i2b) = true) (hf : zfall C k pc (.i2b) = true) (h1 : zchk1 mi C pc (.i2b) a cs = true) (h2 : zOK2 (zy mi).cls (.i2b) a cs) {ls st : List mzV} {μ : mzM} {H : Heap} {locs : List Loc} {la : Array Slot} {sa : List Value} (hA : zA b0 D ca adK adV bS L xs s mi ls st μ H locs la sa) : zgoal (W p l e R s m args below meth c H locs cells slots Q (F0 m pc la sa)) (zK p l e R s m args below meth c cells slots Q b0 D ca adK adV bS L xs mi C) (zKC p l e R s m args below meth c cells slots Q b0 D ca adK adV bS L xs mi C) (zKE p l e R s m args below meth c cells slots Q b0 D ca adK adV bS L xs mi) (zstep (.i2b) a cs k ls st μ) := by
  have hd0 : decode (zby mi) pc = .ok (.i2b, 1) := (zdk_p hd).resolve_left (by rintro ⟨_, _, _, _, h⟩; cases h)
  have hp : zpcs C (k + 1) = pc + 1 := zfl_p hf
  obtain ⟨al, ag, as, aP, aM, aS⟩ := hA
  refine zi1_ok as (fun v r ra hsa hv hr => ?_)
  subst hsa
  intro hK
  refine lv_i2b hx hb hd0 (zn_i2b hv) ?_
  rw [← hp]
  exact hK _ _ _ _ ⟨al, ag, zrs_cons (zrv_I (zb_in _)) hr, aP, aM, aS⟩
theorem zc_goto (hx : p.tables.exec = Jvm.exec) (hb : c.code = zby mi) (hml : c.maxLocals = zml mi) (hown : s.vm.findClass (zy mi).cls = some m.cls) (hts : ∀ w ∈ zTs, w.before args s = true) (hB : zBk b0 D ca adK adV bS L xs s) (hR : zfr mi ≤ R.frames ∧ zlo mi ≤ R.locals ∧ cells ≤ R.cells ∧ slots ≤ R.slots) {v : Int} {k pc a : Nat} {cs : List (Int × Nat)} (hd : zdk (zby mi) pc (.goto v) = true) (hf : zfall C k pc (.goto v) = true) (h1 : zchk1 mi C pc (.goto v) a cs = true) (h2 : zOK2 (zy mi).cls (.goto v) a cs) {ls st : List mzV} {μ : mzM} {H : Heap} {locs : List Loc} {la : Array Slot} {sa : List Value} (hA : zA b0 D ca adK adV bS L xs s mi ls st μ H locs la sa) : zgoal (W p l e R s m args below meth c H locs cells slots Q (F0 m pc la sa)) (zK p l e R s m args below meth c cells slots Q b0 D ca adK adV bS L xs mi C) (zKC p l e R s m args below meth c cells slots Q b0 D ca adK adV bS L xs mi C) (zKE p l e R s m args below meth c cells slots Q b0 D ca adK adV bS L xs mi) (zstep (.goto v) a cs k ls st μ) := by
  have hd0 : decode (zby mi) pc = .ok (.goto v, 3) := (zdk_p hd).resolve_left (by rintro ⟨_, _, _, _, h⟩; cases h)
  obtain ⟨al, ag, as, aP, aM, aS⟩ := hA
  intro hK
  refine lv_goto hx hb hd0 (zgt_p h1) ?_
  exact hK _ _ _ _ ⟨al, ag, as, aP, aM, aS⟩
theorem zc_if_icmp (hx : p.tables.exec = Jvm.exec) (hb : c.code = zby mi) (hml : c.maxLocals = zml mi) (hown : s.vm.findClass (zy mi).cls = some m.cls) (hts : ∀ w ∈ zTs, w.before args s = true) (hB : zBk b0 D ca adK adV bS L xs s) (hR : zfr mi ≤ R.frames ∧ zlo mi ≤ R.locals ∧ cells ≤ R.cells ∧ slots ≤ R.slots) {v : Jvm.ClassFile.Cond} {w0 : Int} {k pc a : Nat} {cs : List (Int × Nat)} (hd : zdk (zby mi) pc (.if_icmp v w0) = true) (hf : zfall C k pc (.if_icmp v w0) = true) (h1 : zchk1 mi C pc (.if_icmp v w0) a cs = true) (h2 : zOK2 (zy mi).cls (.if_icmp v w0) a cs) {ls st : List mzV} {μ : mzM} {H : Heap} {locs : List Loc} {la : Array Slot} {sa : List Value} (hA : zA b0 D ca adK adV bS L xs s mi ls st μ H locs la sa) : zgoal (W p l e R s m args below meth c H locs cells slots Q (F0 m pc la sa)) (zK p l e R s m args below meth c cells slots Q b0 D ca adK adV bS L xs mi C) (zKC p l e R s m args below meth c cells slots Q b0 D ca adK adV bS L xs mi C) (zKE p l e R s m args below meth c cells slots Q b0 D ca adK adV bS L xs mi) (zstep (.if_icmp v w0) a cs k ls st μ) := by
  have hd0 : decode (zby mi) pc = .ok (.if_icmp v w0, 3) := (zdk_p hd).resolve_left (by rintro ⟨_, _, _, _, h⟩; cases h)
  have hp : zpcs C (k + 1) = pc + 3 := zfl_p hf
  obtain ⟨al, ag, as, aP, aM, aS⟩ := hA
  refine zi2_ok as (fun v1 v2 r ra hsa hv hw hr => ?_)
  subst hsa
  have hg : zK p l e R s m args below meth c cells slots Q b0 D ca adK adV bS L xs mi C (a, ls, r, μ) → W p l e R s m args below meth c H locs cells slots Q (F0 m (zpcs C a) la ra) := fun hK => hK _ _ _ _ ⟨al, ag, hr, aP, aM, aS⟩
  have hn : zK p l e R s m args below meth c cells slots Q b0 D ca adK adV bS L xs mi C (k + 1, ls, r, μ) → W p l e R s m args below meth c H locs cells slots Q (F0 m (pc + 3) la ra) := fun hK => by rw [← hp]; exact hK _ _ _ _ ⟨al, ag, hr, aP, aM, aS⟩
  cases v
  · intro hk1 hk2
    exact lv_icmp_eq hx hb hd0 (zgt_p h1) (fun h => hg (hk1 (by exact (zn_eq hv hw).mp h))) (fun h => hn (hk2 (by exact fun q => h ((zn_eq hv hw).mpr q))))
  · intro hk1 hk2
    exact lv_icmp_ne hx hb hd0 (zgt_p h1) (fun h => hg (hk2 (by exact fun q => h ((zn_eq hv hw).mpr q)))) (fun h => hn (hk1 (by exact (zn_eq hv hw).mp h)))
  · intro hk1 hk2
    exact lv_icmp_lt hx hb hd0 (zgt_p h1) (fun h => hg (hk1 (by exact (zn_lt hv hw).mp h))) (fun h => hn (hk2 (by exact fun q => h ((zn_lt hv hw).mpr q))))
  · intro hk1 hk2
    exact lv_icmp_ge hx hb hd0 (zgt_p h1) (fun h => hg (hk2 (by have h5 := (zn_le hw hv).mp h; exact fun q => by omega))) (fun h => hn (hk1 (by exact Int.not_le.mp fun q => h ((zn_le hw hv).mpr q))))
  · intro hk1 hk2
    exact lv_icmp_gt hx hb hd0 (zgt_p h1) (fun h => hg (hk1 (by exact (zn_lt hw hv).mp h))) (fun h => hn (hk2 (by exact fun q => h ((zn_lt hw hv).mpr q))))
  · intro hk1 hk2
    exact lv_icmp_le hx hb hd0 (zgt_p h1) (fun h => hg (hk2 (by have h5 := (zn_le hv hw).mp h; exact fun q => by omega))) (fun h => hn (hk1 (by exact Int.not_le.mp fun q => h ((zn_le hv hw).mpr q))))
theorem zc_ifCond (hx : p.tables.exec = Jvm.exec) (hb : c.code = zby mi) (hml : c.maxLocals = zml mi) (hown : s.vm.findClass (zy mi).cls = some m.cls) (hts : ∀ w ∈ zTs, w.before args s = true) (hB : zBk b0 D ca adK adV bS L xs s) (hR : zfr mi ≤ R.frames ∧ zlo mi ≤ R.locals ∧ cells ≤ R.cells ∧ slots ≤ R.slots) {v : Jvm.ClassFile.Cond} {w0 : Int} {k pc a : Nat} {cs : List (Int × Nat)} (hd : zdk (zby mi) pc (.ifCond v w0) = true) (hf : zfall C k pc (.ifCond v w0) = true) (h1 : zchk1 mi C pc (.ifCond v w0) a cs = true) (h2 : zOK2 (zy mi).cls (.ifCond v w0) a cs) {ls st : List mzV} {μ : mzM} {H : Heap} {locs : List Loc} {la : Array Slot} {sa : List Value} (hA : zA b0 D ca adK adV bS L xs s mi ls st μ H locs la sa) : zgoal (W p l e R s m args below meth c H locs cells slots Q (F0 m pc la sa)) (zK p l e R s m args below meth c cells slots Q b0 D ca adK adV bS L xs mi C) (zKC p l e R s m args below meth c cells slots Q b0 D ca adK adV bS L xs mi C) (zKE p l e R s m args below meth c cells slots Q b0 D ca adK adV bS L xs mi) (zstep (.ifCond v w0) a cs k ls st μ) := by
  have hd0 : decode (zby mi) pc = .ok (.ifCond v w0, 3) := (zdk_p hd).resolve_left (by rintro ⟨_, _, _, _, h⟩; cases h)
  have hp : zpcs C (k + 1) = pc + 3 := zfl_p hf
  obtain ⟨al, ag, as, aP, aM, aS⟩ := hA
  refine zi1_ok as (fun v1 r ra hsa hv hr => ?_)
  subst hsa
  have hg : zK p l e R s m args below meth c cells slots Q b0 D ca adK adV bS L xs mi C (a, ls, r, μ) → W p l e R s m args below meth c H locs cells slots Q (F0 m (zpcs C a) la ra) := fun hK => hK _ _ _ _ ⟨al, ag, hr, aP, aM, aS⟩
  have hn : zK p l e R s m args below meth c cells slots Q b0 D ca adK adV bS L xs mi C (k + 1, ls, r, μ) → W p l e R s m args below meth c H locs cells slots Q (F0 m (pc + 3) la ra) := fun hK => by rw [← hp]; exact hK _ _ _ _ ⟨al, ag, hr, aP, aM, aS⟩
  cases v
  · intro hk1 hk2
    exact lv_if_eq hx hb hd0 (zgt_p h1) (fun h => hg (hk1 (by rw [show (0 : Int32) = Int32.ofInt 0 from rfl] at h; exact (zn_eq hv zin_z).mp h))) (fun h => hn (hk2 (by rw [show (0 : Int32) = Int32.ofInt 0 from rfl] at h; exact fun q => h ((zn_eq hv zin_z).mpr q))))
  · intro hk1 hk2
    exact lv_if_ne hx hb hd0 (zgt_p h1) (fun h => hg (hk2 (by rw [show (0 : Int32) = Int32.ofInt 0 from rfl] at h; exact fun q => h ((zn_eq hv zin_z).mpr q)))) (fun h => hn (hk1 (by rw [show (0 : Int32) = Int32.ofInt 0 from rfl] at h; exact (zn_eq hv zin_z).mp h)))
  · intro hk1 hk2
    exact lv_if_lt hx hb hd0 (zgt_p h1) (fun h => hg (hk1 (by rw [show (0 : Int32) = Int32.ofInt 0 from rfl] at h; exact (zn_lt hv zin_z).mp h))) (fun h => hn (hk2 (by rw [show (0 : Int32) = Int32.ofInt 0 from rfl] at h; exact fun q => h ((zn_lt hv zin_z).mpr q))))
  · intro hk1 hk2
    exact lv_if_ge hx hb hd0 (zgt_p h1) (fun h => hg (hk2 (by rw [show (0 : Int32) = Int32.ofInt 0 from rfl] at h; have h5 := (zn_le zin_z hv).mp h; exact fun q => by omega))) (fun h => hn (hk1 (by rw [show (0 : Int32) = Int32.ofInt 0 from rfl] at h; exact Int.not_le.mp fun q => h ((zn_le zin_z hv).mpr q))))
  · intro hk1 hk2
    exact lv_if_gt hx hb hd0 (zgt_p h1) (fun h => hg (hk1 (by rw [show (0 : Int32) = Int32.ofInt 0 from rfl] at h; exact (zn_lt zin_z hv).mp h))) (fun h => hn (hk2 (by rw [show (0 : Int32) = Int32.ofInt 0 from rfl] at h; exact fun q => h ((zn_lt zin_z hv).mpr q))))
  · intro hk1 hk2
    exact lv_if_le hx hb hd0 (zgt_p h1) (fun h => hg (hk2 (by rw [show (0 : Int32) = Int32.ofInt 0 from rfl] at h; have h5 := (zn_le hv zin_z).mp h; exact fun q => by omega))) (fun h => hn (hk1 (by rw [show (0 : Int32) = Int32.ofInt 0 from rfl] at h; exact Int.not_le.mp fun q => h ((zn_le hv zin_z).mpr q))))
theorem zc_dup (hx : p.tables.exec = Jvm.exec) (hb : c.code = zby mi) (hml : c.maxLocals = zml mi) (hown : s.vm.findClass (zy mi).cls = some m.cls) (hts : ∀ w ∈ zTs, w.before args s = true) (hB : zBk b0 D ca adK adV bS L xs s) (hR : zfr mi ≤ R.frames ∧ zlo mi ≤ R.locals ∧ cells ≤ R.cells ∧ slots ≤ R.slots) {k pc a : Nat} {cs : List (Int × Nat)} (hd : zdk (zby mi) pc (.dup) = true) (hf : zfall C k pc (.dup) = true) (h1 : zchk1 mi C pc (.dup) a cs = true) (h2 : zOK2 (zy mi).cls (.dup) a cs) {ls st : List mzV} {μ : mzM} {H : Heap} {locs : List Loc} {la : Array Slot} {sa : List Value} (hA : zA b0 D ca adK adV bS L xs s mi ls st μ H locs la sa) : zgoal (W p l e R s m args below meth c H locs cells slots Q (F0 m pc la sa)) (zK p l e R s m args below meth c cells slots Q b0 D ca adK adV bS L xs mi C) (zKC p l e R s m args below meth c cells slots Q b0 D ca adK adV bS L xs mi C) (zKE p l e R s m args below meth c cells slots Q b0 D ca adK adV bS L xs mi) (zstep (.dup) a cs k ls st μ) := by
  have hd0 : decode (zby mi) pc = .ok (.dup, 1) := (zdk_p hd).resolve_left (by rintro ⟨_, _, _, _, h⟩; cases h)
  have hp : zpcs C (k + 1) = pc + 1 := zfl_p hf
  obtain ⟨al, ag, as, aP, aM, aS⟩ := hA
  match st, as with
  | [], _ => trivial
  | none :: _, _ => trivial
  | some v :: r, as =>
    obtain ⟨v0, ra, rfl, hv, hr⟩ := zrs_un as
    have hc := zrv_cat hv
    rw [show zstep .dup a cs k ls (some v :: r) μ = (match zisL (some v) with | false => sN (k + 1, ls, some v :: some v :: r, μ) | true => none) from rfl]
    cases hz : zisL (some v) with
    | true => trivial
    | false =>
      rw [hz] at hc
      intro hK
      refine lv_dup hx hb hd0 hc ?_
      rw [← hp]
      exact hK _ _ _ _ ⟨al, ag, zrs_cons hv (zrs_cons hv hr), aP, aM, aS⟩
theorem zc_pop (hx : p.tables.exec = Jvm.exec) (hb : c.code = zby mi) (hml : c.maxLocals = zml mi) (hown : s.vm.findClass (zy mi).cls = some m.cls) (hts : ∀ w ∈ zTs, w.before args s = true) (hB : zBk b0 D ca adK adV bS L xs s) (hR : zfr mi ≤ R.frames ∧ zlo mi ≤ R.locals ∧ cells ≤ R.cells ∧ slots ≤ R.slots) {k pc a : Nat} {cs : List (Int × Nat)} (hd : zdk (zby mi) pc (.pop) = true) (hf : zfall C k pc (.pop) = true) (h1 : zchk1 mi C pc (.pop) a cs = true) (h2 : zOK2 (zy mi).cls (.pop) a cs) {ls st : List mzV} {μ : mzM} {H : Heap} {locs : List Loc} {la : Array Slot} {sa : List Value} (hA : zA b0 D ca adK adV bS L xs s mi ls st μ H locs la sa) : zgoal (W p l e R s m args below meth c H locs cells slots Q (F0 m pc la sa)) (zK p l e R s m args below meth c cells slots Q b0 D ca adK adV bS L xs mi C) (zKC p l e R s m args below meth c cells slots Q b0 D ca adK adV bS L xs mi C) (zKE p l e R s m args below meth c cells slots Q b0 D ca adK adV bS L xs mi) (zstep (.pop) a cs k ls st μ) := by
  have hd0 : decode (zby mi) pc = .ok (.pop, 1) := (zdk_p hd).resolve_left (by rintro ⟨_, _, _, _, h⟩; cases h)
  have hp : zpcs C (k + 1) = pc + 1 := zfl_p hf
  obtain ⟨al, ag, as, aP, aM, aS⟩ := hA
  match st, as with
  | [], _ => trivial
  | none :: _, _ => trivial
  | some v :: r, as =>
    obtain ⟨v0, ra, rfl, hv, hr⟩ := zrs_un as
    have hc := zrv_cat hv
    rw [show zstep .pop a cs k ls (some v :: r) μ = (match zisL (some v) with | false => sN (k + 1, ls, r, μ) | true => none) from rfl]
    cases hz : zisL (some v) with
    | true => trivial
    | false =>
      rw [hz] at hc
      intro hK
      refine lv_pop hx hb hd0 hc ?_
      rw [← hp]
      exact hK _ _ _ _ ⟨al, ag, hr, aP, aM, aS⟩
theorem zc_dup2 (hx : p.tables.exec = Jvm.exec) (hb : c.code = zby mi) (hml : c.maxLocals = zml mi) (hown : s.vm.findClass (zy mi).cls = some m.cls) (hts : ∀ w ∈ zTs, w.before args s = true) (hB : zBk b0 D ca adK adV bS L xs s) (hR : zfr mi ≤ R.frames ∧ zlo mi ≤ R.locals ∧ cells ≤ R.cells ∧ slots ≤ R.slots) {k pc a : Nat} {cs : List (Int × Nat)} (hd : zdk (zby mi) pc (.dup2) = true) (hf : zfall C k pc (.dup2) = true) (h1 : zchk1 mi C pc (.dup2) a cs = true) (h2 : zOK2 (zy mi).cls (.dup2) a cs) {ls st : List mzV} {μ : mzM} {H : Heap} {locs : List Loc} {la : Array Slot} {sa : List Value} (hA : zA b0 D ca adK adV bS L xs s mi ls st μ H locs la sa) : zgoal (W p l e R s m args below meth c H locs cells slots Q (F0 m pc la sa)) (zK p l e R s m args below meth c cells slots Q b0 D ca adK adV bS L xs mi C) (zKC p l e R s m args below meth c cells slots Q b0 D ca adK adV bS L xs mi C) (zKE p l e R s m args below meth c cells slots Q b0 D ca adK adV bS L xs mi) (zstep (.dup2) a cs k ls st μ) := by
  have hd0 : decode (zby mi) pc = .ok (.dup2, 1) := (zdk_p hd).resolve_left (by rintro ⟨_, _, _, _, h⟩; cases h)
  have hp : zpcs C (k + 1) = pc + 1 := zfl_p hf
  obtain ⟨al, ag, as, aP, aM, aS⟩ := hA
  match st, as with
  | [], _ => trivial
  | none :: _, _ => trivial
  | [some _], _ => trivial
  | some _ :: none :: _, _ => trivial
  | some v :: some w :: r, as =>
    obtain ⟨v0, r0, rfl, hv, h0⟩ := zrs_un as
    obtain ⟨w0, ra, rfl, hw, hr⟩ := zrs_un h0
    have hc := zrv_cat hv
    have hc2 := zrv_cat hw
    rw [show zstep .dup2 a cs k ls (some v :: some w :: r) μ = (match zisL (some v) || zisL (some w) with | false => sN (k + 1, ls, some v :: some w :: some v :: some w :: r, μ) | true => none) from rfl]
    cases hz : zisL (some v) with
    | true => trivial
    | false =>
      cases hz2 : zisL (some w) with
      | true => trivial
      | false =>
        rw [hz] at hc
        rw [hz2] at hc2
        intro hK
        refine lv_dup2_11 hx hb hd0 hc hc2 ?_
        rw [← hp]
        exact hK _ _ _ _ ⟨al, ag, zrs_cons hv (zrs_cons hw (zrs_cons hv (zrs_cons hw hr))), aP, aM, aS⟩
end Sim
end
section
section Sim
variable {p : Program} {l : Launch} {e : Env} {R : Room} {s : State} {m : MethodId} {args : Array Value} {below : List Frame} {meth : Method} {c : Code} {cells slots : Nat} {Q : State → Prop}
variable {b0 : Nat} {D : va_G} {ca : Nat → ClassId} {adK adV : Nat → Nat} {bS L : Nat} {xs : Nat → Int32} {mi : Nat} {C : List mzN}
theorem zc_iinc (hx : p.tables.exec = Jvm.exec) (hb : c.code = zby mi) (hml : c.maxLocals = zml mi) (hown : s.vm.findClass (zy mi).cls = some m.cls) (hts : ∀ w ∈ zTs, w.before args s = true) (hB : zBk b0 D ca adK adV bS L xs s) (hR : zfr mi ≤ R.frames ∧ zlo mi ≤ R.locals ∧ cells ≤ R.cells ∧ slots ≤ R.slots) {v : Nat} {n : Int} {k pc a : Nat} {cs : List (Int × Nat)} (hd : zdk (zby mi) pc (.iinc v n) = true) (hf : zfall C k pc (.iinc v n) = true) (h1 : zchk1 mi C pc (.iinc v n) a cs = true) (h2 : zOK2 (zy mi).cls (.iinc v n) a cs) {ls st : List mzV} {μ : mzM} {H : Heap} {locs : List Loc} {la : Array Slot} {sa : List Value} (hA : zA b0 D ca adK adV bS L xs s mi ls st μ H locs la sa) : zgoal (W p l e R s m args below meth c H locs cells slots Q (F0 m pc la sa)) (zK p l e R s m args below meth c cells slots Q b0 D ca adK adV bS L xs mi C) (zKC p l e R s m args below meth c cells slots Q b0 D ca adK adV bS L xs mi C) (zKE p l e R s m args below meth c cells slots Q b0 D ca adK adV bS L xs mi) (zstep (.iinc v n) a cs k ls st μ) := by
  have hd0 : decode (zby mi) pc = .ok (.iinc v n, 3) := (zdk_p hd).resolve_left (by rintro ⟨_, _, _, _, h⟩; cases h)
  have hp : zpcs C (k + 1) = pc + 3 := zfl_p hf
  obtain ⟨al, ag, as, aP, aM, aS⟩ := hA
  have h3 := Bool.and_eq_true_iff.mp h1
  have h4 := Bool.and_eq_true_iff.mp h3.1
  have h5 : -32768 ≤ n := of_decide_eq_true h4.2
  have h6 : n ≤ 32767 := of_decide_eq_true h3.2
  have hn : zin n := by constructor <;> omega
  show zgoal _ _ _ _ (zld ls v (fun u => match u with | some (.inl y) => zst ls v (vI (y + n)) fun l1 => sG (zin (y + n)) inferInstance (k + 1, l1, st, μ) | _ => none))
  refine zld_ok al (fun w v0 hw hv hl => ?_)
  rcases w with y | y | ⟨t, i⟩
  · show zgoal _ _ _ _ (zst ls v (vI (y + n)) fun l1 => sG (zin (y + n)) inferInstance (k + 1, l1, st, μ))
    refine zst_ok ?_
    intro hq hK
    have hq : zin (y + n) := hq
    obtain ⟨hy, rfl⟩ := hv
    have hlt : v < la.size := by
      rw [al.1, ag.1]
      exact Nat.blt_eq.mp (Bool.and_eq_true_iff.mp h4.1).1
    obtain ⟨j, hj⟩ := List.getElem?_of_mem (zlv_mem.mpr hl)
    refine lv_iinc (v := Int32.ofInt (y + n)) hx hb hd0 (zlv_has al.2.1) hj (zn_add hy hn hq) hlt rfl (fun l1 hl1 => ?_)
    obtain ⟨z1, z2⟩ := zrl_set (b0 := b0) (adK := adK) (adV := adV) (bS := bS) al ag h4.1 (zrv_I hq) rfl hl1
    rw [← hp]
    exact hK _ _ _ _ ⟨z1, z2, as, aP, aM, aS⟩
  · trivial
  · trivial
theorem zrl_set2 {ls : List mzV} {la la' : Array Slot} {i : Nat} {n : Int} (h : zrl b0 adK adV bS ls la) (hg : zlgo mi ls) (hi : zsto mi i = true) (hz : zlg mi i = true) (hl : i + 1 < ls.length) (hv : zin6 n)
    (h' : lv_has la' la.size ((i, .long (Int64.ofInt n)) :: (zlv la).filter (fun q => !(q.1 == i) && (!(q.1 == i + 1) && !(q.1 + 1 == i && q.2.category == 2))))) : zrl b0 adK adV bS ((ls.set i (vL n)).set (i + 1) none) la' ∧ zlgo mi ((ls.set i (vL n)).set (i + 1) none) := by
  refine ⟨⟨by rw [List.length_set, List.length_set, ← h.1]; exact h'.1, h'.2.1, fun j x hj => ?_⟩, by rw [List.length_set, List.length_set]; exact hg.1, fun j y hj => ?_⟩
  · by_cases hj1 : j = i + 1
    · rw [hj1, List.getElem?_set_self (by rw [List.length_set]; exact hl)] at hj
      cases hj
    · rw [List.getElem?_set_ne (Ne.symm hj1)] at hj
      by_cases hji : j = i
      · rw [hji, List.getElem?_set_self (by omega)] at hj
        cases hj
        exact ⟨.long (Int64.ofInt n), zrv_L hv, by rw [hji]; exact h'.2.2 (i, .long (Int64.ofInt n)) List.mem_cons_self⟩
      · rw [List.getElem?_set_ne (Ne.symm hji)] at hj
        obtain ⟨u, hu, hq⟩ := h.2.2 j x hj
        refine ⟨u, hu, h'.2.2 (j, u) (List.mem_cons_of_mem _ (List.mem_filter.mpr ⟨zlv_mem.mpr hq, ?_⟩))⟩
        simp only [Bool.and_eq_true, Bool.not_eq_true', beq_eq_false_iff_ne, ne_eq, Bool.and_eq_false_iff]
        refine ⟨hji, hj1, ?_⟩
        by_cases hj2 : j + 1 = i
        · right
          intro hc
          rw [zrv_cat hu] at hc
          have hl2 : zisL (some x) = true := by
            cases hx : zisL (some x) with
            | true => rfl
            | false => rw [hx] at hc; exact absurd hc (by decide)
          rcases x with y | y | ⟨t, k⟩
          · cases hl2
          · have h8 := hg.2 j y hj
            subst hj2
            unfold zsto at hi
            simp only [Bool.and_eq_true, Bool.not_eq_true'] at hi
            rw [h8] at hi
            exact absurd hi.2 (by decide)
          · cases hl2
        · exact Or.inl hj2
  · by_cases hj1 : j = i + 1
    · rw [hj1, List.getElem?_set_self (by rw [List.length_set]; exact hl)] at hj
      cases hj
    · rw [List.getElem?_set_ne (Ne.symm hj1)] at hj
      by_cases hji : j = i
      · rw [hji]; exact hz
      · rw [List.getElem?_set_ne (Ne.symm hji)] at hj
        exact hg.2 j y hj
theorem zc_lstore_n (hx : p.tables.exec = Jvm.exec) (hb : c.code = zby mi) (hml : c.maxLocals = zml mi) (hown : s.vm.findClass (zy mi).cls = some m.cls) (hts : ∀ w ∈ zTs, w.before args s = true) (hB : zBk b0 D ca adK adV bS L xs s) (hR : zfr mi ≤ R.frames ∧ zlo mi ≤ R.locals ∧ cells ≤ R.cells ∧ slots ≤ R.slots) {v : Fin 4} {k pc a : Nat} {cs : List (Int × Nat)} (hd : zdk (zby mi) pc (.lstore_n v) = true) (hf : zfall C k pc (.lstore_n v) = true) (h1 : zchk1 mi C pc (.lstore_n v) a cs = true) (h2 : zOK2 (zy mi).cls (.lstore_n v) a cs) {ls st : List mzV} {μ : mzM} {H : Heap} {locs : List Loc} {la : Array Slot} {sa : List Value} (hA : zA b0 D ca adK adV bS L xs s mi ls st μ H locs la sa) : zgoal (W p l e R s m args below meth c H locs cells slots Q (F0 m pc la sa)) (zK p l e R s m args below meth c cells slots Q b0 D ca adK adV bS L xs mi C) (zKC p l e R s m args below meth c cells slots Q b0 D ca adK adV bS L xs mi C) (zKE p l e R s m args below meth c cells slots Q b0 D ca adK adV bS L xs mi) (zstep (.lstore_n v) a cs k ls st μ) := by
  have hd0 : decode (zby mi) pc = .ok (.lstore_n v, 1) := (zdk_p hd).resolve_left (by rintro ⟨_, _, _, _, h⟩; cases h)
  have hp : zpcs C (k + 1) = pc + 1 := zfl_p hf
  obtain ⟨al, ag, as, aP, aM, aS⟩ := hA
  have h3 := Bool.and_eq_true_iff.mp h1
  have h4 := Bool.and_eq_true_iff.mp h3.1
  have hlt : v.val + 1 < ls.length := by rw [ag.1]; exact Nat.blt_eq.mp h3.2
  refine zl1_ok as (fun n r ra hsa hn hr => ?_)
  subst hsa
  show zgoal _ _ _ _ (match Nat.blt (v.val + 1) ls.length with | true => zst ls v.val (vL n) fun l1 => sN (k + 1, l1.set (v.val + 1) none, r, μ) | false => none)
  rw [Nat.blt_eq.mpr hlt]
  show zgoal _ _ _ _ (zst ls v.val (vL n) fun l1 => sN (k + 1, l1.set (v.val + 1) none, r, μ))
  refine zst_ok ?_
  intro hK
  refine lv_lstore_n hx hb hd0 rfl (zlv_has al.2.1) (by rw [al.1]; exact hlt) rfl (fun l1 hl1 => ?_)
  obtain ⟨z1, z2⟩ := zrl_set2 (b0 := b0) (adK := adK) (adV := adV) (bS := bS) al ag h4.1 h4.2 hlt hn hl1
  rw [← hp]
  exact hK _ _ _ _ ⟨z1, z2, hr, aP, aM, aS⟩
theorem zc_lstore (hx : p.tables.exec = Jvm.exec) (hb : c.code = zby mi) (hml : c.maxLocals = zml mi) (hown : s.vm.findClass (zy mi).cls = some m.cls) (hts : ∀ w ∈ zTs, w.before args s = true) (hB : zBk b0 D ca adK adV bS L xs s) (hR : zfr mi ≤ R.frames ∧ zlo mi ≤ R.locals ∧ cells ≤ R.cells ∧ slots ≤ R.slots) {v : Nat} {k pc a : Nat} {cs : List (Int × Nat)} (hd : zdk (zby mi) pc (.lstore v) = true) (hf : zfall C k pc (.lstore v) = true) (h1 : zchk1 mi C pc (.lstore v) a cs = true) (h2 : zOK2 (zy mi).cls (.lstore v) a cs) {ls st : List mzV} {μ : mzM} {H : Heap} {locs : List Loc} {la : Array Slot} {sa : List Value} (hA : zA b0 D ca adK adV bS L xs s mi ls st μ H locs la sa) : zgoal (W p l e R s m args below meth c H locs cells slots Q (F0 m pc la sa)) (zK p l e R s m args below meth c cells slots Q b0 D ca adK adV bS L xs mi C) (zKC p l e R s m args below meth c cells slots Q b0 D ca adK adV bS L xs mi C) (zKE p l e R s m args below meth c cells slots Q b0 D ca adK adV bS L xs mi) (zstep (.lstore v) a cs k ls st μ) := by
  have hd0 : decode (zby mi) pc = .ok (.lstore v, 2) := (zdk_p hd).resolve_left (by rintro ⟨_, _, _, _, h⟩; cases h)
  have hp : zpcs C (k + 1) = pc + 2 := zfl_p hf
  obtain ⟨al, ag, as, aP, aM, aS⟩ := hA
  have h3 := Bool.and_eq_true_iff.mp h1
  have h4 := Bool.and_eq_true_iff.mp h3.1
  have hlt : v + 1 < ls.length := by rw [ag.1]; exact Nat.blt_eq.mp h3.2
  refine zl1_ok as (fun n r ra hsa hn hr => ?_)
  subst hsa
  show zgoal _ _ _ _ (match Nat.blt (v + 1) ls.length with | true => zst ls v (vL n) fun l1 => sN (k + 1, l1.set (v + 1) none, r, μ) | false => none)
  rw [Nat.blt_eq.mpr hlt]
  show zgoal _ _ _ _ (zst ls v (vL n) fun l1 => sN (k + 1, l1.set (v + 1) none, r, μ))
  refine zst_ok ?_
  intro hK
  refine lv_lstore hx hb hd0 (zlv_has al.2.1) (by rw [al.1]; exact hlt) rfl (fun l1 hl1 => ?_)
  obtain ⟨z1, z2⟩ := zrl_set2 (b0 := b0) (adK := adK) (adV := adV) (bS := bS) al ag h4.1 h4.2 hlt hn hl1
  rw [← hp]
  exact hK _ _ _ _ ⟨z1, z2, hr, aP, aM, aS⟩
theorem zc_ifnull (hx : p.tables.exec = Jvm.exec) (hb : c.code = zby mi) (hml : c.maxLocals = zml mi) (hown : s.vm.findClass (zy mi).cls = some m.cls) (hts : ∀ w ∈ zTs, w.before args s = true) (hB : zBk b0 D ca adK adV bS L xs s) (hR : zfr mi ≤ R.frames ∧ zlo mi ≤ R.locals ∧ cells ≤ R.cells ∧ slots ≤ R.slots) {v : Int} {k pc a : Nat} {cs : List (Int × Nat)} (hd : zdk (zby mi) pc (.ifnull v) = true) (hf : zfall C k pc (.ifnull v) = true) (h1 : zchk1 mi C pc (.ifnull v) a cs = true) (h2 : zOK2 (zy mi).cls (.ifnull v) a cs) {ls st : List mzV} {μ : mzM} {H : Heap} {locs : List Loc} {la : Array Slot} {sa : List Value} (hA : zA b0 D ca adK adV bS L xs s mi ls st μ H locs la sa) : zgoal (W p l e R s m args below meth c H locs cells slots Q (F0 m pc la sa)) (zK p l e R s m args below meth c cells slots Q b0 D ca adK adV bS L xs mi C) (zKC p l e R s m args below meth c cells slots Q b0 D ca adK adV bS L xs mi C) (zKE p l e R s m args below meth c cells slots Q b0 D ca adK adV bS L xs mi) (zstep (.ifnull v) a cs k ls st μ) := by
  have hd0 : decode (zby mi) pc = .ok (.ifnull v, 3) := (zdk_p hd).resolve_left (by rintro ⟨_, _, _, _, h⟩; cases h)
  have hp : zpcs C (k + 1) = pc + 3 := zfl_p hf
  obtain ⟨al, ag, as, aP, aM, aS⟩ := hA
  refine zr1_ok as (fun t i r v0 ra hsa hv hr => ?_)
  subst hsa
  show zgoal _ _ _ _ (match Nat.beq t 99, Nat.beq t 98 with | true, _ => sN (a, ls, r, μ) | false, false => sN (k + 1, ls, r, μ) | _, _ => none)
  cases h99 : Nat.beq t 99 with
  | true =>
    have hv1 := zrv_null hv (Nat.eq_of_beq_eq_true h99)
    subst hv1
    intro hK
    refine lv_ifnullN hx hb hd0 (zgt_p h1) ?_
    exact hK _ _ _ _ ⟨al, ag, hr, aP, aM, aS⟩
  | false =>
    cases h98 : Nat.beq t 98 with
    | true => trivial
    | false =>
      obtain ⟨a0, hv1⟩ := zrv_nn hv (fun q => by rw [q] at h99; cases h99) (fun q => by rw [q] at h98; cases h98)
      subst hv1
      intro hK
      refine lv_ifnull hx hb hd0 ?_
      rw [← hp]
      exact hK _ _ _ _ ⟨al, ag, hr, aP, aM, aS⟩
theorem zc_ifnonnull (hx : p.tables.exec = Jvm.exec) (hb : c.code = zby mi) (hml : c.maxLocals = zml mi) (hown : s.vm.findClass (zy mi).cls = some m.cls) (hts : ∀ w ∈ zTs, w.before args s = true) (hB : zBk b0 D ca adK adV bS L xs s) (hR : zfr mi ≤ R.frames ∧ zlo mi ≤ R.locals ∧ cells ≤ R.cells ∧ slots ≤ R.slots) {v : Int} {k pc a : Nat} {cs : List (Int × Nat)} (hd : zdk (zby mi) pc (.ifnonnull v) = true) (hf : zfall C k pc (.ifnonnull v) = true) (h1 : zchk1 mi C pc (.ifnonnull v) a cs = true) (h2 : zOK2 (zy mi).cls (.ifnonnull v) a cs) {ls st : List mzV} {μ : mzM} {H : Heap} {locs : List Loc} {la : Array Slot} {sa : List Value} (hA : zA b0 D ca adK adV bS L xs s mi ls st μ H locs la sa) : zgoal (W p l e R s m args below meth c H locs cells slots Q (F0 m pc la sa)) (zK p l e R s m args below meth c cells slots Q b0 D ca adK adV bS L xs mi C) (zKC p l e R s m args below meth c cells slots Q b0 D ca adK adV bS L xs mi C) (zKE p l e R s m args below meth c cells slots Q b0 D ca adK adV bS L xs mi) (zstep (.ifnonnull v) a cs k ls st μ) := by
  have hd0 : decode (zby mi) pc = .ok (.ifnonnull v, 3) := (zdk_p hd).resolve_left (by rintro ⟨_, _, _, _, h⟩; cases h)
  have hp : zpcs C (k + 1) = pc + 3 := zfl_p hf
  obtain ⟨al, ag, as, aP, aM, aS⟩ := hA
  refine zr1_ok as (fun t i r v0 ra hsa hv hr => ?_)
  subst hsa
  show zgoal _ _ _ _ (match Nat.beq t 99, Nat.beq t 98 with | true, _ => sN (k + 1, ls, r, μ) | false, false => sN (a, ls, r, μ) | _, _ => none)
  cases h99 : Nat.beq t 99 with
  | true =>
    have hv1 := zrv_null hv (Nat.eq_of_beq_eq_true h99)
    subst hv1
    intro hK
    refine lv_ifnonnullN hx hb hd0 ?_
    rw [← hp]
    exact hK _ _ _ _ ⟨al, ag, hr, aP, aM, aS⟩
  | false =>
    cases h98 : Nat.beq t 98 with
    | true => trivial
    | false =>
      obtain ⟨a0, hv1⟩ := zrv_nn hv (fun q => by rw [q] at h99; cases h99) (fun q => by rw [q] at h98; cases h98)
      subst hv1
      intro hK
      refine lv_ifnonnull hx hb hd0 (zgt_p h1) ?_
      exact hK _ _ _ _ ⟨al, ag, hr, aP, aM, aS⟩
theorem zsw_pick {C : List mzN} {pc d : Nat} : ∀ (os : List Int) (cs : List (Int × Nat)) (lo : Int), zsw C pc lo os cs = true → ∀ v : Int, (lo ≤ v → v < lo + (os.length : Int) → ∃ off, os[(v - lo).toNat]? = some off ∧ (pc : Int) + off = (zpcs C (zpick v cs d) : Int)) ∧ ((v < lo ∨ lo + (os.length : Int) ≤ v) → zpick v cs d = d)
  | [], cs, lo, h, v => by
    cases cs with
    | nil => exact ⟨fun h1 h2 => by simp at h2; omega, fun _ => rfl⟩
    | cons x cs => cases h
  | o :: os, cs, lo, h, v => by
    cases cs with
    | nil => cases h
    | cons x cs =>
      obtain ⟨u, a⟩ := x
      simp only [zsw, Bool.and_eq_true, decide_eq_true_eq] at h
      obtain ⟨⟨h1, h2⟩, h3⟩ := h
      obtain ⟨i1, i2⟩ := zsw_pick (d := d) os cs (lo + 1) h3 v
      subst h1
      constructor
      · intro g1 g2
        by_cases hv : v = u
        · subst hv
          refine ⟨o, by simp, ?_⟩
          unfold zpick
          rw [if_pos rfl]
          exact zgt_p h2
        · obtain ⟨off, e1, e2⟩ := i1 (by omega) (by simp only [List.length_cons] at g2; omega)
          refine ⟨off, ?_, ?_⟩
          · rw [show (v - u).toNat = (v - (u + 1)).toNat + 1 from by omega, List.getElem?_cons_succ]
            exact e1
          · unfold zpick
            rw [if_neg hv]
            exact e2
      · intro g
        unfold zpick
        simp only [List.length_cons] at g
        rw [if_neg (by omega)]
        exact i2 (by omega)
theorem zc_tableswitch (hx : p.tables.exec = Jvm.exec) (hb : c.code = zby mi) (hml : c.maxLocals = zml mi) (hown : s.vm.findClass (zy mi).cls = some m.cls) (hts : ∀ w ∈ zTs, w.before args s = true) (hB : zBk b0 D ca adK adV bS L xs s) (hR : zfr mi ≤ R.frames ∧ zlo mi ≤ R.locals ∧ cells ≤ R.cells ∧ slots ≤ R.slots) {d lo hi : Int} {os : Array Int} {k pc a : Nat} {cs : List (Int × Nat)} (hd : zdk (zby mi) pc (.tableswitch d lo hi os) = true) (hf : zfall C k pc (.tableswitch d lo hi os) = true) (h1 : zchk1 mi C pc (.tableswitch d lo hi os) a cs = true) (h2 : zOK2 (zy mi).cls (.tableswitch d lo hi os) a cs) {ls st : List mzV} {μ : mzM} {H : Heap} {locs : List Loc} {la : Array Slot} {sa : List Value} (hA : zA b0 D ca adK adV bS L xs s mi ls st μ H locs la sa) : zgoal (W p l e R s m args below meth c H locs cells slots Q (F0 m pc la sa)) (zK p l e R s m args below meth c cells slots Q b0 D ca adK adV bS L xs mi C) (zKC p l e R s m args below meth c cells slots Q b0 D ca adK adV bS L xs mi C) (zKE p l e R s m args below meth c cells slots Q b0 D ca adK adV bS L xs mi) (zstep (.tableswitch d lo hi os) a cs k ls st μ) := by
  obtain ⟨al, ag, as, aP, aM, aS⟩ := hA
  have hd1 : ∃ n, decode (zby mi) pc = .ok (.tableswitch d lo hi os, n) := by
    unfold zdk at hd
    dsimp only at hd
    split at hd
    · next J n hj => exact ⟨n, by rw [hj, of_decide_eq_true hd]⟩
    · cases hd
  obtain ⟨n, hd1⟩ := hd1
  have h3 := Bool.and_eq_true_iff.mp h1
  have h4 := Bool.and_eq_true_iff.mp h3.1
  have h5 : hi = lo + (os.size : Int) - 1 := of_decide_eq_true h3.2
  refine zi1_ok as (fun v r ra hsa hv hr => ?_)
  subst hsa
  intro hK
  have hv2 := zi_to hv
  obtain ⟨i1, i2⟩ := zsw_pick (d := a) _ _ _ h4.2 v
  have hlen : os.toList.length = os.size := by simp
  rw [hlen] at i1 i2
  by_cases hin : lo ≤ v ∧ v < lo + (os.size : Int)
  · obtain ⟨off, e1, e2⟩ := i1 hin.1 hin.2
    refine lv_tableIn hx hb hd1 (by rw [hv2]; omega) (by rw [hv2]; omega) (off := off) (by rw [hv2, ← Array.getElem?_toList]; exact e1) e2 ?_
    exact hK _ _ _ _ ⟨al, ag, hr, aP, aM, aS⟩
  · have h6 := i2 (by omega)
    refine lv_tableOut hx hb hd1 (by rw [hv2]; omega) (zgt_p h4.1) ?_
    rw [← h6]
    exact hK _ _ _ _ ⟨al, ag, hr, aP, aM, aS⟩
theorem zcel_obj {μ : mzM} {t i : Nat} (h : zrow t = 0) : zcel b0 ca μ t i = .inr (zci t, (zfl t).map (zval b0 μ (i : Int))) := by unfold zcel; rw [h]; rfl
theorem zfl_kd : ∀ t, t < 30 → ∀ q ∈ zfl t, q.1 < 4 := by decide +kernel
theorem zfa_of {t k : Nat} {q : Nat × Nat × Nat × Int} (h : (zfl t)[k]? = some q) : zfa t k = q := by unfold zfa; rw [List.getD_eq_getElem?_getD, h]; rfl
/-- a field that is read: what the machine finds there -/
theorem zget_ok (hx : p.tables.exec = Jvm.exec) (hb : c.code = zby mi) (hown : s.vm.findClass (zy mi).cls = some m.cls) (hts : ∀ w ∈ zTs, w.before args s = true) (hB : zBk b0 D ca adK adV bS L xs s) {pc idx t k : Nat} {i : Nat} {q : Nat × Nat × Nat × Int} {μ : mzM} {H : Heap} {locs : List Loc} {la : Array Slot} {ra : List Value}
    (hz : i < zcnt t) (h0 : zrow t = 0) (hq : (zfl t)[k]? = some q) (hl : zFL (zy mi).cls idx t k) (hd0 : decode (zby mi) pc = .ok (.getfield idx, 3)) (aP : va_P D zcl (zws b0 ca μ) H)
    (kk : W p l e R s m args below meth c H locs cells slots Q (F0 m (pc + 3) la (zval b0 μ (i : Int) q :: ra))) : W p l e R s m args below meth c H locs cells slots Q (F0 m pc la (.ref (b0 + zpos t i) :: ra)) := by
  obtain ⟨CC, T, N, ty, c1, c2, c3, c4, c5, c6, c7, c8⟩ := zcls_of (zcnt_lt hz) (Nat.lt_of_le_of_lt (Nat.zero_le _) hz) h0
  have hkN : k < N := by rw [c6]; exact (List.getElem?_eq_some_iff.mp hq).1
  have he := zws_at b0 ca μ hz
  rw [zcel_obj h0] at he
  have hv : ((zfl t).map (zval b0 μ (i : Int)))[k]? = some (zval b0 μ (i : Int) q) := by rw [List.getElem?_map, hq]; rfl
  unfold zFL at hl
  rw [c2] at hl
  rcases hl with hl | hl
  · exact va_get (ref := CC) hx hb hts c3 hown hB.1 aP _ he c1 k hkN (hts _ hl) (fun x h => by rw [c7 k hkN] at h; exact h) hv hd0 kk
  · exact va_getN (ref := CC) (host := "FrameDeltas") hx hb hts c3 hown hB.1 aP _ he c1 k hkN (va_Nw.use rfl (hB.2.2.2 _ hl)) (fun x h => by rw [c7 k hkN] at h; exact h) hv hd0 kk
theorem zc_getfield (hx : p.tables.exec = Jvm.exec) (hb : c.code = zby mi) (hml : c.maxLocals = zml mi) (hown : s.vm.findClass (zy mi).cls = some m.cls) (hts : ∀ w ∈ zTs, w.before args s = true) (hB : zBk b0 D ca adK adV bS L xs s) (hR : zfr mi ≤ R.frames ∧ zlo mi ≤ R.locals ∧ cells ≤ R.cells ∧ slots ≤ R.slots) {v : Nat} {k pc a : Nat} {cs : List (Int × Nat)} (hd : zdk (zby mi) pc (.getfield v) = true) (hf : zfall C k pc (.getfield v) = true) (h1 : zchk1 mi C pc (.getfield v) a cs = true) (h2 : zOK2 (zy mi).cls (.getfield v) a cs) {ls st : List mzV} {μ : mzM} {H : Heap} {locs : List Loc} {la : Array Slot} {sa : List Value} (hA : zA b0 D ca adK adV bS L xs s mi ls st μ H locs la sa) : zgoal (W p l e R s m args below meth c H locs cells slots Q (F0 m pc la sa)) (zK p l e R s m args below meth c cells slots Q b0 D ca adK adV bS L xs mi C) (zKC p l e R s m args below meth c cells slots Q b0 D ca adK adV bS L xs mi C) (zKE p l e R s m args below meth c cells slots Q b0 D ca adK adV bS L xs mi) (zstep (.getfield v) a cs k ls st μ) := by
  have hd0 : decode (zby mi) pc = .ok (.getfield v, 3) := (zdk_p hd).resolve_left (by rintro ⟨_, _, _, _, h⟩; cases h)
  have hp : zpcs C (k + 1) = pc + 3 := zfl_p hf
  obtain ⟨al, ag, as, aP, aM, aS⟩ := hA
  refine zr1_ok as (fun t i r v0 ra hsa hv hr => ?_)
  subst hsa
  match cs, h1, h2 with
  | [], _, _ => trivial
  | [_], _, _ => trivial
  | [_, _], _, _ => trivial
  | [_, _, _], _, _ => trivial
  | (x2, kd) :: (y1, o) :: (y2, x1) :: (y3, md) :: cs, h1, h2 =>
    show zgoal _ _ _ _ (match (generalizing := false) Nat.beq t o with
      | false => none
      | true => match (generalizing := false) kd with
        | 0 => sN (k + 1, ls, vI (μ x1 i x2) :: r, μ)
        | 1 => sN (k + 1, ls, vI (μ x1 i x2) :: r, μ)
        | 2 => sN (k + 1, ls, vL (μ x1 i x2) :: r, μ)
        | 3 => sN (k + 1, ls, vR x1 (zlead md x2 i) :: r, μ)
        | 4 => sN (k + 1, ls, vI x2 :: r, μ)
        | _ => none)
    cases hto : Nat.beq t o with
    | false => trivial
    | true =>
      have hto := Nat.eq_of_beq_eq_true hto
      subst hto
      have h1 : (decide ((zfl t)[a]? = some (kd, x1, md, x2)) && Nat.blt 0 (zcnt t) && Nat.beq (zrow t) 0) = true := h1
      simp only [Bool.and_eq_true, decide_eq_true_eq] at h1
      obtain ⟨⟨q1, q2⟩, q3⟩ := h1
      have q2 := Nat.blt_eq.mp q2
      have q3 := Nat.eq_of_beq_eq_true q3
      have ht30 : t < 30 := zcnt_lt q2
      obtain ⟨g1, g2, g3⟩ := zrv_unR hv ht30
      subst g3
      have hl : zFL (zy mi).cls v t a := h2
      have hi : ((i.toNat : Nat) : Int) = i := Int.toNat_of_nonneg g1
      have hm := zfl_mem t ht30 _ (List.mem_of_getElem? q1)
      have hkd := zfl_kd t ht30 _ (List.mem_of_getElem? q1)
      have hx33 : kd ≠ 2 → kd ≠ 3 → x1 ≠ 33 := by
        intro n2 n3
        rcases hm with h | ⟨-, h, -⟩
        · exact absurd h n3
        · rcases h with h | h
          · exact h
          · exact absurd h.1 n2
      have key : zK p l e R s m args below meth c cells slots Q b0 D ca adK adV bS L xs mi C (k + 1, ls, (match (generalizing := false) kd with | 2 => vL (μ x1 i x2) | 3 => vR x1 (zlead md x2 i) | _ => vI (μ x1 i x2)) :: r, μ) → W p l e R s m args below meth c H locs cells slots Q (F0 m pc la (.ref (b0 + zpos t i.toNat) :: ra)) := by
        intro hK
        refine zget_ok hx hb hown hts hB g2 q3 q1 hl hd0 aP ?_
        rw [hi, ← hp]
        refine hK _ _ _ _ ⟨al, ag, zrs_cons ?_ hr, aP, aM, aS⟩
        match kd, hm, hkd, q1, hx33 with
        | 0, _, _, _, hx33 => exact zrv_I (aM.1 _ _ _ (hx33 (by decide) (by decide)))
        | 1, _, _, _, hx33 => exact zrv_I (aM.1 _ _ _ (hx33 (by decide) (by decide)))
        | 2, hm, _, _, _ =>
          have h33 : x1 = 33 := by
            rcases hm with h | h
            · cases h
            · rcases h.2.2 with h | h
              · exact absurd rfl h
              · exact h
          subst h33
          exact zrv_L (aM.2.1 _ _)
        | 3, _, _, q1, _ =>
          obtain ⟨f1, f2⟩ := zfl_ref t ht30 _ (List.mem_of_getElem? q1) rfl i.toNat g2
          rw [hi] at f1 f2
          exact zrv_R f1 f2
        | n + 4, _, h, _, _ => exact absurd h (by simp)
      match kd, key, hkd with
      | 0, key, _ => exact key
      | 1, key, _ => exact key
      | 2, key, _ => exact key
      | 3, key, _ => exact key
      | n + 4, _, h => exact absurd h (by simp)
/-- a field that is written -/
theorem zput_ok (hx : p.tables.exec = Jvm.exec) (hb : c.code = zby mi) (hown : s.vm.findClass (zy mi).cls = some m.cls) (hts : ∀ w ∈ zTs, w.before args s = true) (hB : zBk b0 D ca adK adV bS L xs s) {pc idx t k kd x1 md : Nat} {x2 n : Int} {i : Nat} {μ : mzM} {H : Heap} {locs : List Loc} {la : Array Slot} {ra : List Value}
    (hz : i < zcnt t) (h0 : zrow t = 0) (hq : (zfl t)[k]? = some (kd, x1, md, x2)) (hl : zFL (zy mi).cls idx t k) (hd0 : decode (zby mi) pc = .ok (.putfield idx, 3)) (aP : va_P D zcl (zws b0 ca μ) H) (aS : va_S (fun q => b0 ≤ q) s.heap H locs)
    (hn : (kd = 0 ∧ zin n) ∨ (kd = 1 ∧ (n = 0 ∨ n = 1)) ∨ (kd = 2 ∧ zin6 n))
    (kk : ∀ (H1 : Heap) (locs1 : List Loc), va_P D zcl (zws b0 ca (mup μ x1 (i : Int) x2 n)) H1 → va_S (fun q => b0 ≤ q) s.heap H1 locs1 → W p l e R s m args below meth c H1 locs1 cells slots Q (F0 m (pc + 3) la ra)) : W p l e R s m args below meth c H locs cells slots Q (F0 m pc la (zval b0 (fun _ _ _ => n) (i : Int) (kd, x1, md, x2) :: .ref (b0 + zpos t i) :: ra)) := by
  obtain ⟨CC, T, N, ty, c1, c2, c3, c4, c5, c6, c7, c8⟩ := zcls_of (zcnt_lt hz) (Nat.lt_of_le_of_lt (Nat.zero_le _) hz) h0
  have hkN : k < N := by rw [c6]; exact (List.getElem?_eq_some_iff.mp hq).1
  have he := zws_at b0 ca μ hz
  rw [zcel_obj h0] at he
  have hfl : k < ((zfl t).map (zval b0 μ (i : Int))).length := by rw [List.length_map, ← c6]; exact hkN
  have hne3 : kd ≠ 3 := by omega
  have hx1 : zow x1 = t := zfl_ow t (zcnt_lt hz) _ (List.mem_of_getElem? hq) hne3
  have hnew : ∀ H1 locs1, va_P D zcl ((zws b0 ca μ).set (zpos t i) (b0 + zpos t i, .inr (zci t, ((zfl t).map (zval b0 μ (i : Int))).set k (zval b0 (fun _ _ _ => n) (i : Int) (kd, x1, md, x2))))) H1 → va_S (fun q => b0 ≤ q) s.heap H1 locs1 → W p l e R s m args below meth c H1 locs1 cells slots Q (F0 m (pc + 3) la ra) := by
    intro H1 locs1 g1 g2
    rw [zws_set (μ' := mup μ x1 (i : Int) x2 n) hz (zcel_put hz h0 hq hne3) (fun t' i' h' hne => zcel_off (x1 := x1) (i := i) (fun t2 i2 k2 h2 => mup_ne (fun z => h2 ⟨z.1, z.2.1⟩)) h' (by rw [hx1]; exact hne))] at g1
    exact kk H1 locs1 g1 g2
  have hfin : (T k).2.2.2 = false ∧ ∃ tk, ty k = tk ∧ narrow tk (zval b0 (fun _ _ _ => n) (i : Int) (kd, x1, md, x2)) = zval b0 (fun _ _ _ => n) (i : Int) (kd, x1, md, x2) ∧ fits tk (zval b0 (fun _ _ _ => n) (i : Int) (kd, x1, md, x2)) = true := by
    have hfa := zfa_of hq
    obtain ⟨w0, w1, w2⟩ := c8 k hkN
    rw [hfa] at w0 w1 w2
    rcases hn with ⟨rfl, -⟩ | ⟨rfl, hn⟩ | ⟨rfl, -⟩
    · obtain ⟨a1, a2⟩ := w0 rfl
      exact ⟨a2, _, a1, rfl, rfl⟩
    · obtain ⟨a1, a2⟩ := w1 rfl
      refine ⟨a2, _, a1, ?_, ?_⟩
      · have hz1 : zin n := ⟨by omega, by omega⟩
        have h9 := zn_bool (Int32.ofInt n)
        rw [zi_to hz1] at h9
        have h10 : (Int32.ofInt n &&& 1).toInt = n := h9.trans (by rcases hn with hn | hn <;> rw [hn] <;> decide)
        exact congrArg Value.int (zi_of h10)
      · rcases hn with rfl | rfl <;> rfl
    · obtain ⟨a1, a2⟩ := w2 rfl
      exact ⟨a2, _, a1, rfl, rfl⟩
  obtain ⟨hff, tk, htk, hnar, hfit⟩ := hfin
  have hdsc : parseFieldDescriptor (T k).2.2.1 = some tk := by rw [c4 k hkN, htk]
  unfold zFL at hl
  rw [c2] at hl
  rcases hl with hl | hl
  · exact va_put (ref := CC) hx hb hts c3 ty c4 c5 hown hB.1 aP (zws_D b0 ca μ) aS _ he c1 k hkN (hts _ hl) (fun x h => by rw [c7 k hkN] at h; exact h) hff hdsc hnar hfit hfl hd0 (fun H1 locs1 g1 _ g2 => hnew H1 locs1 g1 g2)
  · exact va_putN (ref := CC) (host := "FrameDeltas") hx hb hts c3 ty c4 c5 hown hB.1 aP (zws_D b0 ca μ) aS _ he c1 k hkN (va_Nw.use rfl (hB.2.2.2 _ hl)) (fun x h => by rw [c7 k hkN] at h; exact h) hff hdsc hnar hfit hfl hd0 (fun H1 locs1 g1 _ g2 => hnew H1 locs1 g1 g2)
theorem zc_putfield (hx : p.tables.exec = Jvm.exec) (hb : c.code = zby mi) (hml : c.maxLocals = zml mi) (hown : s.vm.findClass (zy mi).cls = some m.cls) (hts : ∀ w ∈ zTs, w.before args s = true) (hB : zBk b0 D ca adK adV bS L xs s) (hR : zfr mi ≤ R.frames ∧ zlo mi ≤ R.locals ∧ cells ≤ R.cells ∧ slots ≤ R.slots) {v : Nat} {k pc a : Nat} {cs : List (Int × Nat)} (hd : zdk (zby mi) pc (.putfield v) = true) (hf : zfall C k pc (.putfield v) = true) (h1 : zchk1 mi C pc (.putfield v) a cs = true) (h2 : zOK2 (zy mi).cls (.putfield v) a cs) {ls st : List mzV} {μ : mzM} {H : Heap} {locs : List Loc} {la : Array Slot} {sa : List Value} (hA : zA b0 D ca adK adV bS L xs s mi ls st μ H locs la sa) : zgoal (W p l e R s m args below meth c H locs cells slots Q (F0 m pc la sa)) (zK p l e R s m args below meth c cells slots Q b0 D ca adK adV bS L xs mi C) (zKC p l e R s m args below meth c cells slots Q b0 D ca adK adV bS L xs mi C) (zKE p l e R s m args below meth c cells slots Q b0 D ca adK adV bS L xs mi) (zstep (.putfield v) a cs k ls st μ) := by
  have hd0 : decode (zby mi) pc = .ok (.putfield v, 3) := (zdk_p hd).resolve_left (by rintro ⟨_, _, _, _, h⟩; cases h)
  have hp : zpcs C (k + 1) = pc + 3 := zfl_p hf
  obtain ⟨al, ag, as, aP, aM, aS⟩ := hA
  match st, as, cs, h1, h2 with
  | [], _, _, _, _ => trivial
  | [_], _, _, _, _ => trivial
  | _ :: none :: _, _, _, _, _ => trivial
  | _ :: some (.inl _) :: _, _, _, _, _ => trivial
  | _ :: some (.inr (.inl _)) :: _, _, _, _, _ => trivial
  | _ :: some (.inr (.inr (_, _))) :: _, _, [], _, _ => trivial
  | _ :: some (.inr (.inr (_, _))) :: _, _, [_], _, _ => trivial
  | _ :: some (.inr (.inr (_, _))) :: _, _, [_, _], _, _ => trivial
  | _ :: some (.inr (.inr (_, _))) :: _, _, [_, _, _], h1, _ => cases h1
  | w :: some (.inr (.inr (t, i))) :: r, as, (x2, kd) :: (y1, o) :: (y2, x1) :: (y3, md) :: cs, h1, h2 =>
    obtain ⟨v1, r1, rfl, hw, h5⟩ := zrs_un as
    obtain ⟨v0, ra, rfl, hv, hr⟩ := zrs_un h5
    show zgoal _ _ _ _ (match (generalizing := false) Nat.beq t o with
      | false => none
      | true => match (generalizing := false) kd, w with
        | 0, some (.inl n) => sN (k + 1, ls, r, mup μ x1 i x2 n)
        | 1, some (.inl n) => sG (n = 0 ∨ n = 1) inferInstance (k + 1, ls, r, mup μ x1 i x2 n)
        | 2, some (.inr (.inl n)) => sN (k + 1, ls, r, mup μ x1 i x2 n)
        | _, _ => none)
    cases hto : Nat.beq t o with
    | false => trivial
    | true =>
      have hto := Nat.eq_of_beq_eq_true hto
      subst hto
      have h1 : (decide ((zfl t)[a]? = some (kd, x1, md, x2)) && Nat.blt 0 (zcnt t) && Nat.beq (zrow t) 0 && Nat.blt kd 3) = true := h1
      simp only [Bool.and_eq_true, decide_eq_true_eq] at h1
      obtain ⟨⟨⟨q1, q2⟩, q3⟩, q4⟩ := h1
      have q2 := Nat.blt_eq.mp q2
      have q3 := Nat.eq_of_beq_eq_true q3
      have ht30 : t < 30 := zcnt_lt q2
      obtain ⟨g1, g2, g3⟩ := zrv_unR hv ht30
      subst g3
      have hl : zFL (zy mi).cls v t a := h2
      have hi : ((i.toNat : Nat) : Int) = i := Int.toNat_of_nonneg g1
      have hm := zfl_mem t ht30 _ (List.mem_of_getElem? q1)
      have key : ∀ n : Int, ((kd = 0 ∧ zin n) ∨ (kd = 1 ∧ (n = 0 ∨ n = 1)) ∨ (kd = 2 ∧ zin6 n)) → v1 = zval b0 (fun _ _ _ => n) i (kd, x1, md, x2) → zK p l e R s m args below meth c cells slots Q b0 D ca adK adV bS L xs mi C (k + 1, ls, r, mup μ x1 i x2 n) → W p l e R s m args below meth c H locs cells slots Q (F0 m pc la (v1 :: .ref (b0 + zpos t i.toNat) :: ra)) := by
        intro n hn hv1 hK
        rw [hv1, ← hi]
        refine zput_ok hx hb hown hts hB g2 q3 q1 hl hd0 aP aS hn (fun H1 locs1 z1 z2 => ?_)
        rw [hi] at z1
        rw [← hp]
        refine hK _ _ _ _ ⟨al, ag, hr, z1, ?_, z2⟩
        rcases hm with h | ⟨h6, h7, h8⟩
        · omega
        · refine zM_up aM h6 (fun h9 => ?_) (fun h9 => ?_)
          · rcases hn with ⟨-, hn⟩ | ⟨-, hn⟩ | ⟨h10, -⟩
            · exact hn
            · rcases hn with rfl | rfl <;> exact ⟨by decide, by decide⟩
            · rcases h8 with h8 | h8
              · exact absurd h10 h8
              · exact absurd h8 h9
          · rcases h7 with h7 | ⟨h7, h11⟩
            · exact absurd h9 h7
            · rcases hn with ⟨h10, -⟩ | ⟨h10, -⟩ | ⟨-, hn⟩
              · omega
              · omega
              · exact ⟨hn, by have h12 : x2 = 0 := h11; omega⟩
      match kd, w, key, hw, q4 with
      | 0, none, _, _, _ => trivial
      | 0, some (.inl n), key, hw, _ => exact key n (Or.inl ⟨rfl, hw.1⟩) hw.2
      | 0, some (.inr _), _, _, _ => trivial
      | 1, none, _, _, _ => trivial
      | 1, some (.inl n), key, hw, _ => exact fun hq => key n (Or.inr (Or.inl ⟨rfl, hq⟩)) hw.2
      | 1, some (.inr _), _, _, _ => trivial
      | 2, none, _, _, _ => trivial
      | 2, some (.inl _), _, _, _ => trivial
      | 2, some (.inr (.inl n)), key, hw, _ => exact key n (Or.inr (Or.inr ⟨rfl, hw.1⟩)) hw.2
      | 2, some (.inr (.inr _)), _, _, _ => trivial
      | n + 3, _, _, _, q4 => exact absurd (Nat.blt_eq.mp q4) (by omega)
end Sim
end
section
section Sim
variable {p : Program} {l : Launch} {e : Env} {R : Room} {s : State} {m : MethodId} {args : Array Value} {below : List Frame} {meth : Method} {c : Code} {cells slots : Nat} {Q : State → Prop}
variable {b0 : Nat} {D : va_G} {ca : Nat → ClassId} {adK adV : Nat → Nat} {bS L : Nat} {xs : Nat → Int32} {mi : Nat} {C : List mzN}
theorem zcel_arr {μ : mzM} {t i : Nat} (h : zrow t ≠ 0) (h4 : zrow t ≠ 4) : zcel b0 ca μ t i = .inl (ca (zac t), zln t, .inl (fun j => Int32.ofInt (μ t (i : Int) (j : Int)))) := by
  unfold zcel
  split
  · next q => exact absurd q h
  · next q => exact absurd q h4
  · rfl
theorem zcel_ref {μ : mzM} {t i : Nat} (h4 : zrow t = 4) : zcel b0 ca μ t i = .inl (ca (zac t), zln t, .inr (.inr (.inr (.inr (fun j => some (b0 + zsee t i j)))))) := by unfold zcel; rw [h4]; rfl
theorem zarr_c {c : ClassId} {n : Nat} {f g : Nat → Int32} (h : ∀ j, f j = g j) : (Sum.inl (c, n, Sum.inl f) : va_E) = Sum.inl (c, n, Sum.inl g) := congrArg (fun q => (Sum.inl (c, n, Sum.inl q) : va_E)) (funext h)
theorem zi_nat {n : Nat} (h : n < 2 ^ 31) : Int32.ofNat n = Int32.ofInt (n : Int) := zi_of (nI_toInt h)
theorem zc_arraylength (hx : p.tables.exec = Jvm.exec) (hb : c.code = zby mi) (hml : c.maxLocals = zml mi) (hown : s.vm.findClass (zy mi).cls = some m.cls) (hts : ∀ w ∈ zTs, w.before args s = true) (hB : zBk b0 D ca adK adV bS L xs s) (hR : zfr mi ≤ R.frames ∧ zlo mi ≤ R.locals ∧ cells ≤ R.cells ∧ slots ≤ R.slots) {k pc a : Nat} {cs : List (Int × Nat)} (hd : zdk (zby mi) pc (.arraylength) = true) (hf : zfall C k pc (.arraylength) = true) (h1 : zchk1 mi C pc (.arraylength) a cs = true) (h2 : zOK2 (zy mi).cls (.arraylength) a cs) {ls st : List mzV} {μ : mzM} {H : Heap} {locs : List Loc} {la : Array Slot} {sa : List Value} (hA : zA b0 D ca adK adV bS L xs s mi ls st μ H locs la sa) : zgoal (W p l e R s m args below meth c H locs cells slots Q (F0 m pc la sa)) (zK p l e R s m args below meth c cells slots Q b0 D ca adK adV bS L xs mi C) (zKC p l e R s m args below meth c cells slots Q b0 D ca adK adV bS L xs mi C) (zKE p l e R s m args below meth c cells slots Q b0 D ca adK adV bS L xs mi) (zstep (.arraylength) a cs k ls st μ) := by
  have hd0 : decode (zby mi) pc = .ok (.arraylength, 1) := (zdk_p hd).resolve_left (by rintro ⟨_, _, _, _, h⟩; cases h)
  have hp : zpcs C (k + 1) = pc + 1 := zfl_p hf
  obtain ⟨al, ag, as, aP, aM, aS⟩ := hA
  refine zr1_ok as (fun t i r v0 ra hsa hv hr => ?_)
  subst hsa
  show zgoal _ _ _ _ (match zrow t with | 0 => none | _ => sN (k + 1, ls, vI (zlen t i μ) :: r, μ))
  cases hw : zrow t with
  | zero => trivial
  | succ w =>
    have hlt := zrow_lt hw (by omega)
    have hne : zrow t ≠ 0 := by omega
    obtain ⟨w1, w2, w3, w4, w6⟩ := zrow_a t hlt
    have hle : w + 1 ≤ 6 := by
      have : ∀ t, t < 33 → zrow t ≤ 6 := by decide +kernel
      have := this t hlt
      omega
    have heap : t < 30 → zK p l e R s m args below meth c cells slots Q b0 D ca adK adV bS L xs mi C (k + 1, ls, vI (zlen t i μ) :: r, μ) → W p l e R s m args below meth c H locs cells slots Q (F0 m pc la (v0 :: ra)) := by
      intro ht hK
      obtain ⟨g1, g2, g3⟩ := zrv_unR hv ht
      subst g3
      have he := zws_at b0 ca μ g2
      have hln := zln_lt t ht
      have hz : zlen t i μ = (zln t : Int) := zlen_n t ht hne i μ
      have hgo : W p l e R s m args below meth c H locs cells slots Q (F0 m (pc + 1) la (.int (Int32.ofNat (zln t)) :: ra)) := by
        rw [zi_nat (by omega), ← hz, ← hp]
        exact hK _ _ _ _ ⟨al, ag, zrs_cons (zrv_I (by rw [hz]; constructor <;> omega)) hr, aP, aM, aS⟩
      by_cases h4 : zrow t = 4
      · rw [zcel_ref h4] at he
        have hty : ∃ ty, (zarr ca)[zac t]? = some (ca (zac t), ty) := by
          rcases w4 h4 with rfl | rfl
          · exact ⟨_, rfl⟩
          · exact ⟨_, rfl⟩
        obtain ⟨ty, hty⟩ := hty
        exact va_alen hx hb hB.1 aP _ (zac t) he hty rfl hd0 hgo
      · rw [zcel_arr hne h4] at he
        have hty : ∃ ty, (zarr ca)[zac t]? = some (ca (zac t), ty) := by
          have h6 : zrow t = 1 ∨ zrow t = 2 ∨ zrow t = 3 := by
            have h7 : zrow t ≠ 5 := (show ∀ t, t < 33 → zrow t ≠ 5 by decide +kernel) t hlt
            have h8 : zrow t ≠ 6 := fun q => by have := w6 q; omega
            omega
          rcases h6 with h6 | h6 | h6
          · rw [(w1 h6).2]; exact ⟨_, rfl⟩
          · rw [(w2 h6).2]; exact ⟨_, rfl⟩
          · rw [(w3 h6).2]; exact ⟨_, rfl⟩
        obtain ⟨ty, hty⟩ := hty
        exact va_alen hx hb hB.1 aP _ (zac t) he hty rfl hd0 hgo
    show zK p l e R s m args below meth c cells slots Q b0 D ca adK adV bS L xs mi C (k + 1, ls, vI (zlen t i μ) :: r, μ) → W p l e R s m args below meth c H locs cells slots Q (F0 m pc la (v0 :: ra))
    by_cases ht : t < 30
    · exact heap ht
    · intro hK
      have h9 : t = 32 := by
        have h10 : zrow 30 = 0 := rfl
        have h12 : zrow 31 = 0 := rfl
        have h11 : t ≠ 30 := fun q => by rw [q] at hw; cases hw
        have h13 : t ≠ 31 := fun q => by rw [q] at hw; cases hw
        omega
      subst h9
      obtain ⟨g1, g3⟩ := zrv_un32 hv
      subst g3
      have hL := hB.2.2.1.2.2
      refine va_slen hx hb hB.2.1 (Nat.lt_of_lt_of_le hB.2.2.1.1 hB.2.2.1.2.1) (Nat.not_le.mpr hB.2.2.1.1) aS hd0 ?_
      rw [zi_nat hL, ← hp]
      have h12 : zlen 32 i μ = (L : Int) := aM.2.2.1
      rw [← h12]
      exact hK _ _ _ _ ⟨al, ag, zrs_cons (zrv_I (by rw [h12]; constructor <;> omega)) hr, aP, aM, aS⟩
theorem zal_1 (hx : p.tables.exec = Jvm.exec) (hb : c.code = zby mi) (hB : zBk b0 D ca adK adV bS L xs s) {k pc : Nat} {ls st : List mzV} {μ : mzM} {H : Heap} {locs : List Loc} {la : Array Slot} {sa : List Value} (hA : zA b0 D ca adK adV bS L xs s mi ls st μ H locs la sa) (hd0 : decode (zby mi) pc = .ok (.iaload, 1)) (hp : zpcs C (k + 1) = pc + 1) : zgoal (W p l e R s m args below meth c H locs cells slots Q (F0 m pc la sa)) (zK p l e R s m args below meth c cells slots Q b0 D ca adK adV bS L xs mi C) (zKC p l e R s m args below meth c cells slots Q b0 D ca adK adV bS L xs mi C) (zKE p l e R s m args below meth c cells slots Q b0 D ca adK adV bS L xs mi) (zaload 1 st μ (k + 1) ls) := by
  obtain ⟨al, ag, as, aP, aM, aS⟩ := hA
  refine zir_ok as (fun j t i r v0 ra hsa hj hv hr => ?_)
  subst hsa
  cases hw : Nat.beq 1 (zrow t) with
  | false => trivial
  | true =>
    have hw := (Nat.eq_of_beq_eq_true hw).symm
    obtain ⟨ht, hac⟩ := (zrow_a t (zrow_lt hw (by omega))).1 hw
    show (0 ≤ j ∧ j < zlen t i μ) → _
    intro hq hK
    rw [zlen_n t ht (by omega)] at hq
    obtain ⟨g1, g2, g3⟩ := zrv_unR hv ht
    subst g3
    have he := zws_at b0 ca μ g2
    rw [zcel_arr (by omega) (by omega), hac] at he
    refine va_iald hx hb hB.1 aP _ 0 he rfl (zn_vin hj hq.1 hq.2) hd0 ?_
    rw [zn_nat hj, Int.toNat_of_nonneg g1, Int.toNat_of_nonneg hq.1, ← hp]
    exact hK _ _ _ _ ⟨al, ag, zrs_cons (zrv_I (aM.1 _ _ _ (by omega))) hr, aP, aM, aS⟩
theorem zal_6 (hx : p.tables.exec = Jvm.exec) (hb : c.code = zby mi) (hB : zBk b0 D ca adK adV bS L xs s) {k pc : Nat} {ls st : List mzV} {μ : mzM} {H : Heap} {locs : List Loc} {la : Array Slot} {sa : List Value} (hA : zA b0 D ca adK adV bS L xs s mi ls st μ H locs la sa) (hd0 : decode (zby mi) pc = .ok (.iaload, 1)) (hp : zpcs C (k + 1) = pc + 1) : zgoal (W p l e R s m args below meth c H locs cells slots Q (F0 m pc la sa)) (zK p l e R s m args below meth c cells slots Q b0 D ca adK adV bS L xs mi C) (zKC p l e R s m args below meth c cells slots Q b0 D ca adK adV bS L xs mi C) (zKE p l e R s m args below meth c cells slots Q b0 D ca adK adV bS L xs mi) (zaload 6 st μ (k + 1) ls) := by
  obtain ⟨al, ag, as, aP, aM, aS⟩ := hA
  refine zir_ok as (fun j t i r v0 ra hsa hj hv hr => ?_)
  subst hsa
  cases hw : Nat.beq 6 (zrow t) with
  | false => trivial
  | true =>
    have hw := (Nat.eq_of_beq_eq_true hw).symm
    have ht := (zrow_a t (zrow_lt hw (by omega))).2.2.2.2 hw
    subst ht
    show (0 ≤ j ∧ j < μ 33 0 1) → _
    intro hq hK
    have hL := aM.2.2.1
    rw [hL] at hq
    obtain ⟨g1, g3⟩ := zrv_un32 hv
    subst g3
    subst g1
    refine va_sld hx hb hB.2.1 (Nat.lt_of_lt_of_le hB.2.2.1.1 hB.2.2.1.2.1) (Nat.not_le.mpr hB.2.2.1.1) aS (zn_vin hj hq.1 hq.2) hd0 ?_
    rw [zn_nat hj, zi_of (aM.2.2.2 j.toNat (by omega)).symm, Int.toNat_of_nonneg hq.1, ← hp]
    exact hK _ _ _ _ ⟨al, ag, zrs_cons (zrv_I (aM.1 _ _ _ (by omega))) hr, aP, aM, aS⟩
theorem zsee_ok : (∀ i, i < 7 → ∀ j, j < 10 → 11 * i + j < zcnt 2) ∧ (∀ j, j < 6 → 1 + j < zcnt 1) := by decide +kernel
theorem zal_4 (hx : p.tables.exec = Jvm.exec) (hb : c.code = zby mi) (hB : zBk b0 D ca adK adV bS L xs s) {k pc : Nat} {ls st : List mzV} {μ : mzM} {H : Heap} {locs : List Loc} {la : Array Slot} {sa : List Value} (hA : zA b0 D ca adK adV bS L xs s mi ls st μ H locs la sa) (hd0 : decode (zby mi) pc = .ok (.aaload, 1)) (hp : zpcs C (k + 1) = pc + 1) : zgoal (W p l e R s m args below meth c H locs cells slots Q (F0 m pc la sa)) (zK p l e R s m args below meth c cells slots Q b0 D ca adK adV bS L xs mi C) (zKC p l e R s m args below meth c cells slots Q b0 D ca adK adV bS L xs mi C) (zKE p l e R s m args below meth c cells slots Q b0 D ca adK adV bS L xs mi) (zaload 4 st μ (k + 1) ls) := by
  obtain ⟨al, ag, as, aP, aM, aS⟩ := hA
  refine zir_ok as (fun j t i r v0 ra hsa hj hv hr => ?_)
  subst hsa
  cases hw : Nat.beq 4 (zrow t) with
  | false => trivial
  | true =>
    have hw := (Nat.eq_of_beq_eq_true hw).symm
    have ht := (zrow_a t (zrow_lt hw (by omega))).2.2.2.1 hw
    show (0 ≤ j ∧ j < zlen t i μ) → _
    intro hq hK
    rcases ht with rfl | rfl
    · obtain ⟨g1, g2, g3⟩ := zrv_unR hv (by omega)
      have hq : 0 ≤ j ∧ j < 10 := hq
      subst g3
      have he := zws_at b0 ca μ g2
      rw [zcel_ref hw] at he
      refine va_aldq hx hb hB.1 aP _ 4 he rfl (zn_vin hj hq.1 hq.2) hd0 ?_
      rw [zn_nat hj, ← hp]
      have h5 := zsee_ok.1 i.toNat g2 j.toNat (by omega)
      refine hK _ _ _ _ ⟨al, ag, zrs_cons ?_ hr, aP, aM, aS⟩
      have h6 : (11 * i + j).toNat = 11 * i.toNat + j.toNat := by omega
      refine Or.inr (Or.inr ⟨by omega, by rw [h6]; exact h5, ?_⟩)
      rw [h6]
      rfl
    · obtain ⟨g1, g2, g3⟩ := zrv_unR hv (by omega)
      have hq : 0 ≤ j ∧ j < 6 := hq
      subst g3
      have he := zws_at b0 ca μ g2
      rw [zcel_ref hw] at he
      refine va_aldq hx hb hB.1 aP _ 3 he rfl (zn_vin hj hq.1 hq.2) hd0 ?_
      rw [zn_nat hj, ← hp]
      have h5 := zsee_ok.2 j.toNat (by omega)
      refine hK _ _ _ _ ⟨al, ag, zrs_cons ?_ hr, aP, aM, aS⟩
      have h6 : (1 + j).toNat = 1 + j.toNat := by omega
      refine Or.inr (Or.inr ⟨by omega, by rw [h6]; exact h5, ?_⟩)
      rw [h6]
      rfl
theorem zc_iaload (hx : p.tables.exec = Jvm.exec) (hb : c.code = zby mi) (hml : c.maxLocals = zml mi) (hown : s.vm.findClass (zy mi).cls = some m.cls) (hts : ∀ w ∈ zTs, w.before args s = true) (hB : zBk b0 D ca adK adV bS L xs s) (hR : zfr mi ≤ R.frames ∧ zlo mi ≤ R.locals ∧ cells ≤ R.cells ∧ slots ≤ R.slots) {k pc a : Nat} {cs : List (Int × Nat)} (hd : zdk (zby mi) pc (.iaload) = true) (hf : zfall C k pc (.iaload) = true) (h1 : zchk1 mi C pc (.iaload) a cs = true) (h2 : zOK2 (zy mi).cls (.iaload) a cs) {ls st : List mzV} {μ : mzM} {H : Heap} {locs : List Loc} {la : Array Slot} {sa : List Value} (hA : zA b0 D ca adK adV bS L xs s mi ls st μ H locs la sa) : zgoal (W p l e R s m args below meth c H locs cells slots Q (F0 m pc la sa)) (zK p l e R s m args below meth c cells slots Q b0 D ca adK adV bS L xs mi C) (zKC p l e R s m args below meth c cells slots Q b0 D ca adK adV bS L xs mi C) (zKE p l e R s m args below meth c cells slots Q b0 D ca adK adV bS L xs mi) (zstep (.iaload) a cs k ls st μ) := by
  have hd0 : decode (zby mi) pc = .ok (.iaload, 1) := (zdk_p hd).resolve_left (by rintro ⟨_, _, _, _, h⟩; cases h)
  have hp : zpcs C (k + 1) = pc + 1 := zfl_p hf
  obtain ⟨al, ag, as, aP, aM, aS⟩ := hA
  have hA : zA b0 D ca adK adV bS L xs s mi ls st μ H locs la sa := ⟨al, ag, as, aP, aM, aS⟩
  unfold zstep
  dsimp only
  split
  · exact zal_6 hx hb hB hA hd0 hp
  · exact zal_1 hx hb hB hA hd0 hp
theorem zc_aaload (hx : p.tables.exec = Jvm.exec) (hb : c.code = zby mi) (hml : c.maxLocals = zml mi) (hown : s.vm.findClass (zy mi).cls = some m.cls) (hts : ∀ w ∈ zTs, w.before args s = true) (hB : zBk b0 D ca adK adV bS L xs s) (hR : zfr mi ≤ R.frames ∧ zlo mi ≤ R.locals ∧ cells ≤ R.cells ∧ slots ≤ R.slots) {k pc a : Nat} {cs : List (Int × Nat)} (hd : zdk (zby mi) pc (.aaload) = true) (hf : zfall C k pc (.aaload) = true) (h1 : zchk1 mi C pc (.aaload) a cs = true) (h2 : zOK2 (zy mi).cls (.aaload) a cs) {ls st : List mzV} {μ : mzM} {H : Heap} {locs : List Loc} {la : Array Slot} {sa : List Value} (hA : zA b0 D ca adK adV bS L xs s mi ls st μ H locs la sa) : zgoal (W p l e R s m args below meth c H locs cells slots Q (F0 m pc la sa)) (zK p l e R s m args below meth c cells slots Q b0 D ca adK adV bS L xs mi C) (zKC p l e R s m args below meth c cells slots Q b0 D ca adK adV bS L xs mi C) (zKE p l e R s m args below meth c cells slots Q b0 D ca adK adV bS L xs mi) (zstep (.aaload) a cs k ls st μ) := by
  have hd0 : decode (zby mi) pc = .ok (.aaload, 1) := (zdk_p hd).resolve_left (by rintro ⟨_, _, _, _, h⟩; cases h)
  have hp : zpcs C (k + 1) = pc + 1 := zfl_p hf
  obtain ⟨al, ag, as, aP, aM, aS⟩ := hA
  exact zal_4 hx hb hB ⟨al, ag, as, aP, aM, aS⟩ hd0 hp
theorem zc_iastore (hx : p.tables.exec = Jvm.exec) (hb : c.code = zby mi) (hml : c.maxLocals = zml mi) (hown : s.vm.findClass (zy mi).cls = some m.cls) (hts : ∀ w ∈ zTs, w.before args s = true) (hB : zBk b0 D ca adK adV bS L xs s) (hR : zfr mi ≤ R.frames ∧ zlo mi ≤ R.locals ∧ cells ≤ R.cells ∧ slots ≤ R.slots) {k pc a : Nat} {cs : List (Int × Nat)} (hd : zdk (zby mi) pc (.iastore) = true) (hf : zfall C k pc (.iastore) = true) (h1 : zchk1 mi C pc (.iastore) a cs = true) (h2 : zOK2 (zy mi).cls (.iastore) a cs) {ls st : List mzV} {μ : mzM} {H : Heap} {locs : List Loc} {la : Array Slot} {sa : List Value} (hA : zA b0 D ca adK adV bS L xs s mi ls st μ H locs la sa) : zgoal (W p l e R s m args below meth c H locs cells slots Q (F0 m pc la sa)) (zK p l e R s m args below meth c cells slots Q b0 D ca adK adV bS L xs mi C) (zKC p l e R s m args below meth c cells slots Q b0 D ca adK adV bS L xs mi C) (zKE p l e R s m args below meth c cells slots Q b0 D ca adK adV bS L xs mi) (zstep (.iastore) a cs k ls st μ) := by
  have hd0 : decode (zby mi) pc = .ok (.iastore, 1) := (zdk_p hd).resolve_left (by rintro ⟨_, _, _, _, h⟩; cases h)
  have hp : zpcs C (k + 1) = pc + 1 := zfl_p hf
  obtain ⟨al, ag, as, aP, aM, aS⟩ := hA
  refine zvir_ok as (fun n j t i r v0 ra hsa hn hj hv hr => ?_)
  subst hsa
  cases hw : Nat.beq 1 (zrow t) with
  | false => trivial
  | true =>
    have hw := (Nat.eq_of_beq_eq_true hw).symm
    obtain ⟨ht, hac⟩ := (zrow_a t (zrow_lt hw (by omega))).1 hw
    show (0 ≤ j ∧ j < zlen t i μ) → zK p l e R s m args below meth c cells slots Q b0 D ca adK adV bS L xs mi C (k + 1, ls, r, mup μ t i j (n)) → _
    intro hq hK
    rw [zlen_n t ht (by omega)] at hq
    obtain ⟨g1, g2, g3⟩ := zrv_unR hv ht
    subst g3
    have he := zws_at b0 ca μ g2
    rw [zcel_arr (by omega) (by omega), hac] at he
    refine va_iast hx hb hB.1 aP (zws_D b0 ca μ) aS _ 0 he rfl (zn_vin hj hq.1 hq.2) hd0 (fun H1 locs1 z1 _ z2 => ?_)
    have hval : Int32.ofInt n = Int32.ofInt (n) := rfl
    rw [hval, zws_set (μ' := mup μ t i j (n)) g2 ?_ ?_] at z1
    · rw [← hp]
      exact hK _ _ _ _ ⟨al, ag, hr, z1, zM_up aM (by omega) (fun _ => hn) (fun q => by omega), z2⟩
    · rw [zcel_arr (by omega) (by omega), hac]
      refine zarr_c (fun j' => ?_)
      rw [zn_nat hj]
      unfold upd mup
      by_cases hjj : j' = j.toNat
      · rw [if_pos ⟨rfl, by omega, by omega⟩, if_pos hjj]
      · rw [if_neg (fun q => hjj (by omega)), if_neg hjj]
    · intro t' i' h' hne
      refine zcel_off (x1 := t) (i := i.toNat) (fun t2 i2 k2 h2 => mup_ne (fun z => h2 ⟨z.1, by omega⟩)) h' ?_
      rw [zow_row t ht]
      exact hne
theorem zcp_ok (hx : p.tables.exec = Jvm.exec) (hb : c.code = zby mi) (hml : c.maxLocals = zml mi) (hown : s.vm.findClass (zy mi).cls = some m.cls) (hts : ∀ w ∈ zTs, w.before args s = true) (hB : zBk b0 D ca adK adV bS L xs s) (hfr : 1 ≤ R.frames) (hlo : 40 ≤ R.locals) {k pc idx : Nat} (hd0 : decode (zby mi) pc = .ok (.invokestatic idx, 3)) (hp : zpcs C (k + 1) = pc + 3)
    (h2 : Cond.methodLink (zy mi).cls idx arraycopyName ∈ zTs ∧ Cond.native arraycopyName ∈ zTs ∧ Cond.static arraycopyName ∈ zTs ∧ Cond.initialized "java/lang/System" ∈ zTs) {ls st : List mzV} {μ : mzM} {H : Heap} {locs : List Loc} {la : Array Slot} {sa : List Value} (hA : zA b0 D ca adK adV bS L xs s mi ls st μ H locs la sa) : zgoal (W p l e R s m args below meth c H locs cells slots Q (F0 m pc la sa)) (zK p l e R s m args below meth c cells slots Q b0 D ca adK adV bS L xs mi C) (zKC p l e R s m args below meth c cells slots Q b0 D ca adK adV bS L xs mi C) (zKE p l e R s m args below meth c cells slots Q b0 D ca adK adV bS L xs mi) (zcopy st μ (k + 1) ls) := by
  obtain ⟨al, ag, as, aP, aM, aS⟩ := hA
  unfold zcopy
  split
  · next n dp td id sp ts is r =>
    obtain ⟨s1, rfl, hn, a1⟩ := zrs_unI as
    obtain ⟨s2, rfl, hdp, a2⟩ := zrs_unI a1
    obtain ⟨v3, s3, rfl, hv3, a3⟩ := zrs_un a2
    obtain ⟨s4, rfl, hsp, a4⟩ := zrs_unI a3
    obtain ⟨v5, ra, rfl, hv5, hr⟩ := zrs_un a4
    split
    · next w1 w2 w8 =>
      obtain ⟨ht1, hac1⟩ := (zrow_a td (zrow_lt w1 (by omega))).1 w1
      obtain ⟨ht2, hac2⟩ := (zrow_a ts (zrow_lt w2 (by omega))).1 w2
      show ((0 ≤ n ∧ 0 ≤ dp ∧ 0 ≤ sp) ∧ (sp + n ≤ zlen ts is μ ∧ dp + n ≤ zlen td id μ)) → zK p l e R s m args below meth c cells slots Q b0 D ca adK adV bS L xs mi C (k + 1, ls, r, mcp μ ts is sp td id dp n) → _
      rintro ⟨⟨n0, d0, s0⟩, b1, b2⟩ hK
      rw [zlen_n ts ht2 (by omega)] at b1
      rw [zlen_n td ht1 (by omega)] at b2
      obtain ⟨f1, f2, f3⟩ := zrv_unR hv3 ht1
      obtain ⟨g1, g2, g3⟩ := zrv_unR hv5 ht2
      subst f3
      subst g3
      have he1 := zws_at b0 ca μ f2
      have he2 := zws_at b0 ca μ g2
      rw [zcel_arr (by omega) (by omega), hac1] at he1
      rw [zcel_arr (by omega) (by omega), hac2] at he2
      have hsz : la.size = c.maxLocals := by rw [al.1, ag.1, hml]
      have hw8 : (ra.map fun v => v.category).sum ≤ 8 := by rw [zrs_words hr]; exact Nat.ble_eq.mp w8
      refine va_copyi hx hb hsz.symm hown (hts _ h2.1) (hts _ h2.2.1) (hts _ h2.2.2.1) (hts _ h2.2.2.2) hB.1 aP (zws_D b0 ca μ) aS _ _ 0 0 he2 he1 rfl rfl rfl ?_ ?_ ?_ ?_ ?_ (fun _ _ => rfl) hfr ?_ hd0 (fun H1 locs1 z1 _ z2 => ?_)
      · rw [Int32.lt_iff_toInt_lt, zi_to hsp]; exact fun q => by simp at q; omega
      · rw [Int32.lt_iff_toInt_lt, zi_to hdp]; exact fun q => by simp at q; omega
      · rw [Int32.lt_iff_toInt_lt, zi_to hn]; exact fun q => by simp at q; omega
      · rw [zn_nat hsp, zn_nat hn]; omega
      · rw [zn_nat hdp, zn_nat hn]; omega
      · have h9 : nativeFrameWords "java/lang/System" "arraycopy" 5 = 7 := by decide
        rw [h9]; omega
      · rw [zn_nat hsp, zn_nat hdp, zn_nat hn] at z1
        rw [zws_set (μ' := mcp μ ts is sp td id dp n) f2 ?_ ?_] at z1
        · rw [← hp]
          exact hK _ _ _ _ ⟨al, ag, hr, z1, zM_cp aM (by omega) (by omega) (by omega), z2⟩
        · rw [zcel_arr (by omega) (by omega), hac1]
          refine zarr_c (fun j' => ?_)
          unfold va_cpy mcp
          by_cases hj : dp.toNat ≤ j' ∧ j' < dp.toNat + n.toNat
          · rw [if_pos ⟨rfl, by omega, by omega, by omega⟩, if_pos hj]
            rw [show sp + ((j' : Int) - dp) = ((sp.toNat + (j' - dp.toNat) : Nat) : Int) by omega, show ((is.toNat : Nat) : Int) = is by omega]
          · rw [if_neg (fun q => hj (by omega)), if_neg hj]
        · intro t' i' h' hne
          refine zcel_off (x1 := td) (i := id.toNat) (fun t2 i2 k2 h2 => ?_) h' ?_
          · unfold mcp
            rw [if_neg (fun q => h2 ⟨q.1, by omega⟩)]
          · rw [zow_row td ht1]
            exact hne
    · trivial
  · trivial
theorem zc_return_ (hx : p.tables.exec = Jvm.exec) (hb : c.code = zby mi) (hml : c.maxLocals = zml mi) (hown : s.vm.findClass (zy mi).cls = some m.cls) (hts : ∀ w ∈ zTs, w.before args s = true) (hB : zBk b0 D ca adK adV bS L xs s) (hR : zfr mi ≤ R.frames ∧ zlo mi ≤ R.locals ∧ cells ≤ R.cells ∧ slots ≤ R.slots) {k pc a : Nat} {cs : List (Int × Nat)} (hd : zdk (zby mi) pc (.return_) = true) (hf : zfall C k pc (.return_) = true) (h1 : zchk1 mi C pc (.return_) a cs = true) (h2 : zOK2 (zy mi).cls (.return_) a cs) {ls st : List mzV} {μ : mzM} {H : Heap} {locs : List Loc} {la : Array Slot} {sa : List Value} (hA : zA b0 D ca adK adV bS L xs s mi ls st μ H locs la sa) : zgoal (W p l e R s m args below meth c H locs cells slots Q (F0 m pc la sa)) (zK p l e R s m args below meth c cells slots Q b0 D ca adK adV bS L xs mi C) (zKC p l e R s m args below meth c cells slots Q b0 D ca adK adV bS L xs mi C) (zKE p l e R s m args below meth c cells slots Q b0 D ca adK adV bS L xs mi) (zstep (.return_) a cs k ls st μ) := by
  have hd0 : decode (zby mi) pc = .ok (.return_, 1) := (zdk_p hd).resolve_left (by rintro ⟨_, _, _, _, h⟩; cases h)
  obtain ⟨al, ag, as, aP, aM, aS⟩ := hA
  match st, as with
  | [], as =>
    have h5 : sa = [] := by have := as.1; cases sa with | nil => rfl | cons _ _ => simp at this
    subst h5
    intro hE
    exact hE _ _ _ _ _ (Or.inl ⟨rfl, rfl, hd0, of_decide_eq_true h1⟩) aP aM aS
  | _ :: _, _ => trivial
theorem zc_lreturn (hx : p.tables.exec = Jvm.exec) (hb : c.code = zby mi) (hml : c.maxLocals = zml mi) (hown : s.vm.findClass (zy mi).cls = some m.cls) (hts : ∀ w ∈ zTs, w.before args s = true) (hB : zBk b0 D ca adK adV bS L xs s) (hR : zfr mi ≤ R.frames ∧ zlo mi ≤ R.locals ∧ cells ≤ R.cells ∧ slots ≤ R.slots) {k pc a : Nat} {cs : List (Int × Nat)} (hd : zdk (zby mi) pc (.lreturn) = true) (hf : zfall C k pc (.lreturn) = true) (h1 : zchk1 mi C pc (.lreturn) a cs = true) (h2 : zOK2 (zy mi).cls (.lreturn) a cs) {ls st : List mzV} {μ : mzM} {H : Heap} {locs : List Loc} {la : Array Slot} {sa : List Value} (hA : zA b0 D ca adK adV bS L xs s mi ls st μ H locs la sa) : zgoal (W p l e R s m args below meth c H locs cells slots Q (F0 m pc la sa)) (zK p l e R s m args below meth c cells slots Q b0 D ca adK adV bS L xs mi C) (zKC p l e R s m args below meth c cells slots Q b0 D ca adK adV bS L xs mi C) (zKE p l e R s m args below meth c cells slots Q b0 D ca adK adV bS L xs mi) (zstep (.lreturn) a cs k ls st μ) := by
  have hd0 : decode (zby mi) pc = .ok (.lreturn, 1) := (zdk_p hd).resolve_left (by rintro ⟨_, _, _, _, h⟩; cases h)
  obtain ⟨al, ag, as, aP, aM, aS⟩ := hA
  match st, as with
  | [], _ => trivial
  | none :: _, _ => trivial
  | some (.inl _) :: _, _ => trivial
  | some (.inr (.inr _)) :: _, _ => trivial
  | some (.inr (.inl _)) :: _ :: _, _ => trivial
  | [some (.inr (.inl n))], as =>
    obtain ⟨r1, rfl, hn, h5⟩ := zrs_unL as
    have h6 : r1 = [] := by have := h5.1; cases r1 with | nil => rfl | cons _ _ => simp at this
    subst h6
    intro hE
    exact hE _ _ _ _ _ (Or.inr (Or.inr (Or.inl ⟨n, rfl, rfl, hn, hd0, of_decide_eq_true h1⟩))) aP aM aS
theorem zc_areturn (hx : p.tables.exec = Jvm.exec) (hb : c.code = zby mi) (hml : c.maxLocals = zml mi) (hown : s.vm.findClass (zy mi).cls = some m.cls) (hts : ∀ w ∈ zTs, w.before args s = true) (hB : zBk b0 D ca adK adV bS L xs s) (hR : zfr mi ≤ R.frames ∧ zlo mi ≤ R.locals ∧ cells ≤ R.cells ∧ slots ≤ R.slots) {k pc a : Nat} {cs : List (Int × Nat)} (hd : zdk (zby mi) pc (.areturn) = true) (hf : zfall C k pc (.areturn) = true) (h1 : zchk1 mi C pc (.areturn) a cs = true) (h2 : zOK2 (zy mi).cls (.areturn) a cs) {ls st : List mzV} {μ : mzM} {H : Heap} {locs : List Loc} {la : Array Slot} {sa : List Value} (hA : zA b0 D ca adK adV bS L xs s mi ls st μ H locs la sa) : zgoal (W p l e R s m args below meth c H locs cells slots Q (F0 m pc la sa)) (zK p l e R s m args below meth c cells slots Q b0 D ca adK adV bS L xs mi C) (zKC p l e R s m args below meth c cells slots Q b0 D ca adK adV bS L xs mi C) (zKE p l e R s m args below meth c cells slots Q b0 D ca adK adV bS L xs mi) (zstep (.areturn) a cs k ls st μ) := by
  have hd0 : decode (zby mi) pc = .ok (.areturn, 1) := (zdk_p hd).resolve_left (by rintro ⟨_, _, _, _, h⟩; cases h)
  obtain ⟨al, ag, as, aP, aM, aS⟩ := hA
  match st, as with
  | [], _ => trivial
  | none :: _, _ => trivial
  | some (.inl _) :: _, _ => trivial
  | some (.inr (.inl _)) :: _, _ => trivial
  | some (.inr (.inr (_, _))) :: _ :: _, _ => trivial
  | [some (.inr (.inr (t, i)))], as =>
    obtain ⟨v0, r1, rfl, hv, h5⟩ := zrs_un as
    have h6 : r1 = [] := by have := h5.1; cases r1 with | nil => rfl | cons _ _ => simp at this
    subst h6
    intro hE
    have h7 : ∃ cn, zrt mi = some (.object cn) := by
      have h1 : (match zrt mi with | some (.object _) => true | _ => false) = true := h1
      split at h1
      · next cn hcn => exact ⟨cn, hcn⟩
      · cases h1
    obtain ⟨cn, h7⟩ := h7
    exact hE _ _ _ _ _ (Or.inr (Or.inr (Or.inr ⟨t, i, v0, cn, rfl, rfl, hv, hd0, h7⟩))) aP aM aS
theorem zc_ireturn (hx : p.tables.exec = Jvm.exec) (hb : c.code = zby mi) (hml : c.maxLocals = zml mi) (hown : s.vm.findClass (zy mi).cls = some m.cls) (hts : ∀ w ∈ zTs, w.before args s = true) (hB : zBk b0 D ca adK adV bS L xs s) (hR : zfr mi ≤ R.frames ∧ zlo mi ≤ R.locals ∧ cells ≤ R.cells ∧ slots ≤ R.slots) {k pc a : Nat} {cs : List (Int × Nat)} (hd : zdk (zby mi) pc (.ireturn) = true) (hf : zfall C k pc (.ireturn) = true) (h1 : zchk1 mi C pc (.ireturn) a cs = true) (h2 : zOK2 (zy mi).cls (.ireturn) a cs) {ls st : List mzV} {μ : mzM} {H : Heap} {locs : List Loc} {la : Array Slot} {sa : List Value} (hA : zA b0 D ca adK adV bS L xs s mi ls st μ H locs la sa) : zgoal (W p l e R s m args below meth c H locs cells slots Q (F0 m pc la sa)) (zK p l e R s m args below meth c cells slots Q b0 D ca adK adV bS L xs mi C) (zKC p l e R s m args below meth c cells slots Q b0 D ca adK adV bS L xs mi C) (zKE p l e R s m args below meth c cells slots Q b0 D ca adK adV bS L xs mi) (zstep (.ireturn) a cs k ls st μ) := by
  have hd0 : decode (zby mi) pc = .ok (.ireturn, 1) := (zdk_p hd).resolve_left (by rintro ⟨_, _, _, _, h⟩; cases h)
  obtain ⟨al, ag, as, aP, aM, aS⟩ := hA
  match st, as with
  | [], _ => trivial
  | none :: _, _ => trivial
  | some (.inr _) :: _, _ => trivial
  | some (.inl _) :: _ :: _, _ => trivial
  | [some (.inl n)], as =>
    obtain ⟨r1, rfl, hn, h5⟩ := zrs_unI as
    have h6 : r1 = [] := by have := h5.1; cases r1 with | nil => rfl | cons _ _ => simp at this
    subst h6
    intro hE
    have h1 : (match (generalizing := false) a with | 0 => decide (zrt mi = some .int) | 1 => decide (zrt mi = some .boolean) | 2 => decide (zrt mi = some .char) | _ => decide (zrt mi = some .byte)) = true := h1
    match a, h1, hE with
    | 0, h1, hE => exact hE _ _ _ _ _ (Or.inr (Or.inl ⟨n, n, .int, rfl, rfl, hn, hn, hd0, of_decide_eq_true h1, rfl, Or.inl rfl⟩)) aP aM aS
    | 1, h1, hE => exact hE _ _ _ _ _ (Or.inr (Or.inl ⟨n, n % 2, .boolean, rfl, rfl, hn, by constructor <;> omega, hd0, of_decide_eq_true h1, congrArg Value.int (zi_of (by rw [zn_bool, zi_to hn])), Or.inr (Or.inl rfl)⟩)) aP aM aS
    | 2, h1, hE => exact hE _ _ _ _ _ (Or.inr (Or.inl ⟨n, n % 65536, .char, rfl, rfl, hn, by constructor <;> omega, hd0, of_decide_eq_true h1, congrArg Value.int (by rw [zn_char]; exact zn_i2c hn), Or.inr (Or.inr (Or.inl rfl))⟩)) aP aM aS
    | j + 3, h1, hE => exact hE _ _ _ _ _ (Or.inr (Or.inl ⟨n, zb n, .byte, rfl, rfl, hn, zb_in n, hd0, of_decide_eq_true h1, congrArg Value.int (zn_i2b hn), Or.inr (Or.inr (Or.inr rfl))⟩)) aP aM aS
end Sim
end
section
theorem zisN_tab {w : Cond} (h : zisN w = true) : w.onTables = true := by
  cases w <;> first | rfl | cases h
theorem zNs_tab {w : Cond} (h : w ∈ zNs) : w.onTables = true := zisN_tab (List.mem_filter.mp h).2
theorem zNs_warm {w : Cond} (h : w ∈ zNs) {s U : State} (hW : s.WarmedH U.vm) (hZ : va_Nw w s) : va_Nw w U := by
  have h1 := (List.mem_filter.mp h).2
  cases w <;> first | exact va_Nw.warmF hW hZ | exact va_Nw.warmM hW hZ | cases h1
theorem zTs_good {w : Cond} (h : w ∈ zTs) : (w.onTables && w.keeps) = true ∨ ∃ ty, w = .arrayClass ty := good_of_word (List.mem_filter.mp h).2
theorem zwf_good {f : Nat} (h : f < 71) : GoodIn zTs (zwf f) := by
  intro w hw
  have h1 : w ∈ zTs := by
    rcases List.mem_cons.mp hw with h2 | h2
    · rw [h2]; exact zcw_all f h
    · exact h2
  exact ⟨h1, zTs_good h1⟩
theorem zwords_len : ∀ (l : List mzV), l.length ≤ zwords l ∧ (zwords l = l.length → ∀ w ∈ l, zisL w = false)
  | [] => ⟨Nat.le_refl _, fun _ w h => by cases h⟩
  | v :: l => by
    obtain ⟨h1, h2⟩ := zwords_len l
    unfold zwords
    cases hv : zisL v with
    | true => exact ⟨by simp only [List.length_cons]; omega, fun h => by simp only [List.length_cons] at h; omega⟩
    | false =>
      refine ⟨by simp only [List.length_cons]; omega, fun h w hw => ?_⟩
      simp only [List.length_cons] at h
      rcases List.mem_cons.mp hw with rfl | hw
      · exact hv
      · exact h2 (by omega) w hw
theorem zwords_tk {st : List mzV} {n : Nat} (h1 : n ≤ st.length) (h2 : Nat.beq (zwords (st.take n)) n = true) : ((st.take n).reverse).length = n ∧ ∀ w ∈ (st.take n).reverse, zisL w = false := by
  have h3 := Nat.eq_of_beq_eq_true h2
  have h4 : (st.take n).length = n := by rw [List.length_take]; omega
  refine ⟨by rw [List.length_reverse]; exact h4, fun w hw => (zwords_len (st.take n)).2 (by rw [h4]; exact h3) w (List.mem_reverse.mp hw)⟩
section Call
variable {p : Program} {l : Launch} {e : Env} {R : Room} {s : State} {m : MethodId} {args : Array Value} {below : List Frame} {meth : Method} {c : Code} {cells slots : Nat} {Q : State → Prop}
variable {b0 : Nat} {D : va_G} {ca : Nat → ClassId} {adK adV : Nat → Nat} {bS L : Nat} {xs : Nat → Int32} {mi : Nat} {C : List mzN}
theorem zBk_call {U : State} {g : JFrame} {mk : MethodId} {a : Array Value} (h : zBk b0 D ca adK adV bS L xs U) : zBk b0 D ca adK adV bS L xs (U.calling g mk a) :=
  ⟨va_K.moved (u := U) (U := U.calling g mk a) (Vm.Alike.refl U.vm) h.1, va_X.moved (u := U) (U := U.calling g mk a) (Vm.Alike.refl U.vm) h.2.1, h.2.2.1, fun w hw => va_Nw.same (zNs_tab hw) (u := U) (U := U.calling g mk a) rfl (h.2.2.2 w hw)⟩
theorem zBk_warm {U : State} {H : Heap} {locs : List Loc} (hU : U.heap = H) (hW : s.WarmedH U.vm) (hS : va_S (fun q => b0 ≤ q) s.heap H locs) (h : zBk b0 D ca adK adV bS L xs s) : zBk b0 D ca adK adV bS L xs U := by
  obtain ⟨h1, h3, ⟨h4, h5, h6⟩, h10⟩ := h
  subst hU
  exact ⟨h1.moved hW.alike, (h3.kept (hS.2.1 bS (by omega) (by omega))).moved hW.alike, ⟨h4, Nat.le_trans h5 hS.1, h6⟩, fun w hw => zNs_warm hw hW (h10 w hw)⟩
theorem zPre {μ : mzM} {H : Heap} {locs : List Loc} {As : List Value} (hB : zBk b0 D ca adK adV bS L xs s) (aP : va_P D zcl (zws b0 ca μ) H) (aM : zM L xs μ) (aS : va_S (fun q => b0 ≤ q) s.heap H locs) : PreS s H (va_Pc As (zB b0 D ca adK adV bS L xs μ)) As :=
  ⟨fun a U g mk q => ⟨q.1, zBk_call q.2.1, q.2.2.1, q.2.2.2⟩, fun U hU hW => ⟨rfl, zBk_warm hU hW aS hB, by rw [hU]; exact aP, aM⟩⟩
/-- behind a call -/
theorem zback {H : Heap} {locs : List Loc} {pc : Nat} {la : Array Slot} {sa rest : List Value} {a : Array Value} {r : Option mzV} {ν : mzM} (hr : va_Run p l e R s m args below meth c H locs cells slots 0 0 (F0 m pc la sa) rest (zQc b0 D ca adK adV bS L xs r ν a) (fun q => b0 ≤ q)) (hS : va_S (fun q => b0 ≤ q) s.heap H locs)
    (kk : ∀ (v : Option Value) (H1 : Heap) (locs1 : List Loc), zrO b0 adK adV bS r v → va_P D zcl (zws b0 ca ν) H1 → zM L xs ν → va_S (fun q => b0 ≤ q) s.heap H1 locs1 → W p l e R s m args below meth c H1 locs1 cells slots Q (F0 m (pc + 3) la (v.toList ++ rest))) : W p l e R s m args below meth c H locs cells slots Q (F0 m pc la sa) := by
  intro T hT X
  obtain ⟨v, st₀, t, T', L1, h0, X', hL, e1, e2, ⟨⟨v', hv, hp⟩, hP, hM, hz, hk⟩, st⟩ := hr T hT X
  cases hv
  rw [h0] at hz hk
  obtain ⟨t2, a1, b1⟩ := kk v T'.heap (locs ++ L1) hp (by rw [e1]; exact hP) hM
    ⟨Nat.le_trans hS.1 (by rw [e1]; exact hz), fun q h1 h2 => by rw [e1, hk q (Nat.lt_of_lt_of_le h1 hS.1) h2]; exact hS.2.1 q h1 h2, fun q hq => by
      rcases List.mem_append.mp hq with h | h
      · exact hS.2.2 q h
      · exact hL q h⟩ T' rfl X'
  exact ⟨t2, st t2 a1, b1⟩
theorem zwin {pc : Nat} {la : Array Slot} {sa : List Value} {ls st : List mzV} {ν : mzM} {k n : Nat} {r : Option mzV} (al : zrl b0 adK adV bS ls la) (ag : zlgo mi ls) (as : zrs b0 adK adV bS st sa) (hp : zpcs C (k + 1) = pc + 3)
    (hK : zK p l e R s m args below meth c cells slots Q b0 D ca adK adV bS L xs mi C (k + 1, ls, zpush r (st.drop n), ν)) : ∀ (v : Option Value) (H1 : Heap) (locs1 : List Loc), zrO b0 adK adV bS r v → va_P D zcl (zws b0 ca ν) H1 → zM L xs ν → va_S (fun q => b0 ≤ q) s.heap H1 locs1 → W p l e R s m args below meth c H1 locs1 cells slots Q (F0 m (pc + 3) la (v.toList ++ sa.drop n)) := by
  intro v H1 locs1 hr hP hM hS
  rw [← hp]
  exact hK _ _ _ _ ⟨al, ag, zrs_push hr (zrs_drop n as), hP, hM, hS⟩
theorem zcallS (hx : p.tables.exec = Jvm.exec) (hb : c.code = zby mi) (hml : c.maxLocals = zml mi) (hown : s.vm.findClass (zy mi).cls = some m.cls) (hts : ∀ w ∈ zTs, w.before args s = true) (hB : zBk b0 D ca adK adV bS L xs s) (hR : zfr mi ≤ R.frames ∧ zlo mi ≤ R.locals ∧ cells ≤ R.cells ∧ slots ≤ R.slots) {idx k pc a : Nat} {n : Int} {rk : Nat} {z : Int} {cs : List (Int × Nat)} (hd0 : decode (zby mi) pc = .ok (.invokestatic idx, 3)) (hp : zpcs C (k + 1) = pc + 3)
    (h1 : (Nat.ble (zfr a + 1) (zfr mi) && Nat.ble (8 + (zml a + 11) + zlo a) (zlo mi) && Nat.beq 0 0 && Nat.blt a 71 && Nat.ble n.toNat (zml a)) = true) (h2 : zML (zy mi).cls idx a n 0) {ls st : List mzV} {μ : mzM} {H : Heap} {locs : List Loc} {la : Array Slot} {sa : List Value} (hA : zA b0 D ca adK adV bS L xs s mi ls st μ H locs la sa) :
    zgoal (W p l e R s m args below meth c H locs cells slots Q (F0 m pc la sa)) (zK p l e R s m args below meth c cells slots Q b0 D ca adK adV bS L xs mi C) (zKC p l e R s m args below meth c cells slots Q b0 D ca adK adV bS L xs mi C) (zKE p l e R s m args below meth c cells slots Q b0 D ca adK adV bS L xs mi) (zcall a ((n, rk) :: (z, 0) :: cs) st μ (k + 1) ls) := by
  obtain ⟨al, ag, as, aP, aM, aS⟩ := hA
  simp only [Bool.and_eq_true, Nat.ble_eq, Nat.blt_eq] at h1
  obtain ⟨⟨⟨⟨q1, q2⟩, -⟩, q3⟩, q4⟩ := h1
  unfold zcall
  dsimp only
  split
  · next w1 w2 =>
    simp only [Bool.and_eq_true, Nat.ble_eq] at w1 w2
    rintro ⟨r, ν, hM0, hK⟩
    obtain ⟨t1, t2⟩ := zwords_tk w2.1 w2.2
    have hM := hM0 ⟨q3, by rw [t1]; exact q4, t2⟩
    have hav : zrs b0 adK adV bS (st.take n.toNat).reverse (sa.take n.toNat).reverse := zrs_rev (zrs_take n.toNat as)
    have hlen : n.toNat ≤ sa.length := by rw [← as.1]; exact w2.1
    obtain ⟨g1, g2, g3, g4, g5, g6⟩ := h2
    refine zback (va_runS (cc := zby mi) (nL := zml mi) (own := (zy mi).cls) (Ts := zTs) (n := n.toNat) (As := (sa.take n.toNat).reverse) (rest := sa.drop n.toNat) (index := idx) ⟨hx, hb, hml, hown, hts⟩ (hM _ hav) ⟨callB_of n.toNat hts (zwf_good q3) rfl rfl rfl (hts _ g4) (hts _ g5) ⟨g1, g2, g3⟩ ⟨Nat.le_trans q1 hR.1, Nat.le_trans q2 hR.2.1⟩, hts _ g6⟩ (zPre hB aP aM aS) rfl ?_ ?_ ?_ (lv_room ?_) hd0 ⟨hR.2.2.1, hR.2.2.2⟩) aS (zwin al ag as hp hK)
    · rw [List.length_reverse, List.length_take]; omega
    · show la.size = zml mi
      rw [al.1, ag.1]
    · show sa = _
      rw [List.reverse_reverse, List.take_append_drop]
    · rw [zrs_words (zrs_drop n.toNat as)]; exact w1
  · trivial
theorem zrecv (hB : zBk b0 D ca adK adV bS L xs s) {μ : mzM} {H : Heap} {locs : List Loc} (aP : va_P D zcl (zws b0 ca μ) H) (aS : va_S (fun q => b0 ≤ q) s.heap H locs) {t : Nat} {i : Int} {v : Value} (hv : zrv b0 adK adV bS (vR t i) v) (ht : (Nat.beq (zrow t) 0 && Nat.blt 0 (zcnt t)) = true) :
    ∃ b, v = .ref b ∧ ∃ cellB : Cell, H[b]? = some cellB ∧ cellB.vm.isStatics = false ∧ s.vm.findClass (zcname t) = some cellB.cls := by
  simp only [Bool.and_eq_true, Nat.blt_eq] at ht
  have h0 := Nat.eq_of_beq_eq_true ht.1
  have hlt := zcnt_lt ht.2
  obtain ⟨g1, g2, g3⟩ := zrv_unR hv hlt
  obtain ⟨C1, T1, N1, ty1, z1, -⟩ := zcls_of hlt ht.2 h0
  have he := zws_at b0 ca μ g2
  rw [zcel_obj h0] at he
  obtain ⟨cell, k1, k2, k3⟩ := va_recv hB.1 aP z1 he
  refine ⟨_, g3, cell, k1, k2, ?_⟩
  have hn := ztag_ok t hlt ht.2 h0
  rw [z1] at hn
  rw [← Option.some.inj hn]
  exact k3
theorem zcallV (hx : p.tables.exec = Jvm.exec) (hb : c.code = zby mi) (hml : c.maxLocals = zml mi) (hown : s.vm.findClass (zy mi).cls = some m.cls) (hts : ∀ w ∈ zTs, w.before args s = true) (hB : zBk b0 D ca adK adV bS L xs s) (hR : zfr mi ≤ R.frames ∧ zlo mi ≤ R.locals ∧ cells ≤ R.cells ∧ slots ≤ R.slots) {idx k pc a : Nat} {n : Int} {rk g : Nat} {z : Int} {cs : List (Int × Nat)} (hd0 : decode (zby mi) pc = .ok (.invokevirtual idx, 3)) (hp : zpcs C (k + 1) = pc + 3)
    (h1 : (Nat.ble (zfr a + 1) (zfr mi) && Nat.ble (8 + (zml a + 11) + zlo a) (zlo mi) && Nat.blt 0 (g + 1) && Nat.blt 0 n.toNat && Nat.blt a 71 && Nat.ble n.toNat (zml a) && (Nat.beq (zrow (g + 1 - 1)) 0 && Nat.blt 0 (zcnt (g + 1 - 1)))) = true) (h2 : zML (zy mi).cls idx a n (g + 1)) {ls st : List mzV} {μ : mzM} {H : Heap} {locs : List Loc} {la : Array Slot} {sa : List Value} (hA : zA b0 D ca adK adV bS L xs s mi ls st μ H locs la sa) :
    zgoal (W p l e R s m args below meth c H locs cells slots Q (F0 m pc la sa)) (zK p l e R s m args below meth c cells slots Q b0 D ca adK adV bS L xs mi C) (zKC p l e R s m args below meth c cells slots Q b0 D ca adK adV bS L xs mi C) (zKE p l e R s m args below meth c cells slots Q b0 D ca adK adV bS L xs mi) (zcall a ((n, rk) :: (z, g + 1) :: cs) st μ (k + 1) ls) := by
  obtain ⟨al, ag, as, aP, aM, aS⟩ := hA
  rw [Bool.and_eq_true] at h1
  obtain ⟨h1, q5⟩ := h1
  simp only [Bool.and_eq_true, Nat.ble_eq, Nat.blt_eq] at h1
  obtain ⟨⟨⟨⟨⟨q1, q2⟩, -⟩, qn⟩, q3⟩, q4⟩ := h1
  unfold zcall
  dsimp only
  split
  · next w1 w2 =>
    simp only [Bool.and_eq_true, Nat.ble_eq] at w1 w2
    have hav : zrs b0 adK adV bS (st.take n.toNat).reverse (sa.take n.toNat).reverse := zrs_rev (zrs_take n.toNat as)
    have hlen : n.toNat ≤ sa.length := by rw [← as.1]; exact w2.1
    split
    · next t i r0 hst =>
      split
      · next hg =>
        have htg := Nat.eq_of_beq_eq_true hg
        subst htg
        rintro ⟨r, ν, hM0, hK⟩
        obtain ⟨t1, t2⟩ := zwords_tk w2.1 w2.2
        have hM := hM0 ⟨q3, by rw [t1]; exact q4, t2⟩
        rw [hst] at hav
        obtain ⟨v0, As, hsa, hv, hAs⟩ := zrs_un hav
        obtain ⟨b, rfl, hcell⟩ := zrecv hB aP aS hv q5
        obtain ⟨g1, g2, g3, g4, g5, g6, g7, g8⟩ := h2
        rw [g7] at hcell
        have hAl : As.length = n.toNat - 1 := by
          have h3 := congrArg List.length hsa
          rw [List.length_reverse, List.length_take, List.length_cons] at h3
          omega
        have hstk : sa = As.reverse ++ Value.ref b :: sa.drop n.toNat := by
          have h3 : sa.take n.toNat = As.reverse ++ [Value.ref b] := by
            rw [← List.reverse_reverse (sa.take n.toNat), hsa, List.reverse_cons]
          calc sa = sa.take n.toNat ++ sa.drop n.toNat := (List.take_append_drop _ _).symm
            _ = _ := by rw [h3, List.append_assoc]; rfl
        have hpre : PreV s H (zy a).cls b (va_Pc (Value.ref b :: As) (zB b0 D ca adK adV bS L xs μ)) As := ⟨(zPre (As := Value.ref b :: As) hB aP aM aS).1, hcell, (zPre (As := Value.ref b :: As) hB aP aM aS).2⟩
        have hM2 := hM (Value.ref b :: As) (by rw [hst, ← hsa, ← hst]; exact zrs_rev (zrs_take n.toNat as))
        have hfl : la.size = zml mi := by rw [al.1, ag.1]
        have hw8 : ((sa.drop n.toNat).map fun v => v.category).sum ≤ 8 := by rw [zrs_words (zrs_drop n.toNat as)]; exact w1
        rcases g8 with g8 | g8
        · exact zback (va_runV (cc := zby mi) (nL := zml mi) (own := (zy mi).cls) (Ts := zTs) (n := n.toNat - 1) (As := As) (rest := sa.drop n.toNat) (index := idx) (C := (zy a).cls) ⟨hx, hb, hml, hown, hts⟩ hM2 ⟨callB_of (n.toNat - 1) hts (zwf_good q3) rfl rfl rfl (hts _ g4) (hts _ g8) ⟨g1, g2, g3⟩ ⟨Nat.le_trans q1 hR.1, Nat.le_trans q2 hR.2.1⟩, hts _ g5, hts _ g6⟩ hpre rfl hAl hfl hstk (lv_room hw8) hd0 ⟨hR.2.2.1, hR.2.2.2⟩) aS (zwin al ag as hp hK)
        · exact zback (va_runVN (cc := zby mi) (nL := zml mi) (own := (zy mi).cls) (Ts := zTs) (n := n.toNat - 1) (As := As) (rest := sa.drop n.toNat) (index := idx) (C := (zy a).cls) (host := "FrameDeltas") ⟨hx, hb, hml, hown, hts⟩ hM2 ⟨va_cnB (n.toNat - 1) hts (zwf_good q3) rfl rfl rfl (hB.2.2.2 _ g8) (hts _ g4) ⟨g1, g2, g3⟩ ⟨Nat.le_trans q1 hR.1, Nat.le_trans q2 hR.2.1⟩, hts _ g5, hts _ g6⟩ hpre rfl hAl hfl hstk (lv_room hw8) hd0 ⟨hR.2.2.1, hR.2.2.2⟩) aS (zwin al ag as hp hK)
      · trivial
    · trivial
  · trivial
end Call
end
section
section Main
variable {p : Program} {l : Launch} {e : Env} {R : Room} {s : State} {m : MethodId} {args : Array Value} {below : List Frame} {meth : Method} {c : Code} {cells slots : Nat} {Q : State → Prop}
variable {b0 : Nat} {D : va_G} {ca : Nat → ClassId} {adK adV : Nat → Nat} {bS L : Nat} {xs : Nat → Int32} {mi : Nat} {C : List mzN}
theorem zc_invokestatic (hx : p.tables.exec = Jvm.exec) (hb : c.code = zby mi) (hml : c.maxLocals = zml mi) (hown : s.vm.findClass (zy mi).cls = some m.cls) (hts : ∀ w ∈ zTs, w.before args s = true) (hB : zBk b0 D ca adK adV bS L xs s) (hR : zfr mi ≤ R.frames ∧ zlo mi ≤ R.locals ∧ cells ≤ R.cells ∧ slots ≤ R.slots) (hcp : ∀ q ∈ C, q.2.2.1 = 999 → 40 ≤ zlo mi) (h1f : 1 ≤ zfr mi) {idx k pc a : Nat} {cs : List (Int × Nat)} {hh : Bool} (hq : (pc, Instr.invokestatic idx, a, cs, hh) ∈ C) (hd : zdk (zby mi) pc (.invokestatic idx) = true) (hf : zfall C k pc (.invokestatic idx) = true) (h1 : zchk1 mi C pc (.invokestatic idx) a cs = true) (h2 : zOK2 (zy mi).cls (.invokestatic idx) a cs) {ls st : List mzV} {μ : mzM} {H : Heap} {locs : List Loc} {la : Array Slot} {sa : List Value} (hA : zA b0 D ca adK adV bS L xs s mi ls st μ H locs la sa) : zgoal (W p l e R s m args below meth c H locs cells slots Q (F0 m pc la sa)) (zK p l e R s m args below meth c cells slots Q b0 D ca adK adV bS L xs mi C) (zKC p l e R s m args below meth c cells slots Q b0 D ca adK adV bS L xs mi C) (zKE p l e R s m args below meth c cells slots Q b0 D ca adK adV bS L xs mi) (zstep (.invokestatic idx) a cs k ls st μ) := by
  have hd0 : decode (zby mi) pc = .ok (.invokestatic idx, 3) := (zdk_p hd).resolve_left (by rintro ⟨_, _, _, _, h⟩; cases h)
  have hp : zpcs C (k + 1) = pc + 3 := zfl_p hf
  have hcp2 := hcp _ hq
  unfold zstep
  dsimp only
  split
  · exact zcp_ok hx hb hml hown hts hB (Nat.le_trans h1f hR.1) (Nat.le_trans (hcp2 rfl) hR.2.1) hd0 hp h2 hA
  · next a' hne =>
    match cs, h1, h2 with
    | [], _, _ => trivial
    | [_], _, _ => trivial
    | (n, rk) :: (z, 0) :: cs, h1, h2 =>
      unfold zOK2 at h2
      dsimp only at h2
      split at h2
      · exact absurd rfl hne
      · exact zcallS hx hb hml hown hts hB hR hd0 hp h1 h2 hA
    | (n, rk) :: (z, g + 1) :: cs, h1, h2 =>
      have h3 : (Nat.ble (zfr a + 1) (zfr mi) && Nat.ble (8 + (zml a + 11) + zlo a) (zlo mi) && Nat.beq (g + 1) 0 && Nat.blt a 71 && Nat.ble n.toNat (zml a)) = true := h1
      simp only [Bool.and_eq_true] at h3
      exact absurd h3.1.1.2 (by simp)
theorem zc_invokevirtual (hx : p.tables.exec = Jvm.exec) (hb : c.code = zby mi) (hml : c.maxLocals = zml mi) (hown : s.vm.findClass (zy mi).cls = some m.cls) (hts : ∀ w ∈ zTs, w.before args s = true) (hB : zBk b0 D ca adK adV bS L xs s) (hR : zfr mi ≤ R.frames ∧ zlo mi ≤ R.locals ∧ cells ≤ R.cells ∧ slots ≤ R.slots) {idx k pc a : Nat} {cs : List (Int × Nat)} (hd : zdk (zby mi) pc (.invokevirtual idx) = true) (hf : zfall C k pc (.invokevirtual idx) = true) (h1 : zchk1 mi C pc (.invokevirtual idx) a cs = true) (h2 : zOK2 (zy mi).cls (.invokevirtual idx) a cs) {ls st : List mzV} {μ : mzM} {H : Heap} {locs : List Loc} {la : Array Slot} {sa : List Value} (hA : zA b0 D ca adK adV bS L xs s mi ls st μ H locs la sa) : zgoal (W p l e R s m args below meth c H locs cells slots Q (F0 m pc la sa)) (zK p l e R s m args below meth c cells slots Q b0 D ca adK adV bS L xs mi C) (zKC p l e R s m args below meth c cells slots Q b0 D ca adK adV bS L xs mi C) (zKE p l e R s m args below meth c cells slots Q b0 D ca adK adV bS L xs mi) (zstep (.invokevirtual idx) a cs k ls st μ) := by
  have hd0 : decode (zby mi) pc = .ok (.invokevirtual idx, 3) := (zdk_p hd).resolve_left (by rintro ⟨_, _, _, _, h⟩; cases h)
  have hp : zpcs C (k + 1) = pc + 3 := zfl_p hf
  match cs, h1, h2 with
  | [], _, _ => trivial
  | [_], _, _ => trivial
  | (n, rk) :: (z, 0) :: cs, h1, h2 =>
    have h3 : (Nat.ble (zfr a + 1) (zfr mi) && Nat.ble (8 + (zml a + 11) + zlo a) (zlo mi) && Nat.blt 0 0 && Nat.blt 0 n.toNat && Nat.blt a 71 && Nat.ble n.toNat (zml a) && (Nat.beq (zrow (0 - 1)) 0 && Nat.blt 0 (zcnt (0 - 1)))) = true := h1
    simp only [Bool.and_eq_true] at h3
    exact absurd h3.1.1.1.1.2 (by simp)
  | (n, rk) :: (z, g + 1) :: cs, h1, h2 => exact zcallV (z := z) (cs := cs) hx hb hml hown hts hB hR hd0 hp h1 h2 hA
theorem zstep_ok (hx : p.tables.exec = Jvm.exec) (hb : c.code = zby mi) (hml : c.maxLocals = zml mi) (hown : s.vm.findClass (zy mi).cls = some m.cls) (hts : ∀ w ∈ zTs, w.before args s = true) (hB : zBk b0 D ca adK adV bS L xs s) (hR : zfr mi ≤ R.frames ∧ zlo mi ≤ R.locals ∧ cells ≤ R.cells ∧ slots ≤ R.slots) (hcp : ∀ q ∈ C, q.2.2.1 = 999 → 40 ≤ zlo mi) (h1f : 1 ≤ zfr mi) {I : Instr} {k pc a : Nat} {cs : List (Int × Nat)} {hh : Bool} (hq : (pc, I, a, cs, hh) ∈ C) (hd : zdk (zby mi) pc I = true) (hf : zfall C k pc I = true) (h1 : zchk1 mi C pc I a cs = true) (h2 : zOK2 (zy mi).cls I a cs) {ls st : List mzV} {μ : mzM} {H : Heap} {locs : List Loc} {la : Array Slot} {sa : List Value} (hA : zA b0 D ca adK adV bS L xs s mi ls st μ H locs la sa) : zgoal (W p l e R s m args below meth c H locs cells slots Q (F0 m pc la sa)) (zK p l e R s m args below meth c cells slots Q b0 D ca adK adV bS L xs mi C) (zKC p l e R s m args below meth c cells slots Q b0 D ca adK adV bS L xs mi C) (zKE p l e R s m args below meth c cells slots Q b0 D ca adK adV bS L xs mi) (zstep I a cs k ls st μ) := by
  cases I with
  | iconst _ => exact zc_iconst hx hb hml hown hts hB hR hd hf h1 h2 hA
  | bipush _ => exact zc_bipush hx hb hml hown hts hB hR hd hf h1 h2 hA
  | sipush _ => exact zc_sipush hx hb hml hown hts hB hR hd hf h1 h2 hA
  | ldc_w _ => exact zc_ldc_w hx hb hml hown hts hB hR hd hf h1 h2 hA
  | lconst _ => exact zc_lconst hx hb hml hown hts hB hR hd hf h1 h2 hA
  | ldc2_w _ => exact zc_ldc2_w hx hb hml hown hts hB hR hd hf h1 h2 hA
  | ldc _ => exact zc_ldc hx hb hml hown hts hB hR hd hf h1 h2 hA
  | aconst_null => exact zc_aconst_null hx hb hml hown hts hB hR hd hf h1 h2 hA
  | iload _ => exact zc_iload hx hb hml hown hts hB hR hd hf h1 h2 hA
  | iload_n _ => exact zc_iload_n hx hb hml hown hts hB hR hd hf h1 h2 hA
  | lload_n _ => exact zc_lload_n hx hb hml hown hts hB hR hd hf h1 h2 hA
  | lload _ => exact zc_lload hx hb hml hown hts hB hR hd hf h1 h2 hA
  | aload _ => exact zc_aload hx hb hml hown hts hB hR hd hf h1 h2 hA
  | aload_n _ => exact zc_aload_n hx hb hml hown hts hB hR hd hf h1 h2 hA
  | istore _ => exact zc_istore hx hb hml hown hts hB hR hd hf h1 h2 hA
  | istore_n _ => exact zc_istore_n hx hb hml hown hts hB hR hd hf h1 h2 hA
  | astore _ => exact zc_astore hx hb hml hown hts hB hR hd hf h1 h2 hA
  | astore_n _ => exact zc_astore_n hx hb hml hown hts hB hR hd hf h1 h2 hA
  | lstore_n _ => exact zc_lstore_n hx hb hml hown hts hB hR hd hf h1 h2 hA
  | lstore _ => exact zc_lstore hx hb hml hown hts hB hR hd hf h1 h2 hA
  | iinc _ _ => exact zc_iinc hx hb hml hown hts hB hR hd hf h1 h2 hA
  | iadd => exact zc_iadd hx hb hml hown hts hB hR hd hf h1 h2 hA
  | isub => exact zc_isub hx hb hml hown hts hB hR hd hf h1 h2 hA
  | imul => exact zc_imul hx hb hml hown hts hB hR hd hf h1 h2 hA
  | idiv => exact zc_idiv hx hb hml hown hts hB hR hd hf h1 h2 hA
  | irem => exact zc_irem hx hb hml hown hts hB hR hd hf h1 h2 hA
  | ineg => exact zc_ineg hx hb hml hown hts hB hR hd hf h1 h2 hA
  | iand => exact zc_iand hx hb hml hown hts hB hR hd hf h1 h2 hA
  | ixor => exact zc_ixor hx hb hml hown hts hB hR hd hf h1 h2 hA
  | ishl => exact zc_ishl hx hb hml hown hts hB hR hd hf h1 h2 hA
  | ishr => exact zc_ishr hx hb hml hown hts hB hR hd hf h1 h2 hA
  | iushr => exact zc_iushr hx hb hml hown hts hB hR hd hf h1 h2 hA
  | ladd => exact zc_ladd hx hb hml hown hts hB hR hd hf h1 h2 hA
  | lmul => exact zc_lmul hx hb hml hown hts hB hR hd hf h1 h2 hA
  | lcmp => exact zc_lcmp hx hb hml hown hts hB hR hd hf h1 h2 hA
  | i2l => exact zc_i2l hx hb hml hown hts hB hR hd hf h1 h2 hA
  | l2i => exact zc_l2i hx hb hml hown hts hB hR hd hf h1 h2 hA
  | i2c => exact zc_i2c hx hb hml hown hts hB hR hd hf h1 h2 hA
  | i2b => exact zc_i2b hx hb hml hown hts hB hR hd hf h1 h2 hA
  | dup => exact zc_dup hx hb hml hown hts hB hR hd hf h1 h2 hA
  | dup2 => exact zc_dup2 hx hb hml hown hts hB hR hd hf h1 h2 hA
  | pop => exact zc_pop hx hb hml hown hts hB hR hd hf h1 h2 hA
  | goto _ => exact zc_goto hx hb hml hown hts hB hR hd hf h1 h2 hA
  | if_icmp _ _ => exact zc_if_icmp hx hb hml hown hts hB hR hd hf h1 h2 hA
  | ifCond _ _ => exact zc_ifCond hx hb hml hown hts hB hR hd hf h1 h2 hA
  | ifnull _ => exact zc_ifnull hx hb hml hown hts hB hR hd hf h1 h2 hA
  | ifnonnull _ => exact zc_ifnonnull hx hb hml hown hts hB hR hd hf h1 h2 hA
  | tableswitch _ _ _ _ => exact zc_tableswitch hx hb hml hown hts hB hR hd hf h1 h2 hA
  | getfield _ => exact zc_getfield hx hb hml hown hts hB hR hd hf h1 h2 hA
  | putfield _ => exact zc_putfield hx hb hml hown hts hB hR hd hf h1 h2 hA
  | arraylength => exact zc_arraylength hx hb hml hown hts hB hR hd hf h1 h2 hA
  | iaload => exact zc_iaload hx hb hml hown hts hB hR hd hf h1 h2 hA
  | aaload => exact zc_aaload hx hb hml hown hts hB hR hd hf h1 h2 hA
  | iastore => exact zc_iastore hx hb hml hown hts hB hR hd hf h1 h2 hA
  | invokevirtual _ => exact zc_invokevirtual hx hb hml hown hts hB hR hd hf h1 h2 hA
  | ireturn => exact zc_ireturn hx hb hml hown hts hB hR hd hf h1 h2 hA
  | lreturn => exact zc_lreturn hx hb hml hown hts hB hR hd hf h1 h2 hA
  | areturn => exact zc_areturn hx hb hml hown hts hB hR hd hf h1 h2 hA
  | return_ => exact zc_return_ hx hb hml hown hts hB hR hd hf h1 h2 hA
  | invokestatic _ => exact zc_invokestatic hx hb hml hown hts hB hR hcp h1f hq hd hf h1 h2 hA
  | _ => trivial
theorem zchk0_at {mi : Nat} {C : List mzN} : ∀ (D : List mzN) (j i : Nat) {pc : Nat} {I : Instr} {a : Nat} {cs : List (Int × Nat)} {hh : Bool}, zchk0 mi C j D = true → D[i]? = some (pc, I, a, cs, hh) → (zdk (zby mi) pc I = true ∧ zfall C (j + i) pc I = true) ∧ zchk1 mi C pc I a cs = true
  | [], j, i, pc, I, a, cs, hh, _, h => by simp at h
  | (pc0, I0, a0, cs0, hh0) :: D, j, i, pc, I, a, cs, hh, h0, h => by
    simp only [zchk0, Bool.and_eq_true] at h0
    cases i with
    | zero => simp at h; obtain ⟨rfl, rfl, rfl, rfl, rfl⟩ := h; exact ⟨h0.1.1, h0.1.2⟩
    | succ i =>
      have h3 := zchk0_at D (j + 1) i h0.2 (by simpa using h)
      rw [show j + (i + 1) = j + 1 + i by omega]
      exact h3
theorem zall2_at {own : String} : ∀ (D : List mzN) (i : Nat) {pc : Nat} {I : Instr} {a : Nat} {cs : List (Int × Nat)} {hh : Bool}, zall2 own D → D[i]? = some (pc, I, a, cs, hh) → zOK2 own I a cs
  | [], i, pc, I, a, cs, hh, _, h => by simp at h
  | (pc0, I0, a0, cs0, hh0) :: D, i, pc, I, a, cs, hh, h0, h => by
    cases i with
    | zero => simp at h; obtain ⟨rfl, rfl, rfl, rfl, rfl⟩ := h; exact h0.1
    | succ i => exact zall2_at D i h0.2 (by simpa using h)
theorem zchk_at {mi k pc : Nat} {I : Instr} {a : Nat} {cs : List (Int × Nat)} {hh : Bool} (h : (zcd mi)[k]? = some (pc, I, a, cs, hh)) : ((zdk (zby mi) pc I = true ∧ zfall (zcd mi) k pc I = true) ∧ zchk1 mi (zcd mi) pc I a cs = true) ∧ zOK2 (zy mi).cls I a cs := by
  have h0 := zok1_all mi
  unfold zchk at h0
  simp only [Bool.and_eq_true] at h0
  have h1 := zchk0_at (zcd mi) 0 k h0.1.1 h
  rw [Nat.zero_add] at h1
  exact ⟨h1, zall2_at (zcd mi) k (zok2_all mi) h⟩
theorem zchk_cp {mi : Nat} : ∀ q ∈ zcd mi, q.2.2.1 = 999 → 40 ≤ zlo mi := by
  intro q hq h9
  have h0 := zok1_all mi
  unfold zchk at h0
  simp only [Bool.and_eq_true] at h0
  have h1 := h0.2
  have h2 : (zcd mi).any (fun q => Nat.beq q.2.2.1 999) = true := List.any_eq_true.mpr ⟨q, hq, by rw [h9]; rfl⟩
  rw [h2] at h1
  exact Nat.ble_eq.mp h1
theorem zpcs_0 (mi : Nat) : zpcs (zcd mi) 0 = 0 := by
  have h0 := zok1_all mi
  unfold zchk at h0
  simp only [Bool.and_eq_true] at h0
  have h1 := h0.1.2
  unfold zpcs
  cases hC : zcd mi with
  | nil => rfl
  | cons x D =>
    obtain ⟨pc, r⟩ := x
    rw [hC] at h1
    exact Nat.eq_of_beq_eq_true h1
theorem zfr_pos : ∀ f, f < 72 → 1 ≤ zfr f := by decide +kernel
theorem zplain : ∀ f, f < 71 → plainFor (zy f) = true := by decide +kernel
/-- as the kit's maker of contracts, for the methods of java.lang.Math too -/
theorem zMet_of {l : Launch} {y : MethodName} {ws ws' : List Cond} {rm : Room} {Pc : Array Value → State → Prop} {Qc : Array Value → State → Outcome → State → Prop} {mc ms : Nat} {free : Addr → Prop} {cc : ByteArray} {maxL : Nat} {ret : Option FieldType}
    (hy : plainFor y = true) (hw : ws = Cond.code y cc maxL ret :: ws')
    (body : ∀ p e s m args below meth c s₁, BodyLoose p l y (headSpec ws rm) cc maxL ret e s m args below meth c s₁ → c.maxLocals = maxL → Pc args s →
      W p l e (headSpec ws rm).room s m args below meth c s.heap [] 0 0 (MQ below Qc args s mc ms free) (entryFrame m args maxL)) : Met l y ws rm Pc Qc mc ms free := by
  refine MetFree.of_bodySF (code := cc) (maxLocals := maxL) (ret := ret) hy ?_ ?_
  · intro args s m h hn
    obtain ⟨meth, c, h1, h2, h3, h4, h5, h6, -, -⟩ := Cond.code_spec hn (atoms_spec (ws := ws) h _ (by rw [hw]; exact List.mem_cons_self))
    exact ⟨meth, c, h1, h2, h3, h4, h5, h6⟩
  · intro p e s m args below meth c s₁ B hml hP _
    have hh0 : s₁.heap = s.heap := by rw [B.state]; rfl
    obtain ⟨t, a1, o, b1, b2, b3⟩ := body p e s m args below meth c s₁ B hml hP s₁ hh0 (Stand.of_body B)
    exact ⟨t, o, a1, b1, b2, ⟨b3.1, b3.2⟩⟩
/-- the end of a method whose answer is a number -/
theorem zW_ret {cc : ByteArray} {Qc : Array Value → State → Outcome → State → Prop} {free : Addr → Prop} {H : Heap} {locs : List Loc} {v v' : Int32} {ty : FieldType} (hexec : p.tables.exec = Jvm.exec) (hb : c.code = cc) (hr : meth.sig.returnType = some ty) (hn : narrow ty (.int v) = .int v') (hlocks : meth.locks = false)
    (hq : ∀ t : State, t.heap = H → s.WarmedH t.vm → Qc args s (.returned (some (.int v'))) t) (hf : ∀ q ∈ locs, free q.base)
    {pc : Nat} {ls : Array Slot} (hdg : decode cc pc = .ok (.ireturn, 1)) : W p l e R s m args below meth c H locs cells slots (MQ below Qc args s cells slots free) (F0 m pc ls [.int v]) := by
  intro T hT X
  obtain ⟨fs, hret, hrun, hended, hW, hframe⟩ := X.leave (v := some (.int v')) (fun h => by rw [hr] at h; cases h)
  have hmeth' : T.vm.method? m = some meth := X.method'
  refine ⟨T.setFrames fs, ?_, .returned (some (.int v')), hrun, hended, hq _ hT hW, locs, ⟨⟨_, rfl⟩, hW, hframe⟩, hf⟩
  jvm_step X.here [X.here.top, hexec, hb, hdg, hmeth', hr, hn]
  (try refine ⟨rfl, ?_⟩); (try refine ⟨rfl, ?_⟩)
  first | (intro acts; rw [hret _ acts rfl rfl rfl]) | rw [hret _ _ rfl rfl rfl]
  exact Steps.refl _
theorem zKE_end {f : Nat} {r : Option mzV} {ν : mzM} {av : List Value} (hexec : p.tables.exec = Jvm.exec) (hb : c.code = zby f) (hr : meth.sig.returnType = zrt f) (hlocks : meth.locks = false) : zKE p l e R s m args below meth c 0 0 (MQ below (zQc b0 D ca adK adV bS L xs r ν) args s 0 0 (fun q => b0 ≤ q)) b0 D ca adK adV bS L xs f r ν := by
  intro H locs la sa pc hraw hP hM hS
  have hq : ∀ (v : Option Value), zrO b0 adK adV bS r v → ∀ t : State, t.heap = H → s.WarmedH t.vm → zQc b0 D ca adK adV bS L xs r ν args s (.returned v) t := fun v hv t ht _ => ⟨⟨v, rfl, hv⟩, by rw [ht]; exact hP, hM, hS.F ht⟩
  rcases hraw with ⟨rfl, rfl, hd, h4⟩ | ⟨n, n', ty, rfl, rfl, h3, h4, hd, h5, h6, h7⟩ | ⟨n, rfl, rfl, h3, hd, h5⟩ | ⟨t, i, v, cn, rfl, rfl, hv, hd, h5⟩
  · exact W.vret hexec hb (hr.trans h4) (hq none trivial) hS.2.2 hd hlocks
  · exact zW_ret hexec hb (hr.trans h5) h6 hlocks (hq _ (show zrv b0 adK adV bS (vI n') _ from zrv_I h4)) hS.2.2 hd
  · exact W.lret hexec hb (hr.trans h5) (hq _ (show zrv b0 adK adV bS (vL n) _ from zrv_L h3)) hS.2.2 hd hlocks
  · exact W.aret hexec hb (hr.trans h5) (Or.inl ⟨_, rfl⟩) (zrv_ref hv) (hq _ (show zrv b0 adK adV bS (vR t i) _ from hv)) hS.2.2 hd hlocks
theorem zent_ok {f : Nat} {as : List mzV} {av : List Value} (hf : as.length ≤ zml f) (hn : ∀ w ∈ as, zisL w = false) (h : zrs b0 adK adV bS as av) : zrl b0 adK adV bS (zent (zml f) as) ((lg_sl av ++ List.replicate (zml f - (lg_sl av).length) Slot.unset).toArray) ∧ zlgo f (zent (zml f) as) := by
  have hcat : ∀ (as : List mzV) (av : List Value), (∀ w ∈ as, zisL w = false) → zrs b0 adK adV bS as av → lg_sl av = av.map Slot.val := by
    intro as
    induction as with
    | nil =>
      intro av _ h
      have h0 : av = [] := by have := h.1; cases av with | nil => rfl | cons _ _ => simp at this
      subst h0
      rfl
    | cons w as ih =>
      intro av hn h
      obtain ⟨v, ra, rfl, h1, h2⟩ := zrs_un h
      have h3 := ih ra (fun w hw => hn w (List.mem_cons_of_mem _ hw)) h2
      have h4 := zrv_cat h1
      rw [hn w List.mem_cons_self] at h4
      have h5 : lg_sl (v :: ra) = [Slot.val v] ++ lg_sl ra := by
        unfold lg_sl
        rw [List.flatMap_cons, if_neg (by rw [h4]; decide)]
      rw [h5, h3]
      rfl
  have hsl := hcat as av hn h
  have hlen : (lg_sl av).length = as.length := by rw [hsl, List.length_map, h.1]
  have hl := lv_entry av (n := zml f) (by rw [hlen]; exact hf)
  refine ⟨⟨?_, hl.2.1, fun i w hw => ?_⟩, ?_, fun i n hi => ?_⟩
  · rw [hl.1]
    unfold zent
    rw [List.length_append, List.length_replicate]
    omega
  · unfold zent at hw
    by_cases hi : i < as.length
    · rw [List.getElem?_append_left hi] at hw
      have hi2 : i < av.length := by rw [← h.1]; exact hi
      obtain ⟨v, hv⟩ : ∃ v, av[i]? = some v := ⟨av[i], List.getElem?_eq_getElem hi2⟩
      refine ⟨v, h.2 i _ v hw hv, ?_⟩
      rw [List.getElem?_toArray, List.getElem?_append_left (by rw [hlen]; exact hi), hsl, List.getElem?_map, hv]
      rfl
    · rw [List.getElem?_append_right (by omega)] at hw
      have := List.eq_of_mem_replicate (List.mem_of_getElem? hw)
      cases this
  · unfold zent
    rw [List.length_append, List.length_replicate]
    omega
  · unfold zent at hi
    by_cases hi2 : i < as.length
    · rw [List.getElem?_append_left hi2] at hi
      have := hn _ (List.mem_of_getElem? hi)
      cases this
    · rw [List.getElem?_append_right (by omega)] at hi
      have := List.eq_of_mem_replicate (List.mem_of_getElem? hi)
      cases this
/-- THE SIMULATION: what the small machine comes to, the machine comes to -/
theorem zsim (l : Launch) (b0 : Nat) (D : va_G) (ca : Nat → ClassId) (adK adV : Nat → Nat) (bS L : Nat) (xs : Nat → Int32) : ∀ (n mi k : Nat) (ls st : List mzV) (μ : mzM) (r : Option mzV) (ν : mzM), mi < 72 → mrun zcd zml n mi k ls st μ = some (r, ν) →
    ∀ (p : Program) (e : Env) (R : Room) (s : State) (m : MethodId) (args : Array Value) (below : List Frame) (meth : Method) (c : Code) (cells slots : Nat) (Q : State → Prop), p.tables.exec = Jvm.exec → c.code = zby mi → c.maxLocals = zml mi → s.vm.findClass (zy mi).cls = some m.cls → (∀ w ∈ zTs, w.before args s = true) → zBk b0 D ca adK adV bS L xs s → (zfr mi ≤ R.frames ∧ zlo mi ≤ R.locals ∧ cells ≤ R.cells ∧ slots ≤ R.slots) →
    zKE p l e R s m args below meth c cells slots Q b0 D ca adK adV bS L xs mi r ν → zK p l e R s m args below meth c cells slots Q b0 D ca adK adV bS L xs mi (zcd mi) (k, ls, st, μ) := by
  intro n
  induction n with
  | zero => intro mi k ls st μ r ν _ h; cases h
  | succ n ih =>
    intro mi k ls st μ r ν hmi h p e R s m args below meth c cells slots Q hx hb hml hown hts hB hR hE
    rw [mrun] at h
    cases hc : (zcd mi)[k]? with
    | none => rw [hc] at h; cases h
    | some ins =>
      obtain ⟨pc, I, a, cs, hh⟩ := ins
      rw [hc] at h
      dsimp only at h
      obtain ⟨⟨⟨hd, hf⟩, h1⟩, h2⟩ := zchk_at hc
      intro H locs la sa hA
      have hpc : zpcs (zcd mi) k = pc := by unfold zpcs; rw [hc]
      show W p l e R s m args below meth c H locs cells slots Q (F0 m (zpcs (zcd mi) k) la sa)
      rw [hpc]
      have hg := zstep_ok (l := l) (e := e) (below := below) (meth := meth) (Q := Q) hx hb hml hown hts hB hR zchk_cp (zfr_pos mi hmi) (List.mem_of_getElem? hc) hd hf h1 h2 hA
      have go : ∀ (x : mzC), mrun zcd zml n mi x.1 x.2.1 x.2.2.1 x.2.2.2 = some (r, ν) → zK p l e R s m args below meth c cells slots Q b0 D ca adK adV bS L xs mi (zcd mi) x := fun x hxr => ih mi x.1 x.2.1 x.2.2.1 x.2.2.2 r ν hmi hxr p e R s m args below meth c cells slots Q hx hb hml hown hts hB hR hE
      cases hs : zstep I a cs k ls st μ with
      | none => rw [hs] at h; cases h
      | some z =>
        rw [hs] at h hg
        rcases z with x | ⟨q1, x, y⟩ | ⟨q1, x⟩ | ⟨f, as, rk, x⟩ | ⟨v, ts, x⟩ | ⟨r2, ν2⟩
        · exact hg (go x h)
        · dsimp only at h
          refine hg (fun hq => go x ?_) (fun hq => go y ?_)
          · rw [@if_pos _ q1.2 hq] at h; exact h
          · rw [@if_neg _ q1.2 hq] at h; exact h
        · dsimp only at h
          by_cases hq : q1.1
          · rw [@if_pos _ q1.2 hq] at h; exact hg hq (go x h)
          · rw [@if_neg _ q1.2 hq] at h; cases h
        · dsimp only at h
          cases hcall : mrun zcd zml n f 0 (zent (zml f) as) [] x.2.2.2 with
          | none => rw [hcall] at h; cases h
          | some q =>
            obtain ⟨r1, ν1⟩ := q
            rw [hcall] at h
            dsimp only at h
            refine hg ⟨r1, ν1, ?_, go (x.1, x.2.1, zpush r1 x.2.2.1, ν1) h⟩
            rintro ⟨hf6, hlen, hnl⟩ av hav
            refine zMet_of (cc := zby f) (maxL := zml f) (ret := zrt f) (zplain f hf6) rfl ?_
            intro p2 e2 s2 m2 args2 below2 meth2 c2 s3 B hml2 hv
            obtain ⟨rfl, hB2, hP2, hM2⟩ := hv
            have hts2 := atoms_spec (ws := zwf f) B.pre
            have hown2 : s2.vm.findClass (zy f).cls = some m2.cls := findClass_of_methodNamed B.named
            obtain ⟨e1, e2'⟩ := zent_ok hlen hnl hav
            rw [lg_entry_eq]
            have hk := ih f 0 (zent (zml f) as) [] x.2.2.2 r1 ν1 (by omega) hcall p2 e2 (headSpec (zwf f) (zrm f)).room s2 m2 av.toArray below2 meth2 c2 0 0 (MQ below2 (zQc b0 D ca adK adV bS L xs r1 ν1) av.toArray s2 0 0 (fun q => b0 ≤ q)) B.exec B.bytes hml2 hown2 (fun w hw => hts2 w (List.mem_cons_of_mem _ hw)) hB2 ⟨Nat.le_refl _, Nat.le_refl _, Nat.zero_le _, Nat.zero_le _⟩ (zKE_end (av := av) B.exec B.bytes B.returns B.notSynchronized)
            have hk2 := hk s2.heap [] _ [] ⟨e1, e2', zrs_nil, hP2, hM2, va_S.rf⟩
            have h0 : zpcs (zcd f) 0 = 0 := zpcs_0 f
            have hk3 : W p2 l e2 (headSpec (zwf f) (zrm f)).room s2 m2 av.toArray below2 meth2 c2 s2.heap [] 0 0 (MQ below2 (zQc b0 D ca adK adV bS L xs r1 ν1) av.toArray s2 0 0 (fun q => b0 ≤ q)) (F0 m2 (zpcs (zcd f) 0) ((lg_sl av ++ List.replicate (zml f - (lg_sl av).length) Slot.unset).toArray) []) := hk2
            rw [h0] at hk3
            exact hk3
        · exact hg (go (zpick v ts x.1, x.2) h)
        · dsimp only at h
          cases h
          exact hg hE
end Main
end
section
theorem vc_X0_encode_0 {μ : mzM} {Q : Option mzV → mzM → Prop} {o0 o1 o2 x3 : Int} (h :
    (if x3 = (-1) then
    (((0 : Int) = 0 ∨ (0 : Int) = 1) ∧ ZW f_X0_encode 20 [vR 11 o0, vR 2 o1, vR 1 o2, vI x3, vR 99 0, vI 0] [] (mup (mup (mup μ 2 o1 2 x3) 2 o1 4 0) 2 o1 3 2) Q)
    else
    ZR f_X6_imageOf 3 [vR 1 o2, vI x3] μ (fun r2 ν1 =>
      (((0 : Int) = 0 ∨ (0 : Int) = 1) ∧ ZW f_X0_encode 20 [vR 11 o0, vR 2 o1, vR 1 o2, vI x3, vR 3 r2, vI 0] [] (mup (mup (mup ν1 2 o1 2 x3) 2 o1 4 0) 2 o1 3 2) Q)))) :
    ZW f_X0_encode 0 [vR 11 o0, vR 2 o1, vR 1 o2, vI x3, none, none] [] μ Q := mvc_at zcd zml (C := zc0) rfl 52 0 h
theorem vc_X0_encode_20 {μ : mzM} {Q : Option mzV → mzM → Prop} {o0 o1 o2 x3 x5 : Int} (h :
    ZI f_X2_blocks [vR 3 o1] μ (fun r2 ν1 =>
    (if x5 < r2 then
    ZI f_X0_encodeRaw [vR 11 o0, vR 2 o1, vI x5] ν1 (fun r4 ν3 =>
      (zin ((ν1 2 o1 3) + r4) ∧ (zin (x5 + 1) ∧ ZW f_X0_encode 20 [vR 11 o0, vR 2 o1, vR 1 o2, vI x3, vR 99 0, vI (x5 + 1)] [] (mup ν3 2 o1 3 ((ν1 2 o1 3) + r4)) Q)))
    else
    Q none ν1))) :
    ZW f_X0_encode 20 [vR 11 o0, vR 2 o1, vR 1 o2, vI x3, vR 99 0, vI x5] [] μ Q := mvc_at zcd zml (C := zc0) rfl 52 20 h
theorem vc_X0_encode_20b {μ : mzM} {Q : Option mzV → mzM → Prop} {o0 o1 o2 o4 x3 x5 : Int} (h :
    ZI f_X2_blocks [vR 3 o1] μ (fun r2 ν1 =>
    (if x5 < r2 then
    ZI f_X0_encodeWith [vR 11 o0, vR 2 o1, vI x5, vR 3 o4, vI (ν1 1 o2 4)] ν1 (fun r4 ν3 =>
      (zin ((ν1 2 o1 3) + r4) ∧ (zin (x5 + 1) ∧ ZW f_X0_encode 20 [vR 11 o0, vR 2 o1, vR 1 o2, vI x3, vR 3 o4, vI (x5 + 1)] [] (mup ν3 2 o1 3 ((ν1 2 o1 3) + r4)) Q)))
    else
    Q none ν1))) :
    ZW f_X0_encode 20 [vR 11 o0, vR 2 o1, vR 1 o2, vI x3, vR 3 o4, vI x5] [] μ Q := mvc_at zcd zml (C := zc0) rfl 52 20 h
theorem vc_X0_encodeRaw_0 {μ : mzM} {Q : Option mzV → mzM → Prop} {o0 o1 x2 : Int} (h :
    ZV f_X4_read [vR 12 0, vR 3 o1, vR 99 0, vI x2] μ (fun ν1 =>
    ZV f_X1_setCode [vR 2 o1, vI x2, vI 3, vI 0, vI 0, vI (ν1 12 0 2)] ν1 (fun ν2 =>
    (zin (2 * (ν2 12 0 2)) ∧ (zin (2 + (2 * (ν2 12 0 2))) ∧ Q (some (vI (2 + (2 * (ν2 12 0 2))))) ν2))))) :
    ZW f_X0_encodeRaw 0 [vR 11 o0, vR 2 o1, vI x2] [] μ Q := mvc_at zcd zml (C := zc1) rfl 29 0 h
theorem vc_X0_encodeWith_0 {μ : mzM} {Q : Option mzV → mzM → Prop} {o0 o1 o3 x2 x4 : Int} (h :
    ZI f_X2_left [vR 3 o1, vI x2] μ (fun r2 ν1 =>
    ZI f_X2_top [vR 3 o1, vI x2] ν1 (fun r4 ν3 =>
    ZI f_X2_samePart [vR 3 o1, vI r2, vI r4, vR 3 o3, vI r2, vI r4] ν3 (fun r6 ν5 =>
    (if r6 = 0 then
    ZI f_X0_findMove [vR 11 o0, vR 3 o1, vI r2, vI r4, vR 3 o3, vI x4] ν5 (fun r8 ν7 =>
      (if r8 = 0 then
      ZV f_X4_read [vR 12 0, vR 3 o1, vR 99 0, vI x2] ν7 (fun ν9 =>
        ZV f_X4_read [vR 12 1, vR 3 o1, vR 3 o3, vI x2] ν9 (fun ν10 =>
        (if (ν10 12 0 2) < (ν10 12 1 2) then
        ZV f_X1_setCode [vR 2 o1, vI x2, vI 3, vI 0, vI 0, vI (ν10 12 0 2)] ν10 (fun ν11 =>
          (zin (2 * (ν11 12 0 2)) ∧ (zin (2 + (2 * (ν11 12 0 2))) ∧ Q (some (vI (2 + (2 * (ν11 12 0 2))))) ν11)))
        else
        ZV f_X1_setCode [vR 2 o1, vI x2, vI 2, vI 0, vI 0, vI (ν10 12 1 2)] ν10 (fun ν12 =>
          (zin (2 * (ν12 12 1 2)) ∧ (zin (2 + (2 * (ν12 12 1 2))) ∧ Q (some (vI (2 + (2 * (ν12 12 1 2))))) ν12))))))
      else
      ZV f_X1_setCode [vR 2 o1, vI x2, vI 1, vI (ν7 11 o0 2), vI (ν7 11 o0 3), vI 0] ν7 (fun ν13 =>
        Q (some (vI 3)) ν13)))
    else
    ZV f_X1_setCode [vR 2 o1, vI x2, vI 0, vI 0, vI 0, vI 0] ν5 (fun ν14 =>
      Q (some (vI 1)) ν14)))))) :
    ZW f_X0_encodeWith 0 [vR 11 o0, vR 2 o1, vI x2, vR 3 o3, vI x4, none, none] [] μ Q := mvc_at zcd zml (C := zc2) rfl 108 0 h
theorem vc_X0_findMove_0 {μ : mzM} {Q : Option mzV → mzM → Prop} {o0 o1 o4 x2 x3 x5 : Int} (h :
    ZW f_X0_findMove 2 [vR 11 o0, vR 3 o1, vI x2, vI x3, vR 3 o4, vI x5, vI 1, none, none, none] [] μ Q) :
    ZW f_X0_findMove 0 [vR 11 o0, vR 3 o1, vI x2, vI x3, vR 3 o4, vI x5, none, none, none, none] [] μ Q := mvc_at zcd zml (C := zc3) rfl 79 0 h
theorem vc_X0_findMove_2 {μ : mzM} {Q : Option mzV → mzM → Prop} {o0 o1 o4 x2 x3 x5 x6 : Int} {v7 v8 v9 : mzV} (h :
    (zin (2 * x5) ∧ (if (2 * x5) < x6 then
    Q (some (vI 0)) μ
    else
    ZW f_X0_findMove 10 [vR 11 o0, vR 3 o1, vI x2, vI x3, vR 3 o4, vI x5, vI x6, vI (zw (-x5)), v8, v9] [] μ Q))) :
    ZW f_X0_findMove 2 [vR 11 o0, vR 3 o1, vI x2, vI x3, vR 3 o4, vI x5, vI x6, v7, v8, v9] [] μ Q := mvc_at zcd zml (C := zc3) rfl 79 2 h
theorem vc_X0_findMove_10 {μ : mzM} {Q : Option mzV → mzM → Prop} {o0 o1 o4 x2 x3 x5 x6 x7 : Int} {v8 v9 : mzV} (h :
    (if x5 < x7 then
    (zin (x6 + 1) ∧ ZW f_X0_findMove 2 [vR 11 o0, vR 3 o1, vI x2, vI x3, vR 3 o4, vI x5, vI (x6 + 1), vI x7, v8, v9] [] μ Q)
    else
    ZI f_J9_abs_0f7a4 [vI x7] μ (fun r2 ν1 =>
      (zin (x6 - r2) ∧ (if (x6 - r2) < 0 then
      (zin (x7 + 1) ∧ ZW f_X0_findMove 10 [vR 11 o0, vR 3 o1, vI x2, vI x3, vR 3 o4, vI x5, vI x6, vI (x7 + 1), vI (x6 - r2), v9] [] ν1 Q)
      else
      (if x5 < (x6 - r2) then
        (zin (x7 + 1) ∧ ZW f_X0_findMove 10 [vR 11 o0, vR 3 o1, vI x2, vI x3, vR 3 o4, vI x5, vI x6, vI (x7 + 1), vI (x6 - r2), v9] [] ν1 Q)
        else
        ZW f_X0_findMove 27 [vR 11 o0, vR 3 o1, vI x2, vI x3, vR 3 o4, vI x5, vI x6, vI x7, vI (x6 - r2), vI (zw (-(x6 - r2)))] [] ν1 Q)))))) :
    ZW f_X0_findMove 10 [vR 11 o0, vR 3 o1, vI x2, vI x3, vR 3 o4, vI x5, vI x6, vI x7, v8, v9] [] μ Q := mvc_at zcd zml (C := zc3) rfl 79 10 h
theorem vc_X0_findMove_27 {μ : mzM} {Q : Option mzV → mzM → Prop} {o0 o1 o4 x2 x3 x5 x6 x7 x8 x9 : Int} (h :
    (if x8 < x9 then
    (zin (x7 + 1) ∧ ZW f_X0_findMove 10 [vR 11 o0, vR 3 o1, vI x2, vI x3, vR 3 o4, vI x5, vI x6, vI (x7 + 1), vI x8, vI x9] [] μ Q)
    else
    (zin (x2 + x9) ∧ (zin (x3 + x7) ∧ ZI f_X2_hasPart [vR 3 o4, vI (x2 + x9), vI (x3 + x7)] μ (fun r2 ν1 =>
      (if r2 = 0 then
      (zin (2 * x8) ∧ ZI f_J9_max_7cf53 [vI 1, vI (2 * x8)] ν1 (fun r4 ν3 =>
        (zin (x9 + r4) ∧ ZW f_X0_findMove 27 [vR 11 o0, vR 3 o1, vI x2, vI x3, vR 3 o4, vI x5, vI x6, vI x7, vI x8, vI (x9 + r4)] [] ν3 Q)))
      else
      (zin (x2 + x9) ∧ (zin (x3 + x7) ∧ ZI f_X2_samePart [vR 3 o1, vI x2, vI x3, vR 3 o4, vI (x2 + x9), vI (x3 + x7)] ν1 (fun r6 ν5 =>
        (if r6 = 0 then
        (zin (2 * x8) ∧ ZI f_J9_max_7cf53 [vI 1, vI (2 * x8)] ν5 (fun r8 ν7 =>
          (zin (x9 + r8) ∧ ZW f_X0_findMove 27 [vR 11 o0, vR 3 o1, vI x2, vI x3, vR 3 o4, vI x5, vI x6, vI x7, vI x8, vI (x9 + r8)] [] ν7 Q)))
        else
        Q (some (vI 1)) (mup (mup ν5 11 o0 2 x9) 11 o0 3 x7))))))))))) :
    ZW f_X0_findMove 27 [vR 11 o0, vR 3 o1, vI x2, vI x3, vR 3 o4, vI x5, vI x6, vI x7, vI x8, vI x9] [] μ Q := mvc_at zcd zml (C := zc3) rfl 79 27 h
theorem vc_X1_take_0 {μ : mzM} {Q : Option mzV → mzM → Prop} {o0 o1 : Int} (h :
    ZV f_X2_take [vR 3 o0, vR 3 o1] μ (fun ν1 =>
    (((0 ≤ (36 : Int) ∧ 0 ≤ (0 : Int) ∧ 0 ≤ (0 : Int)) ∧ ((0 : Int) + 36 ≤ 36 ∧ (0 : Int) + 36 ≤ 36)) ∧ ((((mup (mup (mcp ν1 5 o1 0 5 o0 0 36) 2 o0 2 ((mcp ν1 5 o1 0 5 o0 0 36) 2 o1 2)) 2 o0 3 ((mup (mcp ν1 5 o1 0 5 o0 0 36) 2 o0 2 ((mcp ν1 5 o1 0 5 o0 0 36) 2 o1 2)) 2 o1 3)) 2 o1 4) = 0 ∨ ((mup (mup (mcp ν1 5 o1 0 5 o0 0 36) 2 o0 2 ((mcp ν1 5 o1 0 5 o0 0 36) 2 o1 2)) 2 o0 3 ((mup (mcp ν1 5 o1 0 5 o0 0 36) 2 o0 2 ((mcp ν1 5 o1 0 5 o0 0 36) 2 o1 2)) 2 o1 3)) 2 o1 4) = 1) ∧ Q none (mup (mup (mup (mcp ν1 5 o1 0 5 o0 0 36) 2 o0 2 ((mcp ν1 5 o1 0 5 o0 0 36) 2 o1 2)) 2 o0 3 ((mup (mcp ν1 5 o1 0 5 o0 0 36) 2 o0 2 ((mcp ν1 5 o1 0 5 o0 0 36) 2 o1 2)) 2 o1 3)) 2 o0 4 ((mup (mup (mcp ν1 5 o1 0 5 o0 0 36) 2 o0 2 ((mcp ν1 5 o1 0 5 o0 0 36) 2 o1 2)) 2 o0 3 ((mup (mcp ν1 5 o1 0 5 o0 0 36) 2 o0 2 ((mcp ν1 5 o1 0 5 o0 0 36) 2 o1 2)) 2 o1 3)) 2 o1 4)))))) :
    ZW f_X1_take 0 [vR 2 o0, vR 2 o1] [] μ Q := mvc_at zcd zml (C := zc4) rfl 31 0 h
theorem vc_X1_codePart_0 {μ : mzM} {Q : Option mzV → mzM → Prop} {o0 x1 x2 : Int} (h :
    (zin (x1 * 4) ∧ (zin ((x1 * 4) + x2) ∧ (if ((x1 * 4) + x2) < 0 then
    Q (some (vI 0)) μ
    else
    (if ((x1 * 4) + x2) < 36 then
      ((0 ≤ ((x1 * 4) + x2) ∧ ((x1 * 4) + x2) < 36) ∧ Q (some (vI (μ 5 o0 ((x1 * 4) + x2)))) μ)
      else
      Q (some (vI 0)) μ))))) :
    ZW f_X1_codePart 0 [vR 2 o0, vI x1, vI x2, none] [] μ Q := mvc_at zcd zml (C := zc5) rfl 25 0 h
theorem vc_X1_setCode_0 {μ : mzM} {Q : Option mzV → mzM → Prop} {o0 x1 x2 x3 x4 x5 : Int} (h :
    (zin (x1 * 4) ∧ (if (x1 * 4) < 0 then
    Q none μ
    else
    (zin ((x1 * 4) + 3) ∧ (if ((x1 * 4) + 3) < 36 then
      (zin ((x1 * 4) + 0) ∧ ((0 ≤ ((x1 * 4) + 0) ∧ ((x1 * 4) + 0) < 36) ∧ (zin ((x1 * 4) + 1) ∧ ((0 ≤ ((x1 * 4) + 1) ∧ ((x1 * 4) + 1) < 36) ∧ (zin ((x1 * 4) + 2) ∧ ((0 ≤ ((x1 * 4) + 2) ∧ ((x1 * 4) + 2) < 36) ∧ (zin ((x1 * 4) + 3) ∧ ((0 ≤ ((x1 * 4) + 3) ∧ ((x1 * 4) + 3) < 36) ∧ Q none (mup (mup (mup (mup μ 5 o0 ((x1 * 4) + 0) x2) 5 o0 ((x1 * 4) + 1) x3) 5 o0 ((x1 * 4) + 2) x4) 5 o0 ((x1 * 4) + 3) x5)))))))))
      else
      Q none μ))))) :
    ZW f_X1_setCode 0 [vR 2 o0, vI x1, vI x2, vI x3, vI x4, vI x5, none] [] μ Q := mvc_at zcd zml (C := zc6) rfl 47 0 h
theorem vc_X1_codesOfKind_0 {μ : mzM} {Q : Option mzV → mzM → Prop} {o0 x1 : Int} (h :
    ZW f_X1_codesOfKind 4 [vR 2 o0, vI x1, vI 0, vI 0] [] μ Q) :
    ZW f_X1_codesOfKind 0 [vR 2 o0, vI x1, none, none] [] μ Q := mvc_at zcd zml (C := zc7) rfl 25 0 h
theorem vc_X1_codesOfKind_4 {μ : mzM} {Q : Option mzV → mzM → Prop} {o0 x1 x2 x3 : Int} (h :
    ZI f_X2_blocks [vR 3 o0] μ (fun r2 ν1 =>
    (if x3 < r2 then
    ZI f_X1_codePart [vR 2 o0, vI x3, vI 0] ν1 (fun r4 ν3 =>
      (if r4 = x1 then
      (zin (x2 + 1) ∧ (zin (x3 + 1) ∧ ZW f_X1_codesOfKind 4 [vR 2 o0, vI x1, vI (x2 + 1), vI (x3 + 1)] [] ν3 Q))
      else
      (zin (x3 + 1) ∧ ZW f_X1_codesOfKind 4 [vR 2 o0, vI x1, vI x2, vI (x3 + 1)] [] ν3 Q)))
    else
    Q (some (vI x2)) ν1))) :
    ZW f_X1_codesOfKind 4 [vR 2 o0, vI x1, vI x2, vI x3] [] μ Q := mvc_at zcd zml (C := zc7) rfl 25 4 h
theorem vc_X2_reset_0 {μ : mzM} {Q : Option mzV → mzM → Prop} {o0 x1 x2 : Int} (h :
    ZW f_X2_reset 8 [vR 3 o0, vI x1, vI x2, vI 0] [] (mup (mup μ 3 o0 1 x1) 3 o0 2 x2) Q) :
    ZW f_X2_reset 0 [vR 3 o0, vI x1, vI x2, none] [] μ Q := mvc_at zcd zml (C := zc8) rfl 26 0 h
theorem vc_X2_reset_8 {μ : mzM} {Q : Option mzV → mzM → Prop} {o0 x1 x2 x3 : Int} (h :
    (if x3 < 144 then
    ((0 ≤ x3 ∧ x3 < 144) ∧ (zin (x3 + 1) ∧ ZW f_X2_reset 8 [vR 3 o0, vI x1, vI x2, vI (x3 + 1)] [] (mup μ 4 o0 x3 0) Q))
    else
    Q none μ)) :
    ZW f_X2_reset 8 [vR 3 o0, vI x1, vI x2, vI x3] [] μ Q := mvc_at zcd zml (C := zc8) rfl 26 8 h
theorem vc_X2_take_0 {μ : mzM} {Q : Option mzV → mzM → Prop} {o0 o1 : Int} (h :
    (((0 ≤ (144 : Int) ∧ 0 ≤ (0 : Int) ∧ 0 ≤ (0 : Int)) ∧ ((0 : Int) + 144 ≤ 144 ∧ (0 : Int) + 144 ≤ 144)) ∧ Q none (mcp (mup (mup μ 3 o0 1 (μ 3 o1 1)) 3 o0 2 ((mup μ 3 o0 1 (μ 3 o1 1)) 3 o1 2)) 4 o1 0 4 o0 0 144))) :
    ZW f_X2_take 0 [vR 3 o0, vR 3 o1] [] μ Q := mvc_at zcd zml (C := zc9) rfl 22 0 h
theorem vc_X2_hasCell_0 {μ : mzM} {Q : Option mzV → mzM → Prop} {o0 x1 : Int} (h :
    (if x1 < 0 then
    Q (some (vI 0)) μ
    else
    (zin ((μ 3 o0 1) * (μ 3 o0 2)) ∧ (if x1 < ((μ 3 o0 1) * (μ 3 o0 2)) then
      Q (some (vI 1)) μ
      else
      Q (some (vI 0)) μ)))) :
    ZW f_X2_hasCell 0 [vR 3 o0, vI x1] [] μ Q := mvc_at zcd zml (C := zc10) rfl 18 0 h
theorem vc_X2_numbered_0 {μ : mzM} {Q : Option mzV → mzM → Prop} {o0 x1 : Int} (h :
    (if x1 < 0 then
    Q (some (vI 0)) μ
    else
    (if x1 < 144 then
      ((0 ≤ x1 ∧ x1 < 144) ∧ Q (some (vI (μ 4 o0 x1))) μ)
      else
      Q (some (vI 0)) μ))) :
    ZW f_X2_numbered 0 [vR 3 o0, vI x1] [] μ Q := mvc_at zcd zml (C := zc11) rfl 19 0 h
theorem vc_X2_putNumbered_0 {μ : mzM} {Q : Option mzV → mzM → Prop} {o0 x1 x2 : Int} (h :
    (if x1 < 0 then
    Q none μ
    else
    (if x1 < 144 then
      ((0 ≤ x1 ∧ x1 < 144) ∧ Q none (mup μ 4 o0 x1 x2))
      else
      Q none μ))) :
    ZW f_X2_putNumbered 0 [vR 3 o0, vI x1, vI x2] [] μ Q := mvc_at zcd zml (C := zc12) rfl 18 0 h
theorem vc_X2_at_0 {μ : mzM} {Q : Option mzV → mzM → Prop} {o0 x1 x2 : Int} (h :
    (if x1 < 0 then
    Q (some (vI 0)) μ
    else
    (if x1 < (μ 3 o0 1) then
      (if x2 < 0 then
        Q (some (vI 0)) μ
        else
        (if x2 < (μ 3 o0 2) then
          (zin (x2 * (μ 3 o0 1)) ∧ (zin ((x2 * (μ 3 o0 1)) + x1) ∧ (if ((x2 * (μ 3 o0 1)) + x1) < 144 then
            ((0 ≤ ((x2 * (μ 3 o0 1)) + x1) ∧ ((x2 * (μ 3 o0 1)) + x1) < 144) ∧ Q (some (vI (μ 4 o0 ((x2 * (μ 3 o0 1)) + x1)))) μ)
            else
            Q (some (vI 0)) μ)))
          else
          Q (some (vI 0)) μ))
      else
      Q (some (vI 0)) μ))) :
    ZW f_X2_at 0 [vR 3 o0, vI x1, vI x2, none] [] μ Q := mvc_at zcd zml (C := zc13) rfl 38 0 h
theorem vc_X2_blocks_0 {μ : mzM} {Q : Option mzV → mzM → Prop} {o0 : Int} (h :
    (((4 : Int) ≠ 0 ∧ zin (Int.tdiv (μ 3 o0 1) 4)) ∧ (((4 : Int) ≠ 0 ∧ zin (Int.tdiv (μ 3 o0 2) 4)) ∧ (zin ((Int.tdiv (μ 3 o0 1) 4) * (Int.tdiv (μ 3 o0 2) 4)) ∧ Q (some (vI ((Int.tdiv (μ 3 o0 1) 4) * (Int.tdiv (μ 3 o0 2) 4)))) μ)))) :
    ZW f_X2_blocks 0 [vR 3 o0] [] μ Q := mvc_at zcd zml (C := zc14) rfl 15 0 h
theorem vc_X2_left_0 {μ : mzM} {Q : Option mzV → mzM → Prop} {o0 x1 : Int} (h :
    (((4 : Int) ≠ 0 ∧ zin (Int.tdiv (μ 3 o0 1) 4)) ∧ ZI f_J9_max_7cf53 [vI 1, vI (Int.tdiv (μ 3 o0 1) 4)] μ (fun r2 ν1 =>
    (r2 ≠ 0 ∧ (zin (4 * (Int.tmod x1 r2)) ∧ Q (some (vI (4 * (Int.tmod x1 r2)))) ν1))))) :
    ZW f_X2_left 0 [vR 3 o0, vI x1] [] μ Q := mvc_at zcd zml (C := zc15) rfl 16 0 h
theorem vc_X2_top_0 {μ : mzM} {Q : Option mzV → mzM → Prop} {o0 x1 : Int} (h :
    (((4 : Int) ≠ 0 ∧ zin (Int.tdiv (μ 3 o0 1) 4)) ∧ ZI f_J9_max_7cf53 [vI 1, vI (Int.tdiv (μ 3 o0 1) 4)] μ (fun r2 ν1 =>
    ((r2 ≠ 0 ∧ zin (Int.tdiv x1 r2)) ∧ (zin (4 * (Int.tdiv x1 r2)) ∧ Q (some (vI (4 * (Int.tdiv x1 r2)))) ν1))))) :
    ZW f_X2_top 0 [vR 3 o0, vI x1] [] μ Q := mvc_at zcd zml (C := zc16) rfl 16 0 h
theorem vc_X2_hasPart_0 {μ : mzM} {Q : Option mzV → mzM → Prop} {o0 x1 x2 : Int} (h :
    (if x1 < 0 then
    Q (some (vI 0)) μ
    else
    (zin ((μ 3 o0 1) - 4) ∧ (if ((μ 3 o0 1) - 4) < x1 then
      Q (some (vI 0)) μ
      else
      (if x2 < 0 then
        Q (some (vI 0)) μ
        else
        (zin ((μ 3 o0 2) - 4) ∧ (if ((μ 3 o0 2) - 4) < x2 then
          Q (some (vI 0)) μ
          else
          Q (some (vI 1)) μ))))))) :
    ZW f_X2_hasPart 0 [vR 3 o0, vI x1, vI x2] [] μ Q := mvc_at zcd zml (C := zc17) rfl 25 0 h
theorem vc_X2_samePart_0 {μ : mzM} {Q : Option mzV → mzM → Prop} {o0 o3 x1 x2 x4 x5 : Int} (h :
    ZW f_X2_samePart 2 [vR 3 o0, vI x1, vI x2, vR 3 o3, vI x4, vI x5, vI 0, none, none] [] μ Q) :
    ZW f_X2_samePart 0 [vR 3 o0, vI x1, vI x2, vR 3 o3, vI x4, vI x5, none, none, none] [] μ Q := mvc_at zcd zml (C := zc18) rfl 71 0 h
theorem vc_X2_samePart_2 {μ : mzM} {Q : Option mzV → mzM → Prop} {o0 o3 x1 x2 x4 x5 x6 : Int} {v7 v8 : mzV} (h :
    (if x6 < 16 then
    (((4 : Int) ≠ 0 ∧ zin (Int.tdiv x6 4)) ∧ (zin (x2 + (Int.tdiv x6 4)) ∧ (zin ((x2 + (Int.tdiv x6 4)) * (μ 3 o0 1)) ∧ (zin (((x2 + (Int.tdiv x6 4)) * (μ 3 o0 1)) + x1) ∧ ((4 : Int) ≠ 0 ∧ (zin ((((x2 + (Int.tdiv x6 4)) * (μ 3 o0 1)) + x1) + (Int.tmod x6 4)) ∧ (((4 : Int) ≠ 0 ∧ zin (Int.tdiv x6 4)) ∧ (zin (x5 + (Int.tdiv x6 4)) ∧ (zin ((x5 + (Int.tdiv x6 4)) * (μ 3 o3 1)) ∧ (zin (((x5 + (Int.tdiv x6 4)) * (μ 3 o3 1)) + x4) ∧ ((4 : Int) ≠ 0 ∧ (zin ((((x5 + (Int.tdiv x6 4)) * (μ 3 o3 1)) + x4) + (Int.tmod x6 4)) ∧ (if ((((x2 + (Int.tdiv x6 4)) * (μ 3 o0 1)) + x1) + (Int.tmod x6 4)) < 0 then
      Q (some (vI 0)) μ
      else
      (if ((((x2 + (Int.tdiv x6 4)) * (μ 3 o0 1)) + x1) + (Int.tmod x6 4)) < 144 then
        (if ((((x5 + (Int.tdiv x6 4)) * (μ 3 o3 1)) + x4) + (Int.tmod x6 4)) < 0 then
          Q (some (vI 0)) μ
          else
          (if ((((x5 + (Int.tdiv x6 4)) * (μ 3 o3 1)) + x4) + (Int.tmod x6 4)) < 144 then
            ((0 ≤ ((((x2 + (Int.tdiv x6 4)) * (μ 3 o0 1)) + x1) + (Int.tmod x6 4)) ∧ ((((x2 + (Int.tdiv x6 4)) * (μ 3 o0 1)) + x1) + (Int.tmod x6 4)) < 144) ∧ ((0 ≤ ((((x5 + (Int.tdiv x6 4)) * (μ 3 o3 1)) + x4) + (Int.tmod x6 4)) ∧ ((((x5 + (Int.tdiv x6 4)) * (μ 3 o3 1)) + x4) + (Int.tmod x6 4)) < 144) ∧ (if (μ 4 o0 ((((x2 + (Int.tdiv x6 4)) * (μ 3 o0 1)) + x1) + (Int.tmod x6 4))) = (μ 4 o3 ((((x5 + (Int.tdiv x6 4)) * (μ 3 o3 1)) + x4) + (Int.tmod x6 4))) then
              (zin (x6 + 1) ∧ ZW f_X2_samePart 2 [vR 3 o0, vI x1, vI x2, vR 3 o3, vI x4, vI x5, vI (x6 + 1), vI ((((x2 + (Int.tdiv x6 4)) * (μ 3 o0 1)) + x1) + (Int.tmod x6 4)), vI ((((x5 + (Int.tdiv x6 4)) * (μ 3 o3 1)) + x4) + (Int.tmod x6 4))] [] μ Q)
              else
              Q (some (vI 0)) μ)))
            else
            Q (some (vI 0)) μ))
        else
        Q (some (vI 0)) μ))))))))))))))
    else
    Q (some (vI 1)) μ)) :
    ZW f_X2_samePart 2 [vR 3 o0, vI x1, vI x2, vR 3 o3, vI x4, vI x5, vI x6, v7, v8] [] μ Q := mvc_at zcd zml (C := zc18) rfl 71 2 h
theorem vc_X2_cellsUnlike_0 {μ : mzM} {Q : Option mzV → mzM → Prop} {o0 o1 : Int} (h :
    ZW f_X2_cellsUnlike 4 [vR 3 o0, vR 3 o1, vI 0, vI 0] [] μ Q) :
    ZW f_X2_cellsUnlike 0 [vR 3 o0, vR 3 o1, none, none] [] μ Q := mvc_at zcd zml (C := zc19) rfl 28 0 h
theorem vc_X2_cellsUnlike_4 {μ : mzM} {Q : Option mzV → mzM → Prop} {o0 o1 x2 x3 : Int} (h :
    (zin ((μ 3 o0 1) * (μ 3 o0 2)) ∧ (if x3 < ((μ 3 o0 1) * (μ 3 o0 2)) then
    ZI f_X2_numbered [vR 3 o0, vI x3] μ (fun r2 ν1 =>
      ZI f_X2_numbered [vR 3 o1, vI x3] ν1 (fun r4 ν3 =>
      (if r2 = r4 then
      (zin (x3 + 1) ∧ ZW f_X2_cellsUnlike 4 [vR 3 o0, vR 3 o1, vI x2, vI (x3 + 1)] [] ν3 Q)
      else
      (zin (x2 + 1) ∧ (zin (x3 + 1) ∧ ZW f_X2_cellsUnlike 4 [vR 3 o0, vR 3 o1, vI (x2 + 1), vI (x3 + 1)] [] ν3 Q)))))
    else
    Q (some (vI x2)) μ))) :
    ZW f_X2_cellsUnlike 4 [vR 3 o0, vR 3 o1, vI x2, vI x3] [] μ Q := mvc_at zcd zml (C := zc19) rfl 28 4 h
theorem vc_X3_plan_0 {μ : mzM} {Q : Option mzV → mzM → Prop} {o0 o1 o2 o3 : Int} (h :
    ZI f_J9_min_7cf53 [vI (μ 1 o1 3), vI 10] μ (fun r2 ν1 =>
    ZV f_X3_measure [vR 15 o0, vR 1 o1, vR 11 o2, vR 2 o3, vI r2] ν1 (fun ν3 =>
    ZI f_X3_costOf [vR 15 o0, vI 1, vI r2, vI (ν3 1 o1 6)] ν3 (fun r5 ν4 =>
    ZW f_X3_plan 24 [vR 15 o0, vR 1 o1, vR 11 o2, vR 2 o3, vI r2, vI 3, none, none] [] (mup (mup ν4 15 o0 2 r5) 15 o0 3 1) Q)))) :
    ZW f_X3_plan 0 [vR 15 o0, vR 1 o1, vR 11 o2, vR 2 o3, none, none, none, none] [] μ Q := mvc_at zcd zml (C := zc20) rfl 70 0 h
theorem vc_X3_plan_24 {μ : mzM} {Q : Option mzV → mzM → Prop} {o0 o1 o2 o3 x4 x5 : Int} {v6 v7 : mzV} (h :
    (if x5 < (zshl 1 x4) then
    ZI f_X3_costOf [vR 15 o0, vI x5, vI x4, vI (μ 1 o1 6)] μ (fun r2 ν1 =>
      ZI f_J6_bitCount_0f7a4 [vI x5] ν1 (fun r4 ν3 =>
      ZI f_J6_bitCount_0f7a4 [vI (ν3 15 o0 3)] ν3 (fun r6 ν5 =>
      (if r4 < r6 then
      (if r2 < (ν5 15 o0 2) then
        (zin (x5 + 2) ∧ ZW f_X3_plan 24 [vR 15 o0, vR 1 o1, vR 11 o2, vR 2 o3, vI x4, vI (x5 + 2), vI r2, vI 1] [] (mup (mup ν5 15 o0 2 r2) 15 o0 3 x5) Q)
        else
        (if r2 = (ν5 15 o0 2) then
          (zin (x5 + 2) ∧ ZW f_X3_plan 24 [vR 15 o0, vR 1 o1, vR 11 o2, vR 2 o3, vI x4, vI (x5 + 2), vI r2, vI 1] [] (mup (mup ν5 15 o0 2 r2) 15 o0 3 x5) Q)
          else
          (zin (x5 + 2) ∧ ZW f_X3_plan 24 [vR 15 o0, vR 1 o1, vR 11 o2, vR 2 o3, vI x4, vI (x5 + 2), vI r2, vI 1] [] ν5 Q)))
      else
      (if r2 < (ν5 15 o0 2) then
        (zin (x5 + 2) ∧ ZW f_X3_plan 24 [vR 15 o0, vR 1 o1, vR 11 o2, vR 2 o3, vI x4, vI (x5 + 2), vI r2, vI 0] [] (mup (mup ν5 15 o0 2 r2) 15 o0 3 x5) Q)
        else
        (if r2 = (ν5 15 o0 2) then
          (zin (x5 + 2) ∧ ZW f_X3_plan 24 [vR 15 o0, vR 1 o1, vR 11 o2, vR 2 o3, vI x4, vI (x5 + 2), vI r2, vI 0] [] ν5 Q)
          else
          (zin (x5 + 2) ∧ ZW f_X3_plan 24 [vR 15 o0, vR 1 o1, vR 11 o2, vR 2 o3, vI x4, vI (x5 + 2), vI r2, vI 0] [] ν5 Q)))))))
    else
    Q none μ)) :
    ZW f_X3_plan 24 [vR 15 o0, vR 1 o1, vR 11 o2, vR 2 o3, vI x4, vI x5, v6, v7] [] μ Q := mvc_at zcd zml (C := zc20) rfl 70 24 h
theorem vc_X3_measure_0 {μ : mzM} {Q : Option mzV → mzM → Prop} {o0 o1 o2 o3 x4 : Int} (h :
    ZW f_X3_measure 2 [vR 15 o0, vR 1 o1, vR 11 o2, vR 2 o3, vI x4, vI 0] [] μ Q) :
    ZW f_X3_measure 0 [vR 15 o0, vR 1 o1, vR 11 o2, vR 2 o3, vI x4, none] [] μ Q := mvc_at zcd zml (C := zc21) rfl 55 0 h
theorem vc_X3_measure_2 {μ : mzM} {Q : Option mzV → mzM → Prop} {o0 o1 o2 o3 x4 x5 : Int} (h :
    (if x5 < x4 then
    (if x5 < 10 then
      (if x5 < 10 then
        ZR f_X6_imageOf 3 [vR 1 o1, vI x5] μ (fun r2 ν1 =>
          ZV f_X2_take [vR 3 o3, vR 3 r2] ν1 (fun ν3 =>
          ZV f_X0_encode [vR 11 o2, vR 2 o3, vR 1 o1, vI (-1)] ν3 (fun ν4 =>
          ((0 ≤ x5 ∧ x5 < 10) ∧ (if (0 : Int) < x5 then
          (zin (x5 - 1) ∧ ZV f_X0_encode [vR 11 o2, vR 2 o3, vR 1 o1, vI (x5 - 1)] (mup ν4 16 0 x5 (ν4 2 o3 3)) (fun ν5 =>
            ((0 ≤ x5 ∧ x5 < 10) ∧ (zin (x5 + 1) ∧ ZW f_X3_measure 2 [vR 15 o0, vR 1 o1, vR 11 o2, vR 2 o3, vI x4, vI (x5 + 1)] [] (mup ν5 17 0 x5 (ν5 2 o3 3)) Q))))
          else
          (zin (x5 + 1) ∧ ZW f_X3_measure 2 [vR 15 o0, vR 1 o1, vR 11 o2, vR 2 o3, vI x4, vI (x5 + 1)] [] (mup ν4 16 0 x5 (ν4 2 o3 3)) Q))))))
        else
        Q none μ)
      else
      Q none μ)
    else
    Q none μ)) :
    ZW f_X3_measure 2 [vR 15 o0, vR 1 o1, vR 11 o2, vR 2 o3, vI x4, vI x5] [] μ Q := mvc_at zcd zml (C := zc21) rfl 55 2 h
theorem vc_X3_costOf_0 {μ : mzM} {Q : Option mzV → mzM → Prop} {o0 x1 x2 x3 : Int} (h :
    ZW f_X3_costOf 8 [vR 15 o0, vI x1, vI x2, vI x3, vI 0, vI 0, vI 0, vI 0, none, none] [] μ Q) :
    ZW f_X3_costOf 0 [vR 15 o0, vI x1, vI x2, vI x3, none, none, none, none, none, none] [] μ Q := mvc_at zcd zml (C := zc22) rfl 73 0 h
theorem vc_X3_costOf_8 {μ : mzM} {Q : Option mzV → mzM → Prop} {o0 x1 x2 x3 x4 x5 x6 x7 : Int} {v8 v9 : mzV} (h :
    (if x7 < x2 then
    (if x7 < 10 then
      (if x7 < 10 then
        (if (zand (zshr x1 x7) 1) = 1 then
          ((0 ≤ x7 ∧ x7 < 10) ∧ (zin (x4 + (μ 16 0 x7)) ∧ ZI f_J9_max_7cf53 [vI x6, vI (μ 16 0 x7)] μ (fun r2 ν1 =>
            (zin (x7 + 1) ∧ ZW f_X3_costOf 8 [vR 15 o0, vI x1, vI x2, vI x3, vI (x4 + (μ 16 0 x7)), vI (μ 16 0 x7), vI r2, vI (x7 + 1), vI 1, vI (μ 16 0 x7)] [] ν1 Q))))
          else
          ((0 ≤ x7 ∧ x7 < 10) ∧ (zin (x4 + (μ 17 0 x7)) ∧ (zin (x5 + (μ 17 0 x7)) ∧ ZI f_J9_max_7cf53 [vI x6, vI (x5 + (μ 17 0 x7))] μ (fun r4 ν3 =>
            (zin (x7 + 1) ∧ ZW f_X3_costOf 8 [vR 15 o0, vI x1, vI x2, vI x3, vI (x4 + (μ 17 0 x7)), vI (x5 + (μ 17 0 x7)), vI r4, vI (x7 + 1), vI 0, vI (μ 17 0 x7)] [] ν3 Q))))))
        else
        (zin (x3 * x6) ∧ (zin (x4 + (x3 * x6)) ∧ Q (some (vI (x4 + (x3 * x6)))) μ)))
      else
      (zin (x3 * x6) ∧ (zin (x4 + (x3 * x6)) ∧ Q (some (vI (x4 + (x3 * x6)))) μ)))
    else
    (zin (x3 * x6) ∧ (zin (x4 + (x3 * x6)) ∧ Q (some (vI (x4 + (x3 * x6)))) μ)))) :
    ZW f_X3_costOf 8 [vR 15 o0, vI x1, vI x2, vI x3, vI x4, vI x5, vI x6, vI x7, v8, v9] [] μ Q := mvc_at zcd zml (C := zc22) rfl 73 8 h
theorem vc_X3_referenceOf_0 {μ : mzM} {Q : Option mzV → mzM → Prop} {o0 x1 : Int} (h :
    (if (zand (zshr (μ 15 o0 3) x1) 1) = 1 then
    Q (some (vI (-1))) μ
    else
    (zin (x1 - 1) ∧ Q (some (vI (x1 - 1))) μ))) :
    ZW f_X3_referenceOf 0 [vR 15 o0, vI x1] [] μ Q := mvc_at zcd zml (C := zc23) rfl 19 0 h
theorem vc_X4_read_0 {μ : mzM} {Q : Option mzV → mzM → Prop} {o0 o1 o2 x3 : Int} (h :
    ZI f_X2_left [vR 3 o1, vI x3] μ (fun r2 ν1 =>
    ZI f_X2_top [vR 3 o1, vI x3] ν1 (fun r4 ν3 =>
    ZW f_X4_read 13 [vR 12 o0, vR 3 o1, vR 3 o2, vI x3, vI r2, vI r4, vI 0, none, none, none] [] (mup ν3 12 o0 2 0) Q))) :
    ZW f_X4_read 0 [vR 12 o0, vR 3 o1, vR 3 o2, vI x3, none, none, none, none, none, none] [] μ Q := mvc_at zcd zml (C := zc24) rfl 55 0 h
theorem vc_X4_read_0b {μ : mzM} {Q : Option mzV → mzM → Prop} {o0 o1 x3 : Int} (h :
    ZI f_X2_left [vR 3 o1, vI x3] μ (fun r2 ν1 =>
    ZI f_X2_top [vR 3 o1, vI x3] ν1 (fun r4 ν3 =>
    ZW f_X4_read 13 [vR 12 o0, vR 3 o1, vR 99 0, vI x3, vI r2, vI r4, vI 0, none, none, none] [] (mup ν3 12 o0 2 0) Q))) :
    ZW f_X4_read 0 [vR 12 o0, vR 3 o1, vR 99 0, vI x3, none, none, none, none, none, none] [] μ Q := mvc_at zcd zml (C := zc24) rfl 55 0 h
theorem vc_X4_read_13 {μ : mzM} {Q : Option mzV → mzM → Prop} {o0 o1 o2 x3 x4 x5 x6 : Int} {v7 v8 v9 : mzV} (h :
    (if x6 < 16 then
    ((4 : Int) ≠ 0 ∧ (zin (x4 + (Int.tmod x6 4)) ∧ (((4 : Int) ≠ 0 ∧ zin (Int.tdiv x6 4)) ∧ (zin (x5 + (Int.tdiv x6 4)) ∧ ZI f_X2_at [vR 3 o1, vI (x4 + (Int.tmod x6 4)), vI (x5 + (Int.tdiv x6 4))] μ (fun r2 ν1 =>
      ZI f_X2_at [vR 3 o2, vI (x4 + (Int.tmod x6 4)), vI (x5 + (Int.tdiv x6 4))] ν1 (fun r4 ν3 =>
      (zin (r2 - r4) ∧ ZV f_X4_addCell [vR 12 o0, vI (zand (r2 - r4) 15)] ν3 (fun ν5 =>
      (zin (x6 + 1) ∧ ZW f_X4_read 13 [vR 12 o0, vR 3 o1, vR 3 o2, vI x3, vI x4, vI x5, vI (x6 + 1), vI (x4 + (Int.tmod x6 4)), vI (x5 + (Int.tdiv x6 4)), vI (zand (r2 - r4) 15)] [] ν5 Q)))))))))
    else
    Q none μ)) :
    ZW f_X4_read 13 [vR 12 o0, vR 3 o1, vR 3 o2, vI x3, vI x4, vI x5, vI x6, v7, v8, v9] [] μ Q := mvc_at zcd zml (C := zc24) rfl 55 13 h
theorem vc_X4_read_13b {μ : mzM} {Q : Option mzV → mzM → Prop} {o0 o1 x3 x4 x5 x6 : Int} {v7 v8 v9 : mzV} (h :
    (if x6 < 16 then
    ((4 : Int) ≠ 0 ∧ (zin (x4 + (Int.tmod x6 4)) ∧ (((4 : Int) ≠ 0 ∧ zin (Int.tdiv x6 4)) ∧ (zin (x5 + (Int.tdiv x6 4)) ∧ ZI f_X2_at [vR 3 o1, vI (x4 + (Int.tmod x6 4)), vI (x5 + (Int.tdiv x6 4))] μ (fun r2 ν1 =>
      ZV f_X4_addCell [vR 12 o0, vI r2] ν1 (fun ν3 =>
      (zin (x6 + 1) ∧ ZW f_X4_read 13 [vR 12 o0, vR 3 o1, vR 99 0, vI x3, vI x4, vI x5, vI (x6 + 1), vI (x4 + (Int.tmod x6 4)), vI (x5 + (Int.tdiv x6 4)), vI r2] [] ν3 Q)))))))
    else
    Q none μ)) :
    ZW f_X4_read 13 [vR 12 o0, vR 3 o1, vR 99 0, vI x3, vI x4, vI x5, vI x6, v7, v8, v9] [] μ Q := mvc_at zcd zml (C := zc24) rfl 55 13 h
theorem vc_X4_addCell_0 {μ : mzM} {Q : Option mzV → mzM → Prop} {o0 x1 : Int} (h :
    (zin ((μ 12 o0 2) - 1) ∧ (if ((μ 12 o0 2) - 1) < 0 then
    (if (μ 12 o0 2) < 0 then
      Q none μ
      else
      (if (μ 12 o0 2) < 16 then
        (if (μ 12 o0 2) < 16 then
          ((0 ≤ (μ 12 o0 2) ∧ (μ 12 o0 2) < 16) ∧ ((0 ≤ ((mup μ 13 o0 (μ 12 o0 2) 1) 12 o0 2) ∧ ((mup μ 13 o0 (μ 12 o0 2) 1) 12 o0 2) < 16) ∧ (zin (((mup (mup μ 13 o0 (μ 12 o0 2) 1) 14 o0 ((mup μ 13 o0 (μ 12 o0 2) 1) 12 o0 2) x1) 12 o0 2) + 1) ∧ Q none (mup (mup (mup μ 13 o0 (μ 12 o0 2) 1) 14 o0 ((mup μ 13 o0 (μ 12 o0 2) 1) 12 o0 2) x1) 12 o0 2 (((mup (mup μ 13 o0 (μ 12 o0 2) 1) 14 o0 ((mup μ 13 o0 (μ 12 o0 2) 1) 12 o0 2) x1) 12 o0 2) + 1)))))
          else
          Q none μ)
        else
        Q none μ))
    else
    (if ((μ 12 o0 2) - 1) < 16 then
      ((0 ≤ ((μ 12 o0 2) - 1) ∧ ((μ 12 o0 2) - 1) < 16) ∧ (if (μ 14 o0 ((μ 12 o0 2) - 1)) = x1 then
        (if ((μ 12 o0 2) - 1) < 16 then
          ((0 ≤ ((μ 12 o0 2) - 1) ∧ ((μ 12 o0 2) - 1) < 16) ∧ (zin ((μ 13 o0 ((μ 12 o0 2) - 1)) + 1) ∧ ((0 ≤ ((μ 12 o0 2) - 1) ∧ ((μ 12 o0 2) - 1) < 16) ∧ Q none (mup μ 13 o0 ((μ 12 o0 2) - 1) ((μ 13 o0 ((μ 12 o0 2) - 1)) + 1)))))
          else
          (if (μ 12 o0 2) < 0 then
            Q none μ
            else
            (if (μ 12 o0 2) < 16 then
              (if (μ 12 o0 2) < 16 then
                ((0 ≤ (μ 12 o0 2) ∧ (μ 12 o0 2) < 16) ∧ ((0 ≤ ((mup μ 13 o0 (μ 12 o0 2) 1) 12 o0 2) ∧ ((mup μ 13 o0 (μ 12 o0 2) 1) 12 o0 2) < 16) ∧ (zin (((mup (mup μ 13 o0 (μ 12 o0 2) 1) 14 o0 ((mup μ 13 o0 (μ 12 o0 2) 1) 12 o0 2) x1) 12 o0 2) + 1) ∧ Q none (mup (mup (mup μ 13 o0 (μ 12 o0 2) 1) 14 o0 ((mup μ 13 o0 (μ 12 o0 2) 1) 12 o0 2) x1) 12 o0 2 (((mup (mup μ 13 o0 (μ 12 o0 2) 1) 14 o0 ((mup μ 13 o0 (μ 12 o0 2) 1) 12 o0 2) x1) 12 o0 2) + 1)))))
                else
                Q none μ)
              else
              Q none μ)))
        else
        (if (μ 12 o0 2) < 0 then
          Q none μ
          else
          (if (μ 12 o0 2) < 16 then
            (if (μ 12 o0 2) < 16 then
              ((0 ≤ (μ 12 o0 2) ∧ (μ 12 o0 2) < 16) ∧ ((0 ≤ ((mup μ 13 o0 (μ 12 o0 2) 1) 12 o0 2) ∧ ((mup μ 13 o0 (μ 12 o0 2) 1) 12 o0 2) < 16) ∧ (zin (((mup (mup μ 13 o0 (μ 12 o0 2) 1) 14 o0 ((mup μ 13 o0 (μ 12 o0 2) 1) 12 o0 2) x1) 12 o0 2) + 1) ∧ Q none (mup (mup (mup μ 13 o0 (μ 12 o0 2) 1) 14 o0 ((mup μ 13 o0 (μ 12 o0 2) 1) 12 o0 2) x1) 12 o0 2 (((mup (mup μ 13 o0 (μ 12 o0 2) 1) 14 o0 ((mup μ 13 o0 (μ 12 o0 2) 1) 12 o0 2) x1) 12 o0 2) + 1)))))
              else
              Q none μ)
            else
            Q none μ))))
      else
      (if (μ 12 o0 2) < 0 then
        Q none μ
        else
        (if (μ 12 o0 2) < 16 then
          (if (μ 12 o0 2) < 16 then
            ((0 ≤ (μ 12 o0 2) ∧ (μ 12 o0 2) < 16) ∧ ((0 ≤ ((mup μ 13 o0 (μ 12 o0 2) 1) 12 o0 2) ∧ ((mup μ 13 o0 (μ 12 o0 2) 1) 12 o0 2) < 16) ∧ (zin (((mup (mup μ 13 o0 (μ 12 o0 2) 1) 14 o0 ((mup μ 13 o0 (μ 12 o0 2) 1) 12 o0 2) x1) 12 o0 2) + 1) ∧ Q none (mup (mup (mup μ 13 o0 (μ 12 o0 2) 1) 14 o0 ((mup μ 13 o0 (μ 12 o0 2) 1) 12 o0 2) x1) 12 o0 2 (((mup (mup μ 13 o0 (μ 12 o0 2) 1) 14 o0 ((mup μ 13 o0 (μ 12 o0 2) 1) 12 o0 2) x1) 12 o0 2) + 1)))))
            else
            Q none μ)
          else
          Q none μ)))))) :
    ZW f_X4_addCell 0 [vR 12 o0, vI x1, none, none] [] μ Q := mvc_at zcd zml (C := zc25) rfl 77 0 h
theorem vc_X6_take_0 {μ : mzM} {Q : Option mzV → mzM → Prop} {o0 o1 : Int} (h :
    ZV f_X2_take [vR 3 (78 + o0), vR 3 (78 + o1)] μ (fun ν1 =>
    ZW f_X6_take 23 [vR 1 o0, vR 1 o1, vI 0] [] (mup (mup (mup (mup ν1 1 o0 3 (ν1 1 o1 3)) 1 o0 4 ((mup ν1 1 o0 3 (ν1 1 o1 3)) 1 o1 4)) 1 o0 5 ((mup (mup ν1 1 o0 3 (ν1 1 o1 3)) 1 o0 4 ((mup ν1 1 o0 3 (ν1 1 o1 3)) 1 o1 4)) 1 o1 5)) 1 o0 6 ((mup (mup (mup ν1 1 o0 3 (ν1 1 o1 3)) 1 o0 4 ((mup ν1 1 o0 3 (ν1 1 o1 3)) 1 o1 4)) 1 o0 5 ((mup (mup ν1 1 o0 3 (ν1 1 o1 3)) 1 o0 4 ((mup ν1 1 o0 3 (ν1 1 o1 3)) 1 o1 4)) 1 o1 5)) 1 o1 6)) Q)) :
    ZW f_X6_take 0 [vR 1 o0, vR 1 o1, none] [] μ Q := mvc_at zcd zml (C := zc26) rfl 42 0 h
theorem vc_X6_take_23 {μ : mzM} {Q : Option mzV → mzM → Prop} {o0 o1 x2 : Int} (h :
    (if x2 < (μ 1 o0 3) then
    ZR f_X6_frameAt 2 [vR 1 o0, vI x2] μ (fun r2 ν1 =>
      ZR f_X6_frameAt 2 [vR 1 o1, vI x2] ν1 (fun r4 ν3 =>
      ZV f_X1_take [vR 2 r2, vR 2 r4] ν3 (fun ν5 =>
      (zin (x2 + 1) ∧ ZW f_X6_take 23 [vR 1 o0, vR 1 o1, vI (x2 + 1)] [] ν5 Q))))
    else
    Q none μ)) :
    ZW f_X6_take 23 [vR 1 o0, vR 1 o1, vI x2] [] μ Q := mvc_at zcd zml (C := zc26) rfl 42 23 h
theorem vc_X6_frameAt_0 {μ : mzM} {Q : Option mzV → mzM → Prop} {o0 x1 : Int} (h :
    (if x1 < 0 then
    Q (some (vR 2 (11 * o0 + 10))) μ
    else
    (if x1 < 10 then
      ((0 ≤ x1 ∧ x1 < 10) ∧ Q (some (vR 2 (11 * o0 + x1))) μ)
      else
      Q (some (vR 2 (11 * o0 + 10))) μ))) :
    ZW f_X6_frameAt 0 [vR 1 o0, vI x1] [] μ Q := mvc_at zcd zml (C := zc27) rfl 20 0 h
theorem vc_X6_isFrame_0 {μ : mzM} {Q : Option mzV → mzM → Prop} {o0 x1 : Int} (h :
    (if x1 < 0 then
    Q (some (vI 0)) μ
    else
    (if x1 < (μ 1 o0 3) then
      Q (some (vI 1)) μ
      else
      Q (some (vI 0)) μ))) :
    ZW f_X6_isFrame 0 [vR 1 o0, vI x1] [] μ Q := mvc_at zcd zml (C := zc28) rfl 15 0 h
theorem vc_X6_isImage_0 {μ : mzM} {Q : Option mzV → mzM → Prop} {o0 x1 : Int} (h :
    (if x1 = (-1) then
    Q (some (vI 1)) μ
    else
    ZI f_X6_isFrame [vR 1 o0, vI x1] μ (fun r2 ν1 =>
      (if r2 = 0 then
      Q (some (vI 0)) ν1
      else
      Q (some (vI 1)) ν1)))) :
    ZW f_X6_isImage 0 [vR 1 o0, vI x1] [] μ Q := mvc_at zcd zml (C := zc29) rfl 16 0 h
theorem vc_X6_imageOf_0 {μ : mzM} {Q : Option mzV → mzM → Prop} {o0 x1 : Int} (h :
    (if x1 = (-1) then
    Q (some (vR 3 (78 + o0))) μ
    else
    ZR f_X6_frameAt 2 [vR 1 o0, vI x1] μ (fun r2 ν1 =>
      Q (some (vR 3 r2)) ν1))) :
    ZW f_X6_imageOf 0 [vR 1 o0, vI x1] [] μ Q := mvc_at zcd zml (C := zc30) rfl 16 0 h
theorem vc_X6_isReadable_0 {μ : mzM} {Q : Option mzV → mzM → Prop} {o0 x1 : Int} (h :
    ZW f_X6_isReadable 4 [vR 1 o0, vI x1, vI x1, vI 0] [] μ Q) :
    ZW f_X6_isReadable 0 [vR 1 o0, vI x1, none, none] [] μ Q := mvc_at zcd zml (C := zc31) rfl 30 0 h
theorem vc_X6_isReadable_4 {μ : mzM} {Q : Option mzV → mzM → Prop} {o0 x1 x2 x3 : Int} (h :
    (if x3 < 10 then
    (if x2 < 0 then
      Q (some (vI 1)) μ
      else
      ZR f_X6_frameAt 2 [vR 1 o0, vI x2] μ (fun r2 ν1 =>
        (if (ν1 2 r2 4) = 0 then
        ZR f_X6_frameAt 2 [vR 1 o0, vI x2] ν1 (fun r4 ν3 =>
          (zin (x3 + 1) ∧ ZW f_X6_isReadable 4 [vR 1 o0, vI x1, vI (ν3 2 r4 2), vI (x3 + 1)] [] ν3 Q))
        else
        Q (some (vI 0)) ν1)))
    else
    Q (some (vI 1)) μ)) :
    ZW f_X6_isReadable 4 [vR 1 o0, vI x1, vI x2, vI x3] [] μ Q := mvc_at zcd zml (C := zc31) rfl 30 4 h
theorem vc_X6_mayBeReference_0 {μ : mzM} {Q : Option mzV → mzM → Prop} {o0 x1 : Int} (h :
    ZI f_X6_isReadable [vR 1 o0, vI x1] μ (fun r2 ν1 =>
    (if r2 = 0 then
    Q (some (vI 0)) ν1
    else
    ZI f_X6_depthOf [vR 1 o0, vI x1] ν1 (fun r4 ν3 =>
      (if r4 < (ν3 1 o0 5) then
      Q (some (vI 1)) ν3
      else
      Q (some (vI 0)) ν3))))) :
    ZW f_X6_mayBeReference 0 [vR 1 o0, vI x1] [] μ Q := mvc_at zcd zml (C := zc32) rfl 19 0 h
theorem vc_X6_depthOf_0 {μ : mzM} {Q : Option mzV → mzM → Prop} {o0 x1 : Int} (h :
    ZR f_X6_frameAt 2 [vR 1 o0, vI x1] μ (fun r2 ν1 =>
    ZW f_X6_depthOf 9 [vR 1 o0, vI x1, vI 0, vI (ν1 2 r2 2), vI 0] [] ν1 Q)) :
    ZW f_X6_depthOf 0 [vR 1 o0, vI x1, none, none, none] [] μ Q := mvc_at zcd zml (C := zc33) rfl 29 0 h
theorem vc_X6_depthOf_9 {μ : mzM} {Q : Option mzV → mzM → Prop} {o0 x1 x2 x3 x4 : Int} (h :
    (if x4 < 10 then
    (if x3 < 0 then
      Q (some (vI x2)) μ
      else
      (zin (x2 + 1) ∧ ZR f_X6_frameAt 2 [vR 1 o0, vI x3] μ (fun r2 ν1 =>
        (zin (x4 + 1) ∧ ZW f_X6_depthOf 9 [vR 1 o0, vI x1, vI (x2 + 1), vI (ν1 2 r2 2), vI (x4 + 1)] [] ν1 Q))))
    else
    Q (some (vI x2)) μ)) :
    ZW f_X6_depthOf 9 [vR 1 o0, vI x1, vI x2, vI x3, vI x4] [] μ Q := mvc_at zcd zml (C := zc33) rfl 29 9 h
theorem vc_X6_seekCost_0 {μ : mzM} {Q : Option mzV → mzM → Prop} {o0 x1 : Int} (h :
    ZW f_X6_seekCost 6 [vR 1 o0, vI x1, vI 0, vI x1, vI 0] [] μ Q) :
    ZW f_X6_seekCost 0 [vR 1 o0, vI x1, none, none, none] [] μ Q := mvc_at zcd zml (C := zc34) rfl 32 0 h
theorem vc_X6_seekCost_6 {μ : mzM} {Q : Option mzV → mzM → Prop} {o0 x1 x2 x3 x4 : Int} (h :
    (if x4 < 10 then
    (if x3 < 0 then
      Q (some (vI x2)) μ
      else
      ZR f_X6_frameAt 2 [vR 1 o0, vI x3] μ (fun r2 ν1 =>
        (zin (x2 + (ν1 2 r2 3)) ∧ ZR f_X6_frameAt 2 [vR 1 o0, vI x3] ν1 (fun r4 ν3 =>
        (zin (x4 + 1) ∧ ZW f_X6_seekCost 6 [vR 1 o0, vI x1, vI (x2 + (ν1 2 r2 3)), vI (ν3 2 r4 2), vI (x4 + 1)] [] ν3 Q)))))
    else
    Q (some (vI x2)) μ)) :
    ZW f_X6_seekCost 6 [vR 1 o0, vI x1, vI x2, vI x3, vI x4] [] μ Q := mvc_at zcd zml (C := zc34) rfl 32 6 h
theorem vc_X6_chainHas_0 {μ : mzM} {Q : Option mzV → mzM → Prop} {o0 x1 x2 : Int} (h :
    ZW f_X6_chainHas 4 [vR 1 o0, vI x1, vI x2, vI x1, vI 0] [] μ Q) :
    ZW f_X6_chainHas 0 [vR 1 o0, vI x1, vI x2, none, none] [] μ Q := mvc_at zcd zml (C := zc35) rfl 28 0 h
theorem vc_X6_chainHas_4 {μ : mzM} {Q : Option mzV → mzM → Prop} {o0 x1 x2 x3 x4 : Int} (h :
    (if x4 < 10 then
    (if x3 < 0 then
      Q (some (vI 0)) μ
      else
      (if x3 = x2 then
        Q (some (vI 1)) μ
        else
        ZR f_X6_frameAt 2 [vR 1 o0, vI x3] μ (fun r2 ν1 =>
          (zin (x4 + 1) ∧ ZW f_X6_chainHas 4 [vR 1 o0, vI x1, vI x2, vI (ν1 2 r2 2), vI (x4 + 1)] [] ν1 Q))))
    else
    Q (some (vI 0)) μ)) :
    ZW f_X6_chainHas 4 [vR 1 o0, vI x1, vI x2, vI x3, vI x4] [] μ Q := mvc_at zcd zml (C := zc35) rfl 28 4 h
theorem vc_X6_readableFrames_0 {μ : mzM} {Q : Option mzV → mzM → Prop} {o0 : Int} (h :
    ZW f_X6_readableFrames 4 [vR 1 o0, vI 0, vI 0] [] μ Q) :
    ZW f_X6_readableFrames 0 [vR 1 o0, none, none] [] μ Q := mvc_at zcd zml (C := zc36) rfl 22 0 h
theorem vc_X6_readableFrames_4 {μ : mzM} {Q : Option mzV → mzM → Prop} {o0 x1 x2 : Int} (h :
    (if x2 < (μ 1 o0 3) then
    ZI f_X6_isReadable [vR 1 o0, vI x2] μ (fun r2 ν1 =>
      (if r2 = 0 then
      (zin (x2 + 1) ∧ ZW f_X6_readableFrames 4 [vR 1 o0, vI x1, vI (x2 + 1)] [] ν1 Q)
      else
      (zin (x1 + 1) ∧ (zin (x2 + 1) ∧ ZW f_X6_readableFrames 4 [vR 1 o0, vI (x1 + 1), vI (x2 + 1)] [] ν1 Q))))
    else
    Q (some (vI x1)) μ)) :
    ZW f_X6_readableFrames 4 [vR 1 o0, vI x1, vI x2] [] μ Q := mvc_at zcd zml (C := zc36) rfl 22 4 h
theorem vc_X6_costOfRecords_0 {μ : mzM} {Q : Option mzV → mzM → Prop} {o0 : Int} (h :
    ZW f_X6_costOfRecords 4 [vR 1 o0, vI 0, vI 0] [] μ Q) :
    ZW f_X6_costOfRecords 0 [vR 1 o0, none, none] [] μ Q := mvc_at zcd zml (C := zc37) rfl 24 0 h
theorem vc_X6_costOfRecords_4 {μ : mzM} {Q : Option mzV → mzM → Prop} {o0 x1 x2 : Int} (h :
    (if x2 < (μ 1 o0 3) then
    ZR f_X6_frameAt 2 [vR 1 o0, vI x2] μ (fun r2 ν1 =>
      (zin (x1 + (ν1 2 r2 3)) ∧ (zin (x2 + 1) ∧ ZW f_X6_costOfRecords 4 [vR 1 o0, vI (x1 + (ν1 2 r2 3)), vI (x2 + 1)] [] ν1 Q)))
    else
    Q (some (vI x1)) μ)) :
    ZW f_X6_costOfRecords 4 [vR 1 o0, vI x1, vI x2] [] μ Q := mvc_at zcd zml (C := zc37) rfl 24 4 h
theorem vc_X7_setSize_0 {μ : mzM} {Q : Option mzV → mzM → Prop} {o0 x1 x2 : Int} (h :
    ZI f_X7_isSize [vI x1] μ (fun r2 ν1 =>
    (if r2 = 0 then
    Q (some (vI (-1))) ν1
    else
    ZI f_X7_isSize [vI x2] ν1 (fun r4 ν3 =>
      (if r4 = 0 then
      Q (some (vI (-1))) ν3
      else
      ZV f_X7_save [vR 0 o0] ν3 (fun ν5 =>
        ZV f_X2_reset [vR 3 78, vI x1, vI x2] (mup ν5 1 0 3 0) (fun ν6 =>
        ZI f_X2_blocks [vR 3 78] ν6 (fun r8 ν7 =>
        Q (some (vI r8)) ν7)))))))) :
    ZW f_X7_setSize 0 [vR 0 o0, vI x1, vI x2] [] μ Q := mvc_at zcd zml (C := zc38) rfl 30 0 h
theorem vc_X7_setCell_0 {μ : mzM} {Q : Option mzV → mzM → Prop} {o0 x1 x2 : Int} (h :
    ZI f_X2_hasCell [vR 3 78, vI x1] μ (fun r2 ν1 =>
    (if r2 = 0 then
    Q (some (vI (-1))) ν1
    else
    (if x2 < 0 then
      Q (some (vI (-1))) ν1
      else
      (if (15 : Int) < x2 then
        Q (some (vI (-1))) ν1
        else
        ZV f_X7_save [vR 0 o0] ν1 (fun ν3 =>
          ZI f_X2_numbered [vR 3 78, vI x1] ν3 (fun r5 ν4 =>
          ZV f_X2_putNumbered [vR 3 78, vI x1, vI x2] ν4 (fun ν6 =>
          Q (some (vI r5)) ν6)))))))) :
    ZW f_X7_setCell 0 [vR 0 o0, vI x1, vI x2, none] [] μ Q := mvc_at zcd zml (C := zc39) rfl 34 0 h
theorem vc_X7_cell_0 {μ : mzM} {Q : Option mzV → mzM → Prop} {o0 x1 : Int} (h :
    ZI f_X2_hasCell [vR 3 78, vI x1] μ (fun r2 ν1 =>
    (if r2 = 0 then
    Q (some (vI (-1))) ν1
    else
    ZI f_X2_numbered [vR 3 78, vI x1] ν1 (fun r4 ν3 =>
      Q (some (vI r4)) ν3)))) :
    ZW f_X7_cell 0 [vR 0 o0, vI x1] [] μ Q := mvc_at zcd zml (C := zc40) rfl 19 0 h
theorem vc_X7_addKey_0 {μ : mzM} {Q : Option mzV → mzM → Prop} {o0 : Int} (h :
    (if (μ 1 0 3) < 10 then
    ZI f_X7_add [vR 0 o0, vI (-1)] μ (fun r2 ν1 =>
      Q (some (vI r2)) ν1)
    else
    Q (some (vI (-3))) μ)) :
    ZW f_X7_addKey 0 [vR 0 o0] [] μ Q := mvc_at zcd zml (C := zc41) rfl 16 0 h
theorem vc_X7_addDelta_0 {μ : mzM} {Q : Option mzV → mzM → Prop} {o0 x1 : Int} (h :
    ZI f_X6_isFrame [vR 1 0, vI x1] μ (fun r2 ν1 =>
    (if r2 = 0 then
    Q (some (vI (-1))) ν1
    else
    ZI f_X6_mayBeReference [vR 1 0, vI x1] ν1 (fun r4 ν3 =>
      (if r4 = 0 then
      Q (some (vI (-2))) ν3
      else
      (if (ν3 1 0 3) < 10 then
        ZI f_X7_add [vR 0 o0, vI x1] ν3 (fun r6 ν5 =>
          Q (some (vI r6)) ν5)
        else
        Q (some (vI (-3))) ν3)))))) :
    ZW f_X7_addDelta 0 [vR 0 o0, vI x1] [] μ Q := mvc_at zcd zml (C := zc42) rfl 30 0 h
theorem vc_X7_addChosen_0 {μ : mzM} {Q : Option mzV → mzM → Prop} {o0 : Int} (h :
    (if (μ 1 0 3) < 10 then
    ZI f_X7_chosenReference [vR 0 o0] μ (fun r2 ν1 =>
      ZI f_X7_add [vR 0 o0, vI r2] ν1 (fun r4 ν3 =>
      Q (some (vI r4)) ν3))
    else
    Q (some (vI (-3))) μ)) :
    ZW f_X7_addChosen 0 [vR 0 o0] [] μ Q := mvc_at zcd zml (C := zc43) rfl 17 0 h
theorem vc_X7_removeLast_0 {μ : mzM} {Q : Option mzV → mzM → Prop} {o0 : Int} (h :
    (if (μ 1 0 3) < 1 then
    Q (some (vI (-2))) μ
    else
    ZV f_X7_save [vR 0 o0] μ (fun ν1 =>
      (zin ((ν1 1 0 3) - 1) ∧ Q (some (vI ((mup ν1 1 0 3 ((ν1 1 0 3) - 1)) 1 0 3))) (mup ν1 1 0 3 ((ν1 1 0 3) - 1)))))) :
    ZW f_X7_removeLast 0 [vR 0 o0] [] μ Q := mvc_at zcd zml (C := zc44) rfl 25 0 h
theorem vc_X7_recode_0 {μ : mzM} {Q : Option mzV → mzM → Prop} {o0 : Int} (h :
    (if (μ 1 0 3) < 1 then
    Q (some (vI (-2))) μ
    else
    ZV f_X7_save [vR 0 o0] μ (fun ν1 =>
      ZV f_X3_plan [vR 15 0, vR 1 0, vR 11 0, vR 2 77] ν1 (fun ν2 =>
      ZW f_X7_recode 20 [vR 0 o0, vI 0] [] ν2 Q)))) :
    ZW f_X7_recode 0 [vR 0 o0, none] [] μ Q := mvc_at zcd zml (C := zc45) rfl 49 0 h
theorem vc_X7_recode_20 {μ : mzM} {Q : Option mzV → mzM → Prop} {o0 x1 : Int} (h :
    (if x1 < (μ 1 0 3) then
    ZR f_X6_frameAt 2 [vR 1 0, vI x1] μ (fun r2 ν1 =>
      ZI f_X3_referenceOf [vR 15 0, vI x1] ν1 (fun r4 ν3 =>
      ZV f_X0_encode [vR 11 0, vR 2 r2, vR 1 0, vI r4] ν3 (fun ν5 =>
      (zin (x1 + 1) ∧ ZW f_X7_recode 20 [vR 0 o0, vI (x1 + 1)] [] ν5 Q))))
    else
    Q (some (vI (μ 15 0 2))) μ)) :
    ZW f_X7_recode 20 [vR 0 o0, vI x1] [] μ Q := mvc_at zcd zml (C := zc45) rfl 49 20 h
theorem vc_X7_setLimits_0 {μ : mzM} {Q : Option mzV → mzM → Prop} {o0 x1 x2 x3 : Int} (h :
    (if x1 < 0 then
    Q (some (vI (-1))) μ
    else
    (if (4 : Int) < x1 then
      Q (some (vI (-1))) μ
      else
      (if x2 < 0 then
        Q (some (vI (-1))) μ
        else
        (if (9 : Int) < x2 then
          Q (some (vI (-1))) μ
          else
          (if x3 < 0 then
            Q (some (vI (-1))) μ
            else
            (if (9 : Int) < x3 then
              Q (some (vI (-1))) μ
              else
              ZV f_X7_save [vR 0 o0] μ (fun ν1 =>
                (if (ν1 1 0 4) = x1 then
                (if (ν1 1 0 5) = x2 then
                  (if (ν1 1 0 6) = x3 then
                    Q (some (vI 0)) (mup (mup (mup ν1 1 0 4 x1) 1 0 5 x2) 1 0 6 x3)
                    else
                    Q (some (vI 1)) (mup (mup (mup ν1 1 0 4 x1) 1 0 5 x2) 1 0 6 x3))
                  else
                  Q (some (vI 1)) (mup (mup (mup ν1 1 0 4 x1) 1 0 5 x2) 1 0 6 x3))
                else
                Q (some (vI 1)) (mup (mup (mup ν1 1 0 4 x1) 1 0 5 x2) 1 0 6 x3)))))))))) :
    ZW f_X7_setLimits 0 [vR 0 o0, vI x1, vI x2, vI x3, none] [] μ Q := mvc_at zcd zml (C := zc46) rfl 63 0 h
theorem vc_X7_setLost_0 {μ : mzM} {Q : Option mzV → mzM → Prop} {o0 x1 x2 : Int} (h :
    ZI f_X6_isFrame [vR 1 0, vI x1] μ (fun r2 ν1 =>
    (if r2 = 0 then
    Q (some (vI (-1))) ν1
    else
    (if x2 < 0 then
      Q (some (vI (-1))) ν1
      else
      (if (1 : Int) < x2 then
        Q (some (vI (-1))) ν1
        else
        (if x2 = 1 then
          ZR f_X6_frameAt 2 [vR 1 0, vI x1] ν1 (fun r4 ν3 =>
            (if (ν3 2 r4 4) = 1 then
            Q (some (vI (-2))) ν3
            else
            ZV f_X7_save [vR 0 o0] ν3 (fun ν5 =>
              ZR f_X6_frameAt 2 [vR 1 0, vI x1] ν5 (fun r7 ν6 =>
              (((1 : Int) = 0 ∨ (1 : Int) = 1) ∧ ZI f_X6_readableFrames [vR 1 0] (mup ν6 2 r7 4 1) (fun r9 ν8 =>
              Q (some (vI r9)) ν8))))))
          else
          ZR f_X6_frameAt 2 [vR 1 0, vI x1] ν1 (fun r11 ν10 =>
            (if (ν10 2 r11 4) = 0 then
            Q (some (vI (-2))) ν10
            else
            ZV f_X7_save [vR 0 o0] ν10 (fun ν12 =>
              ZR f_X6_frameAt 2 [vR 1 0, vI x1] ν12 (fun r14 ν13 =>
              (((0 : Int) = 0 ∨ (0 : Int) = 1) ∧ ZI f_X6_readableFrames [vR 1 0] (mup ν13 2 r14 4 0) (fun r16 ν15 =>
              Q (some (vI r16)) ν15)))))))))))) :
    ZW f_X7_setLost 0 [vR 0 o0, vI x1, vI x2, none] [] μ Q := mvc_at zcd zml (C := zc47) rfl 45 0 h
theorem vc_X7_frame_0 {μ : mzM} {Q : Option mzV → mzM → Prop} {o0 x1 x2 : Int} (h :
    ZI f_X6_isFrame [vR 1 0, vI x1] μ (fun r2 ν1 =>
    (if r2 = 0 then
    Q (some (vI (-1))) ν1
    else
    ZR f_X6_frameAt 2 [vR 1 0, vI x1] ν1 (fun r4 ν3 =>
      (if x2 = 0 then
      (if (ν3 2 r4 2) = (-1) then
        Q (some (vI (-9))) ν3
        else
        Q (some (vI (ν3 2 r4 2))) ν3)
      else
      (if x2 = 1 then
      Q (some (vI (ν3 2 r4 3))) ν3
      else
      (if x2 = 2 then
      ZI f_X6_seekCost [vR 1 0, vI x1] ν3 (fun r6 ν5 =>
        Q (some (vI r6)) ν5)
      else
      (if x2 = 3 then
      ZI f_X6_depthOf [vR 1 0, vI x1] ν3 (fun r8 ν7 =>
        Q (some (vI r8)) ν7)
      else
      (if x2 = 4 then
      ZI f_X6_isReadable [vR 1 0, vI x1] ν3 (fun r10 ν9 =>
        (if r10 = 0 then
        Q (some (vI 0)) ν9
        else
        Q (some (vI 1)) ν9))
      else
      (if x2 = 5 then
      ZI f_X1_codesOfKind [vR 2 r4, vI 0] ν3 (fun r12 ν11 =>
        Q (some (vI r12)) ν11)
      else
      (if x2 = 6 then
      ZI f_X1_codesOfKind [vR 2 r4, vI 1] ν3 (fun r14 ν13 =>
        Q (some (vI r14)) ν13)
      else
      (if x2 = 7 then
      ZI f_X1_codesOfKind [vR 2 r4, vI 2] ν3 (fun r16 ν15 =>
        Q (some (vI r16)) ν15)
      else
      (if x2 = 8 then
      ZI f_X1_codesOfKind [vR 2 r4, vI 3] ν3 (fun r18 ν17 =>
        Q (some (vI r18)) ν17)
      else
      Q (some (vI (-1))) ν3))))))))))))) :
    ZW f_X7_frame 0 [vR 0 o0, vI x1, vI x2, none] [] μ Q := mvc_at zcd zml (C := zc48) rfl 68 0 h
theorem vc_X7_pixel_0 {μ : mzM} {Q : Option mzV → mzM → Prop} {o0 x1 x2 : Int} (h :
    ZI f_X6_isFrame [vR 1 0, vI x1] μ (fun r2 ν1 =>
    (if r2 = 0 then
    Q (some (vI (-1))) ν1
    else
    ZI f_X2_hasCell [vR 3 78, vI x2] ν1 (fun r4 ν3 =>
      (if r4 = 0 then
      Q (some (vI (-1))) ν3
      else
      ZI f_X6_isReadable [vR 1 0, vI x1] ν3 (fun r6 ν5 =>
        (if r6 = 0 then
        Q (some (vI (-2))) ν5
        else
        ZR f_X6_imageOf 3 [vR 1 0, vI x1] ν5 (fun r8 ν7 =>
          ZI f_X2_numbered [vR 3 r8, vI x2] ν7 (fun r10 ν9 =>
          Q (some (vI r10)) ν9))))))))) :
    ZW f_X7_pixel 0 [vR 0 o0, vI x1, vI x2] [] μ Q := mvc_at zcd zml (C := zc49) rfl 32 0 h
theorem vc_X7_count_0 {μ : mzM} {Q : Option mzV → mzM → Prop} {o0 x1 : Int} (h :
    (if x1 = 0 then
    Q (some (vI (μ 3 78 1))) μ
    else
    (if x1 = 1 then
    Q (some (vI (μ 3 78 2))) μ
    else
    (if x1 = 2 then
    Q (some (vI (μ 1 0 3))) μ
    else
    (if x1 = 3 then
    Q (some (vI (μ 1 0 4))) μ
    else
    (if x1 = 4 then
    Q (some (vI (μ 1 0 5))) μ
    else
    (if x1 = 5 then
    Q (some (vI (μ 1 0 6))) μ
    else
    (if x1 = 6 then
    ZI f_X6_costOfRecords [vR 1 0] μ (fun r2 ν1 =>
      Q (some (vI r2)) ν1)
    else
    (if x1 = 7 then
    ZI f_X6_readableFrames [vR 1 0] μ (fun r4 ν3 =>
      Q (some (vI r4)) ν3)
    else
    (if x1 = 8 then
    Q (some (vI (μ 8 0 1))) μ
    else
    (if x1 = 9 then
    Q (some (vI (μ 0 o0 3))) μ
    else
    Q (some (vI (-1))) μ))))))))))) :
    ZW f_X7_count 0 [vR 0 o0, vI x1] [] μ Q := mvc_at zcd zml (C := zc50) rfl 50 0 h
theorem vc_X7_costWith_0 {μ : mzM} {Q : Option mzV → mzM → Prop} {o0 x1 : Int} (h :
    ZI f_X6_isImage [vR 1 0, vI x1] μ (fun r2 ν1 =>
    (if r2 = 0 then
    Q (some (vI (-1))) ν1
    else
    ZI f_X6_isReadable [vR 1 0, vI x1] ν1 (fun r4 ν3 =>
      (if r4 = 0 then
      Q (some (vI (-2))) ν3
      else
      ZI f_X7_costOfCanvas [vR 0 o0, vI x1] ν3 (fun r6 ν5 =>
        Q (some (vI r6)) ν5)))))) :
    ZW f_X7_costWith 0 [vR 0 o0, vI x1] [] μ Q := mvc_at zcd zml (C := zc51) rfl 23 0 h
theorem vc_X7_difference_0 {μ : mzM} {Q : Option mzV → mzM → Prop} {o0 x1 x2 : Int} (h :
    ZI f_X6_isImage [vR 1 0, vI x1] μ (fun r2 ν1 =>
    (if r2 = 0 then
    Q (some (vI (-1))) ν1
    else
    ZI f_X6_isImage [vR 1 0, vI x2] ν1 (fun r4 ν3 =>
      (if r4 = 0 then
      Q (some (vI (-1))) ν3
      else
      ZI f_X6_isReadable [vR 1 0, vI x1] ν3 (fun r6 ν5 =>
        (if r6 = 0 then
        Q (some (vI (-2))) ν5
        else
        ZI f_X6_isReadable [vR 1 0, vI x2] ν5 (fun r8 ν7 =>
          (if r8 = 0 then
          Q (some (vI (-2))) ν7
          else
          ZR f_X6_imageOf 3 [vR 1 0, vI x1] ν7 (fun r10 ν9 =>
            ZR f_X6_imageOf 3 [vR 1 0, vI x2] ν9 (fun r12 ν11 =>
            ZI f_X2_cellsUnlike [vR 3 r10, vR 3 r12] ν11 (fun r14 ν13 =>
            Q (some (vI r14)) ν13)))))))))))) :
    ZW f_X7_difference 0 [vR 0 o0, vI x1, vI x2] [] μ Q := mvc_at zcd zml (C := zc52) rfl 39 0 h
theorem vc_X7_greatestSeek_0 {μ : mzM} {Q : Option mzV → mzM → Prop} {o0 : Int} (h :
    (if (μ 1 0 3) < 1 then
    Q (some (vI (-9))) μ
    else
    ZW f_X7_greatestSeek 11 [vR 0 o0, vI 0, vI 0] [] μ Q)) :
    ZW f_X7_greatestSeek 0 [vR 0 o0, none, none] [] μ Q := mvc_at zcd zml (C := zc53) rfl 32 0 h
theorem vc_X7_greatestSeek_11 {μ : mzM} {Q : Option mzV → mzM → Prop} {o0 x1 x2 : Int} (h :
    (if x2 < (μ 1 0 3) then
    ZI f_X6_seekCost [vR 1 0, vI x2] μ (fun r2 ν1 =>
      ZI f_J9_max_7cf53 [vI x1, vI r2] ν1 (fun r4 ν3 =>
      (zin (x2 + 1) ∧ ZW f_X7_greatestSeek 11 [vR 0 o0, vI r4, vI (x2 + 1)] [] ν3 Q)))
    else
    Q (some (vI x1)) μ)) :
    ZW f_X7_greatestSeek 11 [vR 0 o0, vI x1, vI x2] [] μ Q := mvc_at zcd zml (C := zc53) rfl 32 11 h
theorem vc_X7_dependents_0 {μ : mzM} {Q : Option mzV → mzM → Prop} {o0 x1 : Int} (h :
    ZI f_X6_isFrame [vR 1 0, vI x1] μ (fun r2 ν1 =>
    (if r2 = 0 then
    Q (some (vI (-1))) ν1
    else
    ZW f_X7_dependents 11 [vR 0 o0, vI x1, vI 0, vI 0] [] ν1 Q))) :
    ZW f_X7_dependents 0 [vR 0 o0, vI x1, none, none] [] μ Q := mvc_at zcd zml (C := zc54) rfl 32 0 h
theorem vc_X7_dependents_11 {μ : mzM} {Q : Option mzV → mzM → Prop} {o0 x1 x2 x3 : Int} (h :
    (if x3 < (μ 1 0 3) then
    ZI f_X6_chainHas [vR 1 0, vI x3, vI x1] μ (fun r2 ν1 =>
      (if r2 = 0 then
      (zin (x3 + 1) ∧ ZW f_X7_dependents 11 [vR 0 o0, vI x1, vI x2, vI (x3 + 1)] [] ν1 Q)
      else
      (zin (x2 + 1) ∧ (zin (x3 + 1) ∧ ZW f_X7_dependents 11 [vR 0 o0, vI x1, vI (x2 + 1), vI (x3 + 1)] [] ν1 Q))))
    else
    Q (some (vI x2)) μ)) :
    ZW f_X7_dependents 11 [vR 0 o0, vI x1, vI x2, vI x3] [] μ Q := mvc_at zcd zml (C := zc54) rfl 32 11 h
theorem vc_X7_planCost_0 {μ : mzM} {Q : Option mzV → mzM → Prop} {o0 : Int} (h :
    (if (μ 1 0 3) < 1 then
    Q (some (vI (-9))) μ
    else
    ZV f_X3_plan [vR 15 0, vR 1 0, vR 11 0, vR 2 77] μ (fun ν1 =>
      Q (some (vI (ν1 15 0 2))) ν1))) :
    ZW f_X7_planCost 0 [vR 0 o0] [] μ Q := mvc_at zcd zml (C := zc55) rfl 25 0 h
theorem vc_X7_undo_0 {μ : mzM} {Q : Option mzV → mzM → Prop} {o0 : Int} (h :
    (if (μ 0 o0 3) < 1 then
    Q (some (vI (-2))) μ
    else
    (zin ((μ 0 o0 3) - 1) ∧ ZR f_X7_savedSlot 1 [vR 0 o0, vI ((mup μ 0 o0 3 ((μ 0 o0 3) - 1)) 0 o0 3)] (mup μ 0 o0 3 ((μ 0 o0 3) - 1)) (fun r2 ν1 =>
      ZV f_X6_take [vR 1 0, vR 1 r2] ν1 (fun ν3 =>
      Q (some (vI (ν3 0 o0 3))) ν3))))) :
    ZW f_X7_undo 0 [vR 0 o0] [] μ Q := mvc_at zcd zml (C := zc56) rfl 27 0 h
theorem vc_X7_isSize_0 {μ : mzM} {Q : Option mzV → mzM → Prop} {x0 : Int} (h :
    (if x0 = 4 then
    Q (some (vI 1)) μ
    else
    (if x0 = 8 then
      Q (some (vI 1)) μ
      else
      (if x0 = 12 then
        Q (some (vI 1)) μ
        else
        Q (some (vI 0)) μ)))) :
    ZW f_X7_isSize 0 [vI x0] [] μ Q := mvc_at zcd zml (C := zc57) rfl 18 0 h
theorem vc_X7_save_0 {μ : mzM} {Q : Option mzV → mzM → Prop} {o0 : Int} (h :
    ZR f_X7_savedSlot 1 [vR 0 o0, vI (μ 0 o0 3)] μ (fun r2 ν1 =>
    ZV f_X6_take [vR 1 r2, vR 1 0] ν1 (fun ν3 =>
    (if (ν3 0 o0 3) < 6 then
    (zin ((ν3 0 o0 3) + 1) ∧ Q none (mup ν3 0 o0 3 ((ν3 0 o0 3) + 1)))
    else
    (zin ((ν3 0 o0 2) + 1) ∧ ((6 : Int) ≠ 0 ∧ Q none (mup ν3 0 o0 2 (Int.tmod ((ν3 0 o0 2) + 1) 6)))))))) :
    ZW f_X7_save 0 [vR 0 o0] [] μ Q := mvc_at zcd zml (C := zc58) rfl 32 0 h
theorem vc_X7_savedSlot_0 {μ : mzM} {Q : Option mzV → mzM → Prop} {o0 x1 : Int} (h :
    (zin ((μ 0 o0 2) + x1) ∧ ((6 : Int) ≠ 0 ∧ (if (Int.tmod ((μ 0 o0 2) + x1) 6) < 0 then
    Q (some (vR 1 0)) μ
    else
    (if (Int.tmod ((μ 0 o0 2) + x1) 6) < 6 then
      ((0 ≤ (Int.tmod ((μ 0 o0 2) + x1) 6) ∧ (Int.tmod ((μ 0 o0 2) + x1) 6) < 6) ∧ Q (some (vR 1 (1 + (Int.tmod ((μ 0 o0 2) + x1) 6)))) μ)
      else
      Q (some (vR 1 0)) μ))))) :
    ZW f_X7_savedSlot 0 [vR 0 o0, vI x1, none] [] μ Q := mvc_at zcd zml (C := zc59) rfl 27 0 h
theorem vc_X7_add_0 {μ : mzM} {Q : Option mzV → mzM → Prop} {o0 x1 : Int} (h :
    ZV f_X7_save [vR 0 o0] μ (fun ν1 =>
    ZR f_X6_frameAt 2 [vR 1 0, vI (ν1 1 0 3)] ν1 (fun r3 ν2 =>
    ZV f_X2_take [vR 3 r3, vR 3 78] ν2 (fun ν4 =>
    ZV f_X0_encode [vR 11 0, vR 2 r3, vR 1 0, vI x1] ν4 (fun ν5 =>
    (zin ((ν5 1 0 3) + 1) ∧ Q (some (vI ((mup ν5 1 0 3 ((ν5 1 0 3) + 1)) 2 r3 3))) (mup ν5 1 0 3 ((ν5 1 0 3) + 1)))))))) :
    ZW f_X7_add 0 [vR 0 o0, vI x1, none] [] μ Q := mvc_at zcd zml (C := zc60) rfl 37 0 h
theorem vc_X7_costOfCanvas_0 {μ : mzM} {Q : Option mzV → mzM → Prop} {o0 x1 : Int} (h :
    ZV f_X2_take [vR 3 77, vR 3 78] μ (fun ν1 =>
    ZV f_X0_encode [vR 11 0, vR 2 77, vR 1 0, vI x1] ν1 (fun ν2 =>
    Q (some (vI (ν2 2 77 3))) ν2))) :
    ZW f_X7_costOfCanvas 0 [vR 0 o0, vI x1] [] μ Q := mvc_at zcd zml (C := zc61) rfl 24 0 h
theorem vc_X7_chosenReference_0 {μ : mzM} {Q : Option mzV → mzM → Prop} {o0 : Int} (h :
    ZI f_X7_costOfCanvas [vR 0 o0, vI (-1)] μ (fun r2 ν1 =>
    ZW f_X7_chosenReference 10 [vR 0 o0, vI (-1), vI r2, vI 0, vI 0, none, none] [] ν1 Q)) :
    ZW f_X7_chosenReference 0 [vR 0 o0, none, none, none, none, none, none] [] μ Q := mvc_at zcd zml (C := zc62) rfl 56 0 h
theorem vc_X7_chosenReference_10 {μ : mzM} {Q : Option mzV → mzM → Prop} {o0 x1 x2 x3 x4 : Int} {v5 v6 : mzV} (h :
    (if x4 < (μ 1 0 3) then
    ZI f_X6_mayBeReference [vR 1 0, vI x4] μ (fun r2 ν1 =>
      (if r2 = 0 then
      (zin (x4 + 1) ∧ ZW f_X7_chosenReference 10 [vR 0 o0, vI x1, vI x2, vI x3, vI (x4 + 1), v5, v6] [] ν1 Q)
      else
      ZI f_X7_costOfCanvas [vR 0 o0, vI x4] ν1 (fun r4 ν3 =>
        ZI f_X6_depthOf [vR 1 0, vI x4] ν3 (fun r6 ν5 =>
        (zin (r6 + 1) ∧ (if r4 < x2 then
        (zin (x4 + 1) ∧ ZW f_X7_chosenReference 10 [vR 0 o0, vI x4, vI r4, vI (r6 + 1), vI (x4 + 1), vI r4, vI (r6 + 1)] [] ν5 Q)
        else
        (if r4 = x2 then
          (if x3 < (r6 + 1) then
            (zin (x4 + 1) ∧ ZW f_X7_chosenReference 10 [vR 0 o0, vI x1, vI x2, vI x3, vI (x4 + 1), vI r4, vI (r6 + 1)] [] ν5 Q)
            else
            (zin (x4 + 1) ∧ ZW f_X7_chosenReference 10 [vR 0 o0, vI x4, vI r4, vI (r6 + 1), vI (x4 + 1), vI r4, vI (r6 + 1)] [] ν5 Q))
          else
          (zin (x4 + 1) ∧ ZW f_X7_chosenReference 10 [vR 0 o0, vI x1, vI x2, vI x3, vI (x4 + 1), vI r4, vI (r6 + 1)] [] ν5 Q))))))))
    else
    Q (some (vI x1)) μ)) :
    ZW f_X7_chosenReference 10 [vR 0 o0, vI x1, vI x2, vI x3, vI x4, v5, v6] [] μ Q := mvc_at zcd zml (C := zc62) rfl 56 10 h
theorem vc_J6_bitCount_0f7a4_0 {μ : mzM} {Q : Option mzV → mzM → Prop} {x0 : Int} (h :
    (zin (x0 - (zand (zushr x0 1) 1431655765)) ∧ (zin ((zand (x0 - (zand (zushr x0 1) 1431655765)) 858993459) + (zand (zushr (x0 - (zand (zushr x0 1) 1431655765)) 2) 858993459)) ∧ (zin (((zand (x0 - (zand (zushr x0 1) 1431655765)) 858993459) + (zand (zushr (x0 - (zand (zushr x0 1) 1431655765)) 2) 858993459)) + (zushr ((zand (x0 - (zand (zushr x0 1) 1431655765)) 858993459) + (zand (zushr (x0 - (zand (zushr x0 1) 1431655765)) 2) 858993459)) 4)) ∧ (zin ((zand (((zand (x0 - (zand (zushr x0 1) 1431655765)) 858993459) + (zand (zushr (x0 - (zand (zushr x0 1) 1431655765)) 2) 858993459)) + (zushr ((zand (x0 - (zand (zushr x0 1) 1431655765)) 858993459) + (zand (zushr (x0 - (zand (zushr x0 1) 1431655765)) 2) 858993459)) 4)) 252645135) + (zushr (zand (((zand (x0 - (zand (zushr x0 1) 1431655765)) 858993459) + (zand (zushr (x0 - (zand (zushr x0 1) 1431655765)) 2) 858993459)) + (zushr ((zand (x0 - (zand (zushr x0 1) 1431655765)) 858993459) + (zand (zushr (x0 - (zand (zushr x0 1) 1431655765)) 2) 858993459)) 4)) 252645135) 8)) ∧ (zin (((zand (((zand (x0 - (zand (zushr x0 1) 1431655765)) 858993459) + (zand (zushr (x0 - (zand (zushr x0 1) 1431655765)) 2) 858993459)) + (zushr ((zand (x0 - (zand (zushr x0 1) 1431655765)) 858993459) + (zand (zushr (x0 - (zand (zushr x0 1) 1431655765)) 2) 858993459)) 4)) 252645135) + (zushr (zand (((zand (x0 - (zand (zushr x0 1) 1431655765)) 858993459) + (zand (zushr (x0 - (zand (zushr x0 1) 1431655765)) 2) 858993459)) + (zushr ((zand (x0 - (zand (zushr x0 1) 1431655765)) 858993459) + (zand (zushr (x0 - (zand (zushr x0 1) 1431655765)) 2) 858993459)) 4)) 252645135) 8)) + (zushr ((zand (((zand (x0 - (zand (zushr x0 1) 1431655765)) 858993459) + (zand (zushr (x0 - (zand (zushr x0 1) 1431655765)) 2) 858993459)) + (zushr ((zand (x0 - (zand (zushr x0 1) 1431655765)) 858993459) + (zand (zushr (x0 - (zand (zushr x0 1) 1431655765)) 2) 858993459)) 4)) 252645135) + (zushr (zand (((zand (x0 - (zand (zushr x0 1) 1431655765)) 858993459) + (zand (zushr (x0 - (zand (zushr x0 1) 1431655765)) 2) 858993459)) + (zushr ((zand (x0 - (zand (zushr x0 1) 1431655765)) 858993459) + (zand (zushr (x0 - (zand (zushr x0 1) 1431655765)) 2) 858993459)) 4)) 252645135) 8)) 16)) ∧ Q (some (vI (zand (((zand (((zand (x0 - (zand (zushr x0 1) 1431655765)) 858993459) + (zand (zushr (x0 - (zand (zushr x0 1) 1431655765)) 2) 858993459)) + (zushr ((zand (x0 - (zand (zushr x0 1) 1431655765)) 858993459) + (zand (zushr (x0 - (zand (zushr x0 1) 1431655765)) 2) 858993459)) 4)) 252645135) + (zushr (zand (((zand (x0 - (zand (zushr x0 1) 1431655765)) 858993459) + (zand (zushr (x0 - (zand (zushr x0 1) 1431655765)) 2) 858993459)) + (zushr ((zand (x0 - (zand (zushr x0 1) 1431655765)) 858993459) + (zand (zushr (x0 - (zand (zushr x0 1) 1431655765)) 2) 858993459)) 4)) 252645135) 8)) + (zushr ((zand (((zand (x0 - (zand (zushr x0 1) 1431655765)) 858993459) + (zand (zushr (x0 - (zand (zushr x0 1) 1431655765)) 2) 858993459)) + (zushr ((zand (x0 - (zand (zushr x0 1) 1431655765)) 858993459) + (zand (zushr (x0 - (zand (zushr x0 1) 1431655765)) 2) 858993459)) 4)) 252645135) + (zushr (zand (((zand (x0 - (zand (zushr x0 1) 1431655765)) 858993459) + (zand (zushr (x0 - (zand (zushr x0 1) 1431655765)) 2) 858993459)) + (zushr ((zand (x0 - (zand (zushr x0 1) 1431655765)) 858993459) + (zand (zushr (x0 - (zand (zushr x0 1) 1431655765)) 2) 858993459)) 4)) 252645135) 8)) 16)) 63))) μ)))))) :
    ZW f_J6_bitCount_0f7a4 0 [vI x0] [] μ Q := mvc_at zcd zml (C := zc63) rfl 47 0 h
theorem vc_J9_abs_0f7a4_0 {μ : mzM} {Q : Option mzV → mzM → Prop} {x0 : Int} (h :
    (if x0 < 0 then
    Q (some (vI (zw (-x0)))) μ
    else
    Q (some (vI x0)) μ)) :
    ZW f_J9_abs_0f7a4 0 [vI x0] [] μ Q := mvc_at zcd zml (C := zc64) rfl 12 0 h
theorem vc_J9_max_7cf53_0 {μ : mzM} {Q : Option mzV → mzM → Prop} {x0 x1 : Int} (h :
    (if x0 < x1 then
    Q (some (vI x1)) μ
    else
    Q (some (vI x0)) μ)) :
    ZW f_J9_max_7cf53 0 [vI x0, vI x1] [] μ Q := mvc_at zcd zml (C := zc65) rfl 12 0 h
theorem vc_J9_min_7cf53_0 {μ : mzM} {Q : Option mzV → mzM → Prop} {x0 x1 : Int} (h :
    (if x1 < x0 then
    Q (some (vI x1)) μ
    else
    Q (some (vI x0)) μ)) :
    ZW f_J9_min_7cf53 0 [vI x0, vI x1] [] μ Q := mvc_at zcd zml (C := zc66) rfl 12 0 h
theorem vc_L_cell_0 {μ : mzM} {Q : Option mzV → mzM → Prop} {o0 x1 : Int} (h :
    (if x1 < (μ 33 0 1) then
    ((0 ≤ x1 ∧ x1 < (μ 33 0 1)) ∧ Q (some (vI (μ 32 o0 x1))) μ)
    else
    (zin (x1 + 3) ∧ (zin (7919 * (x1 + 3)) ∧ (zin (x1 + 11) ∧ (zin ((7919 * (x1 + 3)) * (x1 + 11)) ∧ Q (some (vI ((7919 * (x1 + 3)) * (x1 + 11)))) μ)))))) :
    ZW f_L_cell 0 [vR 32 o0, vI x1] [] μ Q := mvc_at zcd zml (C := zc67) rfl 23 0 h
theorem vc_L_low_0 {μ : mzM} {Q : Option mzV → mzM → Prop} {x0 x1 : Int} (h :
    (x1 ≠ 0 ∧ Q (some (vI (Int.tmod (zand x0 2147483647) x1))) μ)) :
    ZW f_L_low 0 [vI x0, vI x1] [] μ Q := mvc_at zcd zml (C := zc68) rfl 11 0 h
theorem vc_L_tale_0 {μ : mzM} {Q : Option mzV → mzM → Prop} {o0 : Int} (h :
    ZW f_L_tale 4 [vR 0 o0, vL 3, none, vI 0, none] [] μ Q) :
    ZW f_L_tale 0 [vR 0 o0, none, none, none, none] [] μ Q := mvc_at zcd zml (C := zc69) rfl 91 0 h
theorem vc_L_tale_4 {μ : mzM} {Q : Option mzV → mzM → Prop} {o0 x1 x3 : Int} (h :
    (if x3 < 9 then
    ZI f_X7_count [vR 0 o0, vI x3] μ (fun r2 ν1 =>
      (zin (x3 + 1) ∧ ZW f_L_tale 4 [vR 0 o0, vL (zw6 ((zw6 (x1 * 31)) + r2)), none, vI (x3 + 1), none] [] ν1 Q))
    else
    ZW f_L_tale 20 [vR 0 o0, vL x1, none, vI 0, none] [] μ Q)) :
    ZW f_L_tale 4 [vR 0 o0, vL x1, none, vI x3, none] [] μ Q := mvc_at zcd zml (C := zc69) rfl 91 4 h
theorem vc_L_tale_20 {μ : mzM} {Q : Option mzV → mzM → Prop} {o0 x1 x3 : Int} (h :
    ZI f_X7_count [vR 0 o0, vI 0] μ (fun r2 ν1 =>
    ZI f_X7_count [vR 0 o0, vI 1] ν1 (fun r4 ν3 =>
    (zin (r2 * r4) ∧ (if x3 < (r2 * r4) then
    ZI f_X7_cell [vR 0 o0, vI x3] ν3 (fun r6 ν5 =>
      (zin (x3 + 1) ∧ ZW f_L_tale 20 [vR 0 o0, vL (zw6 ((zw6 (x1 * 37)) + r6)), none, vI (x3 + 1), none] [] ν5 Q))
    else
    ZW f_L_tale 42 [vR 0 o0, vL x1, none, vI 0, none] [] ν3 Q))))) :
    ZW f_L_tale 20 [vR 0 o0, vL x1, none, vI x3, none] [] μ Q := mvc_at zcd zml (C := zc69) rfl 91 20 h
theorem vc_L_tale_42 {μ : mzM} {Q : Option mzV → mzM → Prop} {o0 x1 x3 : Int} {v4 : mzV} (h :
    ZI f_X7_count [vR 0 o0, vI 2] μ (fun r2 ν1 =>
    (if x3 < r2 then
    ZW f_L_tale 49 [vR 0 o0, vL x1, none, vI x3, vI 0] [] ν1 Q
    else
    Q (some (vL x1)) ν1))) :
    ZW f_L_tale 42 [vR 0 o0, vL x1, none, vI x3, v4] [] μ Q := mvc_at zcd zml (C := zc69) rfl 91 42 h
theorem vc_L_tale_49 {μ : mzM} {Q : Option mzV → mzM → Prop} {o0 x1 x3 x4 : Int} (h :
    (if x4 < 9 then
    ZI f_X7_frame [vR 0 o0, vI x3, vI x4] μ (fun r2 ν1 =>
      (zin (x4 + 1) ∧ ZW f_L_tale 49 [vR 0 o0, vL (zw6 ((zw6 (x1 * 41)) + r2)), none, vI x3, vI (x4 + 1)] [] ν1 Q))
    else
    ZI f_X7_pixel [vR 0 o0, vI x3, vI 0] μ (fun r4 ν3 =>
      ZI f_X7_pixel [vR 0 o0, vI x3, vI 9] ν3 (fun r6 ν5 =>
      (zin (x3 + 1) ∧ ZW f_L_tale 42 [vR 0 o0, vL (zw6 ((zw6 ((zw6 (x1 * 43)) + r4)) + (zw6 (3 * r6)))), none, vI (x3 + 1), vI x4] [] ν5 Q))))) :
    ZW f_L_tale 49 [vR 0 o0, vL x1, none, vI x3, vI x4] [] μ Q := mvc_at zcd zml (C := zc69) rfl 91 49 h
theorem vc_L_does_0 {μ : mzM} {Q : Option mzV → mzM → Prop} {o0 x1 : Int} (h :
    (if (zand x1 15) = 0 then
    (if (zand (zshr x1 4) 7) = 0 then
      ZI f_L_low [vI (zshr x1 7), vI 3] μ (fun r2 ν1 =>
        (zin (4 * r2) ∧ ZI f_X7_setSize [vR 0 o0, vI (4 * r2), vI 8] ν1 (fun r4 ν3 =>
        Q (some (vI r4)) ν3)))
      else
      ZI f_X7_recode [vR 0 o0] μ (fun r6 ν5 =>
        Q (some (vI r6)) ν5))
    else
    (if (zand x1 15) = 1 then
    ZI f_L_low [vI (zshr x1 4), vI 6] μ (fun r8 ν7 =>
      ZI f_L_low [vI (zshr x1 7), vI 6] ν7 (fun r10 ν9 =>
      ZI f_L_low [vI (zshr x1 10), vI 5] ν9 (fun r12 ν11 =>
      ZI f_X7_setLimits [vR 0 o0, vI r8, vI r10, vI r12] ν11 (fun r14 ν13 =>
      Q (some (vI r14)) ν13))))
    else
    (if (zand x1 15) = 2 then
    ZI f_X7_removeLast [vR 0 o0] μ (fun r16 ν15 =>
      Q (some (vI r16)) ν15)
    else
    (if (zand x1 15) = 3 then
    ZI f_L_low [vI (zshr x1 4), vI 6] μ (fun r18 ν17 =>
      ZI f_X7_setLost [vR 0 o0, vI r18, vI (zand (zshr x1 7) 1)] ν17 (fun r20 ν19 =>
      Q (some (vI r20)) ν19))
    else
    (if (zand x1 15) = 4 then
    ZI f_L_low [vI (zshr x1 4), vI 6] μ (fun r22 ν21 =>
      ZI f_X7_setLost [vR 0 o0, vI r22, vI (zand (zshr x1 7) 1)] ν21 (fun r24 ν23 =>
      Q (some (vI r24)) ν23))
    else
    (if (zand x1 15) = 5 then
    ZI f_X7_addKey [vR 0 o0] μ (fun r26 ν25 =>
      Q (some (vI r26)) ν25)
    else
    (if (zand x1 15) = 6 then
    ZI f_L_low [vI (zshr x1 4), vI 6] μ (fun r28 ν27 =>
      ZI f_X7_addDelta [vR 0 o0, vI r28] ν27 (fun r30 ν29 =>
      Q (some (vI r30)) ν29))
    else
    (if (zand x1 15) = 7 then
    ZI f_L_low [vI (zshr x1 4), vI 6] μ (fun r32 ν31 =>
      ZI f_X7_addDelta [vR 0 o0, vI r32] ν31 (fun r34 ν33 =>
      Q (some (vI r34)) ν33))
    else
    (if (zand x1 15) = 8 then
    ZI f_X7_addChosen [vR 0 o0] μ (fun r36 ν35 =>
      Q (some (vI r36)) ν35)
    else
    (if (zand x1 15) = 9 then
    ZI f_X7_addChosen [vR 0 o0] μ (fun r38 ν37 =>
      Q (some (vI r38)) ν37)
    else
    ZI f_L_low [vI (zshr x1 4), vI 66] μ (fun r40 ν39 =>
      ZI f_L_low [vI (zshr x1 11), vI 17] ν39 (fun r42 ν41 =>
      ZI f_X7_setCell [vR 0 o0, vI r40, vI r42] ν41 (fun r44 ν43 =>
      Q (some (vI r44)) ν43)))))))))))))) :
    ZW f_L_does 0 [vR 0 o0, vI x1] [] μ Q := mvc_at zcd zml (C := zc70) rfl 90 0 h
theorem vc_L_law_4 {μ : mzM} {Q : Option mzV → mzM → Prop} {o0 o1 : Int} (h :
    ZW f_L_law 8 [vR 32 o0, vR 0 o1, vI 0, vI 0, none, none, none, none, none, none, none, none, none, none, none] [] μ Q) :
    ZW f_L_law 4 [vR 32 o0, vR 0 o1, none, none, none, none, none, none, none, none, none, none, none, none, none] [] μ Q := mvc_at zcd zml (C := zc71) rfl 253 4 h
theorem vc_L_law_8 {μ : mzM} {Q : Option mzV → mzM → Prop} {o0 o1 x2 x3 : Int} {v4 v5 v7 v8 v9 v10 v11 v12 v13 v14 : mzV} (h :
    (if x3 < 40 then
    ZI f_L_cell [vR 32 o0, vI x3] μ (fun r2 ν1 =>
      ZL f_L_tale [vR 0 o1] ν1 (fun r4 ν3 =>
      ZI f_X7_count [vR 0 o1, vI 2] ν3 (fun r6 ν5 =>
      ZI f_X7_costWith [vR 0 o1, vI (-1)] ν5 (fun r8 ν7 =>
      ZI f_L_does [vR 0 o1, vI r2] ν7 (fun r10 ν9 =>
      (if r10 < 0 then
      ZL f_L_tale [vR 0 o1] ν9 (fun r12 ν11 =>
        (if (zcmp r12 r4) = 0 then
        (if r10 < 0 then
          ZW f_L_law 56 [vR 32 o0, vR 0 o1, vI x2, vI x3, vI r2, vL r4, none, vI r6, vI r8, vI r10, vI 0, v11, v12, v13, v14] [vI 0] ν11 Q
          else
          (if (4 : Int) < (zand r2 15) then
            (if (zand r2 15) < 10 then
              ZW f_L_law 56 [vR 32 o0, vR 0 o1, vI x2, vI x3, vI r2, vL r4, none, vI r6, vI r8, vI r10, vI 1, v11, v12, v13, v14] [vI 1] ν11 Q
              else
              ZW f_L_law 56 [vR 32 o0, vR 0 o1, vI x2, vI x3, vI r2, vL r4, none, vI r6, vI r8, vI r10, vI 0, v11, v12, v13, v14] [vI 0] ν11 Q)
            else
            ZW f_L_law 56 [vR 32 o0, vR 0 o1, vI x2, vI x3, vI r2, vL r4, none, vI r6, vI r8, vI r10, vI 0, v11, v12, v13, v14] [vI 0] ν11 Q))
        else
        Q (some (vI 0)) ν11))
      else
      (if r10 < 0 then
        ZW f_L_law 56 [vR 32 o0, vR 0 o1, vI x2, vI x3, vI r2, vL r4, none, vI r6, vI r8, vI r10, vI 0, v11, v12, v13, v14] [vI 0] ν9 Q
        else
        (if (4 : Int) < (zand r2 15) then
          (if (zand r2 15) < 10 then
            ZW f_L_law 56 [vR 32 o0, vR 0 o1, vI x2, vI x3, vI r2, vL r4, none, vI r6, vI r8, vI r10, vI 1, v11, v12, v13, v14] [vI 1] ν9 Q
            else
            ZW f_L_law 56 [vR 32 o0, vR 0 o1, vI x2, vI x3, vI r2, vL r4, none, vI r6, vI r8, vI r10, vI 0, v11, v12, v13, v14] [vI 0] ν9 Q)
          else
          ZW f_L_law 56 [vR 32 o0, vR 0 o1, vI x2, vI x3, vI r2, vL r4, none, vI r6, vI r8, vI r10, vI 0, v11, v12, v13, v14] [vI 0] ν9 Q))))))))
    else
    ZI f_X7_count [vR 0 o1, vI 2] μ (fun r14 ν13 =>
      ZI f_X7_planCost [vR 0 o1] ν13 (fun r16 ν15 =>
      (if r14 = 0 then
      (if r16 = (-9) then
        (if r14 = 0 then
          Q (some (vI 1)) ν15
          else
          ZI f_X7_recode [vR 0 o1] ν15 (fun r18 ν17 =>
            (if r18 = r16 then
            ZI f_X7_planCost [vR 0 o1] ν17 (fun r20 ν19 =>
              (if r20 = r16 then
              ZI f_X7_count [vR 0 o1, vI 6] ν19 (fun r22 ν21 =>
                ZI f_X7_count [vR 0 o1, vI 5] ν21 (fun r24 ν23 =>
                ZI f_X7_greatestSeek [vR 0 o1] ν23 (fun r26 ν25 =>
                (zin (r24 * r26) ∧ (zin (r22 + (r24 * r26)) ∧ (if (r22 + (r24 * r26)) = r16 then
                Q (some (vI 1)) ν25
                else
                Q (some (vI 0)) ν25))))))
              else
              Q (some (vI 0)) ν19))
            else
            Q (some (vI 0)) ν17)))
        else
        Q (some (vI 0)) ν15)
      else
      (if r16 = (-9) then
        Q (some (vI 0)) ν15
        else
        (if r14 = 0 then
          Q (some (vI 1)) ν15
          else
          ZI f_X7_recode [vR 0 o1] ν15 (fun r28 ν27 =>
            (if r28 = r16 then
            ZI f_X7_planCost [vR 0 o1] ν27 (fun r30 ν29 =>
              (if r30 = r16 then
              ZI f_X7_count [vR 0 o1, vI 6] ν29 (fun r32 ν31 =>
                ZI f_X7_count [vR 0 o1, vI 5] ν31 (fun r34 ν33 =>
                ZI f_X7_greatestSeek [vR 0 o1] ν33 (fun r36 ν35 =>
                (zin (r34 * r36) ∧ (zin (r32 + (r34 * r36)) ∧ (if (r32 + (r34 * r36)) = r16 then
                Q (some (vI 1)) ν35
                else
                Q (some (vI 0)) ν35))))))
              else
              Q (some (vI 0)) ν29))
            else
            Q (some (vI 0)) ν27))))))))) :
    ZW f_L_law 8 [vR 32 o0, vR 0 o1, vI x2, vI x3, v4, v5, none, v7, v8, v9, v10, v11, v12, v13, v14] [] μ Q := mvc_at zcd zml (C := zc71) rfl 253 8 h
theorem vc_L_law_56 {μ : mzM} {Q : Option mzV → mzM → Prop} {o0 o1 x2 x3 x4 x5 x7 x8 x9 x10 y0 : Int} {v11 v12 v13 v14 : mzV} (h :
    (if y0 = 0 then
    (if x9 < 0 then
      ZW f_L_law 99 [vR 32 o0, vR 0 o1, vI x2, vI x3, vI x4, vL x5, none, vI x7, vI x8, vI x9, vI x10, v11, v12, v13, v14] [vI x9] μ Q
      else
      (if x2 < 6 then
        (zin (x2 + 1) ∧ ZW f_L_law 99 [vR 32 o0, vR 0 o1, vI (x2 + 1), vI x3, vI x4, vL x5, none, vI x7, vI x8, vI x9, vI x10, v11, v12, v13, v14] [vI x9] μ Q)
        else
        ZW f_L_law 99 [vR 32 o0, vR 0 o1, vI 6, vI x3, vI x4, vL x5, none, vI x7, vI x8, vI x9, vI x10, v11, v12, v13, v14] [vI x9] μ Q))
    else
    ZI f_X7_count [vR 0 o1, vI 2] μ (fun r2 ν1 =>
      (zin (x7 + 1) ∧ (if r2 = (x7 + 1) then
      ZI f_X7_frame [vR 0 o1, vI x7, vI 1] ν1 (fun r4 ν3 =>
        (if r4 = x9 then
        ZI f_X7_difference [vR 0 o1, vI x7, vI (-1)] ν3 (fun r6 ν5 =>
          (if r6 = 0 then
          (if (7 : Int) < (zand x4 15) then
            (if x8 < x9 then
              Q (some (vI 0)) ν5
              else
              (if x9 < 0 then
                ZW f_L_law 99 [vR 32 o0, vR 0 o1, vI x2, vI x3, vI x4, vL x5, none, vI x7, vI x8, vI x9, vI x10, v11, v12, v13, v14] [vI x9] ν5 Q
                else
                (if x2 < 6 then
                  (zin (x2 + 1) ∧ ZW f_L_law 99 [vR 32 o0, vR 0 o1, vI (x2 + 1), vI x3, vI x4, vL x5, none, vI x7, vI x8, vI x9, vI x10, v11, v12, v13, v14] [vI x9] ν5 Q)
                  else
                  ZW f_L_law 99 [vR 32 o0, vR 0 o1, vI 6, vI x3, vI x4, vL x5, none, vI x7, vI x8, vI x9, vI x10, v11, v12, v13, v14] [vI x9] ν5 Q)))
            else
            (if x9 < 0 then
              ZW f_L_law 99 [vR 32 o0, vR 0 o1, vI x2, vI x3, vI x4, vL x5, none, vI x7, vI x8, vI x9, vI x10, v11, v12, v13, v14] [vI x9] ν5 Q
              else
              (if x2 < 6 then
                (zin (x2 + 1) ∧ ZW f_L_law 99 [vR 32 o0, vR 0 o1, vI (x2 + 1), vI x3, vI x4, vL x5, none, vI x7, vI x8, vI x9, vI x10, v11, v12, v13, v14] [vI x9] ν5 Q)
                else
                ZW f_L_law 99 [vR 32 o0, vR 0 o1, vI 6, vI x3, vI x4, vL x5, none, vI x7, vI x8, vI x9, vI x10, v11, v12, v13, v14] [vI x9] ν5 Q)))
          else
          Q (some (vI 0)) ν5))
        else
        Q (some (vI 0)) ν3))
      else
      Q (some (vI 0)) ν1))))) :
    ZW f_L_law 56 [vR 32 o0, vR 0 o1, vI x2, vI x3, vI x4, vL x5, none, vI x7, vI x8, vI x9, vI x10, v11, v12, v13, v14] [vI y0] μ Q := mvc_at zcd zml (C := zc71) rfl 253 56 h
theorem vc_L_law_99 {μ : mzM} {Q : Option mzV → mzM → Prop} {o0 o1 x2 x3 x4 x5 x7 x8 x9 x10 y0 : Int} {v11 v12 v13 v14 : mzV} (h :
    (if y0 < 0 then
    ZI f_X7_count [vR 0 o1, vI 9] μ (fun r2 ν1 =>
      (if r2 = x2 then
      ZW f_L_law 131 [vR 32 o0, vR 0 o1, vI x2, vI x3, vI x4, vL x5, none, vI x7, vI x8, vI x9, vI x10, vI 0, vI 0, v13, v14] [] ν1 Q
      else
      Q (some (vI 0)) ν1))
    else
    (if (zand (zshr x4 26) 3) = 0 then
      ZI f_X7_undo [vR 0 o1] μ (fun r4 ν3 =>
        (zin (x2 - 1) ∧ (if r4 = (x2 - 1) then
        ZL f_L_tale [vR 0 o1] ν3 (fun r6 ν5 =>
          (if (zcmp r6 x5) = 0 then
          (zin (x2 + (-1)) ∧ ZI f_X7_count [vR 0 o1, vI 9] ν5 (fun r8 ν7 =>
            (if r8 = (x2 + (-1)) then
            ZW f_L_law 131 [vR 32 o0, vR 0 o1, vI (x2 + (-1)), vI x3, vI x4, vL x5, none, vI x7, vI x8, vI x9, vI x10, vI 0, vI 0, v13, v14] [] ν7 Q
            else
            Q (some (vI 0)) ν7)))
          else
          Q (some (vI 0)) ν5))
        else
        Q (some (vI 0)) ν3)))
      else
      ZI f_X7_count [vR 0 o1, vI 9] μ (fun r10 ν9 =>
        (if r10 = x2 then
        ZW f_L_law 131 [vR 32 o0, vR 0 o1, vI x2, vI x3, vI x4, vL x5, none, vI x7, vI x8, vI x9, vI x10, vI 0, vI 0, v13, v14] [] ν9 Q
        else
        Q (some (vI 0)) ν9))))) :
    ZW f_L_law 99 [vR 32 o0, vR 0 o1, vI x2, vI x3, vI x4, vL x5, none, vI x7, vI x8, vI x9, vI x10, v11, v12, v13, v14] [vI y0] μ Q := mvc_at zcd zml (C := zc71) rfl 253 99 h
theorem vc_L_law_131 {μ : mzM} {Q : Option mzV → mzM → Prop} {o0 o1 x2 x3 x4 x5 x7 x8 x9 x10 x11 x12 : Int} {v13 v14 : mzV} (h :
    ZI f_X7_count [vR 0 o1, vI 2] μ (fun r2 ν1 =>
    (if x12 < r2 then
    ZW f_L_law 140 [vR 32 o0, vR 0 o1, vI x2, vI x3, vI x4, vL x5, none, vI x7, vI x8, vI x9, vI x10, vI x11, vI x12, vI 0, vI 5] [] ν1 Q
    else
    ZI f_X7_count [vR 0 o1, vI 7] ν1 (fun r4 ν3 =>
      (if x11 = r4 then
      (zin (x3 + 1) ∧ ZW f_L_law 8 [vR 32 o0, vR 0 o1, vI x2, vI (x3 + 1), vI x4, vL x5, none, vI x7, vI x8, vI x9, vI x10, vI x11, vI x12, v13, v14] [] ν3 Q)
      else
      Q (some (vI 0)) ν3))))) :
    ZW f_L_law 131 [vR 32 o0, vR 0 o1, vI x2, vI x3, vI x4, vL x5, none, vI x7, vI x8, vI x9, vI x10, vI x11, vI x12, v13, v14] [] μ Q := mvc_at zcd zml (C := zc71) rfl 253 131 h
theorem vc_L_law_140 {μ : mzM} {Q : Option mzV → mzM → Prop} {o0 o1 x2 x3 x4 x5 x7 x8 x9 x10 x11 x12 x13 x14 : Int} (h :
    (if x14 < 9 then
    ZI f_X7_frame [vR 0 o1, vI x12, vI x14] μ (fun r2 ν1 =>
      (zin (x13 + r2) ∧ (zin (x14 + 1) ∧ ZW f_L_law 140 [vR 32 o0, vR 0 o1, vI x2, vI x3, vI x4, vL x5, none, vI x7, vI x8, vI x9, vI x10, vI x11, vI x12, vI (x13 + r2), vI (x14 + 1)] [] ν1 Q)))
    else
    ZI f_X7_frame [vR 0 o1, vI x12, vI 4] μ (fun r4 ν3 =>
      (zin (x11 + r4) ∧ ZI f_X7_count [vR 0 o1, vI 0] ν3 (fun r6 ν5 =>
      ZI f_X7_count [vR 0 o1, vI 1] ν5 (fun r8 ν7 =>
      (zin (r6 * r8) ∧ (((16 : Int) ≠ 0 ∧ zin (Int.tdiv (r6 * r8) 16)) ∧ (if x13 = (Int.tdiv (r6 * r8) 16) then
      ZI f_X7_frame [vR 0 o1, vI x12, vI 2] ν7 (fun r10 ν9 =>
        ZI f_X7_frame [vR 0 o1, vI x12, vI 1] ν9 (fun r12 ν11 =>
        (if r10 < r12 then
        Q (some (vI 0)) ν11
        else
        ZI f_X7_frame [vR 0 o1, vI x12, vI 0] ν11 (fun r14 ν13 =>
          (if r14 < x12 then
          ZI f_X7_dependents [vR 0 o1, vI x12] ν13 (fun r16 ν15 =>
            (if r16 < 1 then
            Q (some (vI 0)) ν15
            else
            (zin (x12 + 1) ∧ ZW f_L_law 131 [vR 32 o0, vR 0 o1, vI x2, vI x3, vI x4, vL x5, none, vI x7, vI x8, vI x9, vI x10, vI (x11 + r4), vI (x12 + 1), vI x13, vI x14] [] ν15 Q)))
          else
          Q (some (vI 0)) ν13)))))
      else
      Q (some (vI 0)) ν7))))))))) :
    ZW f_L_law 140 [vR 32 o0, vR 0 o1, vI x2, vI x3, vI x4, vL x5, none, vI x7, vI x8, vI x9, vI x10, vI x11, vI x12, vI x13, vI x14] [] μ Q := mvc_at zcd zml (C := zc71) rfl 253 140 h
end
section
/-! ===== the state as a row of numbers, and what is said of it ===== -/
abbrev isz (w : Int) : Prop := w = 4 ∨ w = 8 ∨ w = 12
def WD (s : Int → Int) : Prop := isz (s 0) ∧ isz (s 1)
/-- a cell of a frame's image, or (below 0) of the canvas -/
def sv (s : Int → Int) (f c : Int) : Int := if f < 0 then s (6 + c) else s (150 + 144 * f + c)
abbrev spl (s : Int → Int) (x y : Int) : Int := y * s 0 + x
def sblocks (s : Int → Int) : Int := s 0 / 4 * (s 1 / 4)
def sleft (s : Int → Int) (b : Int) : Int := 4 * (b % (s 0 / 4))
def stop (s : Int → Int) (b : Int) : Int := 4 * (b / (s 0 / 4))
/-- a row's fold over n places from k on -/
def ifold {α : Type} (g : α → Int → α) : α → Int → Nat → α
  | a, _, 0 => a
  | a, k, n + 1 => ifold g (g a k) (k + 1) n
theorem ifold_congr {α : Type} {g g' : α → Int → α} : ∀ (n : Nat) (a : α) (k : Int), (∀ a j, k ≤ j → j < k + n → g a j = g' a j) → ifold g a k n = ifold g' a k n
  | 0, _, _, _ => rfl
  | n + 1, a, k, h => by
    unfold ifold
    rw [h a k (Int.le_refl k) (by omega)]
    exact ifold_congr n _ _ (fun a j h1 h2 => h a j (by omega) (by omega))
theorem ifold_inv {α : Type} {g : α → Int → α} {I : α → Int → Prop} : ∀ (n : Nat) (a : α) (k : Int), (∀ a j, k ≤ j → j < k + n → I a j → I (g a j) (j + 1)) → I a k → I (ifold g a k n) (k + n)
  | 0, a, k, _, h => by unfold ifold; simpa using h
  | n + 1, a, k, hs, h => by
    unfold ifold
    have := ifold_inv n (g a k) (k + 1) (fun a j h1 h2 => hs a j (by omega) (by omega)) (hs a k (Int.le_refl k) (by omega) h)
    rw [show k + ((n + 1 : Nat) : Int) = k + 1 + n by omega]
    exact this
theorem ifold_last {α : Type} {g : α → Int → α} : ∀ (n : Nat) (a : α) (k : Int), ifold g a k (n + 1) = g (ifold g a k n) (k + n)
  | 0, a, k => by simp [ifold]
  | n + 1, a, k => by
    have h := ifold_last (g := g) n (g a k) (k + 1)
    rw [show k + ((n + 1 : Nat) : Int) = k + 1 + n by omega]
    exact h
theorem iter_down {C : Int → Prop} {lo hi : Int} (step : ∀ k, lo ≤ k → k < hi → C (k + 1) → C k) (done : C hi) {k : Int} (h1 : lo ≤ k) (h2 : k ≤ hi) : C k := by
  have key : ∀ n : Nat, ∀ k, lo ≤ k → k + n = hi → C k := by
    intro n
    induction n with
    | zero => intro k _ h; rw [show k = hi by omega]; exact done
    | succ n ih => intro k h1 h; exact step k h1 (by omega) (ih (k + 1) (by omega) (by omega))
  exact key (hi - k).toNat k h1 (by omega)
/-- a loop that folds -/
theorem ifold_loop {α : Type} {g : α → Int → α} {C : α → Int → Prop} {I : α → Int → Prop} {lo hi : Int} (hI : ∀ a k, lo ≤ k → k < hi → I a k → I (g a k) (k + 1)) (step : ∀ a k, lo ≤ k → k < hi → I a k → C (g a k) (k + 1) → C a k) : ∀ (n : Nat) (a : α) (k : Int), lo ≤ k → k + n = hi → I a k → (I (ifold g a k n) hi → C (ifold g a k n) hi) → C a k
  | 0, a, k, _, h2, h3, h4 => by
    have e : k = hi := by omega
    subst e
    exact h4 h3
  | n + 1, a, k, h1, h2, h3, h4 => step a k h1 (by omega) h3 (ifold_loop hI step n (g a k) (k + 1) (by omega) (by omega) (hI a k h1 (by omega) h3) h4)
/-- sums and counts -/
def isum (g : Int → Int) (k : Int) (n : Nat) : Int := ifold (fun a j => a + g j) 0 k n
theorem ifold_add {g : Int → Int} : ∀ (n : Nat) (a k : Int), ifold (fun a j => a + g j) a k n = a + isum g k n
  | 0, a, k => by simp [isum, ifold]
  | n + 1, a, k => by
    unfold isum ifold
    rw [ifold_add n (a + g k) (k + 1), ifold_add n (0 + g k) (k + 1)]
    omega
theorem isum_zero (g : Int → Int) (k : Int) : isum g k 0 = 0 := rfl
theorem isum_succ (g : Int → Int) (k : Int) (n : Nat) : isum g k (n + 1) = g k + isum g (k + 1) n := by
  show ifold _ (0 + g k) (k + 1) n = _
  rw [ifold_add]
  omega
theorem isum_last (g : Int → Int) (k : Int) (n : Nat) : isum g k (n + 1) = isum g k n + g (k + n) := ifold_last n 0 k
theorem isum_congr {g g' : Int → Int} (n : Nat) (k : Int) (h : ∀ j, k ≤ j → j < k + n → g j = g' j) : isum g k n = isum g' k n := ifold_congr n 0 k (fun a j h1 h2 => by rw [h j h1 h2])
theorem isum_bound {g : Int → Int} {lo hi : Int} : ∀ (n : Nat) (k : Int), (∀ j, k ≤ j → j < k + n → lo ≤ g j ∧ g j ≤ hi) → lo * n ≤ isum g k n ∧ isum g k n ≤ hi * n
  | 0, k, _ => by simp [isum_zero]
  | n + 1, k, h => by
    have h1 := isum_bound n (k + 1) (fun j a b => h j (by omega) (by omega))
    have h2 := h k (Int.le_refl k) (by omega)
    rw [isum_succ]
    have e1 : lo * ((n + 1 : Nat) : Int) = lo * n + lo := by rw [Int.natCast_succ, Int.mul_add, Int.mul_one]
    have e2 : hi * ((n + 1 : Nat) : Int) = hi * n + hi := by rw [Int.natCast_succ, Int.mul_add, Int.mul_one]
    omega
/-! ===== answers ===== -/
theorem zlf {K : Int → mzM → Prop} {v w : Int} {μ : mzM} (h : K v μ) (e : w = v) : ∃ a, some (vI w) = some (vI a) ∧ K a μ := ⟨w, rfl, e ▸ h⟩
theorem zlr {t : Nat} {K : Int → mzM → Prop} {v w : Int} {μ : mzM} (h : K v μ) (e : w = v) : ∃ a, some (vR t w) = some (vR t a) ∧ K a μ := ⟨w, rfl, e ▸ h⟩
theorem zI_mono {f : Nat} {as : List mzV} {μ : mzM} {K K' : Int → mzM → Prop} (h : ZI f as μ K) (hk : ∀ v ν, K v ν → K' v ν) : ZI f as μ K' := mW_mono zcd zml h (fun r ν q => by obtain ⟨a, e, q⟩ := q; exact ⟨a, e, hk _ _ q⟩)
theorem zV_mono {f : Nat} {as : List mzV} {μ : mzM} {K K' : mzM → Prop} (h : ZV f as μ K) (hk : ∀ ν, K ν → K' ν) : ZV f as μ K' := mW_mono zcd zml h (fun r ν q => ⟨q.1, hk _ q.2⟩)
theorem ztd {a : Int} (b : Int) (h : 0 ≤ a) : a.tdiv b = a / b := Int.tdiv_eq_ediv_of_nonneg h
theorem ztm {a : Int} (b : Int) (h : 0 ≤ a) : a.tmod b = a % b := Int.tmod_eq_emod_of_nonneg h
theorem zin_sm {a : Int} (h : -1000000 ≤ a ∧ a ≤ 1000000) : zin a := ⟨by omega, by omega⟩
/-! ===== the JDK's methods ===== -/
theorem s_max {μ : mzM} {K : Int → mzM → Prop} {x y : Int} (h : K (if x < y then y else x) μ) : ZI f_J9_max_7cf53 [vI x, vI y] μ K := by
  refine vc_J9_max_7cf53_0 ?_
  split
  · next q => rw [if_pos q] at h; exact zlf h rfl
  · next q => rw [if_neg q] at h; exact zlf h rfl
theorem s_min {μ : mzM} {K : Int → mzM → Prop} {x y : Int} (h : K (if y < x then y else x) μ) : ZI f_J9_min_7cf53 [vI x, vI y] μ K := by
  refine vc_J9_min_7cf53_0 ?_
  split
  · next q => rw [if_pos q] at h; exact zlf h rfl
  · next q => rw [if_neg q] at h; exact zlf h rfl
theorem s_abs {μ : mzM} {K : Int → mzM → Prop} {x : Int} (hx : -1000000 ≤ x ∧ x ≤ 1000000) (h : K (if x < 0 then -x else x) μ) : ZI f_J9_abs_0f7a4 [vI x] μ K := by
  refine vc_J9_abs_0f7a4_0 ?_
  split
  · next q => rw [if_pos q] at h; exact zlf h (by unfold zw; omega)
  · next q => rw [if_neg q] at h; exact zlf h rfl
end
section
/-! ===== images of the class ===== -/
/-- an image of the class shows frame f of s -/
def IM (μ : mzM) (o : Int) (s : Int → Int) (f : Int) : Prop := μ 3 o 1 = s 0 ∧ μ 3 o 2 = s 1 ∧ ∀ c, 0 ≤ c → c < s 0 * s 1 → μ 4 o c = sv s f c
theorem WD_mul {s : Int → Int} (h : WD s) : s 0 * s 1 ≤ 144 ∧ 16 ≤ s 0 * s 1 := by
  obtain ⟨h1, h2⟩ := h
  rcases h1 with h1 | h1 | h1 <;> rcases h2 with h2 | h2 | h2 <;> rw [h1, h2] <;> decide
theorem WD_w {s : Int → Int} (h : WD s) : (4 ≤ s 0 ∧ s 0 ≤ 12) ∧ (4 ≤ s 1 ∧ s 1 ≤ 12) := by
  obtain ⟨h1, h2⟩ := h
  rcases h1 with h1 | h1 | h1 <;> rcases h2 with h2 | h2 | h2 <;> rw [h1, h2] <;> decide
theorem WD_pl {s : Int → Int} (h : WD s) {x y : Int} (x0 : 0 ≤ x) (x1 : x < s 0) (y0 : 0 ≤ y) (y1 : y < s 1) : 0 ≤ spl s x y ∧ spl s x y < s 0 * s 1 ∧ spl s x y < 144 := by
  obtain ⟨h1, h2⟩ := h
  unfold spl
  rcases h1 with h1 | h1 | h1 <;> rcases h2 with h2 | h2 | h2 <;> rw [h1, h2] <;> rw [h1] at x1 <;> rw [h2] at y1 <;> omega
theorem WD_blocks {s : Int → Int} (h : WD s) : 1 ≤ sblocks s ∧ sblocks s ≤ 9 := by
  obtain ⟨h1, h2⟩ := h
  unfold sblocks
  rcases h1 with h1 | h1 | h1 <;> rcases h2 with h2 | h2 | h2 <;> rw [h1, h2] <;> decide
/-- a block lies in the image -/
theorem WD_blk {s : Int → Int} (h : WD s) {b : Int} (b0 : 0 ≤ b) (b1 : b < sblocks s) : (0 ≤ sleft s b ∧ sleft s b ≤ s 0 - 4) ∧ (0 ≤ stop s b ∧ stop s b ≤ s 1 - 4) := by
  obtain ⟨h1, h2⟩ := h
  unfold sblocks at b1
  unfold sleft stop
  rcases h1 with h1 | h1 | h1 <;> rcases h2 with h2 | h2 | h2 <;> rw [h1, h2] <;> rw [h1, h2] at b1 <;> omega
theorem s_X2_numbered {μ : mzM} {K : Int → mzM → Prop} {o x : Int} (h : K (if 0 ≤ x ∧ x < 144 then μ 4 o x else 0) μ) : ZI f_X2_numbered [vR 3 o, vI x] μ K := by
  refine vc_X2_numbered_0 ?_
  split
  · next q => rw [if_neg (by omega)] at h; exact zlf h rfl
  · split
    · next q => rw [if_pos (by omega)] at h; exact ⟨by omega, zlf h rfl⟩
    · next q => rw [if_neg (by omega)] at h; exact zlf h rfl
theorem s_num {μ : mzM} {K : Int → mzM → Prop} {o x : Int} (h0 : 0 ≤ x) (h1 : x < 144) (h : K (μ 4 o x) μ) : ZI f_X2_numbered [vR 3 o, vI x] μ K := s_X2_numbered (by rw [if_pos ⟨h0, h1⟩]; exact h)
theorem s_X2_putNumbered {μ : mzM} {K : mzM → Prop} {o x v : Int} (h : K (if 0 ≤ x ∧ x < 144 then mup μ 4 o x v else μ)) : ZV f_X2_putNumbered [vR 3 o, vI x, vI v] μ K := by
  refine vc_X2_putNumbered_0 ?_
  split
  · next q => rw [if_neg (by omega)] at h; exact ⟨rfl, h⟩
  · split
    · next q => rw [if_pos (by omega)] at h; exact ⟨by omega, rfl, h⟩
    · next q => rw [if_neg (by omega)] at h; exact ⟨rfl, h⟩
section Img
variable {μ : mzM} {s : Int → Int} {o f : Int} {K : Int → mzM → Prop}
theorem s_X2_hasCell (hD : WD s) (hI : IM μ o s f) {x : Int} (h : K (if 0 ≤ x ∧ x < s 0 * s 1 then 1 else 0) μ) : ZI f_X2_hasCell [vR 3 o, vI x] μ K := by
  refine vc_X2_hasCell_0 ?_
  rw [hI.1, hI.2.1]
  have hm := WD_mul hD
  split
  · next q => rw [if_neg (by omega)] at h; exact zlf h rfl
  · refine ⟨zin_sm (by omega), ?_⟩
    split
    · next q => rw [if_pos (by omega)] at h; exact zlf h rfl
    · next q => rw [if_neg (by omega)] at h; exact zlf h rfl
theorem s_X2_at (hD : WD s) (hI : IM μ o s f) {x y : Int} (h : K (if (0 ≤ x ∧ x < s 0) ∧ (0 ≤ y ∧ y < s 1) then sv s f (spl s x y) else 0) μ) : ZI f_X2_at [vR 3 o, vI x, vI y] μ K := by
  refine vc_X2_at_0 ?_
  rw [hI.1, hI.2.1]
  split
  · rw [if_neg (by omega)] at h; exact zlf h rfl
  split
  · split
    · rw [if_neg (by omega)] at h; exact zlf h rfl
    split
    · next q1 q2 q3 q4 =>
      rw [if_pos (by omega)] at h
      obtain ⟨p1, p2, p3⟩ := WD_pl hD (x := x) (y := y) (by omega) q2 (by omega) q4
      have hw := WD_w hD
      have p4 : zin (y * s 0) := zin_sm (by unfold spl at p1 p3; omega)
      refine ⟨p4, zin_sm (by unfold spl at p1 p3; omega), ?_⟩
      rw [if_pos (by unfold spl at p3; omega)]
      exact ⟨⟨p1, p3⟩, zlf h (hI.2.2 _ p1 p2)⟩
    · rw [if_neg (by omega)] at h; exact zlf h rfl
  · rw [if_neg (by omega)] at h; exact zlf h rfl
theorem s_X2_blocks (hD : WD s) (hI : IM μ o s f) (h : K (sblocks s) μ) : ZI f_X2_blocks [vR 3 o] μ K := by
  refine vc_X2_blocks_0 ?_
  have hb := WD_blocks hD
  have hw := WD_w hD
  rw [hI.1, hI.2.1, ztd 4 (show 0 ≤ s 0 by omega), ztd 4 (show 0 ≤ s 1 by omega)]
  unfold sblocks at h hb
  exact ⟨⟨by omega, zin_sm (by omega)⟩, ⟨by omega, zin_sm (by omega)⟩, zin_sm (by omega), zlf h rfl⟩
theorem s_X2_left (hD : WD s) (hI : IM μ o s f) {b : Int} (b0 : 0 ≤ b) (h : K (sleft s b) μ) : ZI f_X2_left [vR 3 o, vI b] μ K := by
  refine vc_X2_left_0 ?_
  have hw := WD_w hD
  rw [hI.1, ztd 4 (show 0 ≤ s 0 by omega)]
  refine ⟨⟨by omega, zin_sm (by omega)⟩, s_max ?_⟩
  have e : (if (1 : Int) < s 0 / 4 then s 0 / 4 else 1) = s 0 / 4 := by split <;> omega
  rw [e, ztm _ b0]
  have h1 : 0 ≤ b % (s 0 / 4) := Int.emod_nonneg _ (by omega)
  have h2 : b % (s 0 / 4) < s 0 / 4 := Int.emod_lt_of_pos _ (by omega)
  exact ⟨by omega, zin_sm (by omega), zlf h rfl⟩
theorem s_X2_top (hD : WD s) (hI : IM μ o s f) {b : Int} (b0 : 0 ≤ b) (b1 : b < 1000) (h : K (stop s b) μ) : ZI f_X2_top [vR 3 o, vI b] μ K := by
  refine vc_X2_top_0 ?_
  have hw := WD_w hD
  rw [hI.1, ztd 4 (show 0 ≤ s 0 by omega)]
  refine ⟨⟨by omega, zin_sm (by omega)⟩, s_max ?_⟩
  have e : (if (1 : Int) < s 0 / 4 then s 0 / 4 else 1) = s 0 / 4 := by split <;> omega
  rw [e, ztd _ b0]
  have h1 : 0 ≤ b / (s 0 / 4) := Int.ediv_nonneg b0 (by omega)
  have h2 : b / (s 0 / 4) ≤ b := Int.ediv_le_self _ b0
  exact ⟨⟨by omega, zin_sm (by omega)⟩, zin_sm (by omega), zlf h rfl⟩
theorem s_X2_hasPart (hD : WD s) (hI : IM μ o s f) {x y : Int} (h : K (if (0 ≤ x ∧ x ≤ s 0 - 4) ∧ (0 ≤ y ∧ y ≤ s 1 - 4) then 1 else 0) μ) : ZI f_X2_hasPart [vR 3 o, vI x, vI y] μ K := by
  refine vc_X2_hasPart_0 ?_
  have hw := WD_w hD
  rw [hI.1, hI.2.1]
  split
  · rw [if_neg (by omega)] at h; exact zlf h rfl
  refine ⟨zin_sm (by omega), ?_⟩
  split
  · rw [if_neg (by omega)] at h; exact zlf h rfl
  split
  · rw [if_neg (by omega)] at h; exact zlf h rfl
  refine ⟨zin_sm (by omega), ?_⟩
  split
  · rw [if_neg (by omega)] at h; exact zlf h rfl
  · rw [if_pos (by omega)] at h; exact zlf h rfl
/-- the digest of a part -/
def sdig (s : Int → Int) (f x y : Int) : Int := ifold (fun d k => (d * 31 + sv s f (spl s (x + k % 4) (y + k / 4))) % 9973) 7 0 16
/-- the values of the cells are small -/
def SV (s : Int → Int) (f : Int) : Prop := ∀ c, 0 ≤ c → c < s 0 * s 1 → 0 ≤ sv s f c ∧ sv s f c ≤ 15
theorem part_pl (hD : WD s) {x y k : Int} (hx : 0 ≤ x ∧ x ≤ s 0 - 4) (hy : 0 ≤ y ∧ y ≤ s 1 - 4) (k0 : 0 ≤ k) (k1 : k < 16) : ((0 ≤ x + k % 4 ∧ x + k % 4 < s 0) ∧ (0 ≤ y + k / 4 ∧ y + k / 4 < s 1)) ∧ 0 ≤ spl s (x + k % 4) (y + k / 4) ∧ spl s (x + k % 4) (y + k / 4) < s 0 * s 1 ∧ spl s (x + k % 4) (y + k / 4) < 144 :=
  ⟨⟨⟨by omega, by omega⟩, by omega, by omega⟩, WD_pl hD (by omega) (by omega) (by omega) (by omega)⟩
/-- two parts are alike -/
def slike (s : Int → Int) (f x y g a b : Int) : Prop := ∀ k, 0 ≤ k → k < 16 → sv s f (spl s (x + k % 4) (y + k / 4)) = sv s g (spl s (a + k % 4) (b + k / 4))
theorem s_X2_samePart {o' g : Int} (hD : WD s) (hI : IM μ o s f) (hJ : IM μ o' s g) {x y a b : Int} (hx : 0 ≤ x ∧ x ≤ s 0 - 4) (hy : 0 ≤ y ∧ y ≤ s 1 - 4) (ha : 0 ≤ a ∧ a ≤ s 0 - 4) (hb : 0 ≤ b ∧ b ≤ s 1 - 4) (h1 : slike s f x y g a b → K 1 μ) (h0 : ¬ slike s f x y g a b → K 0 μ) : ZI f_X2_samePart [vR 3 o, vI x, vI y, vR 3 o', vI a, vI b] μ K := by
  refine vc_X2_samePart_0 ?_
  have hw := WD_w hD
  have key : ∀ k, 0 ≤ k → k ≤ 16 → ∀ v7 v8 : mzV, (∀ j, 0 ≤ j → j < k → sv s f (spl s (x + j % 4) (y + j / 4)) = sv s g (spl s (a + j % 4) (b + j / 4))) → ZW f_X2_samePart 2 [vR 3 o, vI x, vI y, vR 3 o', vI a, vI b, vI k, v7, v8] [] μ (fun r ν => ∃ a, r = some (vI a) ∧ K a ν) := by
    intro k k0 k1
    refine iter_down (C := fun k => ∀ v7 v8 : mzV, (∀ j, 0 ≤ j → j < k → sv s f (spl s (x + j % 4) (y + j / 4)) = sv s g (spl s (a + j % 4) (b + j / 4))) → ZW f_X2_samePart 2 [vR 3 o, vI x, vI y, vR 3 o', vI a, vI b, vI k, v7, v8] [] μ (fun r ν => ∃ a, r = some (vI a) ∧ K a ν)) (lo := 0) (hi := 16) ?_ ?_ k0 k1
    · intro k k0 k1 ih v7 v8 hj
      refine vc_X2_samePart_2 ?_
      rw [if_pos k1, ztm 4 k0, ztd 4 k0, hI.1, hJ.1]
      obtain ⟨p1, p2, p3, p4⟩ := part_pl hD hx hy k0 k1
      obtain ⟨q1, q2, q3, q4⟩ := part_pl hD ha hb k0 k1
      have e1 : (y + k / 4) * s 0 + x + k % 4 = spl s (x + k % 4) (y + k / 4) := by unfold spl; omega
      have e2 : (b + k / 4) * s 0 + a + k % 4 = spl s (a + k % 4) (b + k / 4) := by unfold spl; omega
      have e3 : (y + k / 4) * s 0 + x = spl s (x + k % 4) (y + k / 4) - k % 4 := by unfold spl; omega
      have e4 : (b + k / 4) * s 0 + a = spl s (a + k % 4) (b + k / 4) - k % 4 := by unfold spl; omega
      have e5 : (y + k / 4) * s 0 = spl s (x + k % 4) (y + k / 4) - k % 4 - x := by unfold spl; omega
      have e6 : (b + k / 4) * s 0 = spl s (a + k % 4) (b + k / 4) - k % 4 - a := by unfold spl; omega
      rw [e1, e2, hI.2.2 _ p2 p3, hJ.2.2 _ q2 q3]
      refine ⟨⟨by omega, zin_sm (by omega)⟩, zin_sm (by omega), zin_sm (by omega), zin_sm (by omega), by omega, zin_sm (by omega), ⟨by omega, zin_sm (by omega)⟩, zin_sm (by omega), zin_sm (by omega), zin_sm (by omega), by omega, zin_sm (by omega), ?_⟩
      rw [if_neg (by omega), if_pos p4, if_neg (by omega), if_pos q4]
      refine ⟨⟨p2, p4⟩, ⟨q2, q4⟩, ?_⟩
      split
      · next he =>
        refine ⟨zin_sm (by omega), ih _ _ (fun j j0 j1 => ?_)⟩
        by_cases hjk : j = k
        · rw [hjk]; exact he
        · exact hj j j0 (by omega)
      · next he => exact zlf (h0 (fun hl => he (hl k k0 k1))) rfl
    · intro v7 v8 hj
      refine vc_X2_samePart_2 ?_
      rw [if_neg (by omega)]
      exact zlf (h1 (fun j j0 j1 => hj j j0 j1)) rfl
  exact key 0 (by omega) (by omega) _ _ (fun j j0 j1 => by omega)
/-- in how many cells two images differ -/
def sdiff (s : Int → Int) (f g : Int) : Int := isum (fun c => if sv s f c = sv s g c then 0 else 1) 0 (s 0 * s 1).toNat
theorem s_X2_cellsUnlike {o' g : Int} (hD : WD s) (hI : IM μ o s f) (hJ : IM μ o' s g) (h : K (sdiff s f g) μ) : ZI f_X2_cellsUnlike [vR 3 o, vR 3 o'] μ K := by
  refine vc_X2_cellsUnlike_0 ?_
  have hm := WD_mul hD
  refine ifold_loop (g := fun d c => d + if sv s f c = sv s g c then 0 else 1) (C := fun d k => ZW f_X2_cellsUnlike 4 [vR 3 o, vR 3 o', vI d, vI k] [] μ (fun r ν => ∃ a, r = some (vI a) ∧ K a ν)) (I := fun d k => 0 ≤ d ∧ d ≤ k) (lo := 0) (hi := s 0 * s 1) ?_ ?_ (s 0 * s 1).toNat 0 0 (by omega) (by omega) (by omega) ?_
  · intro d k k0 k1 hd
    split <;> omega
  · intro d k k0 k1 hd hC
    refine vc_X2_cellsUnlike_4 ?_
    rw [hI.1, hI.2.1, if_pos k1]
    refine ⟨zin_sm (by omega), s_num k0 (by omega) (s_num k0 (by omega) ?_)⟩
    rw [hI.2.2 k k0 k1, hJ.2.2 k k0 k1]
    split
    · next he =>
      rw [if_pos he, Int.add_zero] at hC
      exact ⟨zin_sm (by omega), hC⟩
    · next he =>
      rw [if_neg he] at hC
      exact ⟨zin_sm (by omega), zin_sm (by omega), hC⟩
  · intro _
    refine vc_X2_cellsUnlike_4 ?_
    rw [hI.1, hI.2.1, if_neg (by omega)]
    exact ⟨zin_sm (by omega), zlf h rfl⟩
end Img
end
section
/-! ===== what stays, and runs ===== -/
def fr (P : Nat → Int → Int → Prop) (μ ν : mzM) : Prop := ∀ t i k, ¬ P t i k → ν t i k = μ t i k
theorem fr_rf {P : Nat → Int → Int → Prop} {μ : mzM} : fr P μ μ := fun _ _ _ _ => rfl
theorem fr_tr {P : Nat → Int → Int → Prop} {μ ν ξ : mzM} (h1 : fr P μ ν) (h2 : fr P ν ξ) : fr P μ ξ := fun t i k h => (h2 t i k h).trans (h1 t i k h)
theorem fr_mono {P P' : Nat → Int → Int → Prop} {μ ν : mzM} (h : fr P μ ν) (hp : ∀ t i k, P t i k → P' t i k) : fr P' μ ν := fun t i k q => h t i k (fun z => q (hp t i k z))
theorem fr_up {P : Nat → Int → Int → Prop} {μ ν : mzM} {t : Nat} {i k v : Int} (h : fr P μ ν) (hp : P t i k) : fr P μ (mup ν t i k v) := fun t' i' k' q => by
  rw [mup_ne (fun z => q (by rw [z.1, z.2.1, z.2.2]; exact hp))]
  exact h t' i' k' q
theorem mup_t {μ : mzM} {t t' : Nat} {i k v i' k' : Int} (h : t' ≠ t) : mup μ t i k v t' i' k' = μ t' i' k' := mup_ne (fun z => h z.1)
theorem mup_i {μ : mzM} {t t' : Nat} {i k v i' k' : Int} (h : i' ≠ i) : mup μ t i k v t' i' k' = μ t' i' k' := mup_ne (fun z => h z.2.1)
theorem mup_k {μ : mzM} {t t' : Nat} {i k v i' k' : Int} (h : k' ≠ k) : mup μ t i k v t' i' k' = μ t' i' k' := mup_ne (fun z => h z.2.2)
/-- an image that isn't touched -/
theorem IM_fr {P : Nat → Int → Int → Prop} {μ ν : mzM} {o f : Int} {s : Int → Int} (hI : IM μ o s f) (h : fr P μ ν) (h3 : ∀ k, ¬ P 3 o k) (h4 : ∀ k, ¬ P 4 o k) : IM ν o s f :=
  ⟨(h 3 o 1 (h3 1)).trans hI.1, (h 3 o 2 (h3 2)).trans hI.2.1, fun c c0 c1 => (h 4 o c (h4 c)).trans (hI.2.2 c c0 c1)⟩
/-- the number of a place's run, how many places it has among the first n, its value -/
def num (g : Int → Int) : Nat → Int
  | 0 => 0
  | n + 1 => num g n + (if g ((n : Int) + 1) = g n then 0 else 1)
def many (g : Int → Int) (r : Int) : Nat → Int
  | 0 => 0
  | n + 1 => many g r n + (if num g n = r then 1 else 0)
def rval (g : Int → Int) (r : Int) : Nat → Int
  | 0 => 0
  | n + 1 => if num g n = r then g n else rval g r n
theorem num_s (g : Int → Int) (n : Nat) : num g (n + 1) = num g n + (if g ((n : Int) + 1) = g n then 0 else 1) := rfl
theorem num_le (g : Int → Int) : ∀ n : Nat, 0 ≤ num g n ∧ num g n ≤ n
  | 0 => by simp [num]
  | n + 1 => by
    have h := num_le g n
    unfold num
    split <;> omega
theorem num_mono (g : Int → Int) : ∀ (d n : Nat), num g n ≤ num g (n + d)
  | 0, n => Int.le_refl _
  | d + 1, n => by
    have h := num_mono g d n
    show num g n ≤ num g (n + d) + _
    split <;> omega
theorem many_0 (g : Int → Int) (r : Int) : ∀ n : Nat, (∀ j : Nat, j < n → num g j < r) → many g r n = 0
  | 0, _ => rfl
  | n + 1, h => by
    unfold many
    rw [many_0 g r n (fun j hj => h j (by omega)), if_neg (by have := h n (by omega); omega)]
    rfl
theorem many_le (g : Int → Int) (r : Int) : ∀ n : Nat, 0 ≤ many g r n ∧ many g r n ≤ n
  | 0 => by simp [many]
  | n + 1 => by
    have h := many_le g r n
    unfold many
    split <;> omega
theorem num_congr {g g' : Int → Int} : ∀ n : Nat, (∀ k : Int, 0 ≤ k → k ≤ (n : Int) → g k = g' k) → num g n = num g' n
  | 0, _ => rfl
  | n + 1, h => by
    unfold num
    rw [num_congr n (fun k k0 k1 => h k k0 (by omega)), h ((n : Int) + 1) (by omega) (by omega), h n (by omega) (by omega)]
theorem many_congr {g g' : Int → Int} (r : Int) : ∀ n : Nat, (∀ k : Int, 0 ≤ k → k < (n : Int) → g k = g' k) → many g r n = many g' r n
  | 0, _ => rfl
  | n + 1, h => by
    unfold many
    rw [many_congr r n (fun k k0 k1 => h k k0 (by omega)), num_congr n (fun k k0 k1 => h k k0 (by omega))]
theorem rval_congr {g g' : Int → Int} (r : Int) : ∀ n : Nat, (∀ k : Int, 0 ≤ k → k < (n : Int) → g k = g' k) → rval g r n = rval g' r n
  | 0, _ => rfl
  | n + 1, h => by
    unfold rval
    rw [rval_congr r n (fun k k0 k1 => h k k0 (by omega)), num_congr n (fun k k0 k1 => h k k0 (by omega)), h n (by omega) (by omega)]
/-- a run list of the class after n places of g -/
def RLn (μ : mzM) (o : Int) (g : Int → Int) (n : Nat) : Prop := μ 12 o 2 = (match n with | 0 => 0 | m + 1 => num g m + 1) ∧ ∀ r, 0 ≤ r → r < μ 12 o 2 → μ 13 o r = many g r n ∧ μ 14 o r = rval g r n
abbrev Prl (o : Int) : Nat → Int → Int → Prop := fun t i _ => (t = 12 ∨ t = 13 ∨ t = 14) ∧ i = o
theorem s_X4_addCell {μ : mzM} {o v : Int} {K : mzM → Prop} (h1 : 0 ≤ μ 12 o 2) (h2 : μ 12 o 2 ≤ 15) (h3 : 0 < μ 12 o 2 → 0 ≤ μ 13 o (μ 12 o 2 - 1) ∧ μ 13 o (μ 12 o 2 - 1) ≤ 100)
    (hs : 0 < μ 12 o 2 → μ 14 o (μ 12 o 2 - 1) = v → K (mup μ 13 o (μ 12 o 2 - 1) (μ 13 o (μ 12 o 2 - 1) + 1)))
    (hn : ¬ (0 < μ 12 o 2 ∧ μ 14 o (μ 12 o 2 - 1) = v) → K (mup (mup (mup μ 13 o (μ 12 o 2) 1) 14 o (μ 12 o 2) v) 12 o 2 (μ 12 o 2 + 1))) : ZV f_X4_addCell [vR 12 o, vI v] μ K := by
  refine vc_X4_addCell_0 ?_
  refine ⟨zin_sm (by omega), ?_⟩
  have e1 : (mup μ 13 o (μ 12 o 2) 1) 12 o 2 = μ 12 o 2 := mup_t (by decide)
  have e2 : (mup (mup μ 13 o (μ 12 o 2) 1) 14 o (μ 12 o 2) v) 12 o 2 = μ 12 o 2 := by rw [mup_t (by decide), mup_t (by decide)]
  have hnew : (¬ (0 < μ 12 o 2 ∧ μ 14 o (μ 12 o 2 - 1) = v)) → ((0 ≤ (μ 12 o 2) ∧ (μ 12 o 2) < 16) ∧ ((0 ≤ ((mup μ 13 o (μ 12 o 2) 1) 12 o 2) ∧ ((mup μ 13 o (μ 12 o 2) 1) 12 o 2) < 16) ∧ (zin (((mup (mup μ 13 o (μ 12 o 2) 1) 14 o ((mup μ 13 o (μ 12 o 2) 1) 12 o 2) v) 12 o 2) + 1) ∧ (none : Option mzV) = none ∧ K (mup (mup (mup μ 13 o (μ 12 o 2) 1) 14 o ((mup μ 13 o (μ 12 o 2) 1) 12 o 2) v) 12 o 2 (((mup (mup μ 13 o (μ 12 o 2) 1) 14 o ((mup μ 13 o (μ 12 o 2) 1) 12 o 2) v) 12 o 2) + 1))))) := by
    intro q
    rw [e1, e2]
    exact ⟨⟨h1, by omega⟩, ⟨h1, by omega⟩, zin_sm (by omega), rfl, hn q⟩
  split
  · rw [if_neg (by omega), if_pos (by omega), if_pos (by omega)]
    exact hnew (by omega)
  · next q =>
    rw [if_pos (by omega)]
    refine ⟨⟨by omega, by omega⟩, ?_⟩
    split
    · next q2 =>
      rw [if_pos (by omega)]
      have := h3 (by omega)
      exact ⟨⟨by omega, by omega⟩, zin_sm (by omega), ⟨by omega, by omega⟩, rfl, hs (by omega) q2⟩
    · next q2 =>
      rw [if_neg (by omega), if_pos (by omega), if_pos (by omega)]
      exact hnew (fun z => q2 z.2)
theorem rval_last (g : Int → Int) (n : Nat) : rval g (num g n) (n + 1) = g n := by unfold rval; rw [if_pos rfl]
/-- one place more -/
theorem s_add {μ : mzM} {o : Int} {g : Int → Int} {n : Nat} {v : Int} {K : mzM → Prop} (hR : RLn μ o g n) (hn : n < 16) (hv : v = g n) (hK : ∀ ν, RLn ν o g (n + 1) → fr (Prl o) μ ν → K ν) : ZV f_X4_addCell [vR 12 o, vI v] μ K := by
  subst hv
  obtain ⟨hs, hr⟩ := hR
  have hb : 0 ≤ μ 12 o 2 ∧ μ 12 o 2 ≤ n := by
    rw [hs]
    cases n with
    | zero => exact ⟨Int.le_refl 0, Int.le_refl 0⟩
    | succ m => have h := num_le g m; show 0 ≤ num g m + 1 ∧ num g m + 1 ≤ ((m + 1 : Nat) : Int); omega
  refine s_X4_addCell hb.1 (by omega) (fun q => ?_) (fun q1 q2 => ?_) (fun q => ?_)
  · have h1 := hr (μ 12 o 2 - 1) (by omega) (by omega)
    have h2 := many_le g (μ 12 o 2 - 1) n
    rw [h1.1]; omega
  · cases n with
    | zero => have hs : μ 12 o 2 = 0 := hs; omega
    | succ m =>
      have hs : μ 12 o 2 = num g m + 1 := hs
      have h1 := hr (μ 12 o 2 - 1) (by omega) (by omega)
      have e : μ 12 o 2 - 1 = num g m := by omega
      rw [h1.2, e, rval_last] at q2
      have hnum : num g (m + 1) = num g m := by
        rw [num_s, if_pos (by rw [q2]; congr 1)]
        omega
      refine hK _ ⟨?_, fun r r0 r1 => ?_⟩ (fr_up fr_rf ⟨Or.inr (Or.inl rfl), rfl⟩)
      · rw [mup_t (by decide), hs]
        show _ = num g (m + 1) + 1
        rw [hnum]
      · rw [mup_t (by decide)] at r1
        rw [mup_t (show (14 : Nat) ≠ 13 by decide), (hr r r0 r1).2]
        show _ = many g r (m + 1) + (if num g (m + 1) = r then 1 else 0) ∧ _ = if num g (m + 1) = r then g ((m + 1 : Nat) : Int) else rval g r (m + 1)
        by_cases hrr : r = num g m
        · rw [if_pos (by omega), if_pos (by omega), e, hrr, mup_self, ← e, h1.1, e]
          exact ⟨rfl, by rw [rval_last]; exact q2⟩
        · rw [if_neg (by omega), if_neg (by omega), mup_k (by omega), (hr r r0 r1).1]
          exact ⟨by omega, rfl⟩
  · have hnm : num g n = μ 12 o 2 := by
      cases n with
      | zero => have hs : μ 12 o 2 = 0 := hs; rw [hs]; rfl
      | succ m =>
        have hs : μ 12 o 2 = num g m + 1 := hs
        have hnl := num_le g m
        have h1 := hr (μ 12 o 2 - 1) (by omega) (by omega)
        have hne : ¬ μ 14 o (μ 12 o 2 - 1) = g ((m + 1 : Nat) : Int) := fun z => q ⟨by have := num_le g m; omega, z⟩
        have e : μ 12 o 2 - 1 = num g m := by omega
        rw [h1.2, e, rval_last] at hne
        show num g m + (if g ((m : Int) + 1) = g m then 0 else 1) = _
        rw [if_neg (fun z => hne (by rw [← z]; congr 1))]
        omega
    have hlt : ∀ j : Nat, j < n → num g j < num g n := by
      intro j hj
      rw [hnm]
      cases n with
      | zero => omega
      | succ m =>
        have hs : μ 12 o 2 = num g m + 1 := hs
        have h1 := num_mono g (m - j) j
        rw [show j + (m - j) = m by omega] at h1
        omega
    refine hK _ ⟨?_, fun r r0 r1 => ?_⟩ (fr_up (fr_up (fr_up fr_rf ⟨Or.inr (Or.inl rfl), rfl⟩) ⟨Or.inr (Or.inr rfl), rfl⟩) ⟨Or.inl rfl, rfl⟩)
    · rw [mup_self]
      show _ = num g n + 1
      rw [hnm]
    · rw [mup_self] at r1
      rw [mup_t (show (13 : Nat) ≠ 12 by decide), mup_t (show (14 : Nat) ≠ 12 by decide), mup_t (show (13 : Nat) ≠ 14 by decide)]
      show _ = many g r n + (if num g n = r then 1 else 0) ∧ _ = if num g n = r then g n else rval g r n
      by_cases hrr : r = μ 12 o 2
      · rw [hrr, mup_self, mup_self, if_pos hnm, if_pos hnm, ← hnm, many_0 g _ n hlt]
        exact ⟨rfl, rfl⟩
      · rw [mup_k (by omega), mup_k (by omega), mup_t (by decide), if_neg (by omega), if_neg (by omega), (hr r r0 (by omega)).1, (hr r r0 (by omega)).2]
        exact ⟨by omega, rfl⟩
/-- what a block is given by, with a reference (or -1) -/
def sgiv (s : Int → Int) (f r b k : Int) : Int := if r = -1 then sv s f (spl s (sleft s b + k % 4) (stop s b + k / 4)) else (sv s f (spl s (sleft s b + k % 4) (stop s b + k / 4)) - sv s r (spl s (sleft s b + k % 4) (stop s b + k / 4)) + 16) % 16
def sruns (s : Int → Int) (f r b : Int) : Int := num (sgiv s f r b) 15 + 1
theorem sruns_le (s : Int → Int) (f r b : Int) : 1 ≤ sruns s f r b ∧ sruns s f r b ≤ 16 := by
  have := num_le (sgiv s f r b) 15
  unfold sruns
  omega
theorem zand15_a : ∀ n : Nat, n < 31 → zand ((n : Int) - 15) 15 = ((n : Int) - 15 + 16) % 16 := by decide +kernel
theorem zand15 {x : Int} (h1 : -15 ≤ x) (h2 : x ≤ 15) : zand x 15 = (x + 16) % 16 := by
  have h := zand15_a (x + 15).toNat (by omega)
  rw [show (((x + 15).toNat : Nat) : Int) - 15 = x by omega] at h
  exact h
/-- the list of a block without a base -/
theorem s_read_raw {μ : mzM} {s : Int → Int} {o o1 f b : Int} {K : mzM → Prop} (hD : WD s) (hI : IM μ o1 s f) (b0 : 0 ≤ b) (b1 : b < sblocks s) (hK : ∀ ν, RLn ν o (sgiv s f (-1) b) 16 → fr (Prl o) μ ν → K ν) : ZV f_X4_read [vR 12 o, vR 3 o1, vR 99 0, vI b] μ K := by
  have hbk := WD_blocks hD
  refine vc_X4_read_0b (s_X2_left hD hI b0 (s_X2_top hD hI b0 (by omega) ?_))
  obtain ⟨hx, hy⟩ := WD_blk hD b0 b1
  have hw := WD_w hD
  have key : ∀ (m n : Nat) (ν : mzM) (v7 v8 v9 : mzV), n + m = 16 → RLn ν o (sgiv s f (-1) b) n → fr (Prl o) μ ν → ZW f_X4_read 13 [vR 12 o, vR 3 o1, vR 99 0, vI b, vI (sleft s b), vI (stop s b), vI (n : Int), v7, v8, v9] [] ν (fun r ν => r = none ∧ K ν) := by
    intro m
    induction m with
    | zero =>
      intro n ν v7 v8 v9 hn hR hF
      refine vc_X4_read_13b ?_
      rw [if_neg (by omega)]
      have e : n = 16 := by omega
      subst e
      exact ⟨rfl, hK ν hR hF⟩
    | succ m ih =>
      intro n ν v7 v8 v9 hn hR hF
      have hI2 := IM_fr hI hF (fun k q => by omega) (fun k q => by omega)
      refine vc_X4_read_13b ?_
      rw [if_pos (by omega), ztm 4 (show 0 ≤ (n : Int) by omega), ztd 4 (show 0 ≤ (n : Int) by omega)]
      obtain ⟨p1, p2, p3, p4⟩ := part_pl hD hx hy (k := (n : Int)) (by omega) (by omega)
      refine ⟨by omega, zin_sm (by omega), ⟨by omega, zin_sm (by omega)⟩, zin_sm (by omega), s_X2_at hD hI2 ?_⟩
      rw [if_pos p1]
      refine s_add hR (by omega) (by unfold sgiv; rw [if_pos rfl]) (fun ξ hR2 hF2 => ?_)
      refine ⟨zin_sm (by omega), ?_⟩
      rw [show (n : Int) + 1 = ((n + 1 : Nat) : Int) by omega]
      exact ih (n + 1) ξ _ _ _ (by omega) hR2 (fr_tr hF hF2)
  exact key 16 0 _ _ _ _ rfl ⟨by rw [mup_self], fun r r0 r1 => by rw [mup_self] at r1; omega⟩ (fr_up fr_rf ⟨Or.inl rfl, rfl⟩)
/-- the list of a block with a base -/
theorem s_read_base {μ : mzM} {s : Int → Int} {o o1 o2 f g b : Int} {K : mzM → Prop} (hD : WD s) (hI : IM μ o1 s f) (hJ : IM μ o2 s g) (hV : SV s f) (hU : SV s g) (hg : g ≠ -1) (b0 : 0 ≤ b) (b1 : b < sblocks s) (hK : ∀ ν, RLn ν o (sgiv s f g b) 16 → fr (Prl o) μ ν → K ν) : ZV f_X4_read [vR 12 o, vR 3 o1, vR 3 o2, vI b] μ K := by
  have hbk := WD_blocks hD
  refine vc_X4_read_0 (s_X2_left hD hI b0 (s_X2_top hD hI b0 (by omega) ?_))
  obtain ⟨hx, hy⟩ := WD_blk hD b0 b1
  have hw := WD_w hD
  have key : ∀ (m n : Nat) (ν : mzM) (v7 v8 v9 : mzV), n + m = 16 → RLn ν o (sgiv s f g b) n → fr (Prl o) μ ν → ZW f_X4_read 13 [vR 12 o, vR 3 o1, vR 3 o2, vI b, vI (sleft s b), vI (stop s b), vI (n : Int), v7, v8, v9] [] ν (fun r ν => r = none ∧ K ν) := by
    intro m
    induction m with
    | zero =>
      intro n ν v7 v8 v9 hn hR hF
      refine vc_X4_read_13 ?_
      rw [if_neg (by omega)]
      have e : n = 16 := by omega
      subst e
      exact ⟨rfl, hK ν hR hF⟩
    | succ m ih =>
      intro n ν v7 v8 v9 hn hR hF
      have hI2 := IM_fr hI hF (fun k q => by omega) (fun k q => by omega)
      have hJ2 := IM_fr hJ hF (fun k q => by omega) (fun k q => by omega)
      refine vc_X4_read_13 ?_
      rw [if_pos (by omega), ztm 4 (show 0 ≤ (n : Int) by omega), ztd 4 (show 0 ≤ (n : Int) by omega)]
      obtain ⟨p1, p2, p3, p4⟩ := part_pl hD hx hy (k := (n : Int)) (by omega) (by omega)
      refine ⟨by omega, zin_sm (by omega), ⟨by omega, zin_sm (by omega)⟩, zin_sm (by omega), s_X2_at hD hI2 (s_X2_at hD hJ2 ?_)⟩
      rw [if_pos p1, if_pos p1]
      have v1 := hV _ p2 p3
      have v2 := hU _ p2 p3
      refine ⟨zin_sm (by omega), ?_⟩
      refine s_add hR (by omega) (by unfold sgiv; rw [if_neg hg]; exact zand15 (by omega) (by omega)) (fun ξ hR2 hF2 => ?_)
      refine ⟨zin_sm (by omega), ?_⟩
      rw [show (n : Int) + 1 = ((n + 1 : Nat) : Int) by omega]
      exact ih (n + 1) ξ _ _ _ (by omega) hR2 (fr_tr hF hF2)
  exact key 16 0 _ _ _ _ rfl ⟨by rw [mup_self], fun r r0 r1 => by rw [mup_self] at r1; omega⟩ (fr_up fr_rf ⟨Or.inl rfl, rfl⟩)
end
section
/-! ===== a whole state ===== -/
def sref (s : Int → Int) (f : Int) : Int := s (1590 + f)
def slost (s : Int → Int) (f : Int) : Int := s (1600 + f)
def sits (s : Int → Int) (f b : Int) : Int := s (1610 + 27 * f + 3 * b)
def srin (s : Int → Int) (f b : Int) : Int := if sits s f b = 2 then sruns s f (sref s f) b else if sits s f b = 3 then sruns s f (-1) b else 0
def sccost (s : Int → Int) (f b : Int) : Int := if sits s f b = 0 then 1 else if sits s f b = 1 then 3 else 2 + 2 * srin s f b
def scost (s : Int → Int) (f : Int) : Int := 2 + isum (sccost s f) 0 (sblocks s).toNat
theorem sccost_b (s : Int → Int) (f b : Int) : 1 ≤ sccost s f b ∧ sccost s f b ≤ 34 := by
  have h1 := sruns_le s f (sref s f) b
  have h2 := sruns_le s f (-1) b
  unfold sccost srin
  split
  · omega
  · split
    · omega
    · split
      · omega
      · split <;> omega
theorem scost_b {s : Int → Int} (hD : WD s) (f : Int) : 2 ≤ scost s f ∧ scost s f ≤ 308 := by
  have h1 := WD_blocks hD
  have h2 := isum_bound (g := sccost s f) (lo := 0) (hi := 34) (sblocks s).toNat 0 (fun j _ _ => ⟨by have := sccost_b s f j; omega, (sccost_b s f j).2⟩)
  unfold scost
  omega
/-- a frame that may be: its cells, its reference, its mark, its codes -/
def WFf (s : Int → Int) (f : Int) : Prop := SV s f ∧ (sref s f = -1 ∨ (0 ≤ sref s f ∧ sref s f < f)) ∧ (slost s f = 0 ∨ slost s f = 1) ∧ ∀ b, 0 ≤ b → b < sblocks s → (0 ≤ sits s f b ∧ sits s f b ≤ 3) ∧ (sref s f = -1 → sits s f b = 3)
def WF (s : Int → Int) : Prop := WD s ∧ (0 ≤ s 2 ∧ s 2 ≤ 10) ∧ (0 ≤ s 3 ∧ s 3 ≤ 4) ∧ (0 ≤ s 4 ∧ s 4 ≤ 9) ∧ (0 ≤ s 5 ∧ s 5 ≤ 9) ∧ SV s (-1) ∧ ∀ f, 0 ≤ f → f < s 2 → WFf s f
/-- record F of the class shows frame f of s -/
def FR (μ : mzM) (F : Int) (s : Int → Int) (f : Int) : Prop := IM μ F s f ∧ μ 2 F 2 = sref s f ∧ μ 2 F 4 = slost s f ∧ μ 2 F 3 = scost s f ∧ ∀ b, 0 ≤ b → b < sblocks s → μ 5 F (4 * b) = sits s f b ∧ (sits s f b = 1 → μ 5 F (4 * b + 1) = s (1610 + 27 * f + 3 * b + 1) ∧ μ 5 F (4 * b + 2) = s (1610 + 27 * f + 3 * b + 2)) ∧ (2 ≤ sits s f b → μ 5 F (4 * b + 3) = srin s f b)
/-- state i of the class shows s -/
def ST (μ : mzM) (i : Int) (s : Int → Int) : Prop := (μ 1 i 3 = s 2 ∧ μ 1 i 4 = s 3 ∧ μ 1 i 5 = s 4 ∧ μ 1 i 6 = s 5) ∧ IM μ (78 + i) s (-1) ∧ ∀ f, 0 ≤ f → f < s 2 → FR μ (11 * i + f) s f
/-- the chain of a frame -/
def chn (s : Int → Int) : Nat → Int → List Int
  | 0, _ => []
  | n + 1, f => if f < 0 then [] else f :: chn s n (sref s f)
theorem chn_neg (s : Int → Int) (n : Nat) {f : Int} (h : f < 0) : chn s n f = [] := by
  cases n with
  | zero => rfl
  | succ n => unfold chn; rw [if_pos h]
theorem chn_pos (s : Int → Int) (n : Nat) {f : Int} (h : 0 ≤ f) : chn s (n + 1) f = f :: chn s n (sref s f) := by
  show (if f < 0 then _ else _) = _
  rw [if_neg (by omega)]
/-- a number below 0 or of a frame -/
abbrev fok (s : Int → Int) (f : Int) : Prop := f = -1 ∨ (0 ≤ f ∧ f < s 2)
theorem fok_ref {s : Int → Int} (hW : WF s) {f : Int} (h : 0 ≤ f ∧ f < s 2) : fok s (sref s f) := by
  rcases (hW.2.2.2.2.2.2 f h.1 h.2).2.1 with q | q
  · exact Or.inl q
  · exact Or.inr ⟨q.1, by omega⟩
theorem chn_stab {s : Int → Int} (hW : WF s) : ∀ (n m : Nat) (f : Int), fok s f → f < n → f < m → chn s n f = chn s m f := by
  intro n
  induction n with
  | zero => intro m f hf h1 h2; rw [chn_neg s _ (by omega), chn_neg s _ (by omega)]
  | succ n ih =>
    intro m f hf h1 h2
    rcases hf with hf | hf
    · rw [chn_neg s _ (by omega), chn_neg s _ (by omega)]
    · cases m with
      | zero => omega
      | succ m =>
        rw [chn_pos s n hf.1, chn_pos s m hf.1]
        have hr := fok_ref hW hf
        rcases (hW.2.2.2.2.2.2 f hf.1 hf.2).2.1 with q | q
        · rw [chn_neg s _ (by omega), chn_neg s _ (by omega)]
        · rw [ih m (sref s f) hr (by omega) (by omega)]
theorem chn_len (s : Int → Int) : ∀ (n : Nat) (f : Int), (chn s n f).length ≤ n
  | 0, _ => Nat.le_refl 0
  | n + 1, f => by
    unfold chn
    split
    · exact Nat.zero_le _
    · exact Nat.succ_le_succ (chn_len s n _)
def sgood (s : Int → Int) (f : Int) : Prop := ∀ g ∈ chn s 10 f, slost s g = 0
def sdepth (s : Int → Int) (f : Int) : Int := ((chn s 10 (sref s f)).length : Int)
def lsum (g : Int → Int) : List Int → Int
  | [] => 0
  | x :: l => g x + lsum g l
def sseek (s : Int → Int) (f : Int) : Int := lsum (scost s) (chn s 10 f)
theorem lsum_b {g : Int → Int} {hi : Int} (h : ∀ x, 0 ≤ g x ∧ g x ≤ hi) : ∀ l : List Int, 0 ≤ lsum g l ∧ lsum g l ≤ hi * l.length
  | [] => by simp [lsum]
  | x :: l => by
    have h1 := h x
    have h2 := lsum_b h l
    have e : hi * (((x :: l).length : Nat) : Int) = hi * l.length + hi := by rw [List.length_cons, Int.natCast_succ, Int.mul_add, Int.mul_one]
    unfold lsum
    omega
section St
variable {μ : mzM} {s : Int → Int} {i : Int} {K : Int → mzM → Prop}
theorem s_X6_frameAt {x : Int} (h : K (if 0 ≤ x ∧ x < 10 then 11 * i + x else 11 * i + 10) μ) : ZR f_X6_frameAt 2 [vR 1 i, vI x] μ K := by
  refine vc_X6_frameAt_0 ?_
  split
  · rw [if_neg (by omega)] at h; exact zlr h rfl
  · split
    · rw [if_pos (by omega)] at h; exact ⟨by omega, zlr h rfl⟩
    · rw [if_neg (by omega)] at h; exact zlr h rfl
theorem s_fa (hW : WF s) {x : Int} (hx : 0 ≤ x ∧ x < s 2) (h : K (11 * i + x) μ) : ZR f_X6_frameAt 2 [vR 1 i, vI x] μ K := by
  refine s_X6_frameAt ?_
  have := hW.2.1
  rw [if_pos (by omega)]
  exact h
theorem s_X6_isFrame (hS : ST μ i s) {x : Int} (h : K (if 0 ≤ x ∧ x < s 2 then 1 else 0) μ) : ZI f_X6_isFrame [vR 1 i, vI x] μ K := by
  refine vc_X6_isFrame_0 ?_
  rw [hS.1.1]
  split
  · rw [if_neg (by omega)] at h; exact zlf h rfl
  · split
    · rw [if_pos (by omega)] at h; exact zlf h rfl
    · rw [if_neg (by omega)] at h; exact zlf h rfl
theorem s_X6_isImage (hS : ST μ i s) {x : Int} (h1 : fok s x → K 1 μ) (h0 : ¬ fok s x → K 0 μ) : ZI f_X6_isImage [vR 1 i, vI x] μ K := by
  refine vc_X6_isImage_0 ?_
  split
  · next q => exact zlf (h1 (Or.inl q)) rfl
  · next q =>
    refine s_X6_isFrame hS ?_
    by_cases hx : 0 ≤ x ∧ x < s 2
    · rw [if_pos hx, if_neg (by omega)]; exact zlf (h1 (Or.inr hx)) rfl
    · rw [if_neg hx, if_pos rfl]; exact zlf (h0 (by rintro (z | z); exact q z; exact hx z)) rfl
/-- where the image of a number lies -/
def imo (i x : Int) : Int := if x = -1 then 78 + i else 11 * i + x
theorem s_X6_imageOf (hW : WF s) {x : Int} (hx : fok s x) (h : K (imo i x) μ) : ZR f_X6_imageOf 3 [vR 1 i, vI x] μ K := by
  refine vc_X6_imageOf_0 ?_
  unfold imo at h
  split
  · next q => rw [if_pos q] at h; exact zlr h rfl
  · next q =>
    rw [if_neg q] at h
    rcases hx with hx | hx
    · exact absurd hx q
    · exact s_fa hW hx (zlr h rfl)
theorem ST_im (hS : ST μ i s) {x : Int} (hx : fok s x) : IM μ (imo i x) s x := by
  unfold imo
  split
  · next q => rw [q]; exact hS.2.1
  · next q =>
    rcases hx with hx | hx
    · exact absurd hx q
    · exact (hS.2.2 x hx.1 hx.2).1
theorem WF_sv (hW : WF s) {x : Int} (hx : fok s x) : SV s x := by
  rcases hx with hx | hx
  · rw [hx]; exact hW.2.2.2.2.2.1
  · exact (hW.2.2.2.2.2.2 x hx.1 hx.2).1
theorem s_X6_isReadable (hW : WF s) (hS : ST μ i s) {x : Int} (hx : fok s x) (h1 : sgood s x → K 1 μ) (h0 : ¬ sgood s x → K 0 μ) : ZI f_X6_isReadable [vR 1 i, vI x] μ K := by
  refine vc_X6_isReadable_0 ?_
  have key : ∀ (n : Nat) (k l : Int), 0 ≤ k → k + n = 10 → fok s l → ((∀ g ∈ chn s n l, slost s g = 0) → K 1 μ) → (¬ (∀ g ∈ chn s n l, slost s g = 0) → K 0 μ) → ZW f_X6_isReadable 4 [vR 1 i, vI x, vI l, vI k] [] μ (fun r ν => ∃ a, r = some (vI a) ∧ K a ν) := by
    intro n
    induction n with
    | zero =>
      intro k l _ hk _ h1 _
      refine vc_X6_isReadable_4 ?_
      rw [if_neg (by omega)]
      exact zlf (h1 (fun g hg => by cases hg)) rfl
    | succ n ih =>
      intro k l hk0 hk hl h1 h0
      refine vc_X6_isReadable_4 ?_
      rw [if_pos (by omega)]
      split
      · next q => exact zlf (h1 (fun g hg => by rw [chn_neg s _ q] at hg; cases hg)) rfl
      · next q =>
        have hl2 : 0 ≤ l ∧ l < s 2 := by omega
        have hF := hS.2.2 l hl2.1 hl2.2
        rw [chn_pos s n hl2.1] at h1 h0
        refine s_fa hW hl2 ?_
        rw [hF.2.2.1]
        split
        · next q2 =>
          refine s_fa hW hl2 ⟨zin_sm (by omega), ?_⟩
          rw [hF.2.1]
          refine ih (k + 1) (sref s l) (by omega) (by omega) (fok_ref hW hl2) (fun z => h1 (fun g hg => ?_)) (fun z => h0 (fun w => z (fun g hg => w g (List.mem_cons_of_mem _ hg))))
          rcases List.mem_cons.mp hg with rfl | hg
          · exact q2
          · exact z g hg
        · next q2 => exact zlf (h0 (fun w => q2 (w l List.mem_cons_self))) rfl
  exact key 10 0 x (by omega) (by omega) hx h1 h0
theorem s_X6_depthOf (hW : WF s) (hS : ST μ i s) {x : Int} (hx : 0 ≤ x ∧ x < s 2) (h : K (sdepth s x) μ) : ZI f_X6_depthOf [vR 1 i, vI x] μ K := by
  refine vc_X6_depthOf_0 (s_fa hW hx ?_)
  have hF := hS.2.2 x hx.1 hx.2
  rw [hF.2.1]
  have key : ∀ (n : Nat) (k l d : Int), k + n = 10 → fok s l → 0 ≤ d → d ≤ k → K (d + ((chn s n l).length : Int)) μ → ZW f_X6_depthOf 9 [vR 1 i, vI x, vI d, vI l, vI k] [] μ (fun r ν => ∃ a, r = some (vI a) ∧ K a ν) := by
    intro n
    induction n with
    | zero =>
      intro k l d hk _ _ _ h
      refine vc_X6_depthOf_9 ?_
      rw [if_neg (by omega)]
      exact zlf h (by simp [chn])
    | succ n ih =>
      intro k l d hk hl d0 dk h
      refine vc_X6_depthOf_9 ?_
      rw [if_pos (by omega)]
      split
      · next q => exact zlf h (by rw [chn_neg s _ q]; simp)
      · next q =>
        have hl2 : 0 ≤ l ∧ l < s 2 := by omega
        have hF2 := hS.2.2 l hl2.1 hl2.2
        refine ⟨zin_sm (by omega), s_fa hW hl2 ⟨zin_sm (by omega), ?_⟩⟩
        rw [hF2.2.1]
        refine ih (k + 1) (sref s l) (d + 1) (by omega) (fok_ref hW hl2) (by omega) (by omega) ?_
        rw [chn_pos s n hl2.1, List.length_cons] at h
        rw [show d + 1 + ((chn s n (sref s l)).length : Int) = d + (((chn s n (sref s l)).length + 1 : Nat) : Int) by omega]
        exact h
  exact key 10 0 (sref s x) 0 (by omega) (fok_ref hW hx) (by omega) (by omega) (by rw [Int.zero_add]; exact h)
theorem s_X6_mayBe (hW : WF s) (hS : ST μ i s) {x : Int} (hx : 0 ≤ x ∧ x < s 2) (h1 : sgood s x ∧ sdepth s x < s 4 → K 1 μ) (h0 : ¬ (sgood s x ∧ sdepth s x < s 4) → K 0 μ) : ZI f_X6_mayBeReference [vR 1 i, vI x] μ K := by
  refine vc_X6_mayBeReference_0 (s_X6_isReadable hW hS (Or.inr hx) (fun g => ?_) (fun g => ?_))
  · rw [if_neg (by omega)]
    refine s_X6_depthOf hW hS hx ?_
    rw [hS.1.2.2.1]
    split
    · next q => exact zlf (h1 ⟨g, q⟩) rfl
    · next q => exact zlf (h0 (fun z => q z.2)) rfl
  · rw [if_pos rfl]; exact zlf (h0 (fun z => g z.1)) rfl
theorem s_X6_seekCost (hW : WF s) (hS : ST μ i s) {x : Int} (hx : 0 ≤ x ∧ x < s 2) (h : K (sseek s x) μ) : ZI f_X6_seekCost [vR 1 i, vI x] μ K := by
  refine vc_X6_seekCost_0 ?_
  have key : ∀ (n : Nat) (k l d : Int), k + n = 10 → fok s l → 0 ≤ d → d ≤ 308 * k → K (d + lsum (scost s) (chn s n l)) μ → ZW f_X6_seekCost 6 [vR 1 i, vI x, vI d, vI l, vI k] [] μ (fun r ν => ∃ a, r = some (vI a) ∧ K a ν) := by
    intro n
    induction n with
    | zero =>
      intro k l d hk _ _ _ h
      refine vc_X6_seekCost_6 ?_
      rw [if_neg (by omega)]
      exact zlf h (by simp [chn, lsum])
    | succ n ih =>
      intro k l d hk hl d0 dk h
      refine vc_X6_seekCost_6 ?_
      rw [if_pos (by omega)]
      split
      · next q => exact zlf h (by rw [chn_neg s _ q]; simp [lsum])
      · next q =>
        have hl2 : 0 ≤ l ∧ l < s 2 := by omega
        have hF2 := hS.2.2 l hl2.1 hl2.2
        have hb := scost_b hW.1 l
        refine s_fa hW hl2 ?_
        rw [hF2.2.2.2.1]
        refine ⟨zin_sm (by omega), s_fa hW hl2 ⟨zin_sm (by omega), ?_⟩⟩
        rw [hF2.2.1]
        refine ih (k + 1) (sref s l) (d + scost s l) (by omega) (fok_ref hW hl2) (by omega) (by omega) ?_
        rw [chn_pos s n hl2.1] at h
        rw [Int.add_assoc]
        exact h
  exact key 10 0 x 0 (by omega) (Or.inr hx) (by omega) (by omega) (by rw [Int.zero_add]; exact h)
theorem s_X6_chainHas (hW : WF s) (hS : ST μ i s) {x w : Int} (hx : 0 ≤ x ∧ x < s 2) (h1 : w ∈ chn s 10 x → K 1 μ) (h0 : w ∉ chn s 10 x → K 0 μ) : ZI f_X6_chainHas [vR 1 i, vI x, vI w] μ K := by
  refine vc_X6_chainHas_0 ?_
  have key : ∀ (n : Nat) (k l : Int), 0 ≤ k → k + n = 10 → fok s l → (w ∈ chn s n l → K 1 μ) → (w ∉ chn s n l → K 0 μ) → ZW f_X6_chainHas 4 [vR 1 i, vI x, vI w, vI l, vI k] [] μ (fun r ν => ∃ a, r = some (vI a) ∧ K a ν) := by
    intro n
    induction n with
    | zero =>
      intro k l _ hk _ _ h0
      refine vc_X6_chainHas_4 ?_
      rw [if_neg (by omega)]
      exact zlf (h0 (fun z => by cases z)) rfl
    | succ n ih =>
      intro k l hk0 hk hl h1 h0
      refine vc_X6_chainHas_4 ?_
      rw [if_pos (by omega)]
      split
      · next q => exact zlf (h0 (fun z => by rw [chn_neg s _ q] at z; cases z)) rfl
      · next q =>
        have hl2 : 0 ≤ l ∧ l < s 2 := by omega
        have hF2 := hS.2.2 l hl2.1 hl2.2
        rw [chn_pos s n hl2.1] at h1 h0
        split
        · next q2 => exact zlf (h1 (by rw [q2]; exact List.mem_cons_self)) rfl
        · next q2 =>
          refine s_fa hW hl2 ⟨zin_sm (by omega), ?_⟩
          rw [hF2.2.1]
          refine ih (k + 1) (sref s l) (by omega) (by omega) (fok_ref hW hl2) (fun z => h1 (List.mem_cons_of_mem _ z)) (fun z => h0 (fun y => ?_))
          rcases List.mem_cons.mp y with y | y
          · exact q2 y.symm
          · exact z y
  exact key 10 0 x (by omega) (by omega) (Or.inr hx) h1 h0
/-- how many frames can be decoded -/
noncomputable def sgoods (s : Int → Int) : Int := isum (fun f => @ite _ (sgood s f) (Classical.propDecidable _) 1 0) 0 (s 2).toNat
theorem s_X6_readable (hW : WF s) (hS : ST μ i s) (h : K (sgoods s) μ) : ZI f_X6_readableFrames [vR 1 i] μ K := by
  refine vc_X6_readableFrames_0 ?_
  have h2 := hW.2.1
  refine ifold_loop (g := fun d f => d + @ite _ (sgood s f) (Classical.propDecidable _) 1 0) (C := fun d k => ZW f_X6_readableFrames 4 [vR 1 i, vI d, vI k] [] μ (fun r ν => ∃ a, r = some (vI a) ∧ K a ν)) (I := fun d k => 0 ≤ d ∧ d ≤ k) (lo := 0) (hi := s 2) ?_ ?_ (s 2).toNat 0 0 (by omega) (by omega) (by omega) ?_
  · intro d k _ _ hd
    split <;> omega
  · intro d k k0 k1 hd hC
    refine vc_X6_readableFrames_4 ?_
    rw [hS.1.1, if_pos k1]
    refine s_X6_isReadable hW hS (Or.inr ⟨k0, k1⟩) (fun g => ?_) (fun g => ?_)
    · rw [if_neg (by omega)]
      rw [if_pos g] at hC
      exact ⟨zin_sm (by omega), zin_sm (by omega), hC⟩
    · rw [if_pos rfl]
      rw [if_neg g, Int.add_zero] at hC
      exact ⟨zin_sm (by omega), hC⟩
  · intro _
    refine vc_X6_readableFrames_4 ?_
    rw [hS.1.1, if_neg (by omega)]
    exact zlf h rfl
def scosts (s : Int → Int) : Int := isum (scost s) 0 (s 2).toNat
theorem s_X6_costOfRecords (hW : WF s) (hS : ST μ i s) (h : K (scosts s) μ) : ZI f_X6_costOfRecords [vR 1 i] μ K := by
  refine vc_X6_costOfRecords_0 ?_
  have h2 := hW.2.1
  refine ifold_loop (g := fun d f => d + scost s f) (C := fun d k => ZW f_X6_costOfRecords 4 [vR 1 i, vI d, vI k] [] μ (fun r ν => ∃ a, r = some (vI a) ∧ K a ν)) (I := fun d k => 0 ≤ d ∧ d ≤ 308 * k) (lo := 0) (hi := s 2) ?_ ?_ (s 2).toNat 0 0 (by omega) (by omega) (by omega) ?_
  · intro d k _ _ hd
    have := scost_b hW.1 k
    omega
  · intro d k k0 k1 hd hC
    refine vc_X6_costOfRecords_4 ?_
    rw [hS.1.1, if_pos k1]
    have hb := scost_b hW.1 k
    refine s_fa hW ⟨k0, k1⟩ ?_
    rw [(hS.2.2 k k0 k1).2.2.2.1]
    exact ⟨zin_sm (by omega), zin_sm (by omega), hC⟩
  · intro _
    refine vc_X6_costOfRecords_4 ?_
    rw [hS.1.1, if_neg (by omega)]
    exact zlf h rfl
theorem s_X1_codePart {F b p : Int} (b0 : 0 ≤ b) (b1 : b < 9) (p0 : 0 ≤ p) (p1 : p < 4) (h : K (μ 5 F (4 * b + p)) μ) : ZI f_X1_codePart [vR 2 F, vI b, vI p] μ K := by
  refine vc_X1_codePart_0 ?_
  rw [show b * 4 + p = 4 * b + p by omega]
  refine ⟨zin_sm (by omega), zin_sm (by omega), ?_⟩
  rw [if_neg (by omega), if_pos (by omega)]
  exact ⟨⟨by omega, by omega⟩, zlf h rfl⟩
/-- how many codes of a kind -/
def skinds (s : Int → Int) (f k : Int) : Int := isum (fun b => if sits s f b = k then 1 else 0) 0 (sblocks s).toNat
theorem s_X1_codesOfKind (hD : WD s) {F f : Int} (hF : FR μ F s f) {q : Int} (h : K (skinds s f q) μ) : ZI f_X1_codesOfKind [vR 2 F, vI q] μ K := by
  refine vc_X1_codesOfKind_0 ?_
  have h2 := WD_blocks hD
  refine ifold_loop (g := fun d b => d + if sits s f b = q then 1 else 0) (C := fun d k => ZW f_X1_codesOfKind 4 [vR 2 F, vI q, vI d, vI k] [] μ (fun r ν => ∃ a, r = some (vI a) ∧ K a ν)) (I := fun d k => 0 ≤ d ∧ d ≤ k) (lo := 0) (hi := sblocks s) ?_ ?_ (sblocks s).toNat 0 0 (by omega) (by omega) (by omega) ?_
  · intro d k _ _ hd
    split <;> omega
  · intro d k k0 k1 hd hC
    refine vc_X1_codesOfKind_4 (s_X2_blocks hD hF.1 ?_)
    rw [if_pos k1]
    refine s_X1_codePart k0 (by omega) (by omega) (by omega) ?_
    rw [Int.add_zero, (hF.2.2.2.2 k k0 k1).1]
    split
    · next z =>
      rw [if_pos z] at hC
      exact ⟨zin_sm (by omega), zin_sm (by omega), hC⟩
    · next z =>
      rw [if_neg z, Int.add_zero] at hC
      exact ⟨zin_sm (by omega), hC⟩
  · intro _
    refine vc_X1_codesOfKind_4 (s_X2_blocks hD hF.1 ?_)
    rw [if_neg (by omega)]
    exact zlf h rfl
end St
end
section
/-! ===== the choice of codes ===== -/
def sab (x : Int) : Int := if x < 0 then -x else x
/-- a move that may be -/
def smv (s : Int → Int) (f g b dx dy : Int) : Prop := (dx ≠ 0 ∨ dy ≠ 0) ∧ (-(s 3) ≤ dx ∧ dx ≤ s 3) ∧ (-(s 3) ≤ dy ∧ dy ≤ s 3) ∧ ((0 ≤ sleft s b + dx ∧ sleft s b + dx ≤ s 0 - 4) ∧ (0 ≤ stop s b + dy ∧ stop s b + dy ≤ s 1 - 4)) ∧ slike s f (sleft s b) (stop s b) g (sleft s b + dx) (stop s b + dy)
/-- the move that is due -/
def sbest (s : Int → Int) (f g b dx dy : Int) : Prop := smv s f g b dx dy ∧ ∀ x y, smv s f g b x y → sab dx + sab dy < sab x + sab y ∨ (sab dx + sab dy = sab x + sab y ∧ (dy < y ∨ (dy = y ∧ dx ≤ x)))
theorem sbest_u {s : Int → Int} {f g b dx dy x y : Int} (h1 : sbest s f g b dx dy) (h2 : sbest s f g b x y) : dx = x ∧ dy = y := by
  have a := h1.2 x y h2.1
  have c := h2.2 dx dy h1.1
  omega
def slk (s : Int → Int) (f g b : Int) : Prop := slike s f (sleft s b) (stop s b) g (sleft s b) (stop s b)
/-- the code of a block (kind, dx, dy, runs) and its cost -/
def CH (s : Int → Int) (f r b k dx dy n c : Int) : Prop :=
  (r = -1 ∧ k = 3 ∧ n = sruns s f (-1) b ∧ c = 2 + 2 * sruns s f (-1) b) ∨
  (r ≠ -1 ∧ slk s f r b ∧ k = 0 ∧ c = 1) ∨
  (r ≠ -1 ∧ ¬ slk s f r b ∧ sbest s f r b dx dy ∧ k = 1 ∧ c = 3) ∨
  (r ≠ -1 ∧ ¬ slk s f r b ∧ (∀ x y, ¬ smv s f r b x y) ∧ sruns s f r b ≤ sruns s f (-1) b ∧ k = 2 ∧ n = sruns s f r b ∧ c = 2 + 2 * sruns s f r b) ∨
  (r ≠ -1 ∧ ¬ slk s f r b ∧ (∀ x y, ¬ smv s f r b x y) ∧ sruns s f (-1) b < sruns s f r b ∧ k = 3 ∧ n = sruns s f (-1) b ∧ c = 2 + 2 * sruns s f (-1) b)
noncomputable def ccost (s : Int → Int) (f r b : Int) : Int := if r = -1 then 2 + 2 * sruns s f (-1) b else @ite _ (slk s f r b) (Classical.propDecidable _) 1 (@ite _ (∃ x y, smv s f r b x y) (Classical.propDecidable _) 3 (if sruns s f r b ≤ sruns s f (-1) b then 2 + 2 * sruns s f r b else 2 + 2 * sruns s f (-1) b))
noncomputable def call (s : Int → Int) (f r : Int) : Int := 2 + isum (ccost s f r) 0 (sblocks s).toNat
theorem CH_cost {s : Int → Int} {f r b k dx dy n c : Int} (h : CH s f r b k dx dy n c) : c = ccost s f r b := by
  unfold ccost
  rcases h with ⟨h1, _, _, h2⟩ | ⟨h1, h2, _, h3⟩ | ⟨h1, h2, h3, _, h4⟩ | ⟨h1, h2, h3, h4, _, _, h5⟩ | ⟨h1, h2, h3, h4, _, _, h5⟩
  · rw [if_pos h1]; exact h2
  · rw [if_neg h1, if_pos h2]; exact h3
  · rw [if_neg h1, if_neg h2, if_pos ⟨dx, dy, h3.1⟩]; exact h4
  · rw [if_neg h1, if_neg h2, if_neg (fun ⟨x, y, q⟩ => h3 x y q), if_pos h4]; exact h5
  · rw [if_neg h1, if_neg h2, if_neg (fun ⟨x, y, q⟩ => h3 x y q), if_neg (by omega)]; exact h5
theorem ccost_b (s : Int → Int) (f r b : Int) : 1 ≤ ccost s f r b ∧ ccost s f r b ≤ 34 := by
  have h1 := sruns_le s f r b
  have h2 := sruns_le s f (-1) b
  unfold ccost
  split
  · omega
  · split
    · omega
    · split
      · omega
      · split <;> omega
theorem call_b {s : Int → Int} (hD : WD s) (f r : Int) : 2 ≤ call s f r ∧ call s f r ≤ 308 := by
  have h1 := WD_blocks hD
  have h2 := isum_bound (g := ccost s f r) (lo := 0) (hi := 34) (sblocks s).toNat 0 (fun j _ _ => ⟨by have := ccost_b s f r j; omega, (ccost_b s f r j).2⟩)
  unfold call
  omega
/-- which kind a code with a reference may have -/
theorem CH_kind {s : Int → Int} {f r b k dx dy n c : Int} (h : CH s f r b k dx dy n c) : (0 ≤ k ∧ k ≤ 3) ∧ (r = -1 → k = 3) := by
  rcases h with ⟨h1, h2, _, _⟩ | ⟨h1, h2, h3, _⟩ | ⟨h1, h2, h3, h4, _⟩ | ⟨h1, h2, h3, h4, h5, _⟩ | ⟨h1, h2, h3, h4, h5, _⟩ <;> exact ⟨by omega, fun q => by omega⟩
section Cod
variable {μ : mzM} {s : Int → Int} {o1 o4 f g b : Int}
def set4 (ν : mzM) (F b k dx dy n : Int) : mzM := mup (mup (mup (mup ν 5 F (4 * b) k) 5 F (4 * b + 1) dx) 5 F (4 * b + 2) dy) 5 F (4 * b + 3) n
theorem set4_t {ν : mzM} {F b k dx dy n : Int} {t : Nat} {i j : Int} (h : t ≠ 5) : set4 ν F b k dx dy n t i j = ν t i j := by
  unfold set4
  rw [mup_t h, mup_t h, mup_t h, mup_t h]
theorem set4_e (ν : mzM) (F b k dx dy n : Int) : set4 ν F b k dx dy n 5 F (4 * b) = k ∧ set4 ν F b k dx dy n 5 F (4 * b + 1) = dx ∧ set4 ν F b k dx dy n 5 F (4 * b + 2) = dy ∧ set4 ν F b k dx dy n 5 F (4 * b + 3) = n := by
  unfold set4
  refine ⟨?_, ?_, ?_, mup_self _ _ _ _ _⟩
  · rw [mup_k (by omega), mup_k (by omega), mup_k (by omega), mup_self]
  · rw [mup_k (by omega), mup_k (by omega), mup_self]
  · rw [mup_k (by omega), mup_self]
/-- what one block's coding touches -/
abbrev Pblk (F b : Int) : Nat → Int → Int → Prop := fun t i k => (t = 5 ∧ i = F ∧ 4 * b ≤ k ∧ k < 4 * b + 4) ∨ t = 11 ∨ t = 12 ∨ t = 13 ∨ t = 14
theorem set4_fr (ν : mzM) (F b k dx dy n : Int) : fr (Pblk F b) ν (set4 ν F b k dx dy n) :=
  fr_up (fr_up (fr_up (fr_up fr_rf (Or.inl ⟨rfl, rfl, by omega, by omega⟩)) (Or.inl ⟨rfl, rfl, by omega, by omega⟩)) (Or.inl ⟨rfl, rfl, by omega, by omega⟩)) (Or.inl ⟨rfl, rfl, by omega, by omega⟩)
theorem s_X1_setCode {F k dx dy n : Int} {K : mzM → Prop} (b0 : 0 ≤ b) (b1 : b < 9) (h : K (set4 μ F b k dx dy n)) : ZV f_X1_setCode [vR 2 F, vI b, vI k, vI dx, vI dy, vI n] μ K := by
  refine vc_X1_setCode_0 ?_
  refine ⟨zin_sm (by omega), ?_⟩
  rw [if_neg (by omega)]
  refine ⟨zin_sm (by omega), ?_⟩
  rw [if_pos (by omega)]
  refine ⟨zin_sm (by omega), ⟨by omega, by omega⟩, zin_sm (by omega), ⟨by omega, by omega⟩, zin_sm (by omega), ⟨by omega, by omega⟩, zin_sm (by omega), ⟨by omega, by omega⟩, rfl, ?_⟩
  rw [show b * 4 + 0 = 4 * b by omega, show b * 4 + 1 = 4 * b + 1 by omega, show b * 4 + 2 = 4 * b + 2 by omega, show b * 4 + 3 = 4 * b + 3 by omega]
  exact h
theorem s_findMove {o0 : Int} {K : Int → mzM → Prop} (hD : WD s) (hI : IM μ o1 s f) (hJ : IM μ o4 s g) (hr : 0 ≤ s 3 ∧ s 3 ≤ 4) (b0 : 0 ≤ b) (b1 : b < sblocks s)
    (h1 : ∀ dx dy, sbest s f g b dx dy → K 1 (mup (mup μ 11 o0 2 dx) 11 o0 3 dy)) (h0 : (∀ x y, ¬ smv s f g b x y) → K 0 μ) : ZI f_X0_findMove [vR 11 o0, vR 3 o1, vI (sleft s b), vI (stop s b), vR 3 o4, vI (s 3)] μ K := by
  refine vc_X0_findMove_0 ?_
  obtain ⟨hx, hy⟩ := WD_blk hD b0 b1
  have hw := WD_w hD
  have outer : ∀ sum, 1 ≤ sum → sum ≤ 2 * s 3 + 1 → ∀ v7 v8 v9 : mzV, (∀ x y, smv s f g b x y → sum ≤ sab x + sab y) → ZW f_X0_findMove 2 [vR 11 o0, vR 3 o1, vI (sleft s b), vI (stop s b), vR 3 o4, vI (s 3), vI sum, v7, v8, v9] [] μ (fun r ν => ∃ a, r = some (vI a) ∧ K a ν) := by
    intro sum s0 s1
    refine iter_down (C := fun sum => ∀ v7 v8 v9 : mzV, (∀ x y, smv s f g b x y → sum ≤ sab x + sab y) → ZW f_X0_findMove 2 [vR 11 o0, vR 3 o1, vI (sleft s b), vI (stop s b), vR 3 o4, vI (s 3), vI sum, v7, v8, v9] [] μ (fun r ν => ∃ a, r = some (vI a) ∧ K a ν)) (lo := 1) (hi := 2 * s 3 + 1) ?_ ?_ s0 s1
    · intro sum s0 s1 ihs v7 v8 v9 hinv
      have mid : ∀ dn, -(s 3) ≤ dn → dn ≤ s 3 + 1 → ∀ v8 v9 : mzV, (∀ x y, smv s f g b x y → sum < sab x + sab y ∨ (sum = sab x + sab y ∧ dn ≤ y)) → ZW f_X0_findMove 10 [vR 11 o0, vR 3 o1, vI (sleft s b), vI (stop s b), vR 3 o4, vI (s 3), vI sum, vI dn, v8, v9] [] μ (fun r ν => ∃ a, r = some (vI a) ∧ K a ν) := by
        intro dn d0 d1
        refine iter_down (C := fun dn => ∀ v8 v9 : mzV, (∀ x y, smv s f g b x y → sum < sab x + sab y ∨ (sum = sab x + sab y ∧ dn ≤ y)) → ZW f_X0_findMove 10 [vR 11 o0, vR 3 o1, vI (sleft s b), vI (stop s b), vR 3 o4, vI (s 3), vI sum, vI dn, v8, v9] [] μ (fun r ν => ∃ a, r = some (vI a) ∧ K a ν)) (lo := -(s 3)) (hi := s 3 + 1) ?_ ?_ d0 d1
        · intro dn d0 d1 ihd v8 v9 hinv
          refine vc_X0_findMove_10 ?_
          rw [if_neg (by omega)]
          refine s_abs (by omega) ?_
          have e : (if dn < 0 then -dn else dn) = sab dn := rfl
          rw [e]
          have hsd : 0 ≤ sab dn ∧ sab dn ≤ s 3 ∧ (sab dn = dn ∨ sab dn = -dn) := by unfold sab; split <;> omega
          have hnext : ∀ v8 v9 : mzV, (∀ x y, smv s f g b x y → sum = sab x + sab y → y = dn → False) → ZW f_X0_findMove 10 [vR 11 o0, vR 3 o1, vI (sleft s b), vI (stop s b), vR 3 o4, vI (s 3), vI sum, vI (dn + 1), v8, v9] [] μ (fun r ν => ∃ a, r = some (vI a) ∧ K a ν) := by
            intro v8 v9 hno
            refine ihd v8 v9 (fun x y hm => ?_)
            have a1 := hinv x y hm
            have a2 := hno x y hm
            by_cases hq : sum = sab x + sab y
            · by_cases hy : y = dn
              · exact absurd hy (fun q => a2 hq q)
              · omega
            · omega
          refine ⟨zin_sm (by omega), ?_⟩
          split
          · refine ⟨zin_sm (by omega), hnext _ _ (fun x y hm hq hyy => ?_)⟩
            have : 0 ≤ sab x := by unfold sab; split <;> omega
            subst hyy
            omega
          split
          · refine ⟨zin_sm (by omega), hnext _ _ (fun x y hm hq hyy => ?_)⟩
            have : sab x ≤ s 3 := by have := hm.2.1; unfold sab; split <;> omega
            subst hyy
            omega
          next n1 n2 =>
          obtain ⟨as, eas⟩ : ∃ as, as = sum - sab dn := ⟨_, rfl⟩
          rw [← eas] at n1 n2 ⊢
          have e2 : zw (-as) = -as := by unfold zw; omega
          rw [e2]
          have hexit : ∀ rt, as < rt → (∀ x y, smv s f g b x y → sum = sab x + sab y → y = dn → rt ≤ x) → ZW f_X0_findMove 27 [vR 11 o0, vR 3 o1, vI (sleft s b), vI (stop s b), vR 3 o4, vI (s 3), vI sum, vI dn, vI as, vI rt] [] μ (fun r ν => ∃ a, r = some (vI a) ∧ K a ν) := by
            intro rt hrt hno
            refine vc_X0_findMove_27 ?_
            rw [if_pos hrt]
            refine ⟨zin_sm (by omega), hnext _ _ (fun x y hm hq hyy => ?_)⟩
            have a1 := hno x y hm hq hyy
            have a2 : sab x = x ∨ sab x = -x := by unfold sab; split <;> omega
            have a3 : 0 ≤ sab x := by unfold sab; split <;> omega
            subst hyy
            omega
          have hstep : ∀ rt, (rt = -as ∨ rt = as) → (∀ x y, smv s f g b x y → sum = sab x + sab y → y = dn → rt ≤ x) → (¬ smv s f g b rt dn → ZW f_X0_findMove 27 [vR 11 o0, vR 3 o1, vI (sleft s b), vI (stop s b), vR 3 o4, vI (s 3), vI sum, vI dn, vI as, vI (rt + if (1 : Int) < 2 * as then 2 * as else 1)] [] μ (fun r ν => ∃ a, r = some (vI a) ∧ K a ν)) → ZW f_X0_findMove 27 [vR 11 o0, vR 3 o1, vI (sleft s b), vI (stop s b), vR 3 o4, vI (s 3), vI sum, vI dn, vI as, vI rt] [] μ (fun r ν => ∃ a, r = some (vI a) ∧ K a ν) := by
            intro rt hrt hge hgo
            refine vc_X0_findMove_27 ?_
            rw [if_neg (by omega)]
            refine ⟨zin_sm (by omega), zin_sm (by omega), s_X2_hasPart hD hJ ?_⟩
            by_cases hin : (0 ≤ sleft s b + rt ∧ sleft s b + rt ≤ s 0 - 4) ∧ (0 ≤ stop s b + dn ∧ stop s b + dn ≤ s 1 - 4)
            · rw [if_pos hin, if_neg (by omega)]
              refine ⟨zin_sm (by omega), zin_sm (by omega), s_X2_samePart hD hI hJ hx hy hin.1 hin.2 (fun hl => ?_) (fun hl => ?_)⟩
              · rw [if_neg (by omega)]
                refine zlf (h1 rt dn ?_) rfl
                have a2 : sab rt = as := by unfold sab; split <;> omega
                refine ⟨⟨by omega, by omega, by omega, hin, hl⟩, fun x y hm => ?_⟩
                have a1 := hinv x y hm
                have a3 := hge x y hm
                by_cases q1 : sum = sab x + sab y
                · by_cases q2 : y = dn
                  · have := a3 q1 q2
                    omega
                  · omega
                · omega
              · rw [if_pos rfl]
                exact ⟨zin_sm (by omega), s_max ⟨zin_sm (by split <;> omega), hgo (fun hm => hl hm.2.2.2.2)⟩⟩
            · rw [if_neg hin, if_pos rfl]
              exact ⟨zin_sm (by omega), s_max ⟨zin_sm (by split <;> omega), hgo (fun hm => hin hm.2.2.2.1)⟩⟩
          have hab : ∀ x : Int, (sab x = x ∨ sab x = -x) ∧ 0 ≤ sab x := by intro x; unfold sab; split <;> omega
          refine hstep (-as) (Or.inl rfl) (fun x y hm hq hyy => ?_) (fun hno => ?_)
          · have := hab x
            subst hyy
            omega
          · by_cases ha : as = 0
            · rw [if_neg (by omega)]
              refine hexit _ (by omega) (fun x y hm hq hyy => ?_)
              have := hab x
              subst hyy
              have hx0 : x = -as := by omega
              rw [hx0] at hm
              exact absurd hm hno
            · rw [if_pos (by omega), show -as + 2 * as = as by omega]
              refine hstep as (Or.inr rfl) (fun x y hm hq hyy => ?_) (fun hno2 => ?_)
              · have := hab x
                subst hyy
                by_cases hx0 : x = -as
                · rw [hx0] at hm
                  exact absurd hm hno
                · omega
              · rw [if_pos (by omega)]
                refine hexit _ (by omega) (fun x y hm hq hyy => ?_)
                have := hab x
                subst hyy
                by_cases hx0 : x = -as
                · rw [hx0] at hm
                  exact absurd hm hno
                · have hx1 : x = as := by omega
                  rw [hx1] at hm
                  exact absurd hm hno2
        · intro v8 v9 hinv
          refine vc_X0_findMove_10 ?_
          rw [if_pos (by omega)]
          refine ⟨zin_sm (by omega), ihs _ _ _ (fun x y hm => ?_)⟩
          have a1 := hinv x y hm
          have a2 := hm.2.2.1
          omega
      refine vc_X0_findMove_2 ?_
      refine ⟨zin_sm (by omega), ?_⟩
      rw [if_neg (by omega)]
      have e2 : zw (-(s 3)) = -(s 3) := by unfold zw; omega
      rw [e2]
      refine mid _ (by omega) (by omega) _ _ (fun x y hm => ?_)
      have a1 := hinv x y hm
      have a2 := hm.2.2.1
      omega
    · intro v7 v8 v9 hinv
      refine vc_X0_findMove_2 ?_
      refine ⟨zin_sm (by omega), ?_⟩
      rw [if_pos (by omega)]
      refine zlf (h0 (fun x y hm => ?_)) rfl
      have a1 := hinv x y hm
      have hab : ∀ x : Int, (sab x = x ∨ sab x = -x) ∧ 0 ≤ sab x := by intro x; unfold sab; split <;> omega
      have b1 := hab x
      have b2 := hab y
      have a2 := hm.2.1
      have a3 := hm.2.2.1
      omega
  refine outer 1 (by omega) (by omega) _ _ _ (fun x y hm => ?_)
  have hab : ∀ x : Int, (sab x = x ∨ sab x = -x) ∧ 0 ≤ sab x := by intro x; unfold sab; split <;> omega
  have b1 := hab x
  have b2 := hab y
  have a2 := hm.1
  omega
/-- what a record's coding touches -/
abbrev Pen (F : Int) : Nat → Int → Int → Prop := fun t i k => (t = 2 ∧ i = F ∧ (k = 2 ∨ k = 3 ∨ k = 4)) ∨ (t = 5 ∧ i = F) ∨ t = 11 ∨ t = 12 ∨ t = 13 ∨ t = 14
def CB (ν : mzM) (F : Int) (s : Int → Int) (f r b : Int) : Prop := CH s f r b (ν 5 F (4 * b)) (ν 5 F (4 * b + 1)) (ν 5 F (4 * b + 2)) (ν 5 F (4 * b + 3)) (ccost s f r b)
theorem fr_prl {o F b : Int} {μ ν : mzM} (h : fr (Prl o) μ ν) : fr (Pblk F b) μ ν := fr_mono h (fun t i k q => Or.inr (Or.inr q.1))
theorem CB_of {F r k dx dy n c : Int} {ν : mzM} (h : CH s f r b k dx dy n c) : CB (set4 ν F b k dx dy n) F s f r b := by
  obtain ⟨e1, e2, e3, e4⟩ := set4_e ν F b k dx dy n
  unfold CB
  rw [e1, e2, e3, e4, ← CH_cost h]
  exact h
theorem s_encodeRaw {o0 F : Int} {K : Int → mzM → Prop} (hD : WD s) (hI : IM μ F s f) (b0 : 0 ≤ b) (b1 : b < sblocks s) (hK : ∀ ν, CB ν F s f (-1) b → fr (Pblk F b) μ ν → K (ccost s f (-1) b) ν) : ZI f_X0_encodeRaw [vR 11 o0, vR 2 F, vI b] μ K := by
  have hb := WD_blocks hD
  refine vc_X0_encodeRaw_0 (s_read_raw hD hI b0 b1 (fun ν hR hF => ?_))
  have hn : ν 12 0 2 = sruns s f (-1) b := hR.1
  have hle := sruns_le s f (-1) b
  rw [hn]
  refine s_X1_setCode b0 (by omega) ?_
  have hCH : CH s f (-1) b 3 0 0 (sruns s f (-1) b) (2 + 2 * sruns s f (-1) b) := Or.inl ⟨rfl, rfl, rfl, rfl⟩
  rw [set4_t (by decide), hn]
  exact ⟨zin_sm (by omega), zin_sm (by omega), zlf (hK _ (CB_of hCH) (fr_tr (fr_prl hF) (set4_fr _ _ _ _ _ _ _))) (CH_cost hCH)⟩
theorem s_encodeWith {o0 F r : Int} {K : Int → mzM → Prop} (hD : WD s) (hI : IM μ F s f) (hJ : IM μ o4 s r) (hV : SV s f) (hU : SV s r) (hr : r ≠ -1) (h3 : 0 ≤ s 3 ∧ s 3 ≤ 4) (b0 : 0 ≤ b) (b1 : b < sblocks s) (ho : o0 = 0) (hK : ∀ ν, CB ν F s f r b → fr (Pblk F b) μ ν → K (ccost s f r b) ν) : ZI f_X0_encodeWith [vR 11 o0, vR 2 F, vI b, vR 3 o4, vI (s 3)] μ K := by
  have hb := WD_blocks hD
  obtain ⟨hx, hy⟩ := WD_blk hD b0 b1
  refine vc_X0_encodeWith_0 (s_X2_left hD hI b0 (s_X2_top hD hI b0 (by omega) (s_X2_samePart hD hI hJ hx hy hx hy (fun hl => ?_) (fun hl => ?_))))
  · rw [if_neg (by omega)]
    refine s_X1_setCode b0 (by omega) ?_
    have hCH : CH s f r b 0 0 0 0 1 := Or.inr (Or.inl ⟨hr, hl, rfl, rfl⟩)
    exact zlf (hK _ (CB_of hCH) (set4_fr _ _ _ _ _ _ _)) (CH_cost hCH)
  · rw [if_pos rfl]
    refine s_findMove hD hI hJ h3 b0 b1 (fun dx dy hm => ?_) (fun hm => ?_)
    · rw [if_neg (by omega)]
      rw [mup_k (show (2 : Int) ≠ 3 by decide), mup_self, mup_self]
      refine s_X1_setCode b0 (by omega) ?_
      have hCH : CH s f r b 1 dx dy 0 3 := Or.inr (Or.inr (Or.inl ⟨hr, hl, hm, rfl, rfl⟩))
      exact zlf (hK _ (CB_of hCH) (fr_tr (fr_up (fr_up fr_rf (Or.inr (Or.inl rfl))) (Or.inr (Or.inl rfl))) (set4_fr _ _ _ _ _ _ _))) (CH_cost hCH)
    · rw [if_pos rfl]
      refine s_read_raw hD hI b0 b1 (fun ν hR hF => ?_)
      have hI2 := IM_fr hI hF (fun k q => by omega) (fun k q => by omega)
      have hJ2 := IM_fr hJ hF (fun k q => by omega) (fun k q => by omega)
      refine s_read_base hD hI2 hJ2 hV hU hr b0 b1 (fun ξ hR2 hF2 => ?_)
      have hn1 : ν 12 0 2 = sruns s f (-1) b := hR.1
      have hn2 : ξ 12 1 2 = sruns s f r b := hR2.1
      have hn3 : ξ 12 0 2 = sruns s f (-1) b := (hF2 12 0 2 (fun q => by have := q.2; omega)).trans hn1
      have l1 := sruns_le s f (-1) b
      have l2 := sruns_le s f r b
      rw [hn2, hn3]
      split
      · next q =>
        refine s_X1_setCode b0 (by omega) ?_
        have hCH : CH s f r b 3 0 0 (sruns s f (-1) b) (2 + 2 * sruns s f (-1) b) := Or.inr (Or.inr (Or.inr (Or.inr ⟨hr, hl, hm, q, rfl, rfl, rfl⟩)))
        rw [set4_t (by decide), hn3]
        exact ⟨zin_sm (by omega), zin_sm (by omega), zlf (hK _ (CB_of hCH) (fr_tr (fr_prl hF) (fr_tr (fr_prl hF2) (set4_fr _ _ _ _ _ _ _)))) (CH_cost hCH)⟩
      · next q =>
        refine s_X1_setCode b0 (by omega) ?_
        have hCH : CH s f r b 2 0 0 (sruns s f r b) (2 + 2 * sruns s f r b) := Or.inr (Or.inr (Or.inr (Or.inl ⟨hr, hl, hm, by omega, rfl, rfl, rfl⟩)))
        rw [set4_t (by decide), hn2]
        exact ⟨zin_sm (by omega), zin_sm (by omega), zlf (hK _ (CB_of hCH) (fr_tr (fr_prl hF) (fr_tr (fr_prl hF2) (set4_fr _ _ _ _ _ _ _)))) (CH_cost hCH)⟩
/-- a record that was coded -/
def EN (ν : mzM) (F : Int) (s : Int → Int) (f r : Int) : Prop := ν 2 F 2 = r ∧ ν 2 F 4 = 0 ∧ ν 2 F 3 = call s f r ∧ ∀ b, 0 ≤ b → b < sblocks s → CB ν F s f r b
theorem CB_fr {F r b' : Int} {ν ξ : mzM} (h : CB ν F s f r b) (hF : fr (Pblk F b') ν ξ) (hb : b < b') : CB ξ F s f r b := by
  have e : ∀ j, 0 ≤ j → j < 4 → ξ 5 F (4 * b + j) = ν 5 F (4 * b + j) := fun j j0 j1 => hF 5 F (4 * b + j) (by rintro (q | q | q | q | q) <;> omega)
  have e0 := e 0 (by omega) (by omega)
  rw [Int.add_zero] at e0
  unfold CB
  rw [e0, e 1 (by omega) (by omega), e 2 (by omega) (by omega), e 3 (by omega) (by omega)]
  exact h
theorem fr_blk {F b : Int} {μ ν : mzM} (h : fr (Pblk F b) μ ν) : fr (Pen F) μ ν := fr_mono h (fun t i k q => by
  rcases q with q | q
  · exact Or.inr (Or.inl ⟨q.1, q.2.1⟩)
  · exact Or.inr (Or.inr q))
theorem s_encode {F i r : Int} {K : mzM → Prop} (hD : WD s) (hI : IM μ F s f) (hJ : r ≠ -1 → (0 ≤ r ∧ r < s 2) ∧ s 2 ≤ 10 ∧ IM μ (11 * i + r) s r ∧ SV s r) (hV : SV s f) (h3 : 0 ≤ s 3 ∧ s 3 ≤ 4) (hrg : μ 1 i 4 = s 3) (hK : ∀ ν, EN ν F s f r → fr (Pen F) μ ν → K ν) : ZV f_X0_encode [vR 11 0, vR 2 F, vR 1 i, vI r] μ K := by
  have hb := WD_blocks hD
  have start : ∀ ν0 : mzM, ν0 = mup (mup (mup μ 2 F 2 r) 2 F 4 0) 2 F 3 2 → (ν0 2 F 2 = r ∧ ν0 2 F 4 = 0 ∧ ν0 2 F 3 = 2) ∧ fr (Pen F) μ ν0 := by
    intro ν0 e
    subst e
    refine ⟨⟨?_, ?_, mup_self _ _ _ _ _⟩, fr_up (fr_up (fr_up fr_rf (Or.inl ⟨rfl, rfl, Or.inl rfl⟩)) (Or.inl ⟨rfl, rfl, Or.inr (Or.inr rfl)⟩)) (Or.inl ⟨rfl, rfl, Or.inr (Or.inl rfl)⟩)⟩
    · rw [mup_k (by decide), mup_k (by decide), mup_self]
    · rw [mup_k (by decide), mup_self]
  -- a block more
  have more : ∀ (ν ξ : mzM) (b : Int), 0 ≤ b → b < sblocks s → (ν 2 F 2 = r ∧ ν 2 F 4 = 0 ∧ ν 2 F 3 = 2 + isum (ccost s f r) 0 b.toNat) → fr (Pen F) μ ν → (∀ b', 0 ≤ b' → b' < b → CB ν F s f r b') → CB ξ F s f r b → fr (Pblk F b) ν ξ →
      ((mup ξ 2 F 3 (ν 2 F 3 + ccost s f r b)) 2 F 2 = r ∧ (mup ξ 2 F 3 (ν 2 F 3 + ccost s f r b)) 2 F 4 = 0 ∧ (mup ξ 2 F 3 (ν 2 F 3 + ccost s f r b)) 2 F 3 = 2 + isum (ccost s f r) 0 (b + 1).toNat) ∧ fr (Pen F) μ (mup ξ 2 F 3 (ν 2 F 3 + ccost s f r b)) ∧ (∀ b', 0 ≤ b' → b' < b + 1 → CB (mup ξ 2 F 3 (ν 2 F 3 + ccost s f r b)) F s f r b') := by
    intro ν ξ b b0 b1 ⟨h1, h2, h3⟩ hF hC hCb hF2
    have hx : ∀ k, ξ 2 F k = ν 2 F k := fun k => hF2 2 F k (by rintro (q | q | q | q | q) <;> omega)
    have hcb : ∀ b', CB ξ F s f r b' → CB (mup ξ 2 F 3 (ν 2 F 3 + ccost s f r b)) F s f r b' := by
      intro b' h
      unfold CB
      rw [mup_t (by decide), mup_t (by decide), mup_t (by decide), mup_t (by decide)]
      exact h
    refine ⟨⟨?_, ?_, ?_⟩, fr_up (fr_tr hF (fr_blk hF2)) (Or.inl ⟨rfl, rfl, Or.inr (Or.inl rfl)⟩), fun b' c0 c1 => hcb b' ?_⟩
    · rw [mup_k (by decide), hx]; exact h1
    · rw [mup_k (by decide), hx]; exact h2
    · rw [mup_self, h3, show (b + 1).toNat = b.toNat + 1 by omega, isum_last, show (0 : Int) + (b.toNat : Int) = b by omega]
      omega
    · by_cases q : b' = b
      · rw [q]; exact hCb
      · exact CB_fr (hC b' c0 (by omega)) hF2 (by omega)
  have imF : ∀ ν, fr (Pen F) μ ν → IM ν F s f := fun ν h => IM_fr hI h (fun k q => by omega) (fun k q => by omega)
  have bnd : ∀ (b : Int), 0 ≤ b → b < sblocks s → 0 ≤ isum (ccost s f r) 0 b.toNat ∧ isum (ccost s f r) 0 b.toNat ≤ 34 * b := by
    intro b b0 b1
    have h2 := isum_bound (g := ccost s f r) (lo := 0) (hi := 34) b.toNat 0 (fun j _ _ => ⟨by have := ccost_b s f r j; omega, (ccost_b s f r j).2⟩)
    omega
  refine vc_X0_encode_0 ?_
  split
  · next q =>
    subst q
    obtain ⟨e1, e2⟩ := start _ rfl
    generalize mup (mup (mup μ 2 F 2 (-1)) 2 F 4 0) 2 F 3 2 = ν0 at *
    refine ⟨Or.inl rfl, ?_⟩
    have key : ∀ b, 0 ≤ b → b ≤ sblocks s → ∀ ν : mzM, (ν 2 F 2 = -1 ∧ ν 2 F 4 = 0 ∧ ν 2 F 3 = 2 + isum (ccost s f (-1)) 0 b.toNat) → fr (Pen F) μ ν → (∀ b', 0 ≤ b' → b' < b → CB ν F s f (-1) b') → ZW f_X0_encode 20 [vR 11 0, vR 2 F, vR 1 i, vI (-1), vR 99 0, vI b] [] ν (fun r ν => r = none ∧ K ν) := by
      intro b b0 b1
      refine iter_down (C := fun b => ∀ ν : mzM, (ν 2 F 2 = -1 ∧ ν 2 F 4 = 0 ∧ ν 2 F 3 = 2 + isum (ccost s f (-1)) 0 b.toNat) → fr (Pen F) μ ν → (∀ b', 0 ≤ b' → b' < b → CB ν F s f (-1) b') → ZW f_X0_encode 20 [vR 11 0, vR 2 F, vR 1 i, vI (-1), vR 99 0, vI b] [] ν (fun r ν => r = none ∧ K ν)) (lo := 0) (hi := sblocks s) ?_ ?_ b0 b1
      · intro b b0 b1 ih ν h1 hF hC
        refine vc_X0_encode_20 (s_X2_blocks hD (imF ν hF) ?_)
        rw [if_pos b1]
        refine s_encodeRaw hD (imF ν hF) b0 b1 (fun ξ hCb hF2 => ?_)
        have hbd := bnd b b0 b1
        have hcc := ccost_b s f (-1) b
        refine ⟨zin_sm (by omega), zin_sm (by omega), ?_⟩
        obtain ⟨m1, m2, m3⟩ := more ν ξ b b0 b1 h1 hF hC hCb hF2
        exact ih _ m1 m2 m3
      · intro ν h1 hF hC
        refine vc_X0_encode_20 (s_X2_blocks hD (imF ν hF) ?_)
        rw [if_neg (by omega)]
        exact ⟨rfl, hK ν ⟨h1.1, h1.2.1, h1.2.2, hC⟩ hF⟩
    exact key 0 (by omega) (by omega) ν0 ⟨e1.1, e1.2.1, by rw [e1.2.2]; rfl⟩ e2 (fun b' c0 c1 => by omega)
  · next q =>
    obtain ⟨hr, hr10, hJr, hU⟩ := hJ q
    have him : ∀ K : Int → mzM → Prop, K (11 * i + r) μ → ZR f_X6_imageOf 3 [vR 1 i, vI r] μ K := by
      intro K h
      refine vc_X6_imageOf_0 ?_
      rw [if_neg q]
      refine s_X6_frameAt ?_
      rw [if_pos (by omega)]
      exact zlr h rfl
    refine him _ ?_
    obtain ⟨e1, e2⟩ := start _ rfl
    generalize mup (mup (mup μ 2 F 2 r) 2 F 4 0) 2 F 3 2 = ν0 at *
    refine ⟨Or.inl rfl, ?_⟩
    have key : ∀ b, 0 ≤ b → b ≤ sblocks s → ∀ ν : mzM, (ν 2 F 2 = r ∧ ν 2 F 4 = 0 ∧ ν 2 F 3 = 2 + isum (ccost s f r) 0 b.toNat) → fr (Pen F) μ ν → (∀ b', 0 ≤ b' → b' < b → CB ν F s f r b') → ZW f_X0_encode 20 [vR 11 0, vR 2 F, vR 1 i, vI r, vR 3 (11 * i + r), vI b] [] ν (fun r ν => r = none ∧ K ν) := by
      intro b b0 b1
      refine iter_down (C := fun b => ∀ ν : mzM, (ν 2 F 2 = r ∧ ν 2 F 4 = 0 ∧ ν 2 F 3 = 2 + isum (ccost s f r) 0 b.toNat) → fr (Pen F) μ ν → (∀ b', 0 ≤ b' → b' < b → CB ν F s f r b') → ZW f_X0_encode 20 [vR 11 0, vR 2 F, vR 1 i, vI r, vR 3 (11 * i + r), vI b] [] ν (fun r ν => r = none ∧ K ν)) (lo := 0) (hi := sblocks s) ?_ ?_ b0 b1
      · intro b b0 b1 ih ν h1 hF hC
        refine vc_X0_encode_20b (s_X2_blocks hD (imF ν hF) ?_)
        rw [if_pos b1]
        have hJ2 := IM_fr hJr hF (fun k q => by omega) (fun k q => by omega)
        have hrg2 : ν 1 i 4 = s 3 := (hF 1 i 4 (by rintro (q | q | q | q | q | q) <;> omega)).trans hrg
        rw [hrg2]
        refine s_encodeWith hD (imF ν hF) hJ2 hV hU q h3 b0 b1 rfl (fun ξ hCb hF2 => ?_)
        have hbd := bnd b b0 b1
        have hcc := ccost_b s f r b
        refine ⟨zin_sm (by omega), zin_sm (by omega), ?_⟩
        obtain ⟨m1, m2, m3⟩ := more ν ξ b b0 b1 h1 hF hC hCb hF2
        exact ih _ m1 m2 m3
      · intro ν h1 hF hC
        refine vc_X0_encode_20b (s_X2_blocks hD (imF ν hF) ?_)
        rw [if_neg (by omega)]
        exact ⟨rfl, hK ν ⟨h1.1, h1.2.1, h1.2.2, hC⟩ hF⟩
    exact key 0 (by omega) (by omega) ν0 ⟨e1.1, e1.2.1, by rw [e1.2.2]; rfl⟩ e2 (fun b' c0 c1 => by omega)
end Cod
end
section
/-! ===== copies, the saved states ===== -/
section Sav
variable {μ : mzM} {s : Int → Int}
abbrev Pim (o : Int) : Nat → Int → Int → Prop := fun t i _ => (t = 3 ∨ t = 4) ∧ i = o
abbrev Prc (o : Int) : Nat → Int → Int → Prop := fun t i _ => (t = 2 ∨ t = 3 ∨ t = 4 ∨ t = 5) ∧ i = o
abbrev Pst (i : Int) : Nat → Int → Int → Prop := fun t j _ => (t = 1 ∧ j = i) ∨ ((t = 3 ∨ t = 4) ∧ j = 78 + i) ∨ ((t = 2 ∨ t = 3 ∨ t = 4 ∨ t = 5) ∧ 11 * i ≤ j ∧ j < 11 * i + 10)
theorem mcp_fr {P : Nat → Int → Int → Prop} {μ ν : mzM} {ts td : Nat} {is sp id dp n : Int} (h : fr P μ ν) (hp : ∀ k, P td id k) : fr P μ (mcp ν ts is sp td id dp n) := fun t i k q => by
  unfold mcp
  rw [if_neg (fun z => q (by rw [z.1, z.2.1]; exact hp k))]
  exact h t i k q
theorem mcp_at {ν : mzM} {ts td : Nat} {is id n k : Int} (h0 : 0 ≤ k) (h1 : k < n) : mcp ν ts is 0 td id 0 n td id k = ν ts is k := by
  unfold mcp
  rw [if_pos ⟨rfl, rfl, h0, by omega⟩]
  congr 1
  omega
theorem mcp_t {ν : mzM} {ts td t : Nat} {is sp id dp n i k : Int} (h : t ≠ td) : mcp ν ts is sp td id dp n t i k = ν t i k := by
  unfold mcp
  rw [if_neg (fun z => h z.1)]
theorem s_X2_take {o o' : Int} {K : mzM → Prop} (hK : ∀ ν, (ν 3 o 1 = μ 3 o' 1 ∧ ν 3 o 2 = μ 3 o' 2 ∧ ∀ c, 0 ≤ c → c < 144 → ν 4 o c = μ 4 o' c) → fr (Pim o) μ ν → K ν) : ZV f_X2_take [vR 3 o, vR 3 o'] μ K := by
  refine vc_X2_take_0 ⟨by decide, rfl, hK _ ⟨?_, ?_, fun c c0 c1 => ?_⟩ ?_⟩
  · rw [mcp_t (by decide), mup_k (by decide), mup_self]
  · rw [mcp_t (by decide), mup_self, mup_k (by decide)]
  · rw [mcp_at c0 c1, mup_t (by decide), mup_t (by decide)]
  · exact mcp_fr (fr_up (fr_up fr_rf ⟨Or.inl rfl, rfl⟩) ⟨Or.inl rfl, rfl⟩) (fun k => ⟨Or.inr rfl, rfl⟩)
theorem IM_cp {ν : mzM} {o o' f : Int} (hD : WD s) (hI : IM μ o' s f) (h : ν 3 o 1 = μ 3 o' 1 ∧ ν 3 o 2 = μ 3 o' 2 ∧ ∀ c, 0 ≤ c → c < 144 → ν 4 o c = μ 4 o' c) : IM ν o s f := by
  have hm := WD_mul hD
  exact ⟨h.1.trans hI.1, h.2.1.trans hI.2.1, fun c c0 c1 => (h.2.2 c c0 (by omega)).trans (hI.2.2 c c0 c1)⟩
theorem s_takeI {o o' f : Int} {K : mzM → Prop} (hD : WD s) (hI : IM μ o' s f) (hK : ∀ ν, IM ν o s f → fr (Pim o) μ ν → K ν) : ZV f_X2_take [vR 3 o, vR 3 o'] μ K := s_X2_take (fun ν h hF => hK ν (IM_cp hD hI h) hF)
theorem s_takeF {o o' f : Int} {K : mzM → Prop} (hD : WD s) (hR : FR μ o' s f) (hl : slost s f = 0 ∨ slost s f = 1) (ho : o ≠ o') (hK : ∀ ν, FR ν o s f → fr (Prc o) μ ν → K ν) : ZV f_X1_take [vR 2 o, vR 2 o'] μ K := by
  obtain ⟨r1, r2, r3, r4, r5⟩ := hR
  refine vc_X1_take_0 (s_takeI hD r1 (fun ν hI hF => ?_))
  have e2 : ∀ k, ν 2 o' k = μ 2 o' k := fun k => hF 2 o' k (by rintro ⟨q, _⟩; omega)
  have e5 : ∀ k, ν 5 o' k = μ 5 o' k := fun k => hF 5 o' k (by rintro ⟨q, _⟩; omega)
  have ho' : o' ≠ o := fun q => ho q.symm
  have hb := WD_blocks hD
  refine ⟨by decide, ?_⟩
  simp only [mup_i ho', mcp_t (show (2 : Nat) ≠ 5 by decide), e2, r2, r3, r4]
  refine ⟨hl, trivial, hK _ ⟨?_, ?_, ?_, ?_, fun b b0 b1 => ?_⟩ ?_⟩
  · exact IM_fr hI (P := fun t i _ => (t = 2 ∨ t = 5) ∧ i = o) (fr_up (fr_up (fr_up (mcp_fr fr_rf (fun k => ⟨Or.inr rfl, rfl⟩)) ⟨Or.inl rfl, rfl⟩) ⟨Or.inl rfl, rfl⟩) ⟨Or.inl rfl, rfl⟩) (fun k q => by omega) (fun k q => by omega)
  · rw [mup_k (by decide), mup_k (by decide), mup_self]
  · rw [mup_self]
  · rw [mup_k (by decide), mup_self]
  · simp only [mup_t (show (5 : Nat) ≠ 2 by decide)]
    rw [mcp_at (by omega) (by omega), mcp_at (by omega) (by omega), mcp_at (by omega) (by omega), mcp_at (by omega) (by omega), e5, e5, e5, e5]
    exact r5 b b0 b1
  · refine fr_up (fr_up (fr_up (mcp_fr (fr_mono hF (fun t i k q => ⟨?_, q.2⟩)) (fun k => ⟨Or.inr (Or.inr (Or.inr rfl)), rfl⟩)) ⟨Or.inl rfl, rfl⟩) ⟨Or.inl rfl, rfl⟩) ⟨Or.inl rfl, rfl⟩
    rcases q.1 with q | q
    · exact Or.inr (Or.inl q)
    · exact Or.inr (Or.inr (Or.inl q))
theorem FR_fr {P : Nat → Int → Int → Prop} {ν : mzM} {o f : Int} (hR : FR μ o s f) (h : fr P μ ν) (hp : ∀ k, ¬ P 2 o k ∧ ¬ P 3 o k ∧ ¬ P 4 o k ∧ ¬ P 5 o k) : FR ν o s f := by
  obtain ⟨r1, r2, r3, r4, r5⟩ := hR
  refine ⟨IM_fr r1 h (fun k => (hp k).2.1) (fun k => (hp k).2.2.1), (h 2 o 2 (hp 2).1).trans r2, (h 2 o 4 (hp 4).1).trans r3, (h 2 o 3 (hp 3).1).trans r4, fun b b0 b1 => ?_⟩
  rw [h 5 o _ (hp _).2.2.2, h 5 o _ (hp _).2.2.2, h 5 o _ (hp _).2.2.2, h 5 o _ (hp _).2.2.2]
  exact r5 b b0 b1
theorem ST_fr {P : Nat → Int → Int → Prop} {ν : mzM} {i : Int} (hS : ST μ i s) (h : fr P μ ν) (h1 : ∀ k, ¬ P 1 i k) (h2 : ∀ k, ¬ P 3 (78 + i) k ∧ ¬ P 4 (78 + i) k) (h3 : ∀ f, 0 ≤ f → f < s 2 → ∀ k, ¬ P 2 (11 * i + f) k ∧ ¬ P 3 (11 * i + f) k ∧ ¬ P 4 (11 * i + f) k ∧ ¬ P 5 (11 * i + f) k) : ST ν i s := by
  obtain ⟨⟨a1, a2, a3, a4⟩, a5, a6⟩ := hS
  exact ⟨⟨(h 1 i 3 (h1 3)).trans a1, (h 1 i 4 (h1 4)).trans a2, (h 1 i 5 (h1 5)).trans a3, (h 1 i 6 (h1 6)).trans a4⟩, IM_fr a5 h (fun k => (h2 k).1) (fun k => (h2 k).2), fun f f0 f1 => FR_fr (a6 f f0 f1) h (h3 f f0 f1)⟩
/-- a state is copied -/
theorem s_takeS {i j : Int} {K : mzM → Prop} (hW : WF s) (hS : ST μ j s) (hij : i ≠ j) (i0 : 0 ≤ i) (i1 : i ≤ 6) (j0 : 0 ≤ j) (j1 : j ≤ 6) (hK : ∀ ν, ST ν i s → fr (Pst i) μ ν → K ν) : ZV f_X6_take [vR 1 i, vR 1 j] μ K := by
  have h10 := hW.2.1
  refine vc_X6_take_0 (s_takeI hW.1 hS.2.1 (fun ν hI hF => ?_))
  have e1 : ∀ k, ν 1 j k = μ 1 j k := fun k => hF 1 j k (by rintro ⟨q, _⟩; omega)
  have hji : j ≠ i := fun q => hij q.symm
  obtain ⟨⟨a1, a2, a3, a4⟩, -, a6⟩ := hS
  simp only [mup_i hji, e1, a1, a2, a3, a4]
  have hF0 : fr (Pst i) μ (mup (mup (mup (mup ν 1 i 3 (s 2)) 1 i 4 (s 3)) 1 i 5 (s 4)) 1 i 6 (s 5)) := fr_up (fr_up (fr_up (fr_up (fr_mono hF (fun t o k q => Or.inr (Or.inl q))) (Or.inl ⟨rfl, rfl⟩)) (Or.inl ⟨rfl, rfl⟩)) (Or.inl ⟨rfl, rfl⟩)) (Or.inl ⟨rfl, rfl⟩)
  have hb : ∀ ξ : mzM, ξ = mup (mup (mup (mup ν 1 i 3 (s 2)) 1 i 4 (s 3)) 1 i 5 (s 4)) 1 i 6 (s 5) → (ξ 1 i 3 = s 2 ∧ ξ 1 i 4 = s 3 ∧ ξ 1 i 5 = s 4 ∧ ξ 1 i 6 = s 5) ∧ IM ξ (78 + i) s (-1) := by
    intro ξ e
    subst e
    refine ⟨⟨?_, ?_, ?_, mup_self _ _ _ _ _⟩, IM_fr hI (P := fun t _ _ => t = 1) (fr_up (fr_up (fr_up (fr_up fr_rf rfl) rfl) rfl) rfl) (fun k q => by omega) (fun k q => by omega)⟩
    · rw [mup_k (by decide), mup_k (by decide), mup_k (by decide), mup_self]
    · rw [mup_k (by decide), mup_k (by decide), mup_self]
    · rw [mup_k (by decide), mup_self]
  have hb := hb _ rfl
  generalize mup (mup (mup (mup ν 1 i 3 (s 2)) 1 i 4 (s 3)) 1 i 5 (s 4)) 1 i 6 (s 5) = ξ0 at *
  have key : ∀ f, 0 ≤ f → f ≤ s 2 → ∀ ξ : mzM, ((ξ 1 i 3 = s 2 ∧ ξ 1 i 4 = s 3 ∧ ξ 1 i 5 = s 4 ∧ ξ 1 i 6 = s 5) ∧ IM ξ (78 + i) s (-1)) → fr (Pst i) μ ξ → (∀ g, 0 ≤ g → g < f → FR ξ (11 * i + g) s g) → ZW f_X6_take 23 [vR 1 i, vR 1 j, vI f] [] ξ (fun r ν => r = none ∧ K ν) := by
    intro f f0 f1
    refine iter_down (C := fun f => ∀ ξ : mzM, ((ξ 1 i 3 = s 2 ∧ ξ 1 i 4 = s 3 ∧ ξ 1 i 5 = s 4 ∧ ξ 1 i 6 = s 5) ∧ IM ξ (78 + i) s (-1)) → fr (Pst i) μ ξ → (∀ g, 0 ≤ g → g < f → FR ξ (11 * i + g) s g) → ZW f_X6_take 23 [vR 1 i, vR 1 j, vI f] [] ξ (fun r ν => r = none ∧ K ν)) (lo := 0) (hi := s 2) ?_ ?_ f0 f1
    · intro f f0 f1 ih ξ hb hF hg
      refine vc_X6_take_23 ?_
      rw [hb.1.1, if_pos f1]
      refine s_fa hW ⟨f0, f1⟩ (s_fa hW ⟨f0, f1⟩ ?_)
      have hR : FR ξ (11 * j + f) s f := FR_fr (a6 f f0 f1) hF (fun k => ⟨by omega, by omega, by omega, by omega⟩)
      refine s_takeF hW.1 hR (hW.2.2.2.2.2.2 f f0 f1).2.2.1 (by omega) (fun ζ hR2 hF2 => ⟨zin_sm (by omega), ih ζ ?_ ?_ (fun g g0 g1 => ?_)⟩)
      · refine ⟨⟨?_, ?_, ?_, ?_⟩, IM_fr hb.2 hF2 (fun k q => by omega) (fun k q => by omega)⟩
        · rw [hF2 1 i 3 (by rintro ⟨q, _⟩; omega)]; exact hb.1.1
        · rw [hF2 1 i 4 (by rintro ⟨q, _⟩; omega)]; exact hb.1.2.1
        · rw [hF2 1 i 5 (by rintro ⟨q, _⟩; omega)]; exact hb.1.2.2.1
        · rw [hF2 1 i 6 (by rintro ⟨q, _⟩; omega)]; exact hb.1.2.2.2
      · exact fr_tr hF (fr_mono hF2 (fun t o k q => Or.inr (Or.inr ⟨q.1, by omega, by omega⟩)))
      · by_cases q : g = f
        · rw [q]; exact hR2
        · exact FR_fr (hg g g0 (by omega)) hF2 (fun k => ⟨by omega, by omega, by omega, by omega⟩)
    · intro ξ hb hF hg
      refine vc_X6_take_23 ?_
      rw [hb.1.1, if_neg (by omega)]
      exact ⟨rfl, hK ξ ⟨hb.1, hb.2, hg⟩ hF⟩
  exact key 0 (by omega) (by omega) ξ0 hb hF0 (fun g g0 g1 => by omega)
/-! ===== the class as a whole: its state, and the n saved ones, oldest first ===== -/
def CI (μ : mzM) (s : Int → Int) (n : Int) (p : Int → Int → Int) : Prop := ST μ 0 s ∧ (0 ≤ μ 0 0 2 ∧ μ 0 0 2 ≤ 5) ∧ (μ 0 0 3 = n ∧ 0 ≤ n ∧ n ≤ 6) ∧ ∀ j, 0 ≤ j → j < n → ST μ (1 + (μ 0 0 2 + j) % 6) (p j)
def pushn (n : Int) : Int := if n < 6 then n + 1 else 6
def pushp (p : Int → Int → Int) (n : Int) (s : Int → Int) : Int → Int → Int := fun j => if n < 6 then (if j = n then s else p j) else (if j = 5 then s else p (j + 1))
/-- the class's own memory that isn't the state -/
abbrev Psc : Nat → Int → Int → Prop := fun t i k => ((t = 2 ∨ t = 3 ∨ t = 4 ∨ t = 5) ∧ i = 77) ∨ ((t = 3 ∨ t = 4) ∧ i = 85) ∨ (10 ≤ t ∧ t ≤ 18) ∨ (t = 8 ∧ k ≠ 1)
/-- the class's memory but the text -/
abbrev Pcl : Nat → Int → Int → Prop := fun t _ k => t ≤ 18 ∧ t ≠ 9 ∧ (t = 8 → k ≠ 1)
/-- of the saved states -/
abbrev Psv : Nat → Int → Int → Prop := fun t i _ => t = 0 ∨ (t = 1 ∧ 1 ≤ i) ∨ ((t = 3 ∨ t = 4) ∧ 79 ≤ i ∧ i ≤ 84) ∨ ((t = 2 ∨ t = 3 ∨ t = 4 ∨ t = 5) ∧ 11 ≤ i ∧ i ≤ 76)
theorem Psc_cl {t : Nat} {i k : Int} (h : Psc t i k) : Pcl t i k := by
  rcases h with h | h | h | h
  · exact ⟨by omega, by omega, fun q => by omega⟩
  · exact ⟨by omega, by omega, fun q => by omega⟩
  · exact ⟨by omega, by omega, fun q => by omega⟩
  · exact ⟨by omega, by omega, fun _ => h.2⟩
theorem CI_sc {n : Int} {p : Int → Int → Int} {ν : mzM} (hW : WF s) (hp : ∀ j, 0 ≤ j → j < n → WF (p j)) (hC : CI μ s n p) (h : fr Psc μ ν) : CI ν s n p := by
  obtain ⟨c1, c2, c3, c4⟩ := hC
  have e2 : ν 0 0 2 = μ 0 0 2 := h 0 0 2 (by omega)
  have e3 : ν 0 0 3 = μ 0 0 3 := h 0 0 3 (by omega)
  have h10 := hW.2.1
  refine ⟨ST_fr c1 h (fun k => by omega) (fun k => ⟨by omega, by omega⟩) (fun f f0 f1 k => ⟨by omega, by omega, by omega, by omega⟩), by rw [e2]; exact c2, by rw [e3]; exact c3, fun j j0 j1 => ?_⟩
  rw [e2]
  have h10 := (hp j j0 j1).2.1
  exact ST_fr (c4 j j0 j1) h (fun k => by omega) (fun k => ⟨by omega, by omega⟩) (fun f f0 f1 k => ⟨by omega, by omega, by omega, by omega⟩)
/-- another state in the place of the first -/
theorem CI_st {n : Int} {p : Int → Int → Int} {ν : mzM} {P : Nat → Int → Int → Prop} {s' : Int → Int} (hp : ∀ j, 0 ≤ j → j < n → WF (p j)) (hC : CI μ s n p) (h : fr P μ ν) (hP : ∀ t i k, P t i k → ¬ Psv t i k) (hS : ST ν 0 s') : CI ν s' n p := by
  obtain ⟨c1, c2, c3, c4⟩ := hC
  have e2 : ν 0 0 2 = μ 0 0 2 := h 0 0 2 (fun q => hP _ _ _ q (Or.inl rfl))
  have e3 : ν 0 0 3 = μ 0 0 3 := h 0 0 3 (fun q => hP _ _ _ q (Or.inl rfl))
  refine ⟨hS, by rw [e2]; exact c2, by rw [e3]; exact c3, fun j j0 j1 => ?_⟩
  rw [e2]
  have h10 := (hp j j0 j1).2.1
  refine ST_fr (c4 j j0 j1) h (fun k q => hP _ _ _ q ?_) (fun k => ⟨fun q => hP _ _ _ q ?_, fun q => hP _ _ _ q ?_⟩) (fun f f0 f1 k => ⟨fun q => hP _ _ _ q ?_, fun q => hP _ _ _ q ?_, fun q => hP _ _ _ q ?_, fun q => hP _ _ _ q ?_⟩) <;> omega
theorem s_savedSlot {x : Int} {K : Int → mzM → Prop} (h0 : 0 ≤ μ 0 0 2 + x) (h1 : μ 0 0 2 + x < 12) (h : K (1 + (μ 0 0 2 + x) % 6) μ) : ZR f_X7_savedSlot 1 [vR 0 0, vI x] μ K := by
  refine vc_X7_savedSlot_0 ⟨zin_sm (by omega), by decide, ?_⟩
  rw [ztm 6 h0, if_neg (by omega), if_pos (by omega)]
  exact ⟨⟨by omega, by omega⟩, zlr h rfl⟩
theorem s_save {n : Int} {p : Int → Int → Int} {K : mzM → Prop} (hW : WF s) (hp : ∀ j, 0 ≤ j → j < n → WF (p j)) (hC : CI μ s n p) (hK : ∀ ν, CI ν s (pushn n) (pushp p n s) → fr Psv μ ν → K ν) : ZV f_X7_save [vR 0 0] μ K := by
  obtain ⟨c1, c2, ⟨c3, n0, n6⟩, c4⟩ := id hC
  have h10 := hW.2.1
  refine vc_X7_save_0 ?_
  rw [c3]
  refine s_savedSlot (by omega) (by omega) ?_
  refine s_takeS hW c1 (by omega) (by omega) (by omega) (by omega) (by omega) (fun ν hS hF => ?_)
  have e2 : ν 0 0 2 = μ 0 0 2 := hF 0 0 2 (by omega)
  have e3 : ν 0 0 3 = n := (hF 0 0 3 (by omega)).trans c3
  have hF2 : fr Psv μ ν := fr_mono hF (fun t o k q => by omega)
  have hS0 : ST ν 0 s := ST_fr c1 hF (fun k => by omega) (fun k => ⟨by omega, by omega⟩) (fun f f0 f1 k => ⟨by omega, by omega, by omega, by omega⟩)
  have hSj : ∀ j, 0 ≤ j → j < n → (μ 0 0 2 + j) % 6 ≠ (μ 0 0 2 + n) % 6 → ST ν (1 + (μ 0 0 2 + j) % 6) (p j) := by
    intro j j0 j1 hne
    have h10 := (hp j j0 j1).2.1
    exact ST_fr (c4 j j0 j1) hF (fun k => by omega) (fun k => ⟨by omega, by omega⟩) (fun f f0 f1 k => ⟨by omega, by omega, by omega, by omega⟩)
  have mv : ∀ (k v i : Int) (q : Int → Int), ST ν i q → ST (mup ν 0 0 k v) i q := fun k v i q h => ST_fr (P := fun t _ _ => t = 0) h (fr_up fr_rf rfl) (fun k => by omega) (fun k => ⟨by omega, by omega⟩) (fun f f0 f1 k => ⟨by omega, by omega, by omega, by omega⟩)
  rw [e3, e2]
  split
  · next q =>
    refine ⟨zin_sm (by omega), rfl, hK _ ⟨mv _ _ _ _ hS0, ?_, ?_, fun j j0 j1 => mv _ _ _ _ ?_⟩ (fr_up hF2 (Or.inl rfl))⟩
    · rw [mup_k (by decide), e2]; exact c2
    · unfold pushn
      rw [mup_self, if_pos q]
      exact ⟨rfl, by omega, by omega⟩
    · unfold pushn at j1
      rw [if_pos q] at j1
      unfold pushp
      rw [mup_k (by decide), e2, if_pos q]
      by_cases hj : j = n
      · rw [if_pos hj, hj]; exact hS
      · rw [if_neg hj]; exact hSj j j0 (by omega) (by omega)
  · next q =>
    have hn : n = 6 := by omega
    refine ⟨zin_sm (by omega), by omega, rfl, hK _ ⟨mv _ _ _ _ hS0, ?_, ?_, fun j j0 j1 => mv _ _ _ _ ?_⟩ (fr_up hF2 (Or.inl rfl))⟩
    · rw [mup_self, ztm 6 (by omega)]
      omega
    · unfold pushn
      rw [mup_k (by decide), if_neg q, e3]
      exact ⟨hn, by omega, by omega⟩
    · unfold pushn at j1
      rw [if_neg q] at j1
      unfold pushp
      rw [mup_self, ztm 6 (by omega), if_neg q]
      by_cases hj : j = 5
      · rw [if_pos hj, show 1 + ((μ 0 0 2 + 1) % 6 + j) % 6 = 1 + (μ 0 0 2 + n) % 6 by omega]; exact hS
      · rw [if_neg hj, show 1 + ((μ 0 0 2 + 1) % 6 + j) % 6 = 1 + (μ 0 0 2 + (j + 1)) % 6 by omega]
        exact hSj (j + 1) (by omega) (by omega) (by omega)
theorem s_undo {n : Int} {p : Int → Int → Int} {K : Int → mzM → Prop} (hp : ∀ j, 0 ≤ j → j < n → WF (p j)) (hC : CI μ s n p) (h0 : n = 0 → K (-2) μ) (hK : 0 < n → ∀ ν, CI ν (p (n - 1)) (n - 1) p → fr Pcl μ ν → K (n - 1) ν) : ZI f_X7_undo [vR 0 0] μ K := by
  obtain ⟨c1, c2, ⟨c3, n0, n6⟩, c4⟩ := id hC
  refine vc_X7_undo_0 ?_
  rw [c3]
  split
  · exact zlf (h0 (by omega)) rfl
  · next q =>
    refine ⟨zin_sm (by omega), ?_⟩
    have e2 : (mup μ 0 0 3 (n - 1)) 0 0 2 = μ 0 0 2 := mup_k (by decide)
    rw [mup_self]
    refine s_savedSlot (by rw [e2]; omega) (by rw [e2]; omega) ?_
    rw [e2]
    have mv : ∀ (i : Int) (q : Int → Int), ST μ i q → ST (mup μ 0 0 3 (n - 1)) i q := fun i q h => ST_fr (P := fun t _ _ => t = 0) h (fr_up fr_rf rfl) (fun k => by omega) (fun k => ⟨by omega, by omega⟩) (fun f f0 f1 k => ⟨by omega, by omega, by omega, by omega⟩)
    refine s_takeS (hp (n - 1) (by omega) (by omega)) (mv _ _ (c4 (n - 1) (by omega) (by omega))) (by omega) (by omega) (by omega) (by omega) (by omega) (fun ν hS hF => ?_)
    have f2 : ν 0 0 2 = μ 0 0 2 := (hF 0 0 2 (by omega)).trans e2
    have f3 : ν 0 0 3 = n - 1 := (hF 0 0 3 (by omega)).trans (mup_self _ _ _ _ _)
    refine zlf (hK (by omega) ν ⟨hS, by rw [f2]; exact c2, ⟨f3, by omega, by omega⟩, fun j j0 j1 => ?_⟩ ?_) f3
    · rw [f2]
      have h10 := (hp j j0 (by omega)).2.1
      exact ST_fr (mv _ _ (c4 j j0 (by omega))) hF (fun k => by omega) (fun k => ⟨by omega, by omega⟩) (fun f f0 f1 k => ⟨by omega, by omega, by omega, by omega⟩)
    · exact fr_tr (fr_up fr_rf ⟨by omega, by omega, fun q => by omega⟩) (fr_mono hF (fun t o k q => ⟨by omega, by omega, fun q => by omega⟩))
end Sav
end
section
/-! ===== states that agree; a record that is added ===== -/
def SAME (s : Int → Int) (g : Int) (s' : Int → Int) (f : Int) : Prop := ∀ c, 0 ≤ c → c < s 0 * s 1 → sv s' f c = sv s g c
/-- frame f is the same in both -/
def AGx (s s' : Int → Int) (f : Int) : Prop := SAME s f s' f ∧ sref s' f = sref s f ∧ ∀ b, 0 ≤ b → b < sblocks s → sits s' f b = sits s f b ∧ s' (1610 + 27 * f + 3 * b + 1) = s (1610 + 27 * f + 3 * b + 1) ∧ s' (1610 + 27 * f + 3 * b + 2) = s (1610 + 27 * f + 3 * b + 2)
def AG (s s' : Int → Int) (f : Int) : Prop := AGx s s' f ∧ slost s' f = slost s f
theorem sgiv_same {s s' : Int → Int} {f f' r r' b : Int} (hD : WD s) (h0 : s' 0 = s 0) (h1 : s' 1 = s 1) (hf : SAME s f s' f') (hr : r = -1 ↔ r' = -1) (hg : r ≠ -1 → SAME s r s' r') (b0 : 0 ≤ b) (b1 : b < sblocks s) {k : Int} (k0 : 0 ≤ k) (k1 : k < 16) : sgiv s' f' r' b k = sgiv s f r b k := by
  obtain ⟨hx, hy⟩ := WD_blk hD b0 b1
  obtain ⟨p1, p2, p3, p4⟩ := part_pl hD hx hy k0 k1
  have e1 : sleft s' b = sleft s b := by unfold sleft; rw [h0]
  have e2 : stop s' b = stop s b := by unfold stop; rw [h0]
  unfold sgiv
  rw [e1, e2]
  have e3 : spl s' (sleft s b + k % 4) (stop s b + k / 4) = spl s (sleft s b + k % 4) (stop s b + k / 4) := by unfold spl; rw [h0]
  rw [e3, hf _ p2 p3]
  by_cases q : r = -1
  · rw [if_pos q, if_pos (hr.mp q)]
  · rw [if_neg q, if_neg (fun z => q (hr.mpr z)), hg q _ p2 p3]
theorem sruns_same {s s' : Int → Int} {f f' r r' b : Int} (hD : WD s) (h0 : s' 0 = s 0) (h1 : s' 1 = s 1) (hf : SAME s f s' f') (hr : r = -1 ↔ r' = -1) (hg : r ≠ -1 → SAME s r s' r') (b0 : 0 ≤ b) (b1 : b < sblocks s) : sruns s' f' r' b = sruns s f r b := by
  unfold sruns
  rw [num_congr 15 (fun k k0 k1 => sgiv_same hD h0 h1 hf hr hg b0 b1 k0 (by omega))]
theorem sblocks_same {s s' : Int → Int} (h0 : s' 0 = s 0) (h1 : s' 1 = s 1) : sblocks s' = sblocks s := by unfold sblocks; rw [h0, h1]
theorem WD_same {s s' : Int → Int} (hD : WD s) (h0 : s' 0 = s 0) (h1 : s' 1 = s 1) : WD s' := by unfold WD; rw [h0, h1]; exact hD
/-- a frame that agrees has the same costs -/
theorem srin_ag {s s' : Int → Int} {f b : Int} (hD : WD s) (h0 : s' 0 = s 0) (h1 : s' 1 = s 1) (hA : AGx s s' f) (hg : sref s f ≠ -1 → SAME s (sref s f) s' (sref s f)) (b0 : 0 ≤ b) (b1 : b < sblocks s) : srin s' f b = srin s f b := by
  obtain ⟨a1, a2, a4⟩ := hA
  unfold srin
  rw [(a4 b b0 b1).1, a2, sruns_same hD h0 h1 a1 Iff.rfl hg b0 b1, sruns_same hD h0 h1 a1 Iff.rfl (fun q => absurd rfl q) b0 b1]
theorem scost_ag {s s' : Int → Int} {f : Int} (hD : WD s) (h0 : s' 0 = s 0) (h1 : s' 1 = s 1) (hA : AGx s s' f) (hg : sref s f ≠ -1 → SAME s (sref s f) s' (sref s f)) : scost s' f = scost s f := by
  unfold scost
  rw [sblocks_same h0 h1]
  have hb := WD_blocks hD
  rw [isum_congr (sblocks s).toNat 0 (fun b b0 b1 => ?_)]
  unfold sccost
  rw [(hA.2.2 b b0 (by omega)).1, srin_ag hD h0 h1 hA hg b0 (by omega)]
theorem FR_agx {μ : mzM} {F : Int} {s s' : Int → Int} {f : Int} (hD : WD s) (h0 : s' 0 = s 0) (h1 : s' 1 = s 1) (hA : AGx s s' f) (hg : sref s f ≠ -1 → SAME s (sref s f) s' (sref s f)) (hI : IM μ F s f) (h2 : μ 2 F 2 = sref s f) (h3 : μ 2 F 3 = scost s f) (h4 : μ 2 F 4 = slost s' f) (h5 : ∀ b, 0 ≤ b → b < sblocks s → μ 5 F (4 * b) = sits s f b ∧ (sits s f b = 1 → μ 5 F (4 * b + 1) = s (1610 + 27 * f + 3 * b + 1) ∧ μ 5 F (4 * b + 2) = s (1610 + 27 * f + 3 * b + 2)) ∧ (2 ≤ sits s f b → μ 5 F (4 * b + 3) = srin s f b)) : FR μ F s' f := by
  refine ⟨⟨hI.1.trans h0.symm, hI.2.1.trans h1.symm, fun c c0 c1 => ?_⟩, h2.trans hA.2.1.symm, h4, h3.trans (scost_ag hD h0 h1 hA hg).symm, fun b b0 b1 => ?_⟩
  · rw [h0, h1] at c1
    rw [hA.1 c c0 c1]
    exact hI.2.2 c c0 c1
  · rw [sblocks_same h0 h1] at b1
    obtain ⟨d1, d2, d3⟩ := hA.2.2 b b0 b1
    rw [d1, d2, d3, srin_ag hD h0 h1 hA hg b0 b1]
    exact h5 b b0 b1
theorem FR_ag {μ : mzM} {F : Int} {s s' : Int → Int} {f : Int} (hD : WD s) (h0 : s' 0 = s 0) (h1 : s' 1 = s 1) (hA : AG s s' f) (hg : sref s f ≠ -1 → SAME s (sref s f) s' (sref s f)) (hR : FR μ F s f) : FR μ F s' f :=
  FR_agx hD h0 h1 hA.1 hg hR.1 hR.2.1 hR.2.2.2.1 (hR.2.2.1.trans hA.2.symm) hR.2.2.2.2
/-- frame f of s' is the record of image g of s, coded with r -/
def REC (s : Int → Int) (g r : Int) (s' : Int → Int) (f : Int) : Prop := SAME s g s' f ∧ sref s' f = r ∧ slost s' f = 0 ∧ ∀ b, 0 ≤ b → b < sblocks s → ∃ n c, CH s g r b (sits s' f b) (s' (1610 + 27 * f + 3 * b + 1)) (s' (1610 + 27 * f + 3 * b + 2)) n c
theorem CH_det {s : Int → Int} {f r b k dx dy n c k' x y n' c' : Int} (h : CH s f r b k dx dy n c) (h' : CH s f r b k' x y n' c') : k = k' ∧ (k = 1 → dx = x ∧ dy = y) ∧ (2 ≤ k → n = n' ∧ n = (if k = 2 then sruns s f r b else sruns s f (-1) b)) ∧ c = c' ∧ c = (if k = 0 then 1 else if k = 1 then 3 else 2 + 2 * (if k = 2 then sruns s f r b else sruns s f (-1) b)) := by
  have hc : c = c' := (CH_cost h).trans (CH_cost h').symm
  rcases h with ⟨h1, h2, h3, h4⟩ | ⟨h1, h2, h3, h4⟩ | ⟨h1, h2, h3, h4, h5⟩ | ⟨h1, h2, h3, h4, h5, h6, h7⟩ | ⟨h1, h2, h3, h4, h5, h6, h7⟩ <;>
    rcases h' with ⟨g1, g2, g3, g4⟩ | ⟨g1, g2, g3, g4⟩ | ⟨g1, g2, g3, g4, g5⟩ | ⟨g1, g2, g3, g4, g5, g6, g7⟩ | ⟨g1, g2, g3, g4, g5, g6, g7⟩ <;>
    first
    | exact absurd g1 (by omega)
    | exact absurd h1 (by omega)
    | exact absurd h2 g2
    | exact absurd g2 h2
    | exact absurd h3.1 (g3 _ _)
    | exact absurd g3.1 (h3 _ _)
    | (exfalso; omega)
    | (have hu := sbest_u h3 g3
       subst h4 g4
       exact ⟨rfl, fun _ => hu, fun q => by omega, hc, by rw [if_neg (by decide), if_pos rfl]; exact h5⟩)
    | (subst h3 g3
       exact ⟨rfl, fun q => by omega, fun q => by omega, hc, by rw [if_pos rfl]; exact h4⟩)
    | (subst h2 g2
       refine ⟨rfl, fun q => by omega, fun q => ⟨by omega, ?_⟩, hc, ?_⟩
       · rw [if_neg (by decide)]; exact h3
       · rw [if_neg (by decide), if_neg (by decide), if_neg (by decide)]; exact h4)
    | (subst h5 g5
       refine ⟨rfl, fun q => by omega, fun q => ⟨by omega, ?_⟩, hc, ?_⟩
       · rw [if_pos rfl]; exact h6
       · rw [if_neg (by decide), if_neg (by decide), if_pos rfl]; exact h7)
    | (subst h5 g5
       refine ⟨rfl, fun q => by omega, fun q => ⟨by omega, ?_⟩, hc, ?_⟩
       · rw [if_neg (by decide)]; exact h6
       · rw [if_neg (by decide), if_neg (by decide), if_neg (by decide)]; exact h7)
theorem srin_rec {s s' : Int → Int} {g r f : Int} (hD : WD s) (h0 : s' 0 = s 0) (h1 : s' 1 = s 1) (hR : REC s g r s' f) (hg : r ≠ -1 → SAME s r s' r) {b : Int} (b0 : 0 ≤ b) (b1 : b < sblocks s) (hk : 2 ≤ sits s' f b) (hk3 : sits s' f b ≤ 3) : srin s' f b = (if sits s' f b = 2 then sruns s g r b else sruns s g (-1) b) := by
  unfold srin
  rw [hR.2.1, sruns_same hD h0 h1 hR.1 Iff.rfl hg b0 b1, sruns_same hD h0 h1 hR.1 Iff.rfl (fun q => absurd rfl q) b0 b1]
  by_cases q : sits s' f b = 2
  · rw [if_pos q, if_pos q]
  · rw [if_neg q, if_neg q, if_pos (by omega)]
theorem scost_rec {s s' : Int → Int} {g r f : Int} (hD : WD s) (h0 : s' 0 = s 0) (h1 : s' 1 = s 1) (hR : REC s g r s' f) (hg : r ≠ -1 → SAME s r s' r) : scost s' f = call s g r := by
  unfold scost call
  rw [sblocks_same h0 h1]
  have hb := WD_blocks hD
  rw [isum_congr (sblocks s).toNat 0 (fun b b0 b1 => ?_)]
  have b1 : b < sblocks s := by omega
  obtain ⟨n, c, hC⟩ := hR.2.2.2 b b0 b1
  obtain ⟨-, -, -, -, hd⟩ := CH_det hC hC
  have hkd := (CH_kind hC).1
  rw [← CH_cost hC, hd]
  unfold sccost
  by_cases q0 : sits s' f b = 0
  · rw [if_pos q0, if_pos q0]
  · rw [if_neg q0, if_neg q0]
    by_cases q1 : sits s' f b = 1
    · rw [if_pos q1, if_pos q1]
    · rw [if_neg q1, if_neg q1, srin_rec hD h0 h1 hR hg b0 b1 (by omega) (by omega)]
/-- what was coded shows the record -/
theorem FR_rec {ν : mzM} {s s' : Int → Int} {F g r f : Int} (hD : WD s) (h0 : s' 0 = s 0) (h1 : s' 1 = s 1) (hI : IM ν F s g) (hE : EN ν F s g r) (hR : REC s g r s' f) (hg : r ≠ -1 → SAME s r s' r) : FR ν F s' f := by
  obtain ⟨e1, e2, e3, e4⟩ := hE
  refine ⟨⟨hI.1.trans h0.symm, hI.2.1.trans h1.symm, fun c c0 c1 => ?_⟩, e1.trans hR.2.1.symm, e2.trans hR.2.2.1.symm, e3.trans (scost_rec hD h0 h1 hR hg).symm, fun b b0 b1 => ?_⟩
  · rw [h0, h1] at c1
    rw [hR.1 c c0 c1]
    exact hI.2.2 c c0 c1
  · rw [sblocks_same h0 h1] at b1
    obtain ⟨n, c, hC⟩ := hR.2.2.2 b b0 b1
    have hB := e4 b b0 b1
    unfold CB at hB
    obtain ⟨d1, d2, d3, d4, d5⟩ := CH_det hB hC
    have hkd := (CH_kind hC).1
    refine ⟨d1, fun q => d2 (by rw [d1]; exact q), fun q => ?_⟩
    rw [srin_rec hD h0 h1 hR hg b0 b1 q hkd.2, ← d1]
    exact (d3 (by omega)).2
/-- WF of a frame that agrees -/
theorem WFf_agx {s s' : Int → Int} {f : Int} (h0 : s' 0 = s 0) (h1 : s' 1 = s 1) (hA : AGx s s' f) (hl : slost s' f = 0 ∨ slost s' f = 1) (hW : WFf s f) : WFf s' f := by
  obtain ⟨w1, w2, w3, w4⟩ := hW
  refine ⟨fun c c0 c1 => ?_, ?_, hl, fun b b0 b1 => ?_⟩
  · rw [h0, h1] at c1
    rw [hA.1 c c0 c1]
    exact w1 c c0 c1
  · rw [hA.2.1]; exact w2
  · rw [sblocks_same h0 h1] at b1
    rw [(hA.2.2 b b0 b1).1, hA.2.1]
    exact w4 b b0 b1
theorem WFf_ag {s s' : Int → Int} {f : Int} (h0 : s' 0 = s 0) (h1 : s' 1 = s 1) (hA : AG s s' f) (hW : WFf s f) : WFf s' f := WFf_agx h0 h1 hA.1 (by rw [hA.2]; exact hW.2.2.1) hW
theorem WFf_rec {s s' : Int → Int} {g r f : Int} (h0 : s' 0 = s 0) (h1 : s' 1 = s 1) (hR : REC s g r s' f) (hV : SV s g) (hr : r = -1 ∨ (0 ≤ r ∧ r < f)) : WFf s' f := by
  refine ⟨fun c c0 c1 => ?_, ?_, Or.inl hR.2.2.1, fun b b0 b1 => ?_⟩
  · rw [h0, h1] at c1
    rw [hR.1 c c0 c1]
    exact hV c c0 c1
  · rw [hR.2.1]; exact hr
  · rw [sblocks_same h0 h1] at b1
    obtain ⟨n, c, hC⟩ := hR.2.2.2 b b0 b1
    rw [hR.2.1]
    exact CH_kind hC
/-- the canvas becomes frame s 2 with reference r -/
def OPadd (s : Int → Int) (r : Int) (s' : Int → Int) : Prop := (s' 0 = s 0 ∧ s' 1 = s 1 ∧ s' 2 = s 2 + 1 ∧ s' 3 = s 3 ∧ s' 4 = s 4 ∧ s' 5 = s 5) ∧ SAME s (-1) s' (-1) ∧ (∀ f, 0 ≤ f → f < s 2 → AG s s' f) ∧ REC s (-1) r s' (s 2)
theorem OPadd_wf {s s' : Int → Int} {r : Int} (hW : WF s) (hn : s 2 < 10) (hr : fok s r) (h : OPadd s r s') : WF s' := by
  obtain ⟨⟨h0, h1, h2, h3, h4, h5⟩, h6, h7, h8⟩ := h
  obtain ⟨w0, w1, w2, w3, w4, w5, w6⟩ := hW
  refine ⟨WD_same w0 h0 h1, by rw [h2]; omega, by rw [h3]; exact w2, by rw [h4]; exact w3, by rw [h5]; exact w4, fun c c0 c1 => ?_, fun f f0 f1 => ?_⟩
  · rw [h0, h1] at c1
    rw [h6 c c0 c1]
    exact w5 c c0 c1
  · by_cases q : f = s 2
    · rw [q]; exact WFf_rec h0 h1 h8 w5 (by rcases hr with hr | hr; exact Or.inl hr; exact Or.inr hr)
    · exact WFf_ag h0 h1 (h7 f f0 (by omega)) (w6 f f0 (by omega))
theorem push_wf {s : Int → Int} {n : Int} {p : Int → Int → Int} (hW : WF s) (hp : ∀ j, 0 ≤ j → j < n → WF (p j)) (h6 : 0 ≤ n ∧ n ≤ 6) : ∀ j, 0 ≤ j → j < pushn n → WF (pushp p n s j) := by
  intro j j0 j1
  unfold pushn at j1
  unfold pushp
  split
  · next q =>
    rw [if_pos q] at j1
    split
    · exact hW
    · exact hp j j0 (by omega)
  · next q =>
    rw [if_neg q] at j1
    split
    · exact hW
    · exact hp (j + 1) (by omega) (by omega)
section Add
variable {μ : mzM} {s : Int → Int} {n : Int} {p : Int → Int → Int}
theorem s_add_rec {r : Int} {K : Int → mzM → Prop} (hW : WF s) (hp : ∀ j, 0 ≤ j → j < n → WF (p j)) (hC : CI μ s n p) (hn : s 2 < 10) (hr : fok s r) (hK : ∀ ν, (∀ s', OPadd s r s' → CI ν s' (pushn n) (pushp p n s)) → fr Pcl μ ν → K (call s (-1) r) ν) : ZI f_X7_add [vR 0 0, vI r] μ K := by
  have h10 := hW.2.1
  have hp' := push_wf hW hp hC.2.2.1.2
  refine vc_X7_add_0 (s_save hW hp hC (fun ν hC1 hF1 => ?_))
  obtain ⟨c1, -⟩ := id hC1
  rw [c1.1.1]
  refine s_X6_frameAt ?_
  rw [if_pos (by omega)]
  have h3 := hW.2.2.1
  refine s_takeI hW.1 c1.2.1 (fun ξ hI hF2 => ?_)
  have hS2 : ST ξ 0 s := ST_fr c1 hF2 (fun k => by omega) (fun k => ⟨by omega, by omega⟩) (fun f f0 f1 k => ⟨by omega, by omega, by omega, by omega⟩)
  refine s_encode hW.1 hI (fun q => ?_) hW.2.2.2.2.2.1 h3 hS2.1.2.1 (fun ζ hE hF3 => ?_)
  · rcases hr with hr | hr
    · exact absurd hr q
    · exact ⟨hr, by omega, (hS2.2.2 r hr.1 hr.2).1, (hW.2.2.2.2.2.2 r hr.1 hr.2).1⟩
  · have e3 : ζ 1 0 3 = s 2 := (hF3 1 0 3 (by omega)).trans hS2.1.1
    rw [e3]
    refine ⟨zin_sm (by omega), zlf (hK _ (fun s' hO => ?_) ?_) ?_⟩
    · have hF4 : fr (fun t i k => (t = 1 ∧ i = 0) ∨ ((t = 2 ∨ t = 3 ∨ t = 4 ∨ t = 5) ∧ i = s 2) ∨ (11 ≤ t ∧ t ≤ 14)) ν (mup ζ 1 0 3 (s 2 + 1)) := fr_up (fr_tr (fr_mono hF2 (fun t i k q => by omega)) (fr_mono hF3 (fun t i k q => by omega))) (Or.inl ⟨rfl, rfl⟩)
      refine CI_st hp' hC1 hF4 (fun t i k q => by omega) ?_
      obtain ⟨⟨o0, o1, o2, o3, o4, o5⟩, o6, o7, o8⟩ := hO
      have hS3 : ST ζ 0 s := ⟨⟨e3, (hF3 1 0 4 (by omega)).trans hS2.1.2.1, (hF3 1 0 5 (by omega)).trans hS2.1.2.2.1, (hF3 1 0 6 (by omega)).trans hS2.1.2.2.2⟩, IM_fr hS2.2.1 hF3 (fun k => by omega) (fun k => by omega), fun f f0 f1 => FR_fr (hS2.2.2 f f0 f1) hF3 (fun k => ⟨by omega, by omega, by omega, by omega⟩)⟩
      have mvI : ∀ (i : Int) (q : Int → Int) (f : Int), IM ζ i q f → IM (mup ζ 1 0 3 (s 2 + 1)) i q f := fun i q f h => IM_fr (P := fun t _ _ => t = 1) h (fr_up fr_rf rfl) (fun k => by omega) (fun k => by omega)
      have mvF : ∀ (i : Int) (q : Int → Int) (f : Int), FR ζ i q f → FR (mup ζ 1 0 3 (s 2 + 1)) i q f := fun i q f h => FR_fr (P := fun t _ _ => t = 1) h (fr_up fr_rf rfl) (fun k => ⟨by omega, by omega, by omega, by omega⟩)
      have hsame : ∀ g, 0 ≤ g → g < s 2 → SAME s g s' g := fun g g0 g1 => (o7 g g0 g1).1.1
      refine ⟨⟨?_, ?_, ?_, ?_⟩, mvI _ _ _ ⟨hS3.2.1.1.trans o0.symm, hS3.2.1.2.1.trans o1.symm, fun c d0 d1 => ?_⟩, fun f f0 f1 => mvF _ _ _ ?_⟩
      · rw [mup_self, o2]
      · rw [mup_k (by decide), o3]; exact hS3.1.2.1
      · rw [mup_k (by decide), o4]; exact hS3.1.2.2.1
      · rw [mup_k (by decide), o5]; exact hS3.1.2.2.2
      · rw [o0, o1] at d1
        rw [o6 c d0 d1]
        exact hS3.2.1.2.2 c d0 d1
      · by_cases q : f = s 2
        · rw [q]
          refine FR_rec hW.1 o0 o1 ?_ hE o8 (fun z => ?_)
          · exact IM_fr hI hF3 (fun k => by omega) (fun k => by omega)
          · rcases hr with hr | hr
            · exact absurd hr z
            · exact hsame r hr.1 hr.2
        · refine FR_ag hW.1 o0 o1 (o7 f f0 (by omega)) (fun z => ?_) (hS3.2.2 f f0 (by omega))
          rcases (hW.2.2.2.2.2.2 f f0 (by omega)).2.1 with y | y
          · exact absurd y z
          · exact hsame _ y.1 (by omega)
    · refine fr_up (fr_tr (fr_mono hF1 (fun t i k q => ⟨by omega, by omega, fun _ => by omega⟩)) (fr_tr (fr_mono hF2 (fun t i k q => ⟨by omega, by omega, fun _ => by omega⟩)) (fr_mono hF3 (fun t i k q => ⟨by omega, by omega, fun _ => by omega⟩)))) ⟨by omega, by omega, fun _ => by omega⟩
    · rw [mup_t (by decide), show (11 : Int) * 0 + s 2 = s 2 by omega] at *
      exact hE.2.2.1
/-- what the canvas would cost -/
theorem s_costOfCanvas {r : Int} {K : Int → mzM → Prop} (hW : WF s) (hS : ST μ 0 s) (hr : fok s r) (hK : ∀ ν, ST ν 0 s → fr Psc μ ν → K (call s (-1) r) ν) : ZI f_X7_costOfCanvas [vR 0 0, vI r] μ K := by
  have h10 := hW.2.1
  have h3 := hW.2.2.1
  refine vc_X7_costOfCanvas_0 (s_takeI hW.1 hS.2.1 (fun ξ hI hF2 => ?_))
  have hS2 : ST ξ 0 s := ST_fr hS hF2 (fun k => by omega) (fun k => ⟨by omega, by omega⟩) (fun f f0 f1 k => ⟨by omega, by omega, by omega, by omega⟩)
  refine s_encode hW.1 hI (fun q => ?_) hW.2.2.2.2.2.1 h3 hS2.1.2.1 (fun ζ hE hF3 => ?_)
  · rcases hr with hr | hr
    · exact absurd hr q
    · exact ⟨hr, by omega, (hS2.2.2 r hr.1 hr.2).1, (hW.2.2.2.2.2.2 r hr.1 hr.2).1⟩
  · have hS3 : ST ζ 0 s := ST_fr hS2 hF3 (fun k => by omega) (fun k => ⟨by omega, by omega⟩) (fun f f0 f1 k => ⟨by omega, by omega, by omega, by omega⟩)
    exact zlf (hK ζ hS3 (fr_tr (fr_mono hF2 (fun t i k q => by omega)) (fr_mono hF3 (fun t i k q => by omega)))) hE.2.2.1
end Add
end
section
/-! ===== plans ===== -/
abbrev ksel (set f : Int) : Prop := zand (zshr set f) 1 = 1
def pstep (kc nc : Int → Int) (set : Int) (a : Int × Int × Int) (f : Int) : Int × Int × Int := if ksel set f then (a.1 + kc f, kc f, if a.2.2 < kc f then kc f else a.2.2) else (a.1 + nc f, a.2.1 + nc f, if a.2.2 < a.2.1 + nc f then a.2.1 + nc f else a.2.2)
def plof (kc nc : Int → Int) (set n rate : Int) : Int := (ifold (pstep kc nc set) (0, 0, 0) 0 n.toNat).1 + rate * (ifold (pstep kc nc set) (0, 0, 0) 0 n.toNat).2.2
noncomputable def kcs (s : Int → Int) (f : Int) : Int := call s f (-1)
noncomputable def ncs (s : Int → Int) (f : Int) : Int := call s f (f - 1)
noncomputable def spof (s : Int → Int) (set : Int) : Int := plof (kcs s) (ncs s) set (s 2) (s 5)
def sbits (x : Int) : Int := isum (fun k => zand (zshr x k) 1) 0 10
def bc1 (x : Int) : Int := x - zand (zushr x 1) 1431655765
def bc2 (x : Int) : Int := zand (bc1 x) 858993459 + zand (zushr (bc1 x) 2) 858993459
def bc3 (x : Int) : Int := bc2 x + zushr (bc2 x) 4
def bc4 (x : Int) : Int := zand (bc3 x) 252645135
def bc5 (x : Int) : Int := bc4 x + zushr (bc4 x) 8
def bc6 (x : Int) : Int := bc5 x + zushr (bc5 x) 16
abbrev bcP (x : Int) : Prop := (zin (bc1 x) ∧ zin (bc2 x)) ∧ (zin (bc3 x) ∧ zin (bc5 x)) ∧ zin (bc6 x) ∧ zand (bc6 x) 63 = sbits x
theorem bcok : ∀ a : Nat, a < 32 → ∀ b : Nat, b < 32 → bcP ((32 * a + b : Nat) : Int) := by decide +kernel
theorem s_bitCount {μ : mzM} {x : Int} {K : Int → mzM → Prop} (h0 : 0 ≤ x) (h1 : x < 1024) (h : K (sbits x) μ) : ZI f_J6_bitCount_0f7a4 [vI x] μ K := by
  have hb := bcok (x.toNat / 32) (by omega) (x.toNat % 32) (by omega)
  rw [show ((32 * (x.toNat / 32) + x.toNat % 32 : Nat) : Int) = x by omega] at hb
  obtain ⟨⟨b1, b2⟩, ⟨b3, b5⟩, b6, b7⟩ := hb
  exact vc_J6_bitCount_0f7a4_0 ⟨b1, b2, b3, b5, b6, zlf h b7⟩
theorem zshl1 : ∀ m : Nat, m < 11 → zshl 1 (m : Int) = ((2 ^ m : Nat) : Int) := by decide +kernel
theorem ksel0_a : ∀ m : Nat, m < 512 → ksel ((2 * m + 1 : Nat) : Int) 0 := by decide +kernel
theorem ksel0 {x : Int} (h0 : 0 ≤ x) (h1 : x < 1024) (h2 : x % 2 = 1) : ksel x 0 := by
  have h := ksel0_a (x.toNat / 2) (by omega)
  rw [show ((2 * (x.toNat / 2) + 1 : Nat) : Int) = x by omega] at h
  exact h
/-- how many sets of key frames there are beside the first -/
def pcnt (n : Int) : Nat := 2 ^ (n.toNat - 1) - 1
theorem pcnt_a : ∀ m : Nat, m < 10 → 2 * (2 ^ m - 1) + 2 = 2 ^ (m + 1) ∧ 2 ^ (m + 1) ≤ 1024 := by decide +kernel
theorem pcnt_ok {n : Int} (h0 : 1 ≤ n) (h1 : n ≤ 10) : zshl 1 n = 2 * (pcnt n : Int) + 2 ∧ (pcnt n : Int) ≤ 511 := by
  have h := zshl1 n.toNat (by omega)
  obtain ⟨g1, g2⟩ := pcnt_a (n.toNat - 1) (by omega)
  rw [show ((n.toNat : Nat) : Int) = n by omega] at h
  rw [show n.toNat - 1 + 1 = n.toNat by omega] at g1 g2
  unfold pcnt
  omega
noncomputable def bstep (c : Int → Int) (a : Int × Int) (j : Int) : Int × Int := if c (3 + 2 * j) < a.1 ∨ (c (3 + 2 * j) = a.1 ∧ sbits (3 + 2 * j) < sbits a.2) then (c (3 + 2 * j), 3 + 2 * j) else a
noncomputable def pbest (s : Int → Int) : Int × Int := ifold (bstep (spof s)) (spof s 1, 1) 0 (pcnt (s 2))
theorem bstep_inv {c : Int → Int} {n : Nat} (hn : n ≤ 511) {a : Int × Int} {j : Int} (j0 : 0 ≤ j) (j1 : j < n) (h : 0 ≤ a.2 ∧ a.2 < 1024 ∧ a.2 % 2 = 1) : 0 ≤ (bstep c a j).2 ∧ (bstep c a j).2 < 1024 ∧ (bstep c a j).2 % 2 = 1 := by
  unfold bstep
  split
  · show 0 ≤ 3 + 2 * j ∧ 3 + 2 * j < 1024 ∧ (3 + 2 * j) % 2 = 1
    omega
  · exact h
theorem pbest_ok {s : Int → Int} (h0 : 1 ≤ s 2) (h1 : s 2 ≤ 10) : 0 ≤ (pbest s).2 ∧ (pbest s).2 < 1024 ∧ (pbest s).2 % 2 = 1 := by
  have hp := (pcnt_ok h0 h1).2
  unfold pbest
  exact ifold_inv (I := fun a _ => 0 ≤ a.2 ∧ a.2 < 1024 ∧ a.2 % 2 = 1) (pcnt (s 2)) (spof s 1, 1) 0 (fun a j j0 j1 h => bstep_inv (n := pcnt (s 2)) (by omega) j0 (by omega) h) (show (0 : Int) ≤ 1 ∧ (1 : Int) < 1024 ∧ (1 : Int) % 2 = 1 by decide)
/-- the reference of a frame by the best plan -/
noncomputable def prf (s : Int → Int) (f : Int) : Int := if ksel (pbest s).2 f then -1 else f - 1
theorem prf_ok {s : Int → Int} (h0 : 1 ≤ s 2) (h1 : s 2 ≤ 10) {f : Int} (f0 : 0 ≤ f) : prf s f = -1 ∨ (0 ≤ prf s f ∧ prf s f < f) := by
  unfold prf
  split
  · exact Or.inl rfl
  · next q =>
    by_cases hf : f = 0
    · obtain ⟨g1, g2, g3⟩ := pbest_ok h0 h1
      rw [hf] at q
      exact absurd (ksel0 g1 g2 g3) q
    · exact Or.inr ⟨by omega, by omega⟩
theorem pstep_inv {s : Int → Int} (hD : WD s) {set : Int} {a : Int × Int × Int} {f : Int} (h : (0 ≤ a.1 ∧ a.1 ≤ 308 * f) ∧ (0 ≤ a.2.1 ∧ a.2.1 ≤ 308 * f) ∧ (0 ≤ a.2.2 ∧ a.2.2 ≤ 308 * f)) : (0 ≤ (pstep (kcs s) (ncs s) set a f).1 ∧ (pstep (kcs s) (ncs s) set a f).1 ≤ 308 * (f + 1)) ∧ (0 ≤ (pstep (kcs s) (ncs s) set a f).2.1 ∧ (pstep (kcs s) (ncs s) set a f).2.1 ≤ 308 * (f + 1)) ∧ (0 ≤ (pstep (kcs s) (ncs s) set a f).2.2 ∧ (pstep (kcs s) (ncs s) set a f).2.2 ≤ 308 * (f + 1)) := by
  have h1 : 2 ≤ kcs s f ∧ kcs s f ≤ 308 := call_b hD f (-1)
  have h2 : 2 ≤ ncs s f ∧ ncs s f ≤ 308 := call_b hD f (f - 1)
  unfold pstep
  split
  · dsimp only
    refine ⟨by omega, by omega, ?_⟩
    split <;> omega
  · dsimp only
    refine ⟨by omega, by omega, ?_⟩
    split <;> omega
theorem rate_b {r g : Int} (r0 : 0 ≤ r) (r1 : r ≤ 9) (g0 : 0 ≤ g) (g1 : g ≤ 3080) : 0 ≤ r * g ∧ r * g ≤ 27720 := by
  have h1 : r * g ≤ 9 * 3080 := Int.mul_le_mul r1 g1 g0 (by omega)
  exact ⟨Int.mul_nonneg r0 g0, by omega⟩
section Pln
variable {μ : mzM} {s : Int → Int}
theorem s_costOfSet {set : Int} {K : Int → mzM → Prop} (hW : WF s) (h0 : ksel set 0) (hk : ∀ f, 0 ≤ f → f < s 2 → μ 16 0 f = kcs s f) (hc : ∀ f, 1 ≤ f → f < s 2 → μ 17 0 f = ncs s f) (h : K (spof s set) μ) : ZI f_X3_costOf [vR 15 0, vI set, vI (s 2), vI (s 5)] μ K := by
  have h10 := hW.2.1
  have h5 := hW.2.2.2.2.1
  refine vc_X3_costOf_0 ?_
  refine ifold_loop (g := pstep (kcs s) (ncs s) set) (C := fun a k => ∀ v8 v9 : mzV, ZW f_X3_costOf 8 [vR 15 0, vI set, vI (s 2), vI (s 5), vI a.1, vI a.2.1, vI a.2.2, vI k, v8, v9] [] μ (fun r ν => ∃ a, r = some (vI a) ∧ K a ν)) (I := fun a k => (0 ≤ a.1 ∧ a.1 ≤ 308 * k) ∧ (0 ≤ a.2.1 ∧ a.2.1 ≤ 308 * k) ∧ (0 ≤ a.2.2 ∧ a.2.2 ≤ 308 * k)) (lo := 0) (hi := s 2) ?_ ?_ (s 2).toNat (0, 0, 0) 0 (by omega) (by omega) (by decide) ?_ none none
  · intro a k k0 k1 ha
    exact pstep_inv hW.1 ha
  · intro a k k0 k1 ha hC v8 v9
    refine vc_X3_costOf_8 ?_
    rw [if_pos k1, if_pos (by omega), if_pos (by omega)]
    have h1 : 2 ≤ kcs s k ∧ kcs s k ≤ 308 := call_b hW.1 k (-1)
    have h2 : 2 ≤ ncs s k ∧ ncs s k ≤ 308 := call_b hW.1 k (k - 1)
    unfold pstep at hC
    split
    · next q =>
      rw [if_pos q] at hC
      rw [hk k k0 k1]
      exact ⟨⟨k0, by omega⟩, zin_sm (by omega), s_max ⟨zin_sm (by omega), hC _ _⟩⟩
    · next q =>
      have k2 : 1 ≤ k := by
        rcases Int.lt_or_le k 1 with z | z
        · have : k = 0 := by omega
          rw [this] at q
          exact absurd h0 q
        · exact z
      rw [if_neg q] at hC
      rw [hc k k2 k1]
      exact ⟨⟨k0, by omega⟩, zin_sm (by omega), zin_sm (by omega), s_max ⟨zin_sm (by omega), hC _ _⟩⟩
  · intro ha v8 v9
    refine vc_X3_costOf_8 ?_
    rw [if_neg (by omega)]
    have hr := rate_b h5.1 h5.2 ha.2.2.1 (by omega)
    exact ⟨zin_sm (by omega), zin_sm (by omega), zlf h rfl⟩
abbrev Pms : Nat → Int → Int → Prop := fun t i _ => ((t = 2 ∨ t = 3 ∨ t = 4 ∨ t = 5) ∧ i = 77) ∨ (11 ≤ t ∧ t ≤ 14) ∨ t = 16 ∨ t = 17
theorem ST_ms {ν : mzM} (hW : WF s) (hS : ST μ 0 s) {P : Nat → Int → Int → Prop} (h : fr P μ ν) (hP : ∀ t i k, P t i k → Pms t i k) : ST ν 0 s := by
  have h10 := hW.2.1
  have h := fr_mono h hP
  exact ST_fr hS h (fun k => by omega) (fun k => ⟨by omega, by omega⟩) (fun f f0 f1 k => ⟨by omega, by omega, by omega, by omega⟩)
theorem s_measure {K : mzM → Prop} (hW : WF s) (hS : ST μ 0 s) (hK : ∀ ν, ST ν 0 s → fr Pms μ ν → (∀ f, 0 ≤ f → f < s 2 → ν 16 0 f = kcs s f) → (∀ f, 1 ≤ f → f < s 2 → ν 17 0 f = ncs s f) → K ν) : ZV f_X3_measure [vR 15 0, vR 1 0, vR 11 0, vR 2 77, vI (s 2)] μ K := by
  have h10 := hW.2.1
  have h3 := hW.2.2.1
  refine vc_X3_measure_0 ?_
  have key : ∀ f, 0 ≤ f → f ≤ s 2 → ∀ ν : mzM, ST ν 0 s → fr Pms μ ν → (∀ g, 0 ≤ g → g < f → ν 16 0 g = kcs s g) → (∀ g, 1 ≤ g → g < f → ν 17 0 g = ncs s g) → ZW f_X3_measure 2 [vR 15 0, vR 1 0, vR 11 0, vR 2 77, vI (s 2), vI f] [] ν (fun r ν => r = none ∧ K ν) := by
    intro f f0 f1
    refine iter_down (C := fun f => ∀ ν : mzM, ST ν 0 s → fr Pms μ ν → (∀ g, 0 ≤ g → g < f → ν 16 0 g = kcs s g) → (∀ g, 1 ≤ g → g < f → ν 17 0 g = ncs s g) → ZW f_X3_measure 2 [vR 15 0, vR 1 0, vR 11 0, vR 2 77, vI (s 2), vI f] [] ν (fun r ν => r = none ∧ K ν)) (lo := 0) (hi := s 2) ?_ ?_ f0 f1
    · intro f f0 f1 ih ν hS hF hk hc
      refine vc_X3_measure_2 ?_
      rw [if_pos f1, if_pos (by omega), if_pos (by omega)]
      refine s_X6_imageOf hW (Or.inr ⟨f0, f1⟩) (s_takeI hW.1 (ST_im hS (Or.inr ⟨f0, f1⟩)) (fun ξ hI hF2 => ?_))
      have hS2 := ST_ms hW hS hF2 (fun t i k q => by omega)
      have hV : SV s f := (hW.2.2.2.2.2.2 f f0 f1).1
      refine s_encode hW.1 hI (fun q => absurd rfl q) hV h3 hS2.1.2.1 (fun ζ hE hF3 => ?_)
      have hS3 := ST_ms hW hS2 hF3 (fun t i k q => by omega)
      have hI3 : IM ζ 77 s f := IM_fr hI hF3 (fun k => by omega) (fun k => by omega)
      have e1 : ζ 2 77 3 = kcs s f := hE.2.2.1
      have hF23 : fr Pms ν ζ := fr_tr (fr_mono hF2 (fun t i k q => by omega)) (fr_mono hF3 (fun t i k q => by omega))
      have hFz : fr Pms μ (mup ζ 16 0 f (ζ 2 77 3)) := fr_up (fr_tr hF hF23) (Or.inr (Or.inr (Or.inl rfl)))
      have up : ∀ (t : Nat) (k v : Int), t = 16 ∨ t = 17 → ∀ ω : mzM, ST ω 0 s → ST (mup ω t 0 k v) 0 s := fun t k v ht ω h => ST_ms hW h (P := fun t' _ _ => t' = t) (fr_up fr_rf rfl) (fun t' i k q => by omega)
      have hk2 : ∀ g, 0 ≤ g → g < f + 1 → (mup ζ 16 0 f (ζ 2 77 3)) 16 0 g = kcs s g := by
        intro g g0 g1
        by_cases q : g = f
        · rw [q, mup_self, e1]
        · rw [mup_k q, hF3 16 0 g (by omega), hF2 16 0 g (by omega)]
          exact hk g g0 (by omega)
      have hc2 : ∀ g, 1 ≤ g → g < f → (mup ζ 16 0 f (ζ 2 77 3)) 17 0 g = ncs s g := by
        intro g g0 g1
        rw [mup_t (by decide), hF3 17 0 g (by omega), hF2 17 0 g (by omega)]
        exact hc g g0 g1
      refine ⟨⟨f0, by omega⟩, ?_⟩
      split
      · next q =>
        have hS4 := up 16 f (ζ 2 77 3) (Or.inl rfl) ζ hS3
        have hI4 : IM (mup ζ 16 0 f (ζ 2 77 3)) 77 s f := IM_fr (P := fun t _ _ => t = 16) hI3 (fr_up fr_rf rfl) (fun k => by omega) (fun k => by omega)
        refine ⟨zin_sm (by omega), s_encode hW.1 hI4 (fun z => ⟨⟨by omega, by omega⟩, by omega, (hS4.2.2 (f - 1) (by omega) (by omega)).1, (hW.2.2.2.2.2.2 (f - 1) (by omega) (by omega)).1⟩) hV h3 hS4.1.2.1 (fun ω hE2 hF5 => ?_)⟩
        have hS5 := ST_ms hW hS4 hF5 (fun t i k q => by omega)
        have e2 : ω 2 77 3 = ncs s f := hE2.2.2.1
        refine ⟨⟨f0, by omega⟩, zin_sm (by omega), ih _ (up 17 f _ (Or.inr rfl) ω hS5) (fr_up (fr_tr hFz (fr_mono hF5 (fun t i k q => by omega))) (Or.inr (Or.inr (Or.inr rfl)))) (fun g g0 g1 => ?_) (fun g g0 g1 => ?_)⟩
        · rw [mup_t (by decide), hF5 16 0 g (by omega)]
          exact hk2 g g0 g1
        · by_cases z : g = f
          · rw [z, mup_self, e2]
          · rw [mup_k z, hF5 17 0 g (by omega)]
            exact hc2 g g0 (by omega)
      · next q => exact ⟨zin_sm (by omega), ih _ (up 16 f _ (Or.inl rfl) ζ hS3) hFz hk2 (fun g g0 g1 => hc2 g g0 (by omega))⟩
    · intro ν hS hF hk hc
      refine vc_X3_measure_2 ?_
      rw [if_neg (by omega)]
      exact ⟨rfl, hK ν hS hF hk hc⟩
  exact key 0 (by omega) (by omega) μ hS fr_rf (fun g g0 g1 => by omega) (fun g g0 g1 => by omega)
theorem s_plan {K : mzM → Prop} (hW : WF s) (hS : ST μ 0 s) (hn : 1 ≤ s 2) (hK : ∀ ν, ST ν 0 s → fr Psc μ ν → ν 15 0 2 = (pbest s).1 → ν 15 0 3 = (pbest s).2 → K ν) : ZV f_X3_plan [vR 15 0, vR 1 0, vR 11 0, vR 2 77] μ K := by
  have h10 := hW.2.1
  have h5 := hW.2.2.2.2.1
  obtain ⟨hcnt, h511⟩ := pcnt_ok hn h10.2
  refine vc_X3_plan_0 (s_min ?_)
  rw [hS.1.1]
  have e : (if (10 : Int) < s 2 then 10 else s 2) = s 2 := by split <;> omega
  rw [e]
  refine s_measure hW hS (fun ν hS1 hF hk hc => ?_)
  rw [hS1.1.2.2.2]
  refine s_costOfSet hW (by decide +kernel) hk hc ?_
  have st15 : ∀ (ω : mzM) (k v : Int), ST ω 0 s → ST (mup ω 15 0 k v) 0 s := fun ω k v h => ST_fr (P := fun t _ _ => t = 15) h (fr_up fr_rf rfl) (fun k => by omega) (fun k => ⟨by omega, by omega⟩) (fun f f0 f1 k => ⟨by omega, by omega, by omega, by omega⟩)
  have Pq : fr Psc μ ν := fr_mono hF (fun t i k q => by omega)
  have key : ∀ (a : Int × Int) (ω : mzM) (v6 v7 : mzV), ω 15 0 2 = a.1 → ω 15 0 3 = a.2 → ST ω 0 s → fr Psc μ ω → (∀ f, 0 ≤ f → f < s 2 → ω 16 0 f = kcs s f) → (∀ f, 1 ≤ f → f < s 2 → ω 17 0 f = ncs s f) → (a = (spof s 1, 1)) → ZW f_X3_plan 24 [vR 15 0, vR 1 0, vR 11 0, vR 2 77, vI (s 2), vI 3, v6, v7] [] ω (fun r ν => r = none ∧ K ν) := by
    intro a ω v6 v7 e1 e2 hS2 hF2 hk2 hc2 ea
    have lp := ifold_loop (g := bstep (spof s)) (C := fun a j => ∀ (ω : mzM) (v6 v7 : mzV), ω 15 0 2 = a.1 → ω 15 0 3 = a.2 → ST ω 0 s → fr Psc μ ω → (∀ f, 0 ≤ f → f < s 2 → ω 16 0 f = kcs s f) → (∀ f, 1 ≤ f → f < s 2 → ω 17 0 f = ncs s f) → ZW f_X3_plan 24 [vR 15 0, vR 1 0, vR 11 0, vR 2 77, vI (s 2), vI (3 + 2 * j), v6, v7] [] ω (fun r ν => r = none ∧ K ν)) (I := fun a _ => 0 ≤ a.2 ∧ a.2 < 1024 ∧ a.2 % 2 = 1) (lo := 0) (hi := (pcnt (s 2) : Int)) (fun a j j0 j1 h => bstep_inv (n := pcnt (s 2)) (by omega) j0 j1 h) ?_ (pcnt (s 2)) a 0 (by omega) (by omega) (by rw [ea]; exact (show (0 : Int) ≤ 1 ∧ (1 : Int) < 1024 ∧ (1 : Int) % 2 = 1 by decide)) ?_ ω v6 v7 e1 e2 hS2 hF2 hk2 hc2
    · exact lp
    · intro a j j0 j1 ha hC ω v6 v7 e1 e2 hS2 hF2 hk2 hc2
      refine vc_X3_plan_24 ?_
      rw [if_pos (by rw [hcnt]; omega), hS2.1.2.2.2]
      refine s_costOfSet hW (ksel0 (by omega) (by omega) (by omega)) hk2 hc2 ?_
      refine s_bitCount (by omega) (by omega) ?_
      rw [e2]
      refine s_bitCount ha.1 ha.2.1 ?_
      rw [e1]
      have upd : ∀ (v x : Int), bstep (spof s) a j = (v, x) → ∀ v6 v7 : mzV, ZW f_X3_plan 24 [vR 15 0, vR 1 0, vR 11 0, vR 2 77, vI (s 2), vI (3 + 2 * j + 2), v6, v7] [] (mup (mup ω 15 0 2 v) 15 0 3 x) (fun r ν => r = none ∧ K ν) := by
        intro v x hb v6 v7
        rw [show 3 + 2 * j + 2 = 3 + 2 * (j + 1) by omega]
        refine hC _ v6 v7 ?_ ?_ (st15 _ _ _ (st15 _ _ _ hS2)) (fr_up (fr_up hF2 (by omega)) (by omega)) (fun f f0 f1 => ?_) (fun f f0 f1 => ?_)
        · rw [mup_k (by decide), mup_self, hb]
        · rw [mup_self, hb]
        · rw [mup_t (by decide), mup_t (by decide)]; exact hk2 f f0 f1
        · rw [mup_t (by decide), mup_t (by decide)]; exact hc2 f f0 f1
      have keep : bstep (spof s) a j = a → ∀ v6 v7 : mzV, ZW f_X3_plan 24 [vR 15 0, vR 1 0, vR 11 0, vR 2 77, vI (s 2), vI (3 + 2 * j + 2), v6, v7] [] ω (fun r ν => r = none ∧ K ν) := by
        intro hb v6 v7
        rw [show 3 + 2 * j + 2 = 3 + 2 * (j + 1) by omega]
        exact hC ω v6 v7 (by rw [hb]; exact e1) (by rw [hb]; exact e2) hS2 hF2 hk2 hc2
      unfold bstep at upd keep
      split
      · next q1 =>
        split
        · next q2 => exact ⟨zin_sm (by omega), upd _ _ (by rw [if_pos (Or.inl q2)]) _ _⟩
        · next q2 =>
          split
          · next q3 => exact ⟨zin_sm (by omega), upd _ _ (by rw [if_pos (Or.inr ⟨q3, q1⟩)]) _ _⟩
          · next q3 => exact ⟨zin_sm (by omega), keep (by rw [if_neg (by rintro (z | z); exact q2 z; exact q3 z.1)]) _ _⟩
      · next q1 =>
        split
        · next q2 => exact ⟨zin_sm (by omega), upd _ _ (by rw [if_pos (Or.inl q2)]) _ _⟩
        · next q2 =>
          have hk : ¬ (spof s (3 + 2 * j) < a.1 ∨ (spof s (3 + 2 * j) = a.1 ∧ sbits (3 + 2 * j) < sbits a.2)) := by
            rintro (z | z)
            · exact q2 z
            · exact q1 z.2
          split
          · exact ⟨zin_sm (by omega), keep (by rw [if_neg hk]) _ _⟩
          · exact ⟨zin_sm (by omega), keep (by rw [if_neg hk]) _ _⟩
    · intro _ ω v6 v7 e1 e2 hS2 hF2 hk2 hc2
      refine vc_X3_plan_24 ?_
      rw [if_neg (by rw [hcnt]; omega)]
      refine ⟨rfl, hK ω hS2 hF2 ?_ ?_⟩
      · rw [e1, ea]; rfl
      · rw [e2, ea]; rfl
  refine key (spof s 1, 1) _ none none ?_ ?_ (st15 _ _ _ (st15 _ _ _ hS1)) (fr_up (fr_up Pq (by omega)) (by omega)) (fun f f0 f1 => ?_) (fun f f0 f1 => ?_) rfl
  · rw [mup_k (by decide), mup_self]
  · rw [mup_self]
  · rw [mup_t (by decide), mup_t (by decide)]; exact hk f f0 f1
  · rw [mup_t (by decide), mup_t (by decide)]; exact hc f f0 f1
theorem s_referenceOf {f : Int} {K : Int → mzM → Prop} (f0 : 0 ≤ f) (f1 : f < 10) (hk : μ 15 0 3 = (pbest s).2) (h : K (prf s f) μ) : ZI f_X3_referenceOf [vR 15 0, vI f] μ K := by
  refine vc_X3_referenceOf_0 ?_
  rw [hk]
  unfold prf at h
  split
  · next q => rw [if_pos q] at h; exact zlf h rfl
  · next q => rw [if_neg q] at h; exact ⟨zin_sm (by omega), zlf h rfl⟩
end Pln
end
section
/-! ===== the calls of the class that change the state ===== -/
theorem EN_fr {P : Nat → Int → Int → Prop} {ν ξ : mzM} {F f r : Int} {s : Int → Int} (h : EN ν F s f r) (hF : fr P ν ξ) (hp : ∀ k, ¬ P 2 F k ∧ ¬ P 5 F k) : EN ξ F s f r := by
  obtain ⟨e1, e2, e3, e4⟩ := h
  refine ⟨(hF 2 F 2 (hp 2).1).trans e1, (hF 2 F 4 (hp 4).1).trans e2, (hF 2 F 3 (hp 3).1).trans e3, fun b b0 b1 => ?_⟩
  unfold CB
  rw [hF 5 F _ (hp _).2, hF 5 F _ (hp _).2, hF 5 F _ (hp _).2, hF 5 F _ (hp _).2]
  exact e4 b b0 b1
/-- all is coded anew by the best plan -/
def OPrec (s s' : Int → Int) : Prop := (s' 0 = s 0 ∧ s' 1 = s 1 ∧ s' 2 = s 2 ∧ s' 3 = s 3 ∧ s' 4 = s 4 ∧ s' 5 = s 5) ∧ SAME s (-1) s' (-1) ∧ ∀ f, 0 ≤ f → f < s 2 → REC s f (prf s f) s' f
theorem OPrec_wf {s s' : Int → Int} (hW : WF s) (hn : 1 ≤ s 2) (h : OPrec s s') : WF s' := by
  obtain ⟨⟨h0, h1, h2, h3, h4, h5⟩, h6, h7⟩ := h
  obtain ⟨w0, w1, w2, w3, w4, w5, w6⟩ := hW
  refine ⟨WD_same w0 h0 h1, by rw [h2]; exact w1, by rw [h3]; exact w2, by rw [h4]; exact w3, by rw [h5]; exact w4, fun c c0 c1 => ?_, fun f f0 f1 => ?_⟩
  · rw [h0, h1] at c1
    rw [h6 c c0 c1]
    exact w5 c c0 c1
  · rw [h2] at f1
    exact WFf_rec h0 h1 (h7 f f0 f1) (w6 f f0 f1).1 (prf_ok hn w1.2 f0)
/-- a new size -/
def OPsize (s : Int → Int) (w h : Int) (s' : Int → Int) : Prop := (s' 0 = w ∧ s' 1 = h ∧ s' 2 = 0 ∧ s' 3 = s 3 ∧ s' 4 = s 4 ∧ s' 5 = s 5) ∧ ∀ c, 0 ≤ c → c < w * h → sv s' (-1) c = 0
theorem OPsize_wf {s s' : Int → Int} {w h : Int} (hW : WF s) (hw : isz w) (hh : isz h) (hO : OPsize s w h s') : WF s' := by
  obtain ⟨⟨h0, h1, h2, h3, h4, h5⟩, h6⟩ := hO
  obtain ⟨w0, w1, w2, w3, w4, w5, w6⟩ := hW
  refine ⟨⟨by rw [h0]; exact hw, by rw [h1]; exact hh⟩, by rw [h2]; decide, by rw [h3]; exact w2, by rw [h4]; exact w3, by rw [h5]; exact w4, fun c c0 c1 => ?_, fun f f0 f1 => by omega⟩
  rw [h0, h1] at c1
  rw [h6 c c0 c1]
  decide
/-- the frames up to m and the header but for three places are the same -/
def OPhd (s s' : Int → Int) : Prop := s' 0 = s 0 ∧ s' 1 = s 1
def OPcv (s s' : Int → Int) : Prop := (s' 0 = s 0 ∧ s' 1 = s 1 ∧ s' 2 = s 2 ∧ s' 3 = s 3 ∧ s' 4 = s 4 ∧ s' 5 = s 5) ∧ ∀ f, 0 ≤ f → f < s 2 → AG s s' f
/-- another canvas -/
theorem OPcv_wf {s s' : Int → Int} (hW : WF s) (h : OPcv s s') (hV : SV s' (-1)) : WF s' := by
  obtain ⟨⟨h0, h1, h2, h3, h4, h5⟩, h7⟩ := h
  obtain ⟨w0, w1, w2, w3, w4, w5, w6⟩ := hW
  exact ⟨WD_same w0 h0 h1, by rw [h2]; exact w1, by rw [h3]; exact w2, by rw [h4]; exact w3, by rw [h5]; exact w4, hV, fun f f0 f1 => by rw [h2] at f1; exact WFf_ag h0 h1 (h7 f f0 f1) (w6 f f0 f1)⟩
def OPcell (s : Int → Int) (x v : Int) (s' : Int → Int) : Prop := OPcv s s' ∧ ∀ c, 0 ≤ c → c < s 0 * s 1 → sv s' (-1) c = if c = x then v else sv s (-1) c
theorem OPcell_wf {s s' : Int → Int} {x v : Int} (hW : WF s) (v0 : 0 ≤ v) (v1 : v ≤ 15) (h : OPcell s x v s') : WF s' := by
  refine OPcv_wf hW h.1 (fun c c0 c1 => ?_)
  rw [h.1.1.1, h.1.1.2.1] at c1
  rw [h.2 c c0 c1]
  split
  · exact ⟨v0, v1⟩
  · exact hW.2.2.2.2.2.1 c c0 c1
/-- other limits -/
def OPlim (s : Int → Int) (a b d : Int) (s' : Int → Int) : Prop := (s' 0 = s 0 ∧ s' 1 = s 1 ∧ s' 2 = s 2 ∧ s' 3 = a ∧ s' 4 = b ∧ s' 5 = d) ∧ SAME s (-1) s' (-1) ∧ ∀ f, 0 ≤ f → f < s 2 → AG s s' f
theorem OPlim_wf {s s' : Int → Int} {a b d : Int} (hW : WF s) (ha : 0 ≤ a ∧ a ≤ 4) (hb : 0 ≤ b ∧ b ≤ 9) (hd : 0 ≤ d ∧ d ≤ 9) (h : OPlim s a b d s') : WF s' := by
  obtain ⟨⟨h0, h1, h2, h3, h4, h5⟩, h6, h7⟩ := h
  obtain ⟨w0, w1, w2, w3, w4, w5, w6⟩ := hW
  refine ⟨WD_same w0 h0 h1, by rw [h2]; exact w1, by rw [h3]; exact ha, by rw [h4]; exact hb, by rw [h5]; exact hd, fun c c0 c1 => ?_, fun f f0 f1 => by rw [h2] at f1; exact WFf_ag h0 h1 (h7 f f0 f1) (w6 f f0 f1)⟩
  rw [h0, h1] at c1
  rw [h6 c c0 c1]
  exact w5 c c0 c1
/-- without the last frame -/
def OPrem (s s' : Int → Int) : Prop := (s' 0 = s 0 ∧ s' 1 = s 1 ∧ s' 2 = s 2 - 1 ∧ s' 3 = s 3 ∧ s' 4 = s 4 ∧ s' 5 = s 5) ∧ SAME s (-1) s' (-1) ∧ ∀ f, 0 ≤ f → f < s 2 - 1 → AG s s' f
theorem OPrem_wf {s s' : Int → Int} (hW : WF s) (hn : 1 ≤ s 2) (h : OPrem s s') : WF s' := by
  obtain ⟨⟨h0, h1, h2, h3, h4, h5⟩, h6, h7⟩ := h
  obtain ⟨w0, w1, w2, w3, w4, w5, w6⟩ := hW
  refine ⟨WD_same w0 h0 h1, by rw [h2]; omega, by rw [h3]; exact w2, by rw [h4]; exact w3, by rw [h5]; exact w4, fun c c0 c1 => ?_, fun f f0 f1 => by rw [h2] at f1; exact WFf_ag h0 h1 (h7 f f0 f1) (w6 f f0 (by omega))⟩
  rw [h0, h1] at c1
  rw [h6 c c0 c1]
  exact w5 c c0 c1
/-- a mark -/
def OPlost (s : Int → Int) (x v : Int) (s' : Int → Int) : Prop := (s' 0 = s 0 ∧ s' 1 = s 1 ∧ s' 2 = s 2 ∧ s' 3 = s 3 ∧ s' 4 = s 4 ∧ s' 5 = s 5) ∧ SAME s (-1) s' (-1) ∧ ∀ f, 0 ≤ f → f < s 2 → AGx s s' f ∧ slost s' f = if f = x then v else slost s f
theorem OPlost_wf {s s' : Int → Int} {x v : Int} (hW : WF s) (hv : v = 0 ∨ v = 1) (h : OPlost s x v s') : WF s' := by
  obtain ⟨⟨h0, h1, h2, h3, h4, h5⟩, h6, h7⟩ := h
  obtain ⟨w0, w1, w2, w3, w4, w5, w6⟩ := hW
  refine ⟨WD_same w0 h0 h1, by rw [h2]; exact w1, by rw [h3]; exact w2, by rw [h4]; exact w3, by rw [h5]; exact w4, fun c c0 c1 => ?_, fun f f0 f1 => ?_⟩
  · rw [h0, h1] at c1
    rw [h6 c c0 c1]
    exact w5 c c0 c1
  · rw [h2] at f1
    obtain ⟨a1, a2⟩ := h7 f f0 f1
    refine WFf_agx h0 h1 a1 ?_ (w6 f f0 f1)
    rw [a2]
    split
    · exact hv
    · exact (w6 f f0 f1).2.2.1
section Sets
variable {μ : mzM} {s : Int → Int} {n : Int} {p : Int → Int → Int} {K : Int → mzM → Prop}
/-- frames that agree: the state is that of s' but for what the header says -/
theorem ST_ag {s' : Int → Int} (hW : WF s) (hS : ST μ 0 s) (h0 : s' 0 = s 0) (h1 : s' 1 = s 1) (hn : s' 2 ≤ s 2) (hA : ∀ f, 0 ≤ f → f < s' 2 → AG s s' f) {ν : mzM} (hh : ν 1 0 3 = s' 2 ∧ ν 1 0 4 = s' 3 ∧ ν 1 0 5 = s' 4 ∧ ν 1 0 6 = s' 5) (hc : IM ν 78 s' (-1)) (hF : ∀ f, 0 ≤ f → f < s 2 → FR ν (11 * 0 + f) s f) : ST ν 0 s' := by
  refine ⟨hh, hc, fun f f0 f1 => FR_ag hW.1 h0 h1 (hA f f0 f1) (fun q => ?_) (hF f f0 (by omega))⟩
  rcases (hW.2.2.2.2.2.2 f f0 (by omega)).2.1 with y | y
  · exact absurd y q
  · exact (hA _ y.1 (by omega)).1.1
theorem IM_cv {s' : Int → Int} (hI : IM μ 78 s (-1)) (h0 : s' 0 = s 0) (h1 : s' 1 = s 1) (hc : SAME s (-1) s' (-1)) : IM μ 78 s' (-1) := ⟨hI.1.trans h0.symm, hI.2.1.trans h1.symm, fun c c0 c1 => by rw [h0, h1] at c1; rw [hc c c0 c1]; exact hI.2.2 c c0 c1⟩
theorem s_recode (hW : WF s) (hp : ∀ j, 0 ≤ j → j < n → WF (p j)) (hC : CI μ s n p) (hK0 : s 2 = 0 → K (-2) μ) (hK : 1 ≤ s 2 → ∀ ν, (∀ s', OPrec s s' → CI ν s' (pushn n) (pushp p n s)) → fr Pcl μ ν → K (pbest s).1 ν) : ZI f_X7_recode [vR 0 0] μ K := by
  have h10 := hW.2.1
  have h3 := hW.2.2.1
  have hp' := push_wf hW hp hC.2.2.1.2
  refine vc_X7_recode_0 ?_
  rw [hC.1.1.1]
  split
  · exact zlf (hK0 (by omega)) rfl
  · next q1 =>
    refine s_save hW hp hC (fun ν hC1 hF1 => s_plan hW hC1.1 (by omega) (fun ξ hS hF2 hb1 hb2 => ?_))
    have hC2 := CI_sc hW hp' hC1 hF2
    have key : ∀ f, 0 ≤ f → f ≤ s 2 → ∀ ω : mzM, fr (fun t i k => (t = 2 ∧ 0 ≤ i ∧ i < s 2) ∨ (t = 5 ∧ 0 ≤ i ∧ i < s 2) ∨ (11 ≤ t ∧ t ≤ 14)) ξ ω → (∀ g, 0 ≤ g → g < f → EN ω (11 * 0 + g) s g (prf s g)) → ZW f_X7_recode 20 [vR 0 0, vI f] [] ω (fun r ν => ∃ a, r = some (vI a) ∧ K a ν) := by
      intro f f0 f1
      refine iter_down (C := fun f => ∀ ω : mzM, fr (fun t i k => (t = 2 ∧ 0 ≤ i ∧ i < s 2) ∨ (t = 5 ∧ 0 ≤ i ∧ i < s 2) ∨ (11 ≤ t ∧ t ≤ 14)) ξ ω → (∀ g, 0 ≤ g → g < f → EN ω (11 * 0 + g) s g (prf s g)) → ZW f_X7_recode 20 [vR 0 0, vI f] [] ω (fun r ν => ∃ a, r = some (vI a) ∧ K a ν)) (lo := 0) (hi := s 2) ?_ ?_ f0 f1
      · intro f f0 f1 ih ω hF3 hE
        refine vc_X7_recode_20 ?_
        have e1 : ω 1 0 3 = s 2 := (hF3 1 0 3 (by omega)).trans hS.1.1
        have im : ∀ g, 0 ≤ g → g < s 2 → IM ω (11 * 0 + g) s g := fun g g0 g1 => IM_fr (hS.2.2 g g0 g1).1 hF3 (fun k => by omega) (fun k => by omega)
        rw [e1, if_pos f1]
        refine s_fa hW ⟨f0, f1⟩ (s_referenceOf f0 (by omega) ((hF3 15 0 3 (by omega)).trans hb2) ?_)
        refine s_encode hW.1 (im f f0 f1) (fun q => ?_) (hW.2.2.2.2.2.2 f f0 f1).1 h3 ((hF3 1 0 4 (by omega)).trans hS.1.2.1) (fun ζ hE2 hF4 => ?_)
        · rcases prf_ok (by omega) h10.2 f0 with z | z
          · exact absurd z q
          · exact ⟨⟨z.1, by omega⟩, by omega, im _ z.1 (by omega), (hW.2.2.2.2.2.2 _ z.1 (by omega)).1⟩
        · refine ⟨zin_sm (by omega), ih ζ (fr_tr hF3 (fr_mono hF4 (fun t i k q => by omega))) (fun g g0 g1 => ?_)⟩
          by_cases z : g = f
          · rw [z]; exact hE2
          · exact EN_fr (hE g g0 (by omega)) hF4 (fun k => ⟨by omega, by omega⟩)
      · intro ω hF3 hE
        refine vc_X7_recode_20 ?_
        have e1 : ω 1 0 3 = s 2 := (hF3 1 0 3 (by omega)).trans hS.1.1
        rw [e1, if_neg (by omega)]
        refine zlf (hK (by omega) ω (fun s' hO => ?_) ?_) ((hF3 15 0 2 (by omega)).trans hb1)
        · refine CI_st hp' hC2 hF3 (fun t i k q => by omega) ?_
          obtain ⟨⟨o0, o1, o2, o3, o4, o5⟩, o6, o7⟩ := hO
          refine ⟨⟨e1.trans o2.symm, ((hF3 1 0 4 (by omega)).trans hS.1.2.1).trans o3.symm, ((hF3 1 0 5 (by omega)).trans hS.1.2.2.1).trans o4.symm, ((hF3 1 0 6 (by omega)).trans hS.1.2.2.2).trans o5.symm⟩, IM_cv (IM_fr hS.2.1 hF3 (fun k => by omega) (fun k => by omega)) o0 o1 o6, fun f f0 f1 => ?_⟩
          rw [o2] at f1
          refine FR_rec hW.1 o0 o1 (IM_fr (hS.2.2 f f0 f1).1 hF3 (fun k => by omega) (fun k => by omega)) (hE f f0 f1) (o7 f f0 f1) (fun z => ?_)
          rcases prf_ok (by omega) h10.2 f0 with y | y
          · exact absurd y z
          · exact (o7 _ y.1 (by omega)).1
        · exact fr_tr (fr_mono hF1 (fun t i k q => ⟨by omega, by omega, fun _ => by omega⟩)) (fr_tr (fr_mono hF2 (fun t i k q => Psc_cl q)) (fr_mono hF3 (fun t i k q => ⟨by omega, by omega, fun _ => by omega⟩)))
    exact key 0 (by omega) (by omega) ξ fr_rf (fun g g0 g1 => by omega)
theorem s_isSize {x : Int} (h1 : isz x → K 1 μ) (h0 : ¬ isz x → K 0 μ) : ZI f_X7_isSize [vI x] μ K := by
  refine vc_X7_isSize_0 ?_
  split
  · next q => exact zlf (h1 (Or.inl q)) rfl
  · split
    · next q => exact zlf (h1 (Or.inr (Or.inl q))) rfl
    · split
      · next q => exact zlf (h1 (Or.inr (Or.inr q))) rfl
      · next a b c => exact zlf (h0 (by rintro (z | z | z); exact a z; exact b z; exact c z)) rfl
theorem s_reset {o w h : Int} {K : mzM → Prop} (hK : ∀ ν, (ν 3 o 1 = w ∧ ν 3 o 2 = h ∧ ∀ c, 0 ≤ c → c < 144 → ν 4 o c = 0) → fr (Pim o) μ ν → K ν) : ZV f_X2_reset [vR 3 o, vI w, vI h] μ K := by
  refine vc_X2_reset_0 ?_
  have key : ∀ k, 0 ≤ k → k ≤ 144 → ∀ ν : mzM, (ν 3 o 1 = w ∧ ν 3 o 2 = h ∧ ∀ c, 0 ≤ c → c < k → ν 4 o c = 0) → fr (Pim o) μ ν → ZW f_X2_reset 8 [vR 3 o, vI w, vI h, vI k] [] ν (fun r ν => r = none ∧ K ν) := by
    intro k k0 k1
    refine iter_down (C := fun k => ∀ ν : mzM, (ν 3 o 1 = w ∧ ν 3 o 2 = h ∧ ∀ c, 0 ≤ c → c < k → ν 4 o c = 0) → fr (Pim o) μ ν → ZW f_X2_reset 8 [vR 3 o, vI w, vI h, vI k] [] ν (fun r ν => r = none ∧ K ν)) (lo := 0) (hi := 144) ?_ ?_ k0 k1
    · intro k k0 k1 ih ν h1 hF
      refine vc_X2_reset_8 ?_
      rw [if_pos k1]
      refine ⟨⟨k0, k1⟩, zin_sm (by omega), ih _ ⟨?_, ?_, fun c c0 c1 => ?_⟩ (fr_up hF ⟨Or.inr rfl, rfl⟩)⟩
      · rw [mup_t (by decide)]; exact h1.1
      · rw [mup_t (by decide)]; exact h1.2.1
      · by_cases q : c = k
        · rw [q, mup_self]
        · rw [mup_k q]; exact h1.2.2 c c0 (by omega)
    · intro ν h1 hF
      refine vc_X2_reset_8 ?_
      rw [if_neg (by omega)]
      exact ⟨rfl, hK ν h1 hF⟩
  refine key 0 (by omega) (by omega) _ ⟨?_, ?_, fun c c0 c1 => by omega⟩ (fr_up (fr_up fr_rf ⟨Or.inl rfl, rfl⟩) ⟨Or.inl rfl, rfl⟩)
  · rw [mup_k (by decide), mup_self]
  · rw [mup_self]
theorem isz_b {w h : Int} (hw : isz w) (hh : isz h) : w / 4 * (h / 4) = w * h / 16 := by
  rcases hw with e | e | e <;> rcases hh with g | g | g <;> rw [e, g] <;> decide
theorem s_setSize {w h : Int} (hW : WF s) (hp : ∀ j, 0 ≤ j → j < n → WF (p j)) (hC : CI μ s n p) (hK0 : ¬ (isz w ∧ isz h) → K (-1) μ) (hK : isz w → isz h → ∀ ν, (∀ s', OPsize s w h s' → CI ν s' (pushn n) (pushp p n s)) → fr Pcl μ ν → K (w * h / 16) ν) : ZI f_X7_setSize [vR 0 0, vI w, vI h] μ K := by
  have hp' := push_wf hW hp hC.2.2.1.2
  refine vc_X7_setSize_0 (s_isSize (fun hw => ?_) (fun hw => ?_))
  · rw [if_neg (by omega)]
    refine s_isSize (fun hh => ?_) (fun hh => ?_)
    · rw [if_neg (by omega)]
      refine s_save hW hp hC (fun ν hC1 hF1 => s_reset (fun ξ hX hF2 => ?_))
      obtain ⟨x1, x2, x3⟩ := hX
      have hm : w * h ≤ 144 := by
        rcases hw with e | e | e <;> rcases hh with g | g | g <;> rw [e, g] <;> decide
      have hS1 := hC1.1.1
      have e1 : ξ 1 0 3 = 0 := (hF2 1 0 3 (by omega)).trans (mup_self _ _ _ _ _)
      have e4 : ξ 1 0 4 = s 3 := (hF2 1 0 4 (by omega)).trans ((mup_k (by decide)).trans hS1.2.1)
      have e5 : ξ 1 0 5 = s 4 := (hF2 1 0 5 (by omega)).trans ((mup_k (by decide)).trans hS1.2.2.1)
      have e6 : ξ 1 0 6 = s 5 := (hF2 1 0 6 (by omega)).trans ((mup_k (by decide)).trans hS1.2.2.2)
      have im : ∀ s', OPsize s w h s' → IM ξ 78 s' (-1) := by
        intro s' hO
        refine ⟨x1.trans hO.1.1.symm, x2.trans hO.1.2.1.symm, fun c c0 c1 => ?_⟩
        rw [hO.1.1, hO.1.2.1] at c1
        rw [hO.2 c c0 c1]
        exact x3 c c0 (by omega)
      have hO1 : OPsize s w h (fun k => if k = 0 then w else if k = 1 then h else if k = 2 then 0 else if k < 6 then s k else 0) := by
        refine ⟨⟨rfl, rfl, rfl, rfl, rfl, rfl⟩, fun c c0 c1 => ?_⟩
        show (if (-1 : Int) < 0 then _ else _) = (0 : Int)
        rw [if_pos (by decide)]
        dsimp only
        rw [if_neg (by omega), if_neg (by omega), if_neg (by omega), if_neg (by omega)]
      refine s_X2_blocks (OPsize_wf hW hw hh hO1).1 (im _ hO1) ?_
      refine zlf (hK hw hh ξ (fun s' hO => ?_) ?_) (isz_b hw hh)
      · refine CI_st (P := fun t i k => (t = 1 ∧ i = 0) ∨ ((t = 3 ∨ t = 4) ∧ i = 78)) hp' hC1 (fr_tr (fr_up fr_rf (Or.inl ⟨rfl, rfl⟩)) (fr_mono hF2 (fun t i k q => Or.inr q))) (fun t i k q => by omega) ⟨⟨e1.trans hO.1.2.2.1.symm, e4.trans hO.1.2.2.2.1.symm, e5.trans hO.1.2.2.2.2.1.symm, e6.trans hO.1.2.2.2.2.2.symm⟩, im s' hO, fun f f0 f1 => by rw [hO.1.2.2.1] at f1; omega⟩
      · exact fr_tr (fr_mono hF1 (fun t i k q => ⟨by omega, by omega, fun _ => by omega⟩)) (fr_tr (fr_up fr_rf ⟨by decide, by decide, fun q => by omega⟩) (fr_mono hF2 (fun t i k q => ⟨by omega, by omega, fun _ => by omega⟩)))
    · rw [if_pos rfl]; exact zlf (hK0 (fun z => hh z.2)) rfl
  · rw [if_pos rfl]; exact zlf (hK0 (fun z => hw z.1)) rfl
theorem s_setCell {x v : Int} (hW : WF s) (hp : ∀ j, 0 ≤ j → j < n → WF (p j)) (hC : CI μ s n p) (hK0 : ¬ ((0 ≤ x ∧ x < s 0 * s 1) ∧ 0 ≤ v ∧ v ≤ 15) → K (-1) μ) (hK : (0 ≤ x ∧ x < s 0 * s 1) → 0 ≤ v → v ≤ 15 → ∀ ν, (∀ s', OPcell s x v s' → CI ν s' (pushn n) (pushp p n s)) → fr Pcl μ ν → K (sv s (-1) x) ν) : ZI f_X7_setCell [vR 0 0, vI x, vI v] μ K := by
  have hp' := push_wf hW hp hC.2.2.1.2
  have hm := WD_mul hW.1
  refine vc_X7_setCell_0 (s_X2_hasCell hW.1 hC.1.2.1 ?_)
  by_cases hx : 0 ≤ x ∧ x < s 0 * s 1
  · rw [if_pos hx, if_neg (by omega)]
    split
    · exact zlf (hK0 (by omega)) rfl
    split
    · exact zlf (hK0 (by omega)) rfl
    · refine s_save hW hp hC (fun ν hC1 hF1 => s_num hx.1 (by omega) (s_X2_putNumbered ?_))
      rw [if_pos ⟨hx.1, by omega⟩]
      have hI : IM ν 78 s (-1) := hC1.1.2.1
      refine zlf (hK hx (by omega) (by omega) _ (fun s' hO => ?_) ?_) (hI.2.2 x hx.1 hx.2)
      · have hF : fr (fun t i k => t = 4 ∧ i = 78) ν (mup ν 4 78 x v) := fr_up fr_rf ⟨rfl, rfl⟩
        refine CI_st hp' hC1 hF (fun t i k q => by omega) ?_
        obtain ⟨⟨⟨o0, o1, o2, o3, o4, o5⟩, o6⟩, o7⟩ := hO
        have hh := hC1.1.1
        refine ST_ag hW hC1.1 o0 o1 (by omega) (fun f f0 f1 => o6 f f0 (by omega)) ⟨?_, ?_, ?_, ?_⟩ ⟨?_, ?_, fun c c0 c1 => ?_⟩ (fun f f0 f1 => FR_fr (hC1.1.2.2 f f0 f1) hF (fun k => by have := hW.2.1; exact ⟨by omega, by omega, by omega, by omega⟩))
        · rw [mup_t (by decide), o2]; exact hh.1
        · rw [mup_t (by decide), o3]; exact hh.2.1
        · rw [mup_t (by decide), o4]; exact hh.2.2.1
        · rw [mup_t (by decide), o5]; exact hh.2.2.2
        · rw [mup_t (by decide), o0]; exact hI.1
        · rw [mup_t (by decide), o1]; exact hI.2.1
        · rw [o0, o1] at c1
          rw [o7 c c0 c1]
          by_cases q : c = x
          · rw [if_pos q, q, mup_self]
          · rw [if_neg q, mup_k q]; exact hI.2.2 c c0 c1
      · exact fr_up (fr_mono hF1 (fun t i k q => ⟨by omega, by omega, fun _ => by omega⟩)) ⟨by decide, by decide, fun q => by omega⟩
  · rw [if_neg hx, if_pos rfl]; exact zlf (hK0 (fun z => hx z.1)) rfl
theorem s_removeLast (hW : WF s) (hp : ∀ j, 0 ≤ j → j < n → WF (p j)) (hC : CI μ s n p) (hK0 : s 2 = 0 → K (-2) μ) (hK : 1 ≤ s 2 → ∀ ν, (∀ s', OPrem s s' → CI ν s' (pushn n) (pushp p n s)) → fr Pcl μ ν → K (s 2 - 1) ν) : ZI f_X7_removeLast [vR 0 0] μ K := by
  have hp' := push_wf hW hp hC.2.2.1.2
  have h10 := hW.2.1
  refine vc_X7_removeLast_0 ?_
  rw [hC.1.1.1]
  split
  · exact zlf (hK0 (by omega)) rfl
  · refine s_save hW hp hC (fun ν hC1 hF1 => ?_)
    have hh := hC1.1.1
    rw [hh.1, mup_self]
    refine ⟨zin_sm (by omega), zlf (hK (by omega) _ (fun s' hO => ?_) ?_) rfl⟩
    · have hF : fr (fun t i k => t = 1 ∧ i = 0) ν (mup ν 1 0 3 (s 2 - 1)) := fr_up fr_rf ⟨rfl, rfl⟩
      refine CI_st hp' hC1 hF (fun t i k q => by omega) ?_
      obtain ⟨⟨o0, o1, o2, o3, o4, o5⟩, o6, o7⟩ := hO
      refine ST_ag hW hC1.1 o0 o1 (by omega) (fun f f0 f1 => o7 f f0 (by omega)) ⟨?_, ?_, ?_, ?_⟩ (IM_cv (IM_fr hC1.1.2.1 hF (fun k => by omega) (fun k => by omega)) o0 o1 o6) (fun f f0 f1 => FR_fr (hC1.1.2.2 f f0 f1) hF (fun k => ⟨by omega, by omega, by omega, by omega⟩))
      · rw [mup_self, o2]
      · rw [mup_k (by decide), o3]; exact hh.2.1
      · rw [mup_k (by decide), o4]; exact hh.2.2.1
      · rw [mup_k (by decide), o5]; exact hh.2.2.2
    · exact fr_up (fr_mono hF1 (fun t i k q => ⟨by omega, by omega, fun _ => by omega⟩)) ⟨by decide, by decide, fun q => by omega⟩
theorem s_setLimits {a b d : Int} (hW : WF s) (hp : ∀ j, 0 ≤ j → j < n → WF (p j)) (hC : CI μ s n p) (hK0 : ¬ ((0 ≤ a ∧ a ≤ 4) ∧ (0 ≤ b ∧ b ≤ 9) ∧ (0 ≤ d ∧ d ≤ 9)) → K (-1) μ) (hK : (0 ≤ a ∧ a ≤ 4) → (0 ≤ b ∧ b ≤ 9) → (0 ≤ d ∧ d ≤ 9) → ∀ ν, (∀ s', OPlim s a b d s' → CI ν s' (pushn n) (pushp p n s)) → fr Pcl μ ν → K (if s 3 = a ∧ s 4 = b ∧ s 5 = d then 0 else 1) ν) : ZI f_X7_setLimits [vR 0 0, vI a, vI b, vI d] μ K := by
  have hp' := push_wf hW hp hC.2.2.1.2
  have h10 := hW.2.1
  refine vc_X7_setLimits_0 ?_
  split
  · exact zlf (hK0 (by omega)) rfl
  split
  · exact zlf (hK0 (by omega)) rfl
  split
  · exact zlf (hK0 (by omega)) rfl
  split
  · exact zlf (hK0 (by omega)) rfl
  split
  · exact zlf (hK0 (by omega)) rfl
  split
  · exact zlf (hK0 (by omega)) rfl
  · refine s_save hW hp hC (fun ν hC1 hF1 => ?_)
    have hh := hC1.1.1
    rw [hh.2.1, hh.2.2.1, hh.2.2.2]
    have fin : K (if s 3 = a ∧ s 4 = b ∧ s 5 = d then 0 else 1) (mup (mup (mup ν 1 0 4 a) 1 0 5 b) 1 0 6 d) := by
      refine hK (by omega) (by omega) (by omega) _ (fun s' hO => ?_) ?_
      · have hF : fr (fun t i k => t = 1 ∧ i = 0) ν (mup (mup (mup ν 1 0 4 a) 1 0 5 b) 1 0 6 d) := fr_up (fr_up (fr_up fr_rf ⟨rfl, rfl⟩) ⟨rfl, rfl⟩) ⟨rfl, rfl⟩
        refine CI_st hp' hC1 hF (fun t i k q => by omega) ?_
        obtain ⟨⟨o0, o1, o2, o3, o4, o5⟩, o6, o7⟩ := hO
        refine ST_ag hW hC1.1 o0 o1 (by omega) (fun f f0 f1 => o7 f f0 (by omega)) ⟨?_, ?_, ?_, ?_⟩ (IM_cv (IM_fr hC1.1.2.1 hF (fun k => by omega) (fun k => by omega)) o0 o1 o6) (fun f f0 f1 => FR_fr (hC1.1.2.2 f f0 f1) hF (fun k => ⟨by omega, by omega, by omega, by omega⟩))
        · rw [mup_k (by decide), mup_k (by decide), mup_k (by decide), o2]; exact hh.1
        · rw [mup_k (by decide), mup_k (by decide), mup_self, o3]
        · rw [mup_k (by decide), mup_self, o4]
        · rw [mup_self, o5]
      · exact fr_up (fr_up (fr_up (fr_mono hF1 (fun t i k q => ⟨by omega, by omega, fun _ => by omega⟩)) ⟨by decide, by decide, fun q => by omega⟩) ⟨by decide, by decide, fun q => by omega⟩) ⟨by decide, by decide, fun q => by omega⟩
    split
    · split
      · split
        · next q1 q2 q3 => rw [if_pos ⟨q1, q2, q3⟩] at fin; exact zlf fin rfl
        · next q1 q2 q3 => rw [if_neg (fun z => q3 z.2.2)] at fin; exact zlf fin rfl
      · next q1 q2 => rw [if_neg (fun z => q2 z.2.1)] at fin; exact zlf fin rfl
    · next q1 => rw [if_neg (fun z => q1 z.1)] at fin; exact zlf fin rfl
theorem s_setLost {x v : Int} (hW : WF s) (hp : ∀ j, 0 ≤ j → j < n → WF (p j)) (hC : CI μ s n p) (hK0 : ¬ ((0 ≤ x ∧ x < s 2) ∧ 0 ≤ v ∧ v ≤ 1) → K (-1) μ) (hK1 : (0 ≤ x ∧ x < s 2) → slost s x = v → K (-2) μ) (hK : (0 ≤ x ∧ x < s 2) → (v = 0 ∨ v = 1) → slost s x ≠ v → ∀ ν, (∀ s', OPlost s x v s' → CI ν s' (pushn n) (pushp p n s)) → fr Pcl μ ν → ∀ s', OPlost s x v s' → K (sgoods s') ν) : ZI f_X7_setLost [vR 0 0, vI x, vI v] μ K := by
  have hp' := push_wf hW hp hC.2.2.1.2
  have h10 := hW.2.1
  refine vc_X7_setLost_0 (s_X6_isFrame hC.1 ?_)
  by_cases hx : 0 ≤ x ∧ x < s 2
  · rw [if_pos hx, if_neg (by omega)]
    have hl := (hW.2.2.2.2.2.2 x hx.1 hx.2).2.2.1
    have go : (v = 0 ∨ v = 1) → slost s x ≠ v → ∀ ν, CI ν s (pushn n) (pushp p n s) → fr Psv μ ν → ZI f_X6_readableFrames [vR 1 0] (mup ν 2 (11 * 0 + x) 4 v) (fun r ν => ∃ a, some (vI r) = some (vI a) ∧ K a ν) := by
      intro hv hne ν hC1 hF1
      have hF : fr (fun t i k => t = 2 ∧ i = 11 * 0 + x) ν (mup ν 2 (11 * 0 + x) 4 v) := fr_up fr_rf ⟨rfl, rfl⟩
      have hST : ∀ s', OPlost s x v s' → ST (mup ν 2 (11 * 0 + x) 4 v) 0 s' := by
        intro s' hO
        obtain ⟨⟨o0, o1, o2, o3, o4, o5⟩, o6, o7⟩ := hO
        have hh := hC1.1.1
        refine ⟨⟨?_, ?_, ?_, ?_⟩, IM_cv (IM_fr hC1.1.2.1 hF (fun k => by omega) (fun k => by omega)) o0 o1 o6, fun f f0 f1 => ?_⟩
        · rw [mup_t (by decide), o2]; exact hh.1
        · rw [mup_t (by decide), o3]; exact hh.2.1
        · rw [mup_t (by decide), o4]; exact hh.2.2.1
        · rw [mup_t (by decide), o5]; exact hh.2.2.2
        · rw [o2] at f1
          obtain ⟨r1, r2, r3, r4, r5⟩ := hC1.1.2.2 f f0 f1
          refine FR_agx hW.1 o0 o1 (o7 f f0 f1).1 (fun q => ?_) (IM_fr r1 hF (fun k => by omega) (fun k => by omega)) ?_ ?_ ?_ (fun b b0 b1 => ?_)
          · rcases (hW.2.2.2.2.2.2 f f0 f1).2.1 with y | y
            · exact absurd y q
            · exact (o7 _ y.1 (by omega)).1.1
          · rw [mup_k (by decide)]; exact r2
          · rw [mup_k (by decide)]; exact r4
          · rw [(o7 f f0 f1).2]
            by_cases q : f = x
            · rw [if_pos q, q, mup_self]
            · rw [if_neg q, mup_i (by omega)]; exact r3
          · rw [mup_t (by decide), mup_t (by decide), mup_t (by decide), mup_t (by decide)]
            exact r5 b b0 b1
      have hO1 : OPlost s x v (fun k => if k = 1600 + x then v else s k) := by
        have ne : ∀ k : Int, k ≠ 1600 + x → (fun k => if k = 1600 + x then v else s k) k = s k := fun k h => by show (if _ then _ else _) = _; rw [if_neg h]
        have ag : ∀ f, 0 ≤ f → f < 10 → ∀ c, 0 ≤ c → c < 144 → (fun k => if k = 1600 + x then v else s k) (150 + 144 * f + c) = s (150 + 144 * f + c) := fun f f0 f1 c c0 c1 => ne _ (by omega)
        have hm := WD_mul hW.1
        have hb := WD_blocks hW.1
        refine ⟨⟨ne 0 (by omega), ne 1 (by omega), ne 2 (by omega), ne 3 (by omega), ne 4 (by omega), ne 5 (by omega)⟩, fun c c0 c1 => ?_, fun f f0 f1 => ⟨⟨fun c c0 c1 => ?_, ?_, fun b b0 b1 => ⟨?_, ?_, ?_⟩⟩, ?_⟩⟩
        · unfold sv
          rw [if_pos (by decide), if_pos (by decide)]
          exact ne _ (by omega)
        · unfold sv
          rw [if_neg (by omega), if_neg (by omega)]
          exact ne _ (by omega)
        · exact ne _ (by omega)
        · exact ne _ (by omega)
        · exact ne _ (by omega)
        · exact ne _ (by omega)
        · unfold slost
          by_cases q : f = x
          · rw [if_pos q]
            dsimp only
            rw [if_pos (by omega)]
          · rw [if_neg q]
            dsimp only
            rw [if_neg (by omega)]
      have hgo : ∀ s', OPlost s x v s' → K (sgoods s') (mup ν 2 (11 * 0 + x) 4 v) := hK hx hv hne _ (fun s' hO => CI_st hp' hC1 hF (fun t i k q => by omega) (hST s' hO)) (fr_up (fr_mono hF1 (fun t i k q => ⟨by omega, by omega, fun _ => by omega⟩)) ⟨by decide, by decide, fun q => by omega⟩)
      exact s_X6_readable (OPlost_wf hW hv hO1) (hST _ hO1) (zlf (hgo _ hO1) rfl)
    split
    · exact zlf (hK0 (by omega)) rfl
    split
    · exact zlf (hK0 (by omega)) rfl
    split
    · next q =>
      refine s_fa hW hx ?_
      rw [(hC.1.2.2 x hx.1 hx.2).2.2.1]
      split
      · next q2 => exact zlf (hK1 hx (by omega)) rfl
      · next q2 => exact s_save hW hp hC (fun ν hC1 hF1 => s_fa hW hx ⟨Or.inr rfl, by have h := go (Or.inr q) (by omega) ν hC1 hF1; rw [q] at h; exact h⟩)
    · next q =>
      refine s_fa hW hx ?_
      rw [(hC.1.2.2 x hx.1 hx.2).2.2.1]
      have hv0 : v = 0 := by omega
      split
      · next q2 => exact zlf (hK1 hx (by omega)) rfl
      · next q2 => exact s_save hW hp hC (fun ν hC1 hF1 => s_fa hW hx ⟨Or.inl rfl, by have h := go (Or.inl hv0) (by omega) ν hC1 hF1; rw [hv0] at h; exact h⟩)
  · rw [if_neg hx, if_pos rfl]; exact zlf (hK0 (fun z => hx z.1)) rfl
end Sets
end
section
/-! ===== the questions: their answers, and the class's ===== -/
noncomputable def cif {α : Type} (p : Prop) (a b : α) : α := @ite α p (Classical.propDecidable p) a b
theorem cif_p {α : Type} {p : Prop} {a b : α} (h : p) : cif p a b = a := by unfold cif; rw [if_pos h]
theorem cif_n {α : Type} {p : Prop} {a b : α} (h : ¬ p) : cif p a b = b := by unfold cif; rw [if_neg h]
abbrev isF (s : Int → Int) (f : Int) : Prop := 0 ≤ f ∧ f < s 2
abbrev isC (s : Int → Int) (c : Int) : Prop := 0 ≤ c ∧ c < s 0 * s 1
abbrev isB (s : Int → Int) (b : Int) : Prop := 0 ≤ b ∧ b < sblocks s
abbrev isP (s : Int → Int) (x y : Int) : Prop := (0 ≤ x ∧ x ≤ s 0 - 4) ∧ (0 ≤ y ∧ y ≤ s 1 - 4)
noncomputable def qcell (s : Int → Int) (x : Int) : Int := cif (isC s x) (sv s (-1) x) (-1)
noncomputable def qdigest (s : Int → Int) (f x y : Int) : Int := cif (fok s f ∧ isP s x y) (cif (sgood s f) (sdig s f x y) (-2)) (-1)
noncomputable def qframe (s : Int → Int) (f w : Int) : Int := cif (isF s f) (if w = 0 then (if sref s f = -1 then -9 else sref s f) else if w = 1 then scost s f else if w = 2 then sseek s f else if w = 3 then sdepth s f else if w = 4 then cif (sgood s f) 1 0 else if w = 5 then skinds s f 0 else if w = 6 then skinds s f 1 else if w = 7 then skinds s f 2 else if w = 8 then skinds s f 3 else -1) (-1)
noncomputable def qcode (s : Int → Int) (f b p : Int) : Int := cif (isF s f ∧ isB s b) (if p = 0 then sits s f b else if p = 1 then (if sits s f b = 1 then s (1610 + 27 * f + 3 * b + 1) else -9) else if p = 2 then (if sits s f b = 1 then s (1610 + 27 * f + 3 * b + 2) else -9) else if p = 3 then (if 2 ≤ sits s f b then srin s f b else -9) else -1) (-1)
noncomputable def qrun (s : Int → Int) (f b r p : Int) : Int := cif ((isF s f ∧ isB s b) ∧ 0 ≤ r ∧ 0 ≤ p ∧ p ≤ 1) (if r < srin s f b then (if p = 0 then many (sgiv s f (if sits s f b = 2 then sref s f else -1) b) r 16 else rval (sgiv s f (if sits s f b = 2 then sref s f else -1) b) r 16) else -9) (-1)
noncomputable def qpixel (s : Int → Int) (f c : Int) : Int := cif (isF s f ∧ isC s c) (cif (sgood s f) (sv s f c) (-2)) (-1)
noncomputable def qcount (s : Int → Int) (n t w : Int) : Int := if w = 0 then s 0 else if w = 1 then s 1 else if w = 2 then s 2 else if w = 3 then s 3 else if w = 4 then s 4 else if w = 5 then s 5 else if w = 6 then scosts s else if w = 7 then sgoods s else if w = 8 then t else if w = 9 then n else -1
noncomputable def qcostWith (s : Int → Int) (r : Int) : Int := cif (fok s r) (cif (sgood s r) (call s (-1) r) (-2)) (-1)
noncomputable def qdiff (s : Int → Int) (f g : Int) : Int := cif (fok s f ∧ fok s g) (cif (sgood s f ∧ sgood s g) (sdiff s f g) (-2)) (-1)
/-- the first part in a row that is like block b of the canvas, else e -/
noncomputable def frow (s : Int → Int) (f b y e : Int) : Nat → Int → Int
  | 0, _ => e
  | n + 1, x => cif (slike s (-1) (sleft s b) (stop s b) f x y) (100 * x + y) (frow s f b y e n (x + 1))
noncomputable def fall (s : Int → Int) (f b : Int) : Nat → Int → Int
  | 0, _ => -9
  | n + 1, y => frow s f b y (fall s f b n (y + 1)) (s 0 - 3).toNat 0
noncomputable def qfind (s : Int → Int) (f b : Int) : Int := cif (isF s f ∧ isB s b) (cif (sgood s f) (fall s f b (s 1 - 3).toNat 0) (-2)) (-1)
/-- parts p and q (by their numbers) have one digest and differ -/
noncomputable def fpair (s : Int → Int) (f p q : Int) : Int := cif (sdig s f (p % (s 0 - 3)) (p / (s 0 - 3)) = sdig s f (q % (s 0 - 3)) (q / (s 0 - 3)) ∧ ¬ slike s f (p % (s 0 - 3)) (p / (s 0 - 3)) f (q % (s 0 - 3)) (q / (s 0 - 3))) 1 0
def spn (s : Int → Int) : Int := (s 0 - 3) * (s 1 - 3)
noncomputable def sfalse (s : Int → Int) (f : Int) : Int := isum (fun p => isum (fun q => fpair s f p q) (p + 1) (spn s - (p + 1)).toNat) 0 (spn s).toNat
noncomputable def qfalse (s : Int → Int) (f : Int) : Int := cif (fok s f) (cif (sgood s f) (sfalse s f) (-2)) (-1)
def qgreat (s : Int → Int) : Int := if s 2 < 1 then -9 else ifold (fun a f => if a < sseek s f then sseek s f else a) 0 0 (s 2).toNat
noncomputable def qdep (s : Int → Int) (f : Int) : Int := cif (isF s f) (isum (fun g => cif (f ∈ chn s 10 g) 1 0) 0 (s 2).toNat) (-1)
noncomputable def pst (s : Int → Int) (f : Int) (a g : Int) : Int := cif (sgood s g ∧ (a = -9 ∨ sdiff s f g < sdiff s f a)) g a
noncomputable def qpatch (s : Int → Int) (f : Int) : Int := cif (isF s f) (if slost s f = 0 then -2 else ifold (pst s f) (-9) 0 (s 2).toNat) (-1)
noncomputable def qplanCost (s : Int → Int) : Int := if s 2 < 1 then -9 else (pbest s).1
noncomputable def qplanKeys (s : Int → Int) : Int := if s 2 < 1 then -9 else (pbest s).2
noncomputable def chstep (s : Int → Int) (a : Int × Int × Int) (f : Int) : Int × Int × Int := cif ((sgood s f ∧ sdepth s f < s 4) ∧ (call s (-1) f < a.2.1 ∨ (call s (-1) f = a.2.1 ∧ sdepth s f + 1 ≤ a.2.2))) (f, call s (-1) f, sdepth s f + 1) a
noncomputable def schosen (s : Int → Int) : Int := (ifold (chstep s) (-1, call s (-1) (-1), 0) 0 (s 2).toNat).1
theorem sgood_neg (s : Int → Int) {f : Int} (h : f < 0) : sgood s f := fun g hg => by rw [chn_neg s _ h] at hg; cases hg
theorem sdiff_b {s : Int → Int} (hD : WD s) (f g : Int) : 0 ≤ sdiff s f g ∧ sdiff s f g ≤ 144 := by
  have hm := WD_mul hD
  have h := isum_bound (g := fun c => if sv s f c = sv s g c then 0 else 1) (lo := 0) (hi := 1) (s 0 * s 1).toNat 0 (fun j _ _ => by split <;> omega)
  unfold sdiff
  omega
theorem sseek_b {s : Int → Int} (hW : WF s) {f : Int} (hf : isF s f) : 2 ≤ sseek s f ∧ sseek s f ≤ 3080 := by
  have h1 := lsum_b (g := scost s) (hi := 308) (fun x => ⟨by have := scost_b hW.1 x; omega, (scost_b hW.1 x).2⟩)
  have h2 := chn_len s 10 f
  have h3 := h1 (chn s 10 f)
  have h4 := h1 (chn s 9 (sref s f))
  have h5 := scost_b hW.1 f
  unfold sseek
  refine ⟨?_, by omega⟩
  rw [chn_pos s 9 hf.1]
  show 2 ≤ scost s f + lsum (scost s) (chn s 9 (sref s f))
  omega
theorem schosen_ok {s : Int → Int} (hW : WF s) : fok s (schosen s) := by
  have h10 := hW.2.1
  unfold schosen
  exact ifold_inv (g := chstep s) (I := fun a _ => fok s a.1) (s 2).toNat (-1, call s (-1) (-1), 0) 0 (fun a j j0 j1 h => by
    unfold chstep cif
    split
    · exact Or.inr ⟨j0, by omega⟩
    · exact h) (Or.inl rfl)
section Ask
variable {μ : mzM} {s : Int → Int} {n : Int} {p : Int → Int → Int} {K : Int → mzM → Prop}
theorem s_cell {x : Int} (hW : WF s) (hS : ST μ 0 s) (h : K (qcell s x) μ) : ZI f_X7_cell [vR 0 0, vI x] μ K := by
  have hm := WD_mul hW.1
  refine vc_X7_cell_0 (s_X2_hasCell hW.1 hS.2.1 ?_)
  unfold qcell at h
  by_cases hx : isC s x
  · rw [cif_p hx] at h
    rw [if_pos hx, if_neg (by omega)]
    exact s_num hx.1 (by omega) (zlf h (hS.2.1.2.2 x hx.1 hx.2))
  · rw [cif_n hx] at h
    rw [if_neg hx, if_pos rfl]
    exact zlf h rfl
theorem s_frame {f w : Int} (hW : WF s) (hS : ST μ 0 s) (h : K (qframe s f w) μ) : ZI f_X7_frame [vR 0 0, vI f, vI w] μ K := by
  unfold qframe at h
  refine vc_X7_frame_0 (s_X6_isFrame hS ?_)
  by_cases hf : isF s f
  · rw [cif_p hf] at h
    rw [if_pos hf, if_neg (by omega)]
    refine s_fa hW hf ?_
    have hR := hS.2.2 f hf.1 hf.2
    rw [hR.2.1, hR.2.2.2.1]
    split
    · next q =>
      rw [if_pos q] at h
      split
      · next z => rw [if_pos z] at h; exact zlf h rfl
      · next z => rw [if_neg z] at h; exact zlf h rfl
    rename_i q
    rw [if_neg q] at h
    split
    · next q => rw [if_pos q] at h; exact zlf h rfl
    rename_i q
    rw [if_neg q] at h
    split
    · next q => rw [if_pos q] at h; exact s_X6_seekCost hW hS hf (zlf h rfl)
    rename_i q
    rw [if_neg q] at h
    split
    · next q => rw [if_pos q] at h; exact s_X6_depthOf hW hS hf (zlf h rfl)
    rename_i q
    rw [if_neg q] at h
    split
    · next q =>
      rw [if_pos q] at h
      refine s_X6_isReadable hW hS (Or.inr hf) (fun g => ?_) (fun g => ?_)
      · rw [cif_p g] at h; rw [if_neg (by omega)]; exact zlf h rfl
      · rw [cif_n g] at h; rw [if_pos rfl]; exact zlf h rfl
    rename_i q
    rw [if_neg q] at h
    split
    · next q => rw [if_pos q] at h; exact s_X1_codesOfKind hW.1 hR (zlf h rfl)
    rename_i q
    rw [if_neg q] at h
    split
    · next q => rw [if_pos q] at h; exact s_X1_codesOfKind hW.1 hR (zlf h rfl)
    rename_i q
    rw [if_neg q] at h
    split
    · next q => rw [if_pos q] at h; exact s_X1_codesOfKind hW.1 hR (zlf h rfl)
    rename_i q
    rw [if_neg q] at h
    split
    · next q => rw [if_pos q] at h; exact s_X1_codesOfKind hW.1 hR (zlf h rfl)
    next q => rw [if_neg q] at h; exact zlf h rfl
  · rw [cif_n hf] at h
    rw [if_neg hf, if_pos rfl]
    exact zlf h rfl
theorem s_pixel {f c : Int} (hW : WF s) (hS : ST μ 0 s) (h : K (qpixel s f c) μ) : ZI f_X7_pixel [vR 0 0, vI f, vI c] μ K := by
  unfold qpixel at h
  have hm := WD_mul hW.1
  refine vc_X7_pixel_0 (s_X6_isFrame hS ?_)
  by_cases hf : isF s f
  · rw [if_pos hf, if_neg (by omega)]
    refine s_X2_hasCell hW.1 hS.2.1 ?_
    by_cases hc : isC s c
    · rw [cif_p ⟨hf, hc⟩] at h
      rw [if_pos hc, if_neg (by omega)]
      refine s_X6_isReadable hW hS (Or.inr hf) (fun g => ?_) (fun g => ?_)
      · rw [cif_p g] at h
        rw [if_neg (by omega)]
        exact s_X6_imageOf hW (Or.inr hf) (s_num hc.1 (by omega) (zlf h ((ST_im hS (Or.inr hf)).2.2 c hc.1 hc.2)))
      · rw [cif_n g] at h
        rw [if_pos rfl]
        exact zlf h rfl
    · rw [cif_n (fun z => hc z.2)] at h
      rw [if_neg hc, if_pos rfl]
      exact zlf h rfl
  · rw [cif_n (fun z => hf z.1)] at h
    rw [if_neg hf, if_pos rfl]
    exact zlf h rfl
theorem s_count {w : Int} (hW : WF s) (hC : CI μ s n p) (h : K (qcount s n (μ 8 0 1) w) μ) : ZI f_X7_count [vR 0 0, vI w] μ K := by
  unfold qcount at h
  obtain ⟨hS, -, hn, -⟩ := hC
  refine vc_X7_count_0 ?_
  have e1 : μ 3 78 1 = s 0 := hS.2.1.1
  have e2 : μ 3 78 2 = s 1 := hS.2.1.2.1
  rw [e1, e2, hS.1.1, hS.1.2.1, hS.1.2.2.1, hS.1.2.2.2, hn.1]
  split
  · next q => rw [if_pos q] at h; exact zlf h rfl
  rename_i q
  rw [if_neg q] at h
  split
  · next q => rw [if_pos q] at h; exact zlf h rfl
  rename_i q
  rw [if_neg q] at h
  split
  · next q => rw [if_pos q] at h; exact zlf h rfl
  rename_i q
  rw [if_neg q] at h
  split
  · next q => rw [if_pos q] at h; exact zlf h rfl
  rename_i q
  rw [if_neg q] at h
  split
  · next q => rw [if_pos q] at h; exact zlf h rfl
  rename_i q
  rw [if_neg q] at h
  split
  · next q => rw [if_pos q] at h; exact zlf h rfl
  rename_i q
  rw [if_neg q] at h
  split
  · next q => rw [if_pos q] at h; exact s_X6_costOfRecords hW hS (zlf h rfl)
  rename_i q
  rw [if_neg q] at h
  split
  · next q => rw [if_pos q] at h; exact s_X6_readable hW hS (zlf h rfl)
  rename_i q
  rw [if_neg q] at h
  split
  · next q => rw [if_pos q] at h; exact zlf h rfl
  rename_i q
  rw [if_neg q] at h
  split
  · next q => rw [if_pos q] at h; exact zlf h rfl
  next q => rw [if_neg q] at h; exact zlf h rfl
theorem s_costWith {r : Int} (hW : WF s) (hS : ST μ 0 s) (h : ∀ ν, fr Psc μ ν → K (qcostWith s r) ν) : ZI f_X7_costWith [vR 0 0, vI r] μ K := by
  have hμ := h μ fr_rf
  unfold qcostWith at h hμ
  refine vc_X7_costWith_0 (s_X6_isImage hS (fun hf => ?_) (fun hf => ?_))
  · rw [cif_p hf] at h hμ
    rw [if_neg (by omega)]
    refine s_X6_isReadable hW hS hf (fun g => ?_) (fun g => ?_)
    · rw [cif_p g] at h
      rw [if_neg (by omega)]
      exact s_costOfCanvas hW hS hf (fun ν _ hF => zlf (h ν hF) rfl)
    · rw [cif_n g] at hμ
      rw [if_pos rfl]
      exact zlf hμ rfl
  · rw [cif_n hf] at hμ
    rw [if_pos rfl]
    exact zlf hμ rfl
theorem s_difference {f g : Int} (hW : WF s) (hS : ST μ 0 s) (h : K (qdiff s f g) μ) : ZI f_X7_difference [vR 0 0, vI f, vI g] μ K := by
  unfold qdiff at h
  refine vc_X7_difference_0 (s_X6_isImage hS (fun hf => ?_) (fun hf => ?_))
  · rw [if_neg (by omega)]
    refine s_X6_isImage hS (fun hg => ?_) (fun hg => ?_)
    · rw [cif_p ⟨hf, hg⟩] at h
      rw [if_neg (by omega)]
      refine s_X6_isReadable hW hS hf (fun g1 => ?_) (fun g1 => ?_)
      · rw [if_neg (by omega)]
        refine s_X6_isReadable hW hS hg (fun g2 => ?_) (fun g2 => ?_)
        · rw [cif_p ⟨g1, g2⟩] at h
          rw [if_neg (by omega)]
          exact s_X6_imageOf hW hf (s_X6_imageOf hW hg (s_X2_cellsUnlike hW.1 (ST_im hS hf) (ST_im hS hg) (zlf h rfl)))
        · rw [cif_n (fun z => g2 z.2)] at h
          rw [if_pos rfl]
          exact zlf h rfl
      · rw [cif_n (fun z => g1 z.1)] at h
        rw [if_pos rfl]
        exact zlf h rfl
    · rw [cif_n (fun z => hg z.2)] at h
      rw [if_pos rfl]
      exact zlf h rfl
  · rw [cif_n (fun z => hf z.1)] at h
    rw [if_pos rfl]
    exact zlf h rfl
end Ask
end
section
section Ask2
variable {μ : mzM} {s : Int → Int} {n : Int} {p : Int → Int → Int} {K : Int → mzM → Prop}
theorem s_greatestSeek (hW : WF s) (hS : ST μ 0 s) (h : K (qgreat s) μ) : ZI f_X7_greatestSeek [vR 0 0] μ K := by
  unfold qgreat at h
  have h10 := hW.2.1
  refine vc_X7_greatestSeek_0 ?_
  rw [hS.1.1]
  split
  · next q => rw [if_pos q] at h; exact zlf h rfl
  · next q =>
    rw [if_neg q] at h
    refine ifold_loop (g := fun a f => if a < sseek s f then sseek s f else a) (C := fun a k => ZW f_X7_greatestSeek 11 [vR 0 0, vI a, vI k] [] μ (fun r ν => ∃ a, r = some (vI a) ∧ K a ν)) (I := fun _ _ => True) (lo := 0) (hi := s 2) (fun _ _ _ _ _ => trivial) ?_ (s 2).toNat 0 0 (by omega) (by omega) trivial ?_
    · intro a k k0 k1 _ hC
      refine vc_X7_greatestSeek_11 ?_
      rw [hS.1.1, if_pos k1]
      exact s_X6_seekCost hW hS ⟨k0, k1⟩ (s_max ⟨zin_sm (by omega), hC⟩)
    · intro _
      refine vc_X7_greatestSeek_11 ?_
      rw [hS.1.1, if_neg (by omega)]
      exact zlf h rfl
theorem s_dependents {f : Int} (hW : WF s) (hS : ST μ 0 s) (h : K (qdep s f) μ) : ZI f_X7_dependents [vR 0 0, vI f] μ K := by
  unfold qdep at h
  have h10 := hW.2.1
  refine vc_X7_dependents_0 (s_X6_isFrame hS ?_)
  by_cases hf : isF s f
  · rw [cif_p hf] at h
    rw [if_pos hf, if_neg (by omega)]
    refine ifold_loop (g := fun a g => a + cif (f ∈ chn s 10 g) 1 0) (C := fun a k => ZW f_X7_dependents 11 [vR 0 0, vI f, vI a, vI k] [] μ (fun r ν => ∃ a, r = some (vI a) ∧ K a ν)) (I := fun a k => 0 ≤ a ∧ a ≤ k) (lo := 0) (hi := s 2) ?_ ?_ (s 2).toNat 0 0 (by omega) (by omega) (by omega) ?_
    · intro a k _ _ ha
      unfold cif
      split <;> omega
    · intro a k k0 k1 ha hC
      refine vc_X7_dependents_11 ?_
      rw [hS.1.1, if_pos k1]
      refine s_X6_chainHas hW hS ⟨k0, k1⟩ (fun g => ?_) (fun g => ?_)
      · rw [cif_p g] at hC
        rw [if_neg (by omega)]
        exact ⟨zin_sm (by omega), zin_sm (by omega), hC⟩
      · rw [cif_n g, Int.add_zero] at hC
        rw [if_pos rfl]
        exact ⟨zin_sm (by omega), hC⟩
    · intro _
      refine vc_X7_dependents_11 ?_
      rw [hS.1.1, if_neg (by omega)]
      exact zlf h rfl
  · rw [cif_n hf] at h
    rw [if_neg hf, if_pos rfl]
    exact zlf h rfl
theorem s_planCost (hW : WF s) (hS : ST μ 0 s) (h : ∀ ν, fr Psc μ ν → K (qplanCost s) ν) : ZI f_X7_planCost [vR 0 0] μ K := by
  have hμ := h μ fr_rf
  unfold qplanCost at h hμ
  refine vc_X7_planCost_0 ?_
  rw [hS.1.1]
  split
  · next q => rw [if_pos q] at hμ; exact zlf hμ rfl
  · next q => rw [if_neg q] at h; exact s_plan hW hS (by omega) (fun ν _ hF h1 _ => zlf (h ν hF) h1)
theorem spn_b {s : Int → Int} (hD : WD s) : 1 ≤ spn s ∧ spn s ≤ 81 := by
  obtain ⟨h1, h2⟩ := hD
  unfold spn
  rcases h1 with h1 | h1 | h1 <;> rcases h2 with h2 | h2 | h2 <;> rw [h1, h2] <;> decide
/-- where part number k lies -/
theorem spn_at {s : Int → Int} (hD : WD s) {k : Int} (k0 : 0 ≤ k) (k1 : k < spn s) : (0 ≤ k % (s 0 - 3) ∧ k % (s 0 - 3) ≤ s 0 - 4) ∧ (0 ≤ k / (s 0 - 3) ∧ k / (s 0 - 3) ≤ s 1 - 4) := by
  obtain ⟨h1, h2⟩ := hD
  unfold spn at k1
  rcases h1 with h1 | h1 | h1 <;> rcases h2 with h2 | h2 | h2 <;> rw [h1, h2] <;> rw [h1, h2] at k1 <;> omega
theorem isum_1 {g : Int → Int} (k : Int) (m : Nat) (h : ∀ j, 0 ≤ g j ∧ g j ≤ 1) : 0 ≤ isum g k m ∧ isum g k m ≤ m := by
  have := isum_bound (g := g) (lo := 0) (hi := 1) m k (fun j _ _ => h j)
  omega
theorem fpair_b (s : Int → Int) (f q j : Int) : 0 ≤ fpair s f q j ∧ fpair s f q j ≤ 1 := by
  unfold fpair cif
  split <;> omega
theorem s_addKey (hW : WF s) (hp : ∀ j, 0 ≤ j → j < n → WF (p j)) (hC : CI μ s n p) (hK0 : s 2 = 10 → K (-3) μ) (hK : s 2 < 10 → ∀ ν, (∀ s', OPadd s (-1) s' → CI ν s' (pushn n) (pushp p n s)) → fr Pcl μ ν → K (call s (-1) (-1)) ν) : ZI f_X7_addKey [vR 0 0] μ K := by
  have h10 := hW.2.1
  refine vc_X7_addKey_0 ?_
  rw [hC.1.1.1]
  split
  · next q => exact s_add_rec hW hp hC q (Or.inl rfl) (fun ν h1 h2 => zlf (hK q ν h1 h2) rfl)
  · exact zlf (hK0 (by omega)) rfl
theorem s_addDelta {r : Int} (hW : WF s) (hp : ∀ j, 0 ≤ j → j < n → WF (p j)) (hC : CI μ s n p) (hK1 : ¬ isF s r → K (-1) μ) (hK2 : isF s r → ¬ (sgood s r ∧ sdepth s r < s 4) → K (-2) μ) (hK3 : isF s r → (sgood s r ∧ sdepth s r < s 4) → s 2 = 10 → K (-3) μ) (hK : isF s r → (sgood s r ∧ sdepth s r < s 4) → s 2 < 10 → ∀ ν, (∀ s', OPadd s r s' → CI ν s' (pushn n) (pushp p n s)) → fr Pcl μ ν → K (call s (-1) r) ν) : ZI f_X7_addDelta [vR 0 0, vI r] μ K := by
  have h10 := hW.2.1
  refine vc_X7_addDelta_0 (s_X6_isFrame hC.1 ?_)
  by_cases hf : isF s r
  · rw [if_pos hf, if_neg (by omega)]
    refine s_X6_mayBe hW hC.1 hf (fun g => ?_) (fun g => ?_)
    · rw [if_neg (by omega), hC.1.1.1]
      split
      · next q => exact s_add_rec hW hp hC q (Or.inr hf) (fun ν h1 h2 => zlf (hK hf g q ν h1 h2) rfl)
      · exact zlf (hK3 hf g (by omega)) rfl
    · rw [if_pos rfl]; exact zlf (hK2 hf g) rfl
  · rw [if_neg hf, if_pos rfl]; exact zlf (hK1 hf) rfl
theorem s_chosen (hW : WF s) (hS : ST μ 0 s) (h : ∀ ν, ST ν 0 s → fr Psc μ ν → K (schosen s) ν) : ZI f_X7_chosenReference [vR 0 0] μ K := by
  have h10 := hW.2.1
  refine vc_X7_chosenReference_0 (s_costOfCanvas hW hS (Or.inl rfl) (fun ν hS1 hF1 => ?_))
  have lp := ifold_loop (g := chstep s) (C := fun a k => ∀ ν : mzM, ∀ v5 v6 : mzV, ST ν 0 s → fr Psc μ ν → ZW f_X7_chosenReference 10 [vR 0 0, vI a.1, vI a.2.1, vI a.2.2, vI k, v5, v6] [] ν (fun r ν => ∃ a, r = some (vI a) ∧ K a ν)) (I := fun _ _ => True) (lo := 0) (hi := s 2) (fun _ _ _ _ _ => trivial) ?_ (s 2).toNat (-1, call s (-1) (-1), 0) 0 (by omega) (by omega) trivial ?_ ν none none hS1 hF1
  · exact lp
  · intro a k k0 k1 _ hC ν v5 v6 hS1 hF1
    refine vc_X7_chosenReference_10 ?_
    rw [hS1.1.1, if_pos k1]
    unfold chstep at hC
    refine s_X6_mayBe hW hS1 ⟨k0, k1⟩ (fun g => ?_) (fun g => ?_)
    · rw [if_neg (by omega)]
      refine s_costOfCanvas hW hS1 (Or.inr ⟨k0, k1⟩) (fun ξ hS2 hF2 => s_X6_depthOf hW hS2 ⟨k0, k1⟩ ?_)
      have hF := fr_tr hF1 hF2
      have hd : 0 ≤ sdepth s k ∧ sdepth s k ≤ 10 := by
        have := chn_len s 10 (sref s k)
        unfold sdepth
        omega
      refine ⟨zin_sm (by omega), ?_⟩
      split
      · next q => rw [cif_p ⟨g, Or.inl q⟩] at hC; exact ⟨zin_sm (by omega), hC ξ _ _ hS2 hF⟩
      · next q =>
        split
        · next q2 =>
          split
          · next q3 =>
            rw [cif_n (by rintro ⟨_, z | z⟩; exact q z; omega)] at hC
            exact ⟨zin_sm (by omega), hC ξ _ _ hS2 hF⟩
          · next q3 => rw [cif_p ⟨g, Or.inr ⟨q2, by omega⟩⟩] at hC; exact ⟨zin_sm (by omega), hC ξ _ _ hS2 hF⟩
        · next q2 =>
          rw [cif_n (by rintro ⟨_, z | z⟩; exact q z; exact q2 z.1)] at hC
          exact ⟨zin_sm (by omega), hC ξ _ _ hS2 hF⟩
    · rw [cif_n (fun z => g z.1)] at hC
      rw [if_pos rfl]
      exact ⟨zin_sm (by omega), hC ν _ _ hS1 hF1⟩
  · intro _ ν v5 v6 hS1 hF1
    refine vc_X7_chosenReference_10 ?_
    rw [hS1.1.1, if_neg (by omega)]
    exact zlf (h ν hS1 hF1) rfl
theorem s_addChosen (hW : WF s) (hp : ∀ j, 0 ≤ j → j < n → WF (p j)) (hC : CI μ s n p) (hK0 : s 2 = 10 → K (-3) μ) (hK : s 2 < 10 → ∀ ν, (∀ s', OPadd s (schosen s) s' → CI ν s' (pushn n) (pushp p n s)) → fr Pcl μ ν → K (call s (-1) (schosen s)) ν) : ZI f_X7_addChosen [vR 0 0] μ K := by
  have h10 := hW.2.1
  refine vc_X7_addChosen_0 ?_
  rw [hC.1.1.1]
  split
  · next q =>
    refine s_chosen hW hC.1 (fun ν hS hF => ?_)
    exact s_add_rec hW hp (CI_sc hW hp hC hF) q (schosen_ok hW) (fun ξ h1 h2 => zlf (hK q ξ h1 (fr_tr (fr_mono hF (fun t i k z => Psc_cl z)) h2)) rfl)
  · exact zlf (hK0 (by omega)) rfl
end Ask2
end
section
/-! ===== there are states that meet what the calls promise ===== -/
theorem sv_p {s : Int → Int} {f c : Int} (h : 0 ≤ f) : sv s f c = s (150 + 144 * f + c) := by unfold sv; rw [if_neg (by omega)]
theorem sv_n (s : Int → Int) (c : Int) : sv s (-1) c = s (6 + c) := by unfold sv; rw [if_pos (by decide)]
/-- a memory that shows image g in the trial record, and the frames -/
def kmem (s : Int → Int) (g : Int) : mzM := fun t i k => if t = 3 then (if k = 1 then s 0 else s 1) else if t = 4 then (if i = 77 then sv s g k else sv s i k) else s 3
theorem CH_ex {s : Int → Int} {g r : Int} (hW : WF s) (hV : SV s g) (hr : r = -1 ∨ (0 ≤ r ∧ r < s 2)) : ∃ c : Int → Int → Int, ∀ b, 0 ≤ b → b < sblocks s → ∃ n q, CH s g r b (c b 0) (c b 1) (c b 2) n q := by
  have h10 := hW.2.1
  have h : ZV f_X0_encode [vR 11 0, vR 2 77, vR 1 0, vI r] (kmem s g) (fun ν => EN ν 77 s g r) := by
    refine s_encode (i := 0) hW.1 ⟨rfl, rfl, fun c _ _ => rfl⟩ (fun q => ?_) hV hW.2.2.1 rfl (fun ν h _ => h)
    have hr2 : 0 ≤ r ∧ r < s 2 := by
      rcases hr with hr | hr
      · exact absurd hr q
      · exact hr
    refine ⟨hr2, h10.2, ⟨rfl, rfl, fun c _ _ => ?_⟩, (hW.2.2.2.2.2.2 r hr2.1 hr2.2).1⟩
    show (if 11 * 0 + r = 77 then sv s g c else sv s (11 * 0 + r) c) = sv s r c
    rw [if_neg (by omega), show 11 * 0 + r = r by omega]
  obtain ⟨_, _, ν, _, _, hE⟩ := h
  refine ⟨fun b j => ν 5 77 (4 * b + j), fun b b0 b1 => ⟨ν 5 77 (4 * b + 3), ccost s g r b, ?_⟩⟩
  have hB := hE.2.2.2 b b0 b1
  show CH s g r b (ν 5 77 (4 * b + 0)) (ν 5 77 (4 * b + 1)) (ν 5 77 (4 * b + 2)) _ _
  rw [Int.add_zero]
  exact hB
/-- a state of m frames; from frame lo on they are coded anew -/
def nst (s : Int → Int) (m lo : Int) (src rf : Int → Int) (cd : Int → Int → Int → Int) : Int → Int := fun k =>
  if k = 2 then m else if k < 150 then s k
  else if k < 1590 then (if (k - 150) / 144 < lo then s k else sv s (src ((k - 150) / 144)) ((k - 150) % 144))
  else if k < 1600 then (if k - 1590 < lo then s k else rf (k - 1590))
  else if k < 1610 then (if k - 1600 < lo then s k else 0)
  else (if (k - 1610) / 27 < lo then s k else cd ((k - 1610) / 27) ((k - 1610) % 27 / 3) ((k - 1610) % 3))
section Nst
variable {s : Int → Int} {m lo : Int} {src rf : Int → Int} {cd : Int → Int → Int → Int} {f : Int}
theorem nst_lo {k : Int} (h : k < 150) (h2 : k ≠ 2) : nst s m lo src rf cd k = s k := by unfold nst; rw [if_neg h2, if_pos h]
theorem nst_2 : nst s m lo src rf cd 2 = m := by unfold nst; rw [if_pos rfl]
theorem nst_im {c : Int} (f0 : 0 ≤ f) (f1 : f < 10) (c0 : 0 ≤ c) (c1 : c < 144) : sv (nst s m lo src rf cd) f c = if f < lo then sv s f c else sv s (src f) c := by
  rw [sv_p f0, sv_p f0]
  unfold nst
  rw [if_neg (by omega), if_neg (by omega), if_pos (by omega), show (150 + 144 * f + c - 150) / 144 = f by omega, show (150 + 144 * f + c - 150) % 144 = c by omega]
theorem nst_rf (f0 : 0 ≤ f) (f1 : f < 10) : sref (nst s m lo src rf cd) f = if f < lo then sref s f else rf f := by
  unfold sref nst
  rw [if_neg (by omega), if_neg (by omega), if_neg (by omega), if_pos (by omega), show 1590 + f - 1590 = f by omega]
theorem nst_ls (f0 : 0 ≤ f) (f1 : f < 10) : slost (nst s m lo src rf cd) f = if f < lo then slost s f else 0 := by
  unfold slost nst
  rw [if_neg (by omega), if_neg (by omega), if_neg (by omega), if_neg (by omega), if_pos (by omega), show 1600 + f - 1600 = f by omega]
theorem nst_cd {b j : Int} (f0 : 0 ≤ f) (b0 : 0 ≤ b) (b1 : b < 9) (j0 : 0 ≤ j) (j1 : j < 3) : nst s m lo src rf cd (1610 + 27 * f + 3 * b + j) = if f < lo then s (1610 + 27 * f + 3 * b + j) else cd f b j := by
  unfold nst
  rw [if_neg (by omega), if_neg (by omega), if_neg (by omega), if_neg (by omega), if_neg (by omega), show (1610 + 27 * f + 3 * b + j - 1610) / 27 = f by omega, show (1610 + 27 * f + 3 * b + j - 1610) % 27 / 3 = b by omega, show (1610 + 27 * f + 3 * b + j - 1610) % 3 = j by omega]
theorem nst_ag (hD : WD s) (f0 : 0 ≤ f) (f1 : f < 10) (h : f < lo) : AG s (nst s m lo src rf cd) f := by
  have hm := WD_mul hD
  have hb := WD_blocks hD
  refine ⟨⟨fun c c0 c1 => ?_, ?_, fun b b0 b1 => ⟨?_, ?_, ?_⟩⟩, ?_⟩
  · rw [nst_im f0 f1 c0 (by omega), if_pos h]
  · rw [nst_rf f0 f1, if_pos h]
  · have e := nst_cd (s := s) (m := m) (lo := lo) (src := src) (rf := rf) (cd := cd) (j := 0) f0 b0 (by omega) (by omega) (by omega)
    rw [Int.add_zero, if_pos h] at e
    exact e
  · rw [nst_cd f0 b0 (by omega) (by omega) (by omega), if_pos h]
  · rw [nst_cd f0 b0 (by omega) (by omega) (by omega), if_pos h]
  · rw [nst_ls f0 f1, if_pos h]
theorem nst_rec {g r : Int} (hD : WD s) (f0 : 0 ≤ f) (f1 : f < 10) (h : ¬ f < lo) (hg : src f = g) (hr : rf f = r) (hc : ∀ b, 0 ≤ b → b < sblocks s → ∃ n q, CH s g r b (cd f b 0) (cd f b 1) (cd f b 2) n q) : REC s g r (nst s m lo src rf cd) f := by
  have hm := WD_mul hD
  have hb := WD_blocks hD
  refine ⟨fun c c0 c1 => ?_, ?_, ?_, fun b b0 b1 => ?_⟩
  · rw [nst_im f0 f1 c0 (by omega), if_neg h, hg]
  · rw [nst_rf f0 f1, if_neg h, hr]
  · rw [nst_ls f0 f1, if_neg h]
  · have e := nst_cd (s := s) (m := m) (lo := lo) (src := src) (rf := rf) (cd := cd) (j := 0) f0 b0 (by omega) (by omega) (by omega)
    rw [Int.add_zero, if_neg h] at e
    unfold sits
    rw [e, nst_cd f0 b0 (by omega) (by omega) (by omega), nst_cd f0 b0 (by omega) (by omega) (by omega), if_neg h, if_neg h]
    exact hc b b0 b1
theorem nst_cv (hD : WD s) : SAME s (-1) (nst s m lo src rf cd) (-1) := fun c c0 c1 => by
  have hm := WD_mul hD
  rw [sv_n, sv_n, nst_lo (by omega) (by omega)]
end Nst
theorem OPadd_ex {s : Int → Int} {r : Int} (hW : WF s) (hn : s 2 < 10) (hr : fok s r) : ∃ s', OPadd s r s' ∧ WF s' := by
  have h10 := hW.2.1
  obtain ⟨c, hc⟩ := CH_ex hW hW.2.2.2.2.2.1 hr
  have hO : OPadd s r (nst s (s 2 + 1) (s 2) (fun _ => -1) (fun _ => r) (fun _ => c)) :=
    ⟨⟨nst_lo (by decide) (by decide), nst_lo (by decide) (by decide), nst_2, nst_lo (by decide) (by decide), nst_lo (by decide) (by decide), nst_lo (by decide) (by decide)⟩, nst_cv hW.1, fun f f0 f1 => nst_ag hW.1 f0 (by omega) f1, nst_rec hW.1 h10.1 hn (by omega) rfl rfl hc⟩
  exact ⟨_, hO, OPadd_wf hW hn hr hO⟩
theorem OPrec_ex {s : Int → Int} (hW : WF s) (hn : 1 ≤ s 2) : ∃ s', OPrec s s' ∧ WF s' := by
  have h10 := hW.2.1
  have H : ∀ f : Int, ∃ c : Int → Int → Int, 0 ≤ f → f < s 2 → ∀ b, 0 ≤ b → b < sblocks s → ∃ n q, CH s f (prf s f) b (c b 0) (c b 1) (c b 2) n q := by
    intro f
    by_cases hf : 0 ≤ f ∧ f < s 2
    · obtain ⟨c, hc⟩ := CH_ex (g := f) (r := prf s f) hW (hW.2.2.2.2.2.2 f hf.1 hf.2).1 (by
        rcases prf_ok hn h10.2 hf.1 with q | q
        · exact Or.inl q
        · exact Or.inr ⟨q.1, by omega⟩)
      exact ⟨c, fun _ _ => hc⟩
    · exact ⟨fun _ _ => 0, fun a b => absurd ⟨a, b⟩ hf⟩
  obtain ⟨cd, hcd⟩ := Classical.axiomOfChoice H
  have hO : OPrec s (nst s (s 2) 0 (fun f => f) (prf s) cd) :=
    ⟨⟨nst_lo (by decide) (by decide), nst_lo (by decide) (by decide), nst_2, nst_lo (by decide) (by decide), nst_lo (by decide) (by decide), nst_lo (by decide) (by decide)⟩, nst_cv hW.1, fun f f0 f1 => nst_rec hW.1 f0 (by omega) (by omega) rfl rfl (hcd f f0 f1)⟩
  exact ⟨_, hO, OPrec_wf hW hn hO⟩
theorem AGx_of {s s' : Int → Int} {f : Int} (hD : WD s) (h : ∀ k, 150 ≤ k → ¬ (1600 ≤ k ∧ k < 1610) → s' k = s k) (f0 : 0 ≤ f) (f1 : f < 10) : AGx s s' f := by
  have hm := WD_mul hD
  refine ⟨fun c c0 c1 => ?_, h _ (by omega) (by omega), fun b b0 b1 => ⟨h _ (by omega) (by omega), h _ (by omega) (by omega), h _ (by omega) (by omega)⟩⟩
  rw [sv_p f0, sv_p f0]
  exact h _ (by omega) (by omega)
theorem AG_of {s s' : Int → Int} {f : Int} (hD : WD s) (h : ∀ k, 150 ≤ k → s' k = s k) (f0 : 0 ≤ f) (f1 : f < 10) : AG s s' f := ⟨AGx_of hD (fun k k0 _ => h k k0) f0 f1, h _ (by omega)⟩
theorem cv_of {s s' : Int → Int} (hD : WD s) (h : ∀ k, 6 ≤ k → k < 150 → s' k = s k) : SAME s (-1) s' (-1) := fun c c0 c1 => by
  have hm := WD_mul hD
  rw [sv_n, sv_n, h _ (by omega) (by omega)]
theorem OPsize_ex {s : Int → Int} {w h : Int} (hW : WF s) (hw : isz w) (hh : isz h) : ∃ s', OPsize s w h s' ∧ WF s' := by
  have hO : OPsize s w h (fun k => if k = 0 then w else if k = 1 then h else if k = 2 then 0 else if k < 6 then s k else 0) :=
    ⟨⟨rfl, rfl, rfl, rfl, rfl, rfl⟩, fun c c0 c1 => by
      rw [sv_n]
      show (if 6 + c = 0 then _ else _) = _
      rw [if_neg (by omega), if_neg (by omega), if_neg (by omega), if_neg (by omega)]⟩
  exact ⟨_, hO, OPsize_wf hW hw hh hO⟩
theorem OPcell_ex {s : Int → Int} {x v : Int} (hW : WF s) (hx : 0 ≤ x ∧ x < s 0 * s 1) (v0 : 0 ≤ v) (v1 : v ≤ 15) : ∃ s', OPcell s x v s' ∧ WF s' := by
  have hm := WD_mul hW.1
  have h10 := hW.2.1
  have e : ∀ k, k ≠ 6 + x → (fun k => if k = 6 + x then v else s k) k = s k := fun k h => if_neg h
  have hO : OPcell s x v (fun k => if k = 6 + x then v else s k) := by
    refine ⟨⟨⟨e _ (by omega), e _ (by omega), e _ (by omega), e _ (by omega), e _ (by omega), e _ (by omega)⟩, fun f f0 f1 => AG_of hW.1 (fun k k0 => e k (by omega)) f0 (by omega)⟩, fun c c0 c1 => ?_⟩
    rw [sv_n, sv_n]
    show (if 6 + c = 6 + x then v else s (6 + c)) = _
    by_cases q : c = x
    · rw [if_pos q, if_pos (by omega)]
    · rw [if_neg q, if_neg (by omega)]
  exact ⟨_, hO, OPcell_wf hW v0 v1 hO⟩
theorem OPlim_ex {s : Int → Int} {a b d : Int} (hW : WF s) (ha : 0 ≤ a ∧ a ≤ 4) (hb : 0 ≤ b ∧ b ≤ 9) (hd : 0 ≤ d ∧ d ≤ 9) : ∃ s', OPlim s a b d s' ∧ WF s' := by
  have h10 := hW.2.1
  have e : ∀ k, 6 ≤ k → (fun k => if k = 3 then a else if k = 4 then b else if k = 5 then d else s k) k = s k := fun k h => by
    show (if k = 3 then a else _) = _
    rw [if_neg (by omega), if_neg (by omega), if_neg (by omega)]
  have hO : OPlim s a b d (fun k => if k = 3 then a else if k = 4 then b else if k = 5 then d else s k) :=
    ⟨⟨rfl, rfl, rfl, rfl, rfl, rfl⟩, cv_of hW.1 (fun k k0 _ => e k k0), fun f f0 f1 => AG_of hW.1 (fun k k0 => e k (by omega)) f0 (by omega)⟩
  exact ⟨_, hO, OPlim_wf hW ha hb hd hO⟩
theorem OPrem_ex {s : Int → Int} (hW : WF s) (hn : 1 ≤ s 2) : ∃ s', OPrem s s' ∧ WF s' := by
  have h10 := hW.2.1
  have e : ∀ k, k ≠ 2 → (fun k => if k = 2 then s 2 - 1 else s k) k = s k := fun k h => if_neg h
  have hO : OPrem s (fun k => if k = 2 then s 2 - 1 else s k) :=
    ⟨⟨rfl, rfl, rfl, rfl, rfl, rfl⟩, cv_of hW.1 (fun k k0 _ => e k (by omega)), fun f f0 f1 => AG_of hW.1 (fun k k0 => e k (by omega)) f0 (by omega)⟩
  exact ⟨_, hO, OPrem_wf hW hn hO⟩
theorem OPlost_ex {s : Int → Int} {x v : Int} (hW : WF s) (hx : 0 ≤ x ∧ x < s 2) (hv : v = 0 ∨ v = 1) : ∃ s', OPlost s x v s' ∧ WF s' := by
  have h10 := hW.2.1
  have e : ∀ k, ¬ (1600 ≤ k ∧ k < 1610) → (fun k => if k = 1600 + x then v else s k) k = s k := fun k h => if_neg (by omega)
  have hO : OPlost s x v (fun k => if k = 1600 + x then v else s k) := by
    refine ⟨⟨e _ (by omega), e _ (by omega), e _ (by omega), e _ (by omega), e _ (by omega), e _ (by omega)⟩, cv_of hW.1 (fun k k0 _ => e k (by omega)), fun f f0 f1 => ⟨AGx_of hW.1 (fun k _ k1 => e k k1) f0 (by omega), ?_⟩⟩
    show (if 1600 + f = 1600 + x then v else s (1600 + f)) = _
    by_cases q : f = x
    · rw [if_pos q, if_pos (by omega)]
    · rw [if_neg q, if_neg (by omega)]; rfl
  exact ⟨_, hO, OPlost_wf hW hv hO⟩
end
section
/-! ===== what holds of states, and of states behind the calls ===== -/
theorem isum_ge {g : Int → Int} (h0 : ∀ j, 0 ≤ g j) : ∀ (n : Nat) (k j : Int), k ≤ j → j < k + n → g j ≤ isum g k n
  | 0, k, j, h1, h2 => absurd h1 (by omega)
  | n + 1, k, j, h1, h2 => by
    rw [isum_succ]
    have hb := (isum_bound (g := fun j => if 0 ≤ g j then 0 else 0) (lo := 0) (hi := 0) n (k + 1) (fun j _ _ => by simp)).1
    by_cases q : j = k
    · have h3 : 0 ≤ isum g (k + 1) n := by
        have : ∀ (n : Nat) (k : Int), 0 ≤ isum g k n := by
          intro n
          induction n with
          | zero => intro k; exact Int.le_refl 0
          | succ n ih => intro k; rw [isum_succ]; have := ih (k + 1); have := h0 k; omega
        exact this n (k + 1)
      rw [q]
      omega
    · have h3 := isum_ge h0 n (k + 1) j (by omega) (by omega)
      have := h0 k
      omega
theorem isum_add {g h : Int → Int} : ∀ (n : Nat) (k : Int), isum (fun j => g j + h j) k n = isum g k n + isum h k n
  | 0, k => rfl
  | n + 1, k => by rw [isum_succ, isum_succ, isum_succ, isum_add n (k + 1)]; omega
theorem isum_one : ∀ (n : Nat) (k : Int), isum (fun _ => 1) k n = n
  | 0, k => rfl
  | n + 1, k => by rw [isum_succ, isum_one n (k + 1)]; omega
/-- every code is of one of the four kinds -/
theorem kinds_sum {s : Int → Int} (hW : WF s) {f : Int} (hf : 0 ≤ f ∧ f < s 2) : skinds s f 0 + skinds s f 1 + skinds s f 2 + skinds s f 3 = sblocks s := by
  have hb := WD_blocks hW.1
  have e : isum (fun b => (((if sits s f b = 0 then (1 : Int) else 0) + (if sits s f b = 1 then 1 else 0)) + (if sits s f b = 2 then 1 else 0)) + (if sits s f b = 3 then 1 else 0)) 0 (sblocks s).toNat = isum (fun _ => 1) 0 (sblocks s).toNat := isum_congr _ _ (fun b b0 b1 => by
    have h := ((hW.2.2.2.2.2.2 f hf.1 hf.2).2.2.2 b b0 (by omega)).1
    by_cases q0 : sits s f b = 0
    · rw [if_pos q0, if_neg (by omega), if_neg (by omega), if_neg (by omega)]; rfl
    · by_cases q1 : sits s f b = 1
      · rw [if_neg q0, if_pos q1, if_neg (by omega), if_neg (by omega)]; rfl
      · by_cases q2 : sits s f b = 2
        · rw [if_neg q0, if_neg q1, if_pos q2, if_neg (by omega)]; rfl
        · rw [if_neg q0, if_neg q1, if_neg q2, if_pos (by omega)]; rfl)
  rw [isum_add (g := fun b => ((if sits s f b = 0 then (1 : Int) else 0) + (if sits s f b = 1 then 1 else 0)) + (if sits s f b = 2 then 1 else 0)) (h := fun b => if sits s f b = 3 then 1 else 0),
    isum_add (g := fun b => (if sits s f b = 0 then (1 : Int) else 0) + (if sits s f b = 1 then 1 else 0)) (h := fun b => if sits s f b = 2 then 1 else 0),
    isum_add (g := fun b => if sits s f b = 0 then (1 : Int) else 0) (h := fun b => if sits s f b = 1 then 1 else 0), isum_one] at e
  unfold skinds
  omega
theorem blocks_div {s : Int → Int} (hD : WD s) : (s 0 * s 1).tdiv 16 = sblocks s ∧ zin (s 0 * s 1) ∧ zin ((s 0 * s 1).tdiv 16) := by
  obtain ⟨h1, h2⟩ := hD
  unfold sblocks
  rcases h1 with h1 | h1 | h1 <;> rcases h2 with h2 | h2 | h2 <;> rw [h1, h2] <;> decide
theorem chn_in {s : Int → Int} (hW : WF s) : ∀ (n : Nat) (f : Int), fok s f → ∀ g ∈ chn s n f, 0 ≤ g ∧ g < s 2
  | 0, f, _, g, h => by cases h
  | n + 1, f, hf, g, h => by
    rcases hf with hf | hf
    · rw [chn_neg s _ (by omega)] at h; cases h
    · rw [chn_pos s n hf.1] at h
      rcases List.mem_cons.mp h with h | h
      · rw [h]; exact hf
      · exact chn_in hW n (sref s f) (fok_ref hW hf) g h
theorem chn_ag {s s' : Int → Int} (hW : WF s) (h : ∀ f, 0 ≤ f → f < s 2 → sref s' f = sref s f) : ∀ (n : Nat) (f : Int), fok s f → chn s' n f = chn s n f
  | 0, f, _ => rfl
  | n + 1, f, hf => by
    rcases hf with hf | hf
    · rw [chn_neg s _ (by omega), chn_neg s' _ (by omega)]
    · rw [chn_pos s n hf.1, chn_pos s' n hf.1, h f hf.1 hf.2, chn_ag hW h n (sref s f) (fok_ref hW hf)]
theorem good_m1 (s : Int → Int) : sgood s (-1) := fun g h => by rw [chn_neg s 10 (by decide)] at h; cases h
/-- a new frame can be decoded where its reference can -/
theorem good_new {s s' : Int → Int} {r : Int} (hW : WF s) (hn : s 2 < 10) (hr : fok s r) (hg : sgood s r) (hO : OPadd s r s') : sgood s' (s 2) := by
  have h10 := hW.2.1
  intro g h
  rw [chn_pos s' 9 h10.1, hO.2.2.2.2.1, chn_ag hW (fun f f0 f1 => (hO.2.2.1 f f0 f1).1.2.1) 9 r hr] at h
  rcases List.mem_cons.mp h with h | h
  · rw [h]; exact hO.2.2.2.2.2.1
  · have hi := chn_in hW 9 r hr g h
    rw [(hO.2.2.1 g hi.1 hi.2).2]
    refine hg g ?_
    rw [chn_stab hW 10 9 r hr (by rcases hr with hr | hr <;> omega) (by rcases hr with hr | hr <;> omega)]
    exact h
theorem cost_new {s s' : Int → Int} {r : Int} (hW : WF s) (hr : fok s r) (hO : OPadd s r s') : scost s' (s 2) = call s (-1) r :=
  scost_rec hW.1 hO.1.1 hO.1.2.1 hO.2.2.2 (fun q => by
    rcases hr with hr | hr
    · exact absurd hr q
    · exact (hO.2.2.1 r hr.1 hr.2).1.1)
theorem diff_new {s s' : Int → Int} {r : Int} (hW : WF s) (hO : OPadd s r s') : sdiff s' (s 2) (-1) = 0 := by
  have hm := WD_mul hW.1
  unfold sdiff
  rw [hO.1.1, hO.1.2.1]
  have e := isum_congr (g := fun c => if sv s' (s 2) c = sv s' (-1) c then 0 else 1) (g' := fun _ => 0) (s 0 * s 1).toNat 0 (fun c c0 c1 => by
    show (if _ then _ else _) = _
    rw [if_pos ((hO.2.2.2.1 c c0 (by omega)).trans (hO.2.1 c c0 (by omega)).symm)])
  rw [e]
  have := isum_bound (g := fun _ => 0) (lo := 0) (hi := 0) (s 0 * s 1).toNat 0 (fun j _ _ => by simp)
  omega
theorem seek_ge {s : Int → Int} (hW : WF s) {f : Int} (hf : 0 ≤ f ∧ f < s 2) : scost s f ≤ sseek s f := by
  unfold sseek
  rw [chn_pos s 9 hf.1]
  show scost s f ≤ scost s f + lsum (scost s) _
  have := (lsum_b (g := scost s) (hi := 308) (fun x => by have := scost_b hW.1 x; omega) (chn s 9 (sref s f))).1
  omega
theorem dep_ge {s : Int → Int} {f : Int} (hf : 0 ≤ f ∧ f < s 2) : 1 ≤ qdep s f := by
  have h := isum_ge (g := fun g => cif (f ∈ chn s 10 g) 1 0) (fun j => by unfold cif; split <;> omega) (s 2).toNat 0 f hf.1 (by omega)
  unfold qdep cif
  rw [if_pos hf]
  have e : cif (f ∈ chn s 10 f) (1 : Int) 0 = 1 := by
    unfold cif
    rw [chn_pos s 9 hf.1, if_pos List.mem_cons_self]
  have h2 : (1 : Int) ≤ isum (fun g => cif (f ∈ chn s 10 g) 1 0) 0 (s 2).toNat := by
    have h3 : cif (f ∈ chn s 10 f) (1 : Int) 0 ≤ isum (fun g => cif (f ∈ chn s 10 g) 1 0) 0 (s 2).toNat := h
    omega
  exact h2
/-- what is chosen may be chosen, and costs no more than a key frame -/
theorem chosen_ok {s : Int → Int} (hW : WF s) : (schosen s = -1 ∨ (isF s (schosen s) ∧ sgood s (schosen s))) ∧ call s (-1) (schosen s) ≤ call s (-1) (-1) := by
  have h10 := hW.2.1
  have h := ifold_inv (g := chstep s) (I := fun a _ => ((a.1 = -1 ∨ (isF s a.1 ∧ sgood s a.1)) ∧ a.2.1 = call s (-1) a.1) ∧ a.2.1 ≤ call s (-1) (-1)) (s 2).toNat (-1, call s (-1) (-1), 0) 0 (fun a j j0 j1 ha => by
    unfold chstep cif
    split
    · next q =>
      refine ⟨⟨Or.inr ⟨⟨j0, by omega⟩, q.1.1⟩, rfl⟩, ?_⟩
      show call s (-1) j ≤ _
      have := ha.2
      omega
    · exact ha) ⟨⟨Or.inl rfl, rfl⟩, Int.le_refl _⟩
  refine ⟨h.1.1, ?_⟩
  have h1 := h.1.2
  have h2 := h.2
  unfold schosen
  omega
/-! ===== what a record costs hangs on the images alone ===== -/
theorem like_same {s s' : Int → Int} {f g x y a b : Int} (hD : WD s) (h0 : s' 0 = s 0) (hf : SAME s f s' f) (hg : SAME s g s' g) (hx : 0 ≤ x ∧ x ≤ s 0 - 4) (hy : 0 ≤ y ∧ y ≤ s 1 - 4) (ha : 0 ≤ a ∧ a ≤ s 0 - 4) (hb : 0 ≤ b ∧ b ≤ s 1 - 4) : slike s' f x y g a b ↔ slike s f x y g a b := by
  have e : ∀ x y, spl s' x y = spl s x y := fun x y => by unfold spl; rw [h0]
  constructor
  · intro h k k0 k1
    obtain ⟨p1, p2, p3, p4⟩ := part_pl hD hx hy k0 k1
    obtain ⟨q1, q2, q3, q4⟩ := part_pl hD ha hb k0 k1
    rw [← hf _ p2 p3, ← hg _ q2 q3, ← e, ← e]
    exact h k k0 k1
  · intro h k k0 k1
    obtain ⟨p1, p2, p3, p4⟩ := part_pl hD hx hy k0 k1
    obtain ⟨q1, q2, q3, q4⟩ := part_pl hD ha hb k0 k1
    rw [e, e, hf _ p2 p3, hg _ q2 q3]
    exact h k k0 k1
theorem ccost_same {s s' : Int → Int} {f r b : Int} (hD : WD s) (h0 : s' 0 = s 0) (h1 : s' 1 = s 1) (h3 : s' 3 = s 3) (hf : SAME s f s' f) (hg : r ≠ -1 → SAME s r s' r) (b0 : 0 ≤ b) (b1 : b < sblocks s) : ccost s' f r b = ccost s f r b := by
  obtain ⟨hx, hy⟩ := WD_blk hD b0 b1
  have e1 : sleft s' b = sleft s b := by unfold sleft; rw [h0]
  have e2 : stop s' b = stop s b := by unfold stop; rw [h0]
  have r1 : sruns s' f r b = sruns s f r b := sruns_same hD h0 h1 hf Iff.rfl hg b0 b1
  have r2 : sruns s' f (-1) b = sruns s f (-1) b := sruns_same hD h0 h1 hf Iff.rfl (fun q => absurd rfl q) b0 b1
  unfold ccost
  rw [r1, r2]
  by_cases q : r = -1
  · rw [if_pos q, if_pos q]
  · rw [if_neg q, if_neg q]
    have hg := hg q
    have a1 : slk s' f r b ↔ slk s f r b := by
      unfold slk
      rw [e1, e2]
      exact like_same hD h0 hf hg hx hy hx hy
    have a2 : (∃ x y, smv s' f r b x y) ↔ (∃ x y, smv s f r b x y) := by
      have key : ∀ x y, smv s' f r b x y ↔ smv s f r b x y := by
        intro x y
        unfold smv
        rw [e1, e2, h0, h1, h3]
        constructor
        · rintro ⟨g1, g2, g3, g4, g5⟩
          exact ⟨g1, g2, g3, g4, (like_same hD h0 hf hg hx hy g4.1 g4.2).mp g5⟩
        · rintro ⟨g1, g2, g3, g4, g5⟩
          exact ⟨g1, g2, g3, g4, (like_same hD h0 hf hg hx hy g4.1 g4.2).mpr g5⟩
      constructor
      · rintro ⟨x, y, h⟩; exact ⟨x, y, (key x y).mp h⟩
      · rintro ⟨x, y, h⟩; exact ⟨x, y, (key x y).mpr h⟩
    by_cases c1 : slk s f r b
    · rw [if_pos c1, if_pos (a1.mpr c1)]
    · rw [if_neg c1, if_neg (fun z => c1 (a1.mp z))]
      by_cases c2 : ∃ x y, smv s f r b x y
      · rw [if_pos c2, if_pos (a2.mpr c2)]
      · rw [if_neg c2, if_neg (fun z => c2 (a2.mp z))]
theorem call_same {s s' : Int → Int} {f r : Int} (hD : WD s) (h0 : s' 0 = s 0) (h1 : s' 1 = s 1) (h3 : s' 3 = s 3) (hf : SAME s f s' f) (hg : r ≠ -1 → SAME s r s' r) : call s' f r = call s f r := by
  have hb := WD_blocks hD
  unfold call
  rw [sblocks_same h0 h1, isum_congr (sblocks s).toNat 0 (fun b b0 b1 => ccost_same hD h0 h1 h3 hf hg b0 (by omega))]
/-! ===== plans ===== -/
theorem plof_congr {kc nc kc' nc' : Int → Int} {set n rate : Int} (h : ∀ f, 0 ≤ f → f < n → kc f = kc' f ∧ nc f = nc' f) : plof kc nc set n rate = plof kc' nc' set n rate := by
  unfold plof
  rw [ifold_congr n.toNat (0, 0, 0) 0 (fun a j j0 j1 => by
    obtain ⟨e1, e2⟩ := h j j0 (by omega)
    show pstep kc nc set a j = pstep kc' nc' set a j
    unfold pstep
    rw [e1, e2])]
theorem best_same {s s' : Int → Int} (hW : WF s) (hO : OPrec s s') : pbest s' = pbest s := by
  obtain ⟨⟨h0, h1, h2, h3, h4, h5⟩, h6, h7⟩ := hO
  have e : spof s' = spof s := by
    funext set
    unfold spof
    rw [h2, h5]
    refine plof_congr (fun f f0 f1 => ⟨?_, ?_⟩)
    · exact call_same hW.1 h0 h1 h3 (h7 f f0 f1).1 (fun q => absurd rfl q)
    · exact call_same hW.1 h0 h1 h3 (h7 f f0 f1).1 (fun q => (h7 (f - 1) (by omega) (by omega)).1)
  unfold pbest
  rw [e, h2]
theorem best_cost (s : Int → Int) : (pbest s).1 = spof s (pbest s).2 := by
  have h := ifold_inv (g := bstep (spof s)) (I := fun a _ => a.1 = spof s a.2) (pcnt (s 2)) (spof s 1, 1) 0 (fun a j _ _ ha => by
    unfold bstep
    split
    · rfl
    · exact ha) rfl
  exact h
/-- the costs of the records that a plan makes -/
theorem rec_costs {s s' : Int → Int} (hW : WF s) (hn : 1 ≤ s 2) (hO : OPrec s s') (hW' : WF s') : ∀ m : Nat, (m : Int) ≤ s 2 →
    (ifold (pstep (kcs s) (ncs s) (pbest s).2) (0, 0, 0) 0 m).1 = isum (scost s') 0 m ∧ (1 ≤ m → (ifold (pstep (kcs s) (ncs s) (pbest s).2) (0, 0, 0) 0 m).2.1 = sseek s' ((m : Int) - 1)) ∧
    (ifold (pstep (kcs s) (ncs s) (pbest s).2) (0, 0, 0) 0 m).2.2 = ifold (fun a f => if a < sseek s' f then sseek s' f else a) 0 0 m := by
  have h10 := hW.2.1
  obtain ⟨g1, g2, g3⟩ := pbest_ok hn h10.2
  intro m
  induction m with
  | zero => intro _; exact ⟨rfl, fun q => absurd q (by omega), rfl⟩
  | succ m ih =>
    intro hm
    obtain ⟨i1, i2, i3⟩ := ih (by omega)
    have m0 : (0 : Int) ≤ (m : Int) := Int.natCast_nonneg m
    have hR := hO.2.2 (m : Int) m0 (by omega)
    have hc := scost_rec hW.1 hO.1.1 hO.1.2.1 hR (fun q => by
      rcases prf_ok hn h10.2 m0 with z | z
      · exact absurd z q
      · exact (hO.2.2 _ z.1 (by omega)).1)
    have hs : sseek s' (m : Int) = scost s' (m : Int) + lsum (scost s') (chn s' 9 (prf s (m : Int))) := by
      unfold sseek
      rw [chn_pos s' 9 m0, hR.2.1]
      rfl
    rw [ifold_last, ifold_last, isum_last, Int.zero_add, ← i1, ← i3]
    generalize ifold (pstep (kcs s) (ncs s) (pbest s).2) (0, 0, 0) 0 m = a at *
    have e1 : ((m + 1 : Nat) : Int) - 1 = (m : Int) := by omega
    rw [e1]
    by_cases q : ksel (pbest s).2 (m : Int)
    · have hp : prf s (m : Int) = -1 := by unfold prf; rw [if_pos q]
      rw [hp] at hc hs
      rw [chn_neg s' 9 (by decide)] at hs
      have hs2 : sseek s' (m : Int) = scost s' (m : Int) := by rw [hs]; exact Int.add_zero _
      have hk : kcs s (m : Int) = scost s' (m : Int) := hc.symm
      unfold pstep
      rw [if_pos q, hk, hs2]
      exact ⟨rfl, fun _ => rfl, rfl⟩
    · have hm0 : 1 ≤ m := by
        rcases Nat.eq_zero_or_pos m with z | z
        · exfalso
          subst z
          exact q (ksel0 g1 g2 g3)
        · exact z
      have hp : prf s (m : Int) = (m : Int) - 1 := by unfold prf; rw [if_neg q]
      rw [hp] at hc hs
      have i2 := i2 hm0
      have hst : chn s' 9 ((m : Int) - 1) = chn s' 10 ((m : Int) - 1) := chn_stab hW' 9 10 _ (Or.inr ⟨by omega, by rw [hO.1.2.2.1]; omega⟩) (by omega) (by omega)
      rw [hst] at hs
      have hs2 : sseek s' (m : Int) = scost s' (m : Int) + sseek s' ((m : Int) - 1) := hs
      have hk : ncs s (m : Int) = scost s' (m : Int) := hc.symm
      unfold pstep
      rw [if_neg q, hk]
      have hs3 : a.2.1 + scost s' (m : Int) = sseek s' (m : Int) := by rw [hs2, i2]; omega
      refine ⟨rfl, fun _ => hs3, ?_⟩
      show (if a.2.2 < a.2.1 + scost s' (m : Int) then a.2.1 + scost s' (m : Int) else a.2.2) = _
      rw [hs3]
theorem rec_cost {s s' : Int → Int} (hW : WF s) (hn : 1 ≤ s 2) (hO : OPrec s s') (hW' : WF s') : scosts s' + s' 5 * qgreat s' = (pbest s).1 := by
  have h10 := hW.2.1
  obtain ⟨e1, -, e3⟩ := rec_costs hW hn hO hW' (s 2).toNat (by omega)
  rw [best_cost]
  unfold spof plof scosts qgreat
  rw [e1, e3, hO.1.2.2.1, hO.1.2.2.2.2.2, if_neg (by omega)]
end
section
/-! ===== the tale of an object ===== -/
noncomputable def tl1 (s : Int → Int) : Int := ifold (fun a k => zw6 (zw6 (a * 31) + qcount s 0 0 k)) 3 0 9
noncomputable def tl2 (s : Int → Int) : Int := ifold (fun a c => zw6 (zw6 (a * 37) + qcell s c)) (tl1 s) 0 (s 0 * s 1).toNat
noncomputable def tl3 (s : Int → Int) (f a : Int) : Int := ifold (fun a w => zw6 (zw6 (a * 41) + qframe s f w)) a 0 9
noncomputable def tl4 (s : Int → Int) (a f : Int) : Int := zw6 (zw6 (zw6 (tl3 s f a * 43) + qpixel s f 0) + zw6 (3 * qpixel s f 9))
noncomputable def tale (s : Int → Int) : Int := ifold (tl4 s) (tl2 s) 0 (s 2).toNat
theorem count_n (s : Int → Int) (n t : Int) {k : Int} (h : k < 9) (ht : t = 0) : qcount s n t k = qcount s 0 0 k := by
  subst ht
  unfold qcount
  have h9 : ¬ k = 9 := by omega
  rw [if_neg h9, if_neg h9]
section Tale
variable {μ : mzM} {s : Int → Int} {n : Int} {p : Int → Int → Int} {K : Int → mzM → Prop}
theorem cnt_at (hW : WF s) (hC : CI μ s n p) {w v : Int} (e : qcount s n (μ 8 0 1) w = v) (h : K v μ) : ZI f_X7_count [vR 0 0, vI w] μ K := s_count hW hC (by rw [e]; exact h)
theorem s_tale4 (hW : WF s) (hC : CI μ s n p) {Q : Option mzV → mzM → Prop} (h : Q (some (vL (tale s))) μ) : ZW f_L_tale 42 [vR 0 0, vL (tl2 s), none, vI 0, none] [] μ Q := by
  have h10 := hW.2.1
  have lp := ifold_loop (g := tl4 s) (C := fun a f => ∀ v4 : mzV, ZW f_L_tale 42 [vR 0 0, vL a, none, vI f, v4] [] μ Q) (I := fun _ _ => True) (lo := 0) (hi := s 2) (fun _ _ _ _ _ => trivial) ?_ (s 2).toNat (tl2 s) 0 (by omega) (by omega) trivial ?_
  · exact lp none
  · intro a f f0 f1 _ hN v4
    refine vc_L_tale_42 (cnt_at hW hC (v := s 2) rfl ?_)
    rw [if_pos f1]
    refine ifold_loop (g := fun a w => zw6 (zw6 (a * 41) + qframe s f w)) (C := fun a w => ZW f_L_tale 49 [vR 0 0, vL a, none, vI f, vI w] [] μ Q) (I := fun _ _ => True) (lo := 0) (hi := 9) (fun _ _ _ _ _ => trivial) ?_ 9 a 0 (by omega) (by omega) trivial ?_
    · intro a w w0 w1 _ hN2
      refine vc_L_tale_49 ?_
      rw [if_pos w1]
      exact s_frame hW hC.1 ⟨zin_sm (by omega), hN2⟩
    · intro _
      refine vc_L_tale_49 ?_
      rw [if_neg (by omega)]
      exact s_pixel hW hC.1 (s_pixel hW hC.1 ⟨zin_sm (by omega), hN _⟩)
  · intro _ v4
    refine vc_L_tale_42 (cnt_at hW hC (v := s 2) rfl ?_)
    rw [if_neg (by omega)]
    exact h
theorem s_tale2 (hW : WF s) (hC : CI μ s n p) {Q : Option mzV → mzM → Prop} (h : Q (some (vL (tale s))) μ) : ZW f_L_tale 20 [vR 0 0, vL (tl1 s), none, vI 0, none] [] μ Q := by
  have hm := WD_mul hW.1
  refine ifold_loop (g := fun a c => zw6 (zw6 (a * 37) + qcell s c)) (C := fun a c => ZW f_L_tale 20 [vR 0 0, vL a, none, vI c, none] [] μ Q) (I := fun _ _ => True) (lo := 0) (hi := s 0 * s 1) (fun _ _ _ _ _ => trivial) ?_ (s 0 * s 1).toNat (tl1 s) 0 (by omega) (by omega) trivial ?_
  · intro a c c0 c1 _ hN
    refine vc_L_tale_20 (cnt_at hW hC (v := s 0) rfl (cnt_at hW hC (v := s 1) rfl ⟨zin_sm (by omega), ?_⟩))
    rw [if_pos c1]
    exact s_cell hW hC.1 ⟨zin_sm (by omega), hN⟩
  · intro _
    refine vc_L_tale_20 (cnt_at hW hC (v := s 0) rfl (cnt_at hW hC (v := s 1) rfl ⟨zin_sm (by omega), ?_⟩))
    rw [if_neg (by omega)]
    exact s_tale4 hW hC h
theorem s_tale (hW : WF s) (hC : CI μ s n p) (hT : μ 8 0 1 = 0) (h : K (tale s) μ) : ZL f_L_tale [vR 0 0] μ K := by
  refine vc_L_tale_0 ?_
  refine ifold_loop (g := fun a k => zw6 (zw6 (a * 31) + qcount s 0 0 k)) (C := fun a k => ZW f_L_tale 4 [vR 0 0, vL a, none, vI k, none] [] μ _) (I := fun _ _ => True) (lo := 0) (hi := 9) (fun _ _ _ _ _ => trivial) ?_ 9 3 0 (by omega) (by omega) trivial ?_
  · intro a k k0 k1 _ hN
    refine vc_L_tale_4 ?_
    rw [if_pos k1]
    exact cnt_at hW hC (count_n s n (μ 8 0 1) k1 hT) ⟨zin_sm (by omega), hN⟩
  · intro _
    refine vc_L_tale_4 ?_
    rw [if_neg (by omega)]
    exact s_tale2 hW hC ⟨_, rfl, h⟩
end Tale
end
section
/-! ===== a script's number, and what it does ===== -/
/-- the class shows s and its kept states, and there is no text -/
def LJ (ν : mzM) (s : Int → Int) (n : Int) (p : Int → Int → Int) : Prop := CI ν s n p ∧ WF s ∧ (∀ j, 0 ≤ j → j < n → WF (p j)) ∧ ν 8 0 1 = 0
/-- a frame was added at the cost v -/
def ADD (s : Int → Int) (v z : Int) (s' : Int → Int) : Prop := ∃ r, (fok s r ∧ sgood s r) ∧ s 2 < 10 ∧ OPadd s r s' ∧ v = call s (-1) r ∧ (7 < z → v ≤ call s (-1) (-1))
theorem tmod_ab (x : Int) {m : Int} (hm : 0 < m) : -m < x.tmod m ∧ x.tmod m < m := by
  have h : (x.tmod m).natAbs < m.natAbs := by
    rw [Int.natAbs_tmod]
    exact Nat.mod_lt _ (by omega)
  omega
theorem one_b (c : Prop) : 0 ≤ (@ite Int c (Classical.propDecidable _) 1 0) ∧ (@ite Int c (Classical.propDecidable _) 1 0) ≤ 1 := by split <;> omega
section Does
variable {μ : mzM} {s : Int → Int} {n : Int} {p : Int → Int → Int} {K : Int → mzM → Prop}
theorem s_low {x m : Int} (hm : 0 < m) (h : ∀ v, -m < v → v < m → K v μ) : ZI f_L_low [vI x, vI m] μ K := by
  have hb := tmod_ab (zand x 2147483647) hm
  exact vc_L_low_0 ⟨by omega, zlf (h _ hb.1 hb.2) rfl⟩
theorem s_Lcell {x : Int} (x0 : 0 ≤ x) (x1 : x < 40) (h : ∀ v, K v μ) : ZI f_L_cell [vR 32 0, vI x] μ K := by
  refine vc_L_cell_0 ?_
  split
  · next q => exact ⟨⟨x0, q⟩, zlf (h _) rfl⟩
  · have h1 : 0 ≤ 7919 * (x + 3) * (x + 11) := Int.mul_nonneg (by omega) (by omega)
    have h2 : 7919 * (x + 3) * (x + 11) ≤ 340000 * 60 := Int.mul_le_mul (by omega) (by omega) (by omega) (by omega)
    exact ⟨zin_sm (by omega), zin_sm (by omega), zin_sm (by omega), ⟨by omega, by omega⟩, zlf (h _) rfl⟩
theorem mkLJ {ν : mzM} {s' : Int → Int} (hJ : LJ μ s n p) (hF : fr Pcl μ ν) (hc : CI ν s' (pushn n) (pushp p n s)) (hw : WF s') : LJ ν s' (pushn n) (pushp p n s) :=
  ⟨hc, hw, push_wf hJ.2.1 hJ.2.2.1 hJ.1.2.2.1.2, (hF 8 0 1 (fun q => q.2.2 rfl rfl)).trans hJ.2.2.2⟩
theorem best_pos (hW : WF s) : 0 ≤ (pbest s).1 ∧ (pbest s).1 ≤ 31000 := by
  have h10 := hW.2.1
  have h5 := hW.2.2.2.2.1
  rw [best_cost]
  have h := ifold_inv (g := pstep (kcs s) (ncs s) (pbest s).2) (I := fun a f => (0 ≤ a.1 ∧ a.1 ≤ 308 * f) ∧ (0 ≤ a.2.1 ∧ a.2.1 ≤ 308 * f) ∧ (0 ≤ a.2.2 ∧ a.2.2 ≤ 308 * f)) (s 2).toNat (0, 0, 0) 0 (fun a j _ _ ha => pstep_inv hW.1 ha) ⟨⟨Int.le_refl 0, Int.le_refl 0⟩, ⟨Int.le_refl 0, Int.le_refl 0⟩, ⟨Int.le_refl 0, Int.le_refl 0⟩⟩
  unfold spof plof
  generalize ifold (pstep (kcs s) (ncs s) (pbest s).2) (0, 0, 0) 0 (s 2).toNat = a at *
  have hr := rate_b h5.1 h5.2 h.2.2.1 (by omega)
  omega
theorem goods_b (s : Int → Int) : 0 ≤ sgoods s := by
  have h := isum_bound (g := fun f => @ite _ (sgood s f) (Classical.propDecidable _) 1 0) (lo := 0) (hi := 1) (s 2).toNat 0 (fun j _ _ => one_b (sgood s j))
  unfold sgoods
  omega
theorem s_does {x : Int} (hJ : LJ μ s n p) (h1 : ∀ v, v < 0 → K v μ) (h2 : ∀ (v : Int) (ν : mzM) (s' : Int → Int), 0 ≤ v → LJ ν s' (pushn n) (pushp p n s) → (4 < zand x 15 → zand x 15 < 10 → ADD s v (zand x 15) s') → K v ν) : ZI f_L_does [vR 0 0, vI x] μ K := by
  obtain ⟨hC, hW, hp, hT⟩ := id hJ
  have h10 := hW.2.1
  have lost : ∀ a b : Int, zand x 15 = 3 ∨ zand x 15 = 4 → ZI f_X7_setLost [vR 0 0, vI a, vI b] μ (fun v ν => ∃ a, some (vI v) = some (vI a) ∧ K a ν) := by
    intro a b hz
    exact s_setLost hW hp hC (fun _ => zlf (h1 _ (by decide)) rfl) (fun _ _ => zlf (h1 _ (by decide)) rfl) (fun ha hv _ ν hc hF s' hO => zlf (h2 _ ν s' (goods_b s') (mkLJ hJ hF (hc s' hO) (OPlost_wf hW hv hO)) (fun q => absurd q (by omega))) rfl)
  have dlt : ∀ a : Int, zand x 15 = 6 ∨ zand x 15 = 7 → ZI f_X7_addDelta [vR 0 0, vI a] μ (fun v ν => ∃ a, some (vI v) = some (vI a) ∧ K a ν) := by
    intro a hz
    refine s_addDelta hW hp hC (fun _ => zlf (h1 _ (by decide)) rfl) (fun _ _ => zlf (h1 _ (by decide)) rfl) (fun _ _ _ => zlf (h1 _ (by decide)) rfl) (fun hf hg hn ν hc hF => ?_)
    obtain ⟨s', hO, hw⟩ := OPadd_ex hW hn (Or.inr hf)
    have hb := call_b hW.1 (-1) a
    exact zlf (h2 _ ν s' (by omega) (mkLJ hJ hF (hc s' hO) hw) (fun _ _ => ⟨a, ⟨Or.inr hf, hg.1⟩, hn, hO, rfl, fun q => absurd q (by omega)⟩)) rfl
  have chs : ZI f_X7_addChosen [vR 0 0] μ (fun v ν => ∃ a, some (vI v) = some (vI a) ∧ K a ν) := by
    refine s_addChosen hW hp hC (fun _ => zlf (h1 _ (by decide)) rfl) (fun hn ν hc hF => ?_)
    obtain ⟨k1, k2⟩ := chosen_ok hW
    have hf : fok s (schosen s) ∧ sgood s (schosen s) := by
      rcases k1 with k1 | k1
      · exact ⟨Or.inl k1, by rw [k1]; exact good_m1 s⟩
      · exact ⟨Or.inr k1.1, k1.2⟩
    obtain ⟨s', hO, hw⟩ := OPadd_ex hW hn hf.1
    have hb := call_b hW.1 (-1) (schosen s)
    exact zlf (h2 _ ν s' (by omega) (mkLJ hJ hF (hc s' hO) hw) (fun _ _ => ⟨_, hf, hn, hO, rfl, fun _ => k2⟩)) rfl
  refine vc_L_does_0 ?_
  by_cases z0 : zand x 15 = 0
  · rw [if_pos z0]
    split
    · refine s_low (by decide) (fun v v0 v1 => ⟨zin_sm (by omega), ?_⟩)
      refine s_setSize hW hp hC (fun _ => zlf (h1 _ (by decide)) rfl) (fun a b ν hc hF => ?_)
      obtain ⟨s', hO, hw⟩ := OPsize_ex hW a b
      exact zlf (h2 _ ν s' (by rcases a with a | a | a <;> omega) (mkLJ hJ hF (hc s' hO) hw) (fun q => absurd q (by omega))) rfl
    · refine s_recode hW hp hC (fun _ => zlf (h1 _ (by decide)) rfl) (fun hn ν hc hF => ?_)
      obtain ⟨s', hO, hw⟩ := OPrec_ex hW hn
      exact zlf (h2 _ ν s' (best_pos hW).1 (mkLJ hJ hF (hc s' hO) hw) (fun q => absurd q (by omega))) rfl
  rw [if_neg z0]
  by_cases z1 : zand x 15 = 1
  · rw [if_pos z1]
    refine s_low (by decide) (fun v _ _ => s_low (by decide) (fun w _ _ => s_low (by decide) (fun u _ _ => ?_)))
    refine s_setLimits hW hp hC (fun _ => zlf (h1 _ (by decide)) rfl) (fun a b d ν hc hF => ?_)
    obtain ⟨s', hO, hw⟩ := OPlim_ex hW a b d
    exact zlf (h2 _ ν s' (by split <;> omega) (mkLJ hJ hF (hc s' hO) hw) (fun q => absurd q (by omega))) rfl
  rw [if_neg z1]
  by_cases z2 : zand x 15 = 2
  · rw [if_pos z2]
    refine s_removeLast hW hp hC (fun _ => zlf (h1 _ (by decide)) rfl) (fun hn ν hc hF => ?_)
    obtain ⟨s', hO, hw⟩ := OPrem_ex hW hn
    exact zlf (h2 _ ν s' (by omega) (mkLJ hJ hF (hc s' hO) hw) (fun q => absurd q (by omega))) rfl
  rw [if_neg z2]
  by_cases z3 : zand x 15 = 3
  · rw [if_pos z3]
    exact s_low (by decide) (fun v _ _ => lost _ _ (Or.inl z3))
  rw [if_neg z3]
  by_cases z4 : zand x 15 = 4
  · rw [if_pos z4]
    exact s_low (by decide) (fun v _ _ => lost _ _ (Or.inr z4))
  rw [if_neg z4]
  by_cases z5 : zand x 15 = 5
  · rw [if_pos z5]
    refine s_addKey hW hp hC (fun _ => zlf (h1 _ (by decide)) rfl) (fun hn ν hc hF => ?_)
    obtain ⟨s', hO, hw⟩ := OPadd_ex (r := -1) hW hn (Or.inl rfl)
    have hb := call_b hW.1 (-1) (-1)
    exact zlf (h2 _ ν s' (by omega) (mkLJ hJ hF (hc s' hO) hw) (fun _ _ => ⟨-1, ⟨Or.inl rfl, good_m1 s⟩, hn, hO, rfl, fun _ => Int.le_refl _⟩)) rfl
  rw [if_neg z5]
  by_cases z6 : zand x 15 = 6
  · rw [if_pos z6]
    exact s_low (by decide) (fun v _ _ => dlt _ (Or.inl z6))
  rw [if_neg z6]
  by_cases z7 : zand x 15 = 7
  · rw [if_pos z7]
    exact s_low (by decide) (fun v _ _ => dlt _ (Or.inr z7))
  rw [if_neg z7]
  by_cases z8 : zand x 15 = 8
  · rw [if_pos z8]
    exact chs
  rw [if_neg z8]
  by_cases z9 : zand x 15 = 9
  · rw [if_pos z9]
    exact chs
  rw [if_neg z9]
  refine s_low (by decide) (fun v _ _ => s_low (by decide) (fun w _ _ => ?_))
  refine s_setCell hW hp hC (fun _ => zlf (h1 _ (by decide)) rfl) (fun a b d ν hc hF => ?_)
  obtain ⟨s', hO, hw⟩ := OPcell_ex hW a b d
  exact zlf (h2 _ ν s' (hW.2.2.2.2.2.1 _ a.1 a.2).1 (mkLJ hJ hF (hc s' hO) hw) (fun q q2 => absurd q (by omega))) rfl
end Does
end
section
/-! ===== the walk of the law over the small machine ===== -/
section Walk
variable {μ : mzM} {s : Int → Int} {n : Int} {p : Int → Int → Int} {K : Int → mzM → Prop} {Q : Option mzV → mzM → Prop}
theorem fr_at (hW : WF s) (hC : CI μ s n p) {f w v : Int} (e : qframe s f w = v) (h : K v μ) : ZI f_X7_frame [vR 0 0, vI f, vI w] μ K := s_frame hW hC.1 (by rw [e]; exact h)
theorem qf_0 {f : Int} (hf : isF s f) : qframe s f 0 = if sref s f = -1 then -9 else sref s f := by unfold qframe cif; rw [if_pos hf]; rfl
theorem qf_1 {f : Int} (hf : isF s f) : qframe s f 1 = scost s f := by unfold qframe cif; rw [if_pos hf]; rfl
theorem qf_2 {f : Int} (hf : isF s f) : qframe s f 2 = sseek s f := by unfold qframe cif; rw [if_pos hf]; rfl
theorem qf_4 {f : Int} (hf : isF s f) : qframe s f 4 = @ite _ (sgood s f) (Classical.propDecidable _) 1 0 := by unfold qframe cif; rw [if_pos hf]; rfl
theorem qf_5 {f : Int} (hf : isF s f) : qframe s f 5 = skinds s f 0 := by unfold qframe cif; rw [if_pos hf]; rfl
theorem qf_6 {f : Int} (hf : isF s f) : qframe s f (5 + 1) = skinds s f 1 := by unfold qframe cif; rw [if_pos hf]; rfl
theorem qf_7 {f : Int} (hf : isF s f) : qframe s f (5 + 1 + 1) = skinds s f 2 := by unfold qframe cif; rw [if_pos hf]; rfl
theorem qf_8 {f : Int} (hf : isF s f) : qframe s f (5 + 1 + 1 + 1) = skinds s f 3 := by unfold qframe cif; rw [if_pos hf]; rfl
theorem skinds_b (hW : WF s) (f k : Int) : 0 ≤ skinds s f k ∧ skinds s f k ≤ 9 := by
  have hb := WD_blocks hW.1
  have h := isum_bound (g := fun b => if sits s f b = k then 1 else 0) (lo := 0) (hi := 1) (sblocks s).toNat 0 (fun j _ _ => by
    show 0 ≤ (if sits s f j = k then (1 : Int) else 0) ∧ (if sits s f j = k then (1 : Int) else 0) ≤ 1
    split <;> omega)
  unfold skinds
  omega
/-- a frame's answers are looked at -/
theorem w140 (hJ : LJ μ s n p) {e x4 x5 x7 x8 x9 x10 d f : Int} (hf : isF s f) (hd : 0 ≤ d ∧ d ≤ f) (hN : ∀ v13 v14 : mzV, ZW f_L_law 131 [vR 32 0, vR 0 0, vI n, vI e, vI x4, vL x5, none, vI x7, vI x8, vI x9, vI x10, vI (d + @ite _ (sgood s f) (Classical.propDecidable _) 1 0), vI (f + 1), v13, v14] [] μ Q) :
    ZW f_L_law 140 [vR 32 0, vR 0 0, vI n, vI e, vI x4, vL x5, none, vI x7, vI x8, vI x9, vI x10, vI d, vI f, vI 0, vI 5] [] μ Q := by
  obtain ⟨hC, hW, hp, hT⟩ := hJ
  have h10 := hW.2.1
  have k0 := skinds_b hW f 0
  have k1 := skinds_b hW f 1
  have k2 := skinds_b hW f 2
  have k3 := skinds_b hW f 3
  have ks := kinds_sum hW hf
  obtain ⟨b1, b2, b3⟩ := blocks_div hW.1
  refine vc_L_law_140 ?_
  rw [if_pos (by decide)]
  refine fr_at hW hC (qf_5 hf) ⟨zin_sm (by omega), zin_sm (by omega), ?_⟩
  refine vc_L_law_140 ?_
  rw [if_pos (by decide)]
  refine fr_at hW hC (qf_6 hf) ⟨zin_sm (by omega), zin_sm (by omega), ?_⟩
  refine vc_L_law_140 ?_
  rw [if_pos (by decide)]
  refine fr_at hW hC (qf_7 hf) ⟨zin_sm (by omega), zin_sm (by omega), ?_⟩
  refine vc_L_law_140 ?_
  rw [if_pos (by decide)]
  refine fr_at hW hC (qf_8 hf) ⟨zin_sm (by omega), zin_sm (by omega), ?_⟩
  refine vc_L_law_140 ?_
  rw [if_neg (by decide)]
  have ho := one_b (sgood s f)
  refine fr_at hW hC (qf_4 hf) ⟨zin_sm (by omega), cnt_at hW hC (v := s 0) rfl (cnt_at hW hC (v := s 1) rfl ⟨b2, ⟨by decide, b3⟩, ?_⟩)⟩
  rw [if_pos (by omega)]
  refine fr_at hW hC (qf_2 hf) (fr_at hW hC (qf_1 hf) ?_)
  have hs := seek_ge hW hf
  rw [if_neg (by omega)]
  refine fr_at hW hC (qf_0 hf) ?_
  have hr := (hW.2.2.2.2.2.2 f hf.1 hf.2).2.1
  have hlt : (if sref s f = -1 then -9 else sref s f) < f := by
    rcases hr with hr | hr
    · rw [if_pos hr]; have := hf.1; omega
    · rw [if_neg (by omega)]; exact hr.2
  rw [if_pos hlt]
  refine s_dependents hW hC.1 ?_
  have hdp := dep_ge hf
  rw [if_neg (by omega)]
  exact ⟨zin_sm (by omega), hN _ _⟩
/-- all frames' answers are looked at -/
theorem w131 (hJ : LJ μ s n p) {e x4 x5 x7 x8 x9 x10 : Int} {v13 v14 : mzV} (e0 : 0 ≤ e) (e1 : e < 40) (hN : ∀ v4 v5 v7 v8 v9 v10 v11 v12 v13 v14 : mzV, ZW f_L_law 8 [vR 32 0, vR 0 0, vI n, vI (e + 1), v4, v5, none, v7, v8, v9, v10, v11, v12, v13, v14] [] μ Q) :
    ZW f_L_law 131 [vR 32 0, vR 0 0, vI n, vI e, vI x4, vL x5, none, vI x7, vI x8, vI x9, vI x10, vI 0, vI 0, v13, v14] [] μ Q := by
  obtain ⟨hC, hW, hp, hT⟩ := id hJ
  have h10 := hW.2.1
  have lp := ifold_loop (g := fun d f => d + @ite _ (sgood s f) (Classical.propDecidable _) 1 0) (C := fun d f => ∀ v13 v14 : mzV, ZW f_L_law 131 [vR 32 0, vR 0 0, vI n, vI e, vI x4, vL x5, none, vI x7, vI x8, vI x9, vI x10, vI d, vI f, v13, v14] [] μ Q) (I := fun d f => 0 ≤ d ∧ d ≤ f) (lo := 0) (hi := s 2) (fun d f _ _ hd => by
    have := one_b (sgood s f)
    omega) ?_ (s 2).toNat 0 0 (by omega) (by omega) ⟨by omega, by omega⟩ ?_
  · exact lp v13 v14
  · intro d f f0 f1 hd hC2 v13 v14
    refine vc_L_law_131 (cnt_at hW hC (v := s 2) rfl ?_)
    rw [if_pos f1]
    exact w140 hJ ⟨f0, f1⟩ hd hC2
  · intro _ v13 v14
    refine vc_L_law_131 (cnt_at hW hC (v := s 2) rfl ?_)
    rw [if_neg (by omega)]
    refine cnt_at hW hC (v := sgoods s) rfl ?_
    have e : ifold (fun d f => d + @ite _ (sgood s f) (Classical.propDecidable _) 1 0) 0 0 (s 2).toNat = sgoods s := rfl
    rw [if_pos e]
    exact ⟨zin_sm (by omega), hN _ _ _ _ _ _ _ _ _ _⟩
/-- what comes behind -/
def NXT (e : Int) (Q : Option mzV → mzM → Prop) : Prop := ∀ (ν : mzM) (s : Int → Int) (n : Int) (p : Int → Int → Int), LJ ν s n p → ∀ v4 v5 v7 v8 v9 v10 v11 v12 v13 v14 : mzV, ZW f_L_law 8 [vR 32 0, vR 0 0, vI n, vI (e + 1), v4, v5, none, v7, v8, v9, v10, v11, v12, v13, v14] [] ν Q
theorem cmp_rf (a : Int) : zcmp a a = 0 := by unfold zcmp; rw [if_neg (Int.lt_irrefl a), if_pos rfl]
/-- it is undone, or not -/
theorem w99 (hJ : LJ μ s n p) {e x4 x5 x7 x8 x9 x10 y0 : Int} {v11 v12 v13 v14 : mzV} (e0 : 0 ≤ e) (e1 : e < 40) (hN : NXT e Q) (hu : 0 ≤ y0 → 0 < n ∧ tale (p (n - 1)) = x5) :
    ZW f_L_law 99 [vR 32 0, vR 0 0, vI n, vI e, vI x4, vL x5, none, vI x7, vI x8, vI x9, vI x10, v11, v12, v13, v14] [vI y0] μ Q := by
  obtain ⟨hC, hW, hp, hT⟩ := id hJ
  have hn := hC.2.2.1.2
  have stay : ZI f_X7_count [vR 0 0, vI 9] μ (fun r2 ν1 => (if r2 = n then
      ZW f_L_law 131 [vR 32 0, vR 0 0, vI n, vI e, vI x4, vL x5, none, vI x7, vI x8, vI x9, vI x10, vI 0, vI 0, v13, v14] [] ν1 Q
      else
      Q (some (vI 0)) ν1)) := by
    refine cnt_at hW hC (v := n) rfl ?_
    rw [if_pos rfl]
    exact w131 hJ e0 e1 (hN μ s n p hJ)
  refine vc_L_law_99 ?_
  by_cases hy : y0 < 0
  · rw [if_pos hy]
    exact stay
  · rw [if_neg hy]
    obtain ⟨u1, u2⟩ := hu (by omega)
    split
    · refine s_undo hp hC (fun q => absurd q (by omega)) (fun _ ν hC2 hF => ⟨zin_sm (by omega), ?_⟩)
      have hW2 : WF (p (n - 1)) := hp (n - 1) (by omega) (by omega)
      have hT2 : ν 8 0 1 = 0 := (hF 8 0 1 (fun q => q.2.2 rfl rfl)).trans hT
      have hJ2 : LJ ν (p (n - 1)) (n - 1) p := ⟨hC2, hW2, fun j j0 j1 => hp j j0 (by omega), hT2⟩
      rw [if_pos rfl]
      refine s_tale hW2 hC2 hT2 ?_
      rw [u2, if_pos (cmp_rf _)]
      refine ⟨zin_sm (by omega), cnt_at hW2 hC2 (v := n - 1) rfl ?_⟩
      rw [if_pos (by omega), show n + -1 = n - 1 by omega]
      exact w131 hJ2 e0 e1 (hN ν _ _ p hJ2)
    · exact stay
/-- what was added is looked at -/
theorem w56 {m : Int} (hJ : LJ μ s n p) {e x4 x5 x7 x8 x9 x10 y0 : Int} {v11 v12 v13 v14 : mzV} (e0 : 0 ≤ e) (e1 : e < 40) (hN : NXT e Q) (hm : 0 ≤ m ∧ m ≤ 6) (h1 : x9 < 0 → n = m) (h2 : 0 ≤ x9 → n = pushn m ∧ tale (p (n - 1)) = x5)
    (h3 : y0 ≠ 0 → 0 ≤ x9 ∧ (isF s x7 ∧ s 2 = x7 + 1) ∧ scost s x7 = x9 ∧ qdiff s x7 (-1) = 0 ∧ (7 < zand x4 15 → x9 ≤ x8)) :
    ZW f_L_law 56 [vR 32 0, vR 0 0, vI m, vI e, vI x4, vL x5, none, vI x7, vI x8, vI x9, vI x10, v11, v12, v13, v14] [vI y0] μ Q := by
  obtain ⟨hC, hW, hp, hT⟩ := id hJ
  have h10 := hW.2.1
  have go : (if x9 < 0 then
      ZW f_L_law 99 [vR 32 0, vR 0 0, vI m, vI e, vI x4, vL x5, none, vI x7, vI x8, vI x9, vI x10, v11, v12, v13, v14] [vI x9] μ Q
      else
      (if m < 6 then
        (zin (m + 1) ∧ ZW f_L_law 99 [vR 32 0, vR 0 0, vI (m + 1), vI e, vI x4, vL x5, none, vI x7, vI x8, vI x9, vI x10, v11, v12, v13, v14] [vI x9] μ Q)
        else
        ZW f_L_law 99 [vR 32 0, vR 0 0, vI 6, vI e, vI x4, vL x5, none, vI x7, vI x8, vI x9, vI x10, v11, v12, v13, v14] [vI x9] μ Q)) := by
    by_cases q : x9 < 0
    · rw [if_pos q]
      have e2 := h1 q
      subst e2
      exact w99 hJ e0 e1 hN (fun z => absurd z (by omega))
    · rw [if_neg q]
      obtain ⟨e2, e3⟩ := h2 (by omega)
      have e4 : pushn m = if m < 6 then m + 1 else 6 := rfl
      by_cases q2 : m < 6
      · rw [if_pos q2] at e4 ⊢
        rw [e4] at e2
        rw [← e2]
        exact ⟨zin_sm (by omega), w99 hJ e0 e1 hN (fun _ => ⟨by omega, e3⟩)⟩
      · rw [if_neg q2] at e4 ⊢
        rw [e4] at e2
        rw [← e2]
        exact w99 hJ e0 e1 hN (fun _ => ⟨by omega, e3⟩)
  refine vc_L_law_56 ?_
  by_cases hy : y0 = 0
  · rw [if_pos hy]
    exact go
  · rw [if_neg hy]
    obtain ⟨g1, ⟨g2, g3⟩, g4, g5, g6⟩ := h3 hy
    refine cnt_at hW hC (v := s 2) rfl ⟨zin_sm (by omega), ?_⟩
    rw [if_pos g3]
    refine fr_at hW hC ((qf_1 g2).trans g4) ?_
    rw [if_pos rfl]
    refine s_difference hW hC.1 ?_
    rw [g5, if_pos rfl]
    by_cases q : 7 < zand x4 15
    · rw [if_pos q, if_neg (by have := g6 q; omega)]
      exact go
    · rw [if_neg q]
      exact go
theorem diff_z {s s' : Int → Int} {r : Int} (hW : WF s) (hn : s 2 < 10) (hr : fok s r) (hg : sgood s r) (hO : OPadd s r s') : qdiff s' (s 2) (-1) = 0 := by
  have h10 := hW.2.1
  unfold qdiff cif
  rw [if_pos ⟨Or.inr ⟨h10.1, by rw [hO.1.2.2.1]; omega⟩, Or.inl rfl⟩, if_pos ⟨good_new hW hn hr hg hO, good_m1 s'⟩]
  exact diff_new hW hO
theorem push_top (m : Int) (hm : 0 ≤ m ∧ m ≤ 6) : pushp p m s (pushn m - 1) = s := by
  unfold pushp pushn
  by_cases q : m < 6
  · rw [if_pos q, if_pos q, if_pos (by omega)]
  · rw [if_neg q, if_neg q, if_pos (by omega)]
theorem cw_key (hW : WF s) : qcostWith s (-1) = call s (-1) (-1) := by
  unfold qcostWith cif
  rw [if_pos (Or.inl rfl), if_pos (good_m1 s)]
/-- one number of the script -/
theorem w8 (hJ : LJ μ s n p) {e : Int} {v4 v5 v7 v8 v9 v10 v11 v12 v13 v14 : mzV} (e0 : 0 ≤ e) (e1 : e < 40) (hN : NXT e Q) : ZW f_L_law 8 [vR 32 0, vR 0 0, vI n, vI e, v4, v5, none, v7, v8, v9, v10, v11, v12, v13, v14] [] μ Q := by
  obtain ⟨hC, hW, hp, hT⟩ := id hJ
  have hn := hC.2.2.1.2
  refine vc_L_law_8 ?_
  rw [if_pos e1]
  refine s_Lcell e0 e1 (fun x => s_tale hW hC hT (cnt_at hW hC (v := s 2) rfl (s_costWith hW hC.1 (fun ν hF => ?_))))
  have hC2 := CI_sc hW hp hC hF
  have hT2 : ν 8 0 1 = 0 := (hF 8 0 1 (by omega)).trans hT
  have hJ2 : LJ ν s n p := ⟨hC2, hW, hp, hT2⟩
  rw [cw_key hW]
  refine s_does hJ2 (fun v hv => ?_) (fun v ξ s' hv hJ3 hA => ?_)
  · rw [if_pos hv]
    refine s_tale hW hC2 hT2 ?_
    rw [if_pos (cmp_rf _), if_pos hv]
    exact w56 hJ2 e0 e1 hN hn (fun _ => rfl) (fun q => absurd q (by omega)) (fun q => absurd rfl q)
  · rw [if_neg (by omega), if_neg (by omega)]
    have t3 : 0 ≤ v → pushn n = pushn n ∧ tale (pushp p n s (pushn n - 1)) = tale s := fun _ => ⟨rfl, by rw [push_top n hn]⟩
    by_cases q1 : 4 < zand x 15
    · rw [if_pos q1]
      by_cases q2 : zand x 15 < 10
      · rw [if_pos q2]
        obtain ⟨r, ⟨a1, a2⟩, a3, a4, a5, a6⟩ := hA q1 q2
        refine w56 hJ3 e0 e1 hN hn (fun q => absurd q (by omega)) t3 (fun _ => ⟨hv, ⟨⟨hW.2.1.1, by rw [a4.1.2.2.1]; omega⟩, a4.1.2.2.1⟩, ?_, diff_z hW a3 a1 a2 a4, fun q => ?_⟩)
        · rw [a5]; exact cost_new hW a1 a4
        · exact a6 q
      · rw [if_neg q2]
        exact w56 hJ3 e0 e1 hN hn (fun q => absurd q (by omega)) t3 (fun q => absurd rfl q)
    · rw [if_neg q1]
      exact w56 hJ3 e0 e1 hN hn (fun q => absurd q (by omega)) t3 (fun q => absurd rfl q)
/-- behind the last number -/
theorem wEnd (hJ : LJ μ s n p) {v4 v5 v7 v8 v9 v10 v11 v12 v13 v14 : mzV} (hQ : ∀ ν, Q (some (vI 1)) ν) : ZW f_L_law 8 [vR 32 0, vR 0 0, vI n, vI 40, v4, v5, none, v7, v8, v9, v10, v11, v12, v13, v14] [] μ Q := by
  obtain ⟨hC, hW, hp, hT⟩ := id hJ
  have h10 := hW.2.1
  refine vc_L_law_8 ?_
  rw [if_neg (by decide)]
  refine cnt_at hW hC (v := s 2) rfl (s_planCost hW hC.1 (fun ν hF => ?_))
  have hC2 := CI_sc hW hp hC hF
  have hT2 : ν 8 0 1 = 0 := (hF 8 0 1 (by omega)).trans hT
  have hJ2 : LJ ν s n p := ⟨hC2, hW, hp, hT2⟩
  by_cases q : s 2 = 0
  · have e : qplanCost s = -9 := by unfold qplanCost; rw [if_pos (by omega)]
    rw [if_pos q, e, if_pos rfl, if_pos q]
    exact hQ _
  · have e : qplanCost s = (pbest s).1 := by unfold qplanCost; rw [if_neg (by omega)]
    have hb := best_pos hW
    rw [if_neg q, e, if_neg (by omega), if_neg q]
    refine s_recode hW hp hC2 (fun z => absurd z q) (fun hn ξ hc hF2 => ?_)
    rw [if_pos rfl]
    obtain ⟨s', hO, hW'⟩ := OPrec_ex hW hn
    have hJ3 := mkLJ hJ2 hF2 (hc s' hO) hW'
    obtain ⟨hC3, -, hp3, hT3⟩ := hJ3
    refine s_planCost hW' hC3.1 (fun ζ hF3 => ?_)
    have e2 : qplanCost s' = (pbest s).1 := by unfold qplanCost; rw [if_neg (by rw [hO.1.2.2.1]; omega), best_same hW hO]
    rw [e2, if_pos rfl]
    have hC4 := CI_sc hW' hp3 hC3 hF3
    have hk := rec_cost hW hn hO hW'
    have hs : 0 ≤ scosts s' ∧ scosts s' ≤ 3080 := by
      have h := isum_bound (g := scost s') (lo := 0) (hi := 308) (s' 2).toNat 0 (fun j _ _ => by have := scost_b hW'.1 j; omega)
      have := hW'.2.1
      unfold scosts
      omega
    refine cnt_at hW' hC4 (v := scosts s') rfl (cnt_at hW' hC4 (v := s' 5) rfl (s_greatestSeek hW' hC4.1 ⟨zin_sm (by omega), zin_sm (by omega), ?_⟩))
    rw [if_pos hk]
    exact hQ _
/-- all numbers -/
theorem wAll (hQ : ∀ ν, Q (some (vI 1)) ν) : ∀ (m : Nat) (e : Int), 0 ≤ e → e + m = 40 → ∀ (ν : mzM) (s : Int → Int) (n : Int) (p : Int → Int → Int), LJ ν s n p → ∀ v4 v5 v7 v8 v9 v10 v11 v12 v13 v14 : mzV, ZW f_L_law 8 [vR 32 0, vR 0 0, vI n, vI e, v4, v5, none, v7, v8, v9, v10, v11, v12, v13, v14] [] ν Q := by
  intro m
  induction m with
  | zero =>
    intro e e0 e1 ν s n p hJ v4 v5 v7 v8 v9 v10 v11 v12 v13 v14
    rw [show e = 40 by omega]
    exact wEnd hJ hQ
  | succ m ih =>
    intro e e0 e1 ν s n p hJ v4 v5 v7 v8 v9 v10 v11 v12 v13 v14
    exact w8 hJ e0 (by omega) (fun ν s n p hJ => ih (e + 1) (by omega) (by omega) ν s n p hJ)
/-- from the entry behind the constructor -/
theorem wLaw (hQ : ∀ ν, Q (some (vI 1)) ν) (hJ : LJ μ s 0 p) : ZW f_L_law 4 [vR 32 0, vR 0 0, none, none, none, none, none, none, none, none, none, none, none, none, none] [] μ Q :=
  vc_L_law_4 (wAll hQ 40 0 (by omega) (by omega) μ s 0 p hJ none none none none none none none none none none)
end Walk
end
