def zy : Nat → MethodName
  | 0 => ⟨"FrameDeltas$Coder", "encode", "(LFrameDeltas$Frame;LFrameDeltas$State;I)V"⟩
  | 1 => ⟨"FrameDeltas$Coder", "encodeRaw", "(LFrameDeltas$Frame;I)I"⟩
  | 2 => ⟨"FrameDeltas$Coder", "encodeWith", "(LFrameDeltas$Frame;ILFrameDeltas$Image;I)I"⟩
  | 3 => ⟨"FrameDeltas$Coder", "findMove", "(LFrameDeltas$Image;IILFrameDeltas$Image;I)Z"⟩
  | 4 => ⟨"FrameDeltas$Frame", "take", "(LFrameDeltas$Frame;)V"⟩
  | 5 => ⟨"FrameDeltas$Frame", "codePart", "(II)I"⟩
  | 6 => ⟨"FrameDeltas$Frame", "setCode", "(IIIII)V"⟩
  | 7 => ⟨"FrameDeltas$Frame", "codesOfKind", "(I)I"⟩
  | 8 => ⟨"FrameDeltas$Image", "reset", "(II)V"⟩
  | 9 => ⟨"FrameDeltas$Image", "take", "(LFrameDeltas$Image;)V"⟩
  | 10 => ⟨"FrameDeltas$Image", "hasCell", "(I)Z"⟩
  | 11 => ⟨"FrameDeltas$Image", "numbered", "(I)I"⟩
  | 12 => ⟨"FrameDeltas$Image", "putNumbered", "(II)V"⟩
  | 13 => ⟨"FrameDeltas$Image", "at", "(II)I"⟩
  | 14 => ⟨"FrameDeltas$Image", "blocks", "()I"⟩
  | 15 => ⟨"FrameDeltas$Image", "left", "(I)I"⟩
  | 16 => ⟨"FrameDeltas$Image", "top", "(I)I"⟩
  | 17 => ⟨"FrameDeltas$Image", "hasPart", "(II)Z"⟩
  | 18 => ⟨"FrameDeltas$Image", "samePart", "(IILFrameDeltas$Image;II)Z"⟩
  | 19 => ⟨"FrameDeltas$Image", "cellsUnlike", "(LFrameDeltas$Image;)I"⟩
  | 20 => ⟨"FrameDeltas$Planner", "plan", "(LFrameDeltas$State;LFrameDeltas$Coder;LFrameDeltas$Frame;)V"⟩
  | 21 => ⟨"FrameDeltas$Planner", "measure", "(LFrameDeltas$State;LFrameDeltas$Coder;LFrameDeltas$Frame;I)V"⟩
  | 22 => ⟨"FrameDeltas$Planner", "costOf", "(III)I"⟩
  | 23 => ⟨"FrameDeltas$Planner", "referenceOf", "(I)I"⟩
  | 24 => ⟨"FrameDeltas$RunList", "read", "(LFrameDeltas$Image;LFrameDeltas$Image;I)V"⟩
  | 25 => ⟨"FrameDeltas$RunList", "addCell", "(I)V"⟩
  | 26 => ⟨"FrameDeltas$State", "take", "(LFrameDeltas$State;)V"⟩
  | 27 => ⟨"FrameDeltas$State", "frameAt", "(I)LFrameDeltas$Frame;"⟩
  | 28 => ⟨"FrameDeltas$State", "isFrame", "(I)Z"⟩
  | 29 => ⟨"FrameDeltas$State", "isImage", "(I)Z"⟩
  | 30 => ⟨"FrameDeltas$State", "imageOf", "(I)LFrameDeltas$Image;"⟩
  | 31 => ⟨"FrameDeltas$State", "isReadable", "(I)Z"⟩
  | 32 => ⟨"FrameDeltas$State", "mayBeReference", "(I)Z"⟩
  | 33 => ⟨"FrameDeltas$State", "depthOf", "(I)I"⟩
  | 34 => ⟨"FrameDeltas$State", "seekCost", "(I)I"⟩
  | 35 => ⟨"FrameDeltas$State", "chainHas", "(II)Z"⟩
  | 36 => ⟨"FrameDeltas$State", "readableFrames", "()I"⟩
  | 37 => ⟨"FrameDeltas$State", "costOfRecords", "()I"⟩
  | 38 => ⟨"FrameDeltas", "setSize", "(II)I"⟩
  | 39 => ⟨"FrameDeltas", "setCell", "(II)I"⟩
  | 40 => ⟨"FrameDeltas", "cell", "(I)I"⟩
  | 41 => ⟨"FrameDeltas", "addKey", "()I"⟩
  | 42 => ⟨"FrameDeltas", "addDelta", "(I)I"⟩
  | 43 => ⟨"FrameDeltas", "addChosen", "()I"⟩
  | 44 => ⟨"FrameDeltas", "removeLast", "()I"⟩
  | 45 => ⟨"FrameDeltas", "recode", "()I"⟩
  | 46 => ⟨"FrameDeltas", "setLimits", "(III)I"⟩
  | 47 => ⟨"FrameDeltas", "setLost", "(II)I"⟩
  | 48 => ⟨"FrameDeltas", "frame", "(II)I"⟩
  | 49 => ⟨"FrameDeltas", "pixel", "(II)I"⟩
  | 50 => ⟨"FrameDeltas", "count", "(I)I"⟩
  | 51 => ⟨"FrameDeltas", "costWith", "(I)I"⟩
  | 52 => ⟨"FrameDeltas", "difference", "(II)I"⟩
  | 53 => ⟨"FrameDeltas", "greatestSeek", "()I"⟩
  | 54 => ⟨"FrameDeltas", "dependents", "(I)I"⟩
  | 55 => ⟨"FrameDeltas", "planCost", "()I"⟩
  | 56 => ⟨"FrameDeltas", "undo", "()I"⟩
  | 57 => ⟨"FrameDeltas", "isSize", "(I)Z"⟩
  | 58 => ⟨"FrameDeltas", "save", "()V"⟩
  | 59 => ⟨"FrameDeltas", "savedSlot", "(I)LFrameDeltas$State;"⟩
  | 60 => ⟨"FrameDeltas", "add", "(I)I"⟩
  | 61 => ⟨"FrameDeltas", "costOfCanvas", "(I)I"⟩
  | 62 => ⟨"FrameDeltas", "chosenReference", "()I"⟩
  | 63 => ⟨"java/lang/Integer", "bitCount", "(I)I"⟩
  | 64 => ⟨"java/lang/Math", "abs", "(I)I"⟩
  | 65 => ⟨"java/lang/Math", "max", "(II)I"⟩
  | 66 => ⟨"java/lang/Math", "min", "(II)I"⟩
  | 67 => ⟨"FrameDeltasLaw", "cell", "([II)I"⟩
  | 68 => ⟨"FrameDeltasLaw", "low", "(II)I"⟩
  | 69 => ⟨"FrameDeltasLaw", "tale", "(LFrameDeltas;)J"⟩
  | 70 => ⟨"FrameDeltasLaw", "does", "(LFrameDeltas;I)I"⟩
  | 71 => ⟨"FrameDeltasLaw", "law", "([I)Z"⟩
  | _ => ⟨"", "", ""⟩
def zby : Nat → ByteArray
  | 0 => prog_2_method_2_code
  | 1 => prog_2_method_3_code
  | 2 => prog_2_method_4_code
  | 3 => prog_2_method_5_code
  | 4 => prog_3_method_2_code
  | 5 => prog_3_method_3_code
  | 6 => prog_3_method_4_code
  | 7 => prog_3_method_5_code
  | 8 => prog_4_method_2_code
  | 9 => prog_4_method_3_code
  | 10 => prog_4_method_4_code
  | 11 => prog_4_method_5_code
  | 12 => prog_4_method_6_code
  | 13 => prog_4_method_7_code
  | 14 => prog_4_method_8_code
  | 15 => prog_4_method_10_code
  | 16 => prog_4_method_11_code
  | 17 => prog_4_method_12_code
  | 18 => prog_4_method_14_code
  | 19 => prog_4_method_15_code
  | 20 => prog_5_method_2_code
  | 21 => prog_5_method_3_code
  | 22 => prog_5_method_4_code
  | 23 => prog_5_method_5_code
  | 24 => prog_6_method_2_code
  | 25 => prog_6_method_3_code
  | 26 => prog_8_method_2_code
  | 27 => prog_8_method_3_code
  | 28 => prog_8_method_4_code
  | 29 => prog_8_method_5_code
  | 30 => prog_8_method_6_code
  | 31 => prog_8_method_7_code
  | 32 => prog_8_method_8_code
  | 33 => prog_8_method_9_code
  | 34 => prog_8_method_10_code
  | 35 => prog_8_method_11_code
  | 36 => prog_8_method_12_code
  | 37 => prog_8_method_13_code
  | 38 => prog_1_method_2_code
  | 39 => prog_1_method_3_code
  | 40 => prog_1_method_4_code
  | 41 => prog_1_method_9_code
  | 42 => prog_1_method_10_code
  | 43 => prog_1_method_11_code
  | 44 => prog_1_method_12_code
  | 45 => prog_1_method_13_code
  | 46 => prog_1_method_14_code
  | 47 => prog_1_method_15_code
  | 48 => prog_1_method_16_code
  | 49 => prog_1_method_19_code
  | 50 => prog_1_method_20_code
  | 51 => prog_1_method_21_code
  | 52 => prog_1_method_22_code
  | 53 => prog_1_method_25_code
  | 54 => prog_1_method_26_code
  | 55 => prog_1_method_28_code
  | 56 => prog_1_method_30_code
  | 57 => prog_1_method_31_code
  | 58 => prog_1_method_32_code
  | 59 => prog_1_method_33_code
  | 60 => prog_1_method_34_code
  | 61 => prog_1_method_35_code
  | 62 => prog_1_method_36_code
  | 63 => prog_11_method_49_code
  | 64 => prog_12_method_59_code
  | 65 => prog_12_method_65_code
  | 66 => prog_12_method_69_code
  | 67 => method_2_code
  | 68 => method_3_code
  | 69 => method_4_code
  | 70 => method_5_code
  | 71 => code
  | _ => .empty
def zrt : Nat → Option FieldType
  | 0 => none
  | 1 => (some .int)
  | 2 => (some .int)
  | 3 => (some .boolean)
  | 4 => none
  | 5 => (some .int)
  | 6 => none
  | 7 => (some .int)
  | 8 => none
  | 9 => none
  | 10 => (some .boolean)
  | 11 => (some .int)
  | 12 => none
  | 13 => (some .int)
  | 14 => (some .int)
  | 15 => (some .int)
  | 16 => (some .int)
  | 17 => (some .boolean)
  | 18 => (some .boolean)
  | 19 => (some .int)
  | 20 => none
  | 21 => none
  | 22 => (some .int)
  | 23 => (some .int)
  | 24 => none
  | 25 => none
  | 26 => none
  | 27 => (some (.object "FrameDeltas$Frame"))
  | 28 => (some .boolean)
  | 29 => (some .boolean)
  | 30 => (some (.object "FrameDeltas$Image"))
  | 31 => (some .boolean)
  | 32 => (some .boolean)
  | 33 => (some .int)
  | 34 => (some .int)
  | 35 => (some .boolean)
  | 36 => (some .int)
  | 37 => (some .int)
  | 38 => (some .int)
  | 39 => (some .int)
  | 40 => (some .int)
  | 41 => (some .int)
  | 42 => (some .int)
  | 43 => (some .int)
  | 44 => (some .int)
  | 45 => (some .int)
  | 46 => (some .int)
  | 47 => (some .int)
  | 48 => (some .int)
  | 49 => (some .int)
  | 50 => (some .int)
  | 51 => (some .int)
  | 52 => (some .int)
  | 53 => (some .int)
  | 54 => (some .int)
  | 55 => (some .int)
  | 56 => (some .int)
  | 57 => (some .boolean)
  | 58 => none
  | 59 => (some (.object "FrameDeltas$State"))
  | 60 => (some .int)
  | 61 => (some .int)
  | 62 => (some .int)
  | 63 => (some .int)
  | 64 => (some .int)
  | 65 => (some .int)
  | 66 => (some .int)
  | 67 => (some .int)
  | 68 => (some .int)
  | 69 => (some .long)
  | 70 => (some .int)
  | 71 => (some .boolean)
  | _ => none
/-- frames and words of locals that a call takes at most -/
def zfr : Nat → Nat
  | 0 => 5
  | 1 => 4
  | 2 => 4
  | 3 => 2
  | 4 => 2
  | 5 => 1
  | 6 => 1
  | 7 => 2
  | 8 => 1
  | 9 => 1
  | 10 => 1
  | 11 => 1
  | 12 => 1
  | 13 => 1
  | 14 => 1
  | 15 => 2
  | 16 => 2
  | 17 => 1
  | 18 => 1
  | 19 => 2
  | 20 => 7
  | 21 => 6
  | 22 => 2
  | 23 => 1
  | 24 => 3
  | 25 => 1
  | 26 => 3
  | 27 => 1
  | 28 => 1
  | 29 => 2
  | 30 => 2
  | 31 => 2
  | 32 => 3
  | 33 => 2
  | 34 => 2
  | 35 => 2
  | 36 => 3
  | 37 => 2
  | 38 => 5
  | 39 => 5
  | 40 => 2
  | 41 => 7
  | 42 => 7
  | 43 => 8
  | 44 => 5
  | 45 => 8
  | 46 => 5
  | 47 => 5
  | 48 => 3
  | 49 => 3
  | 50 => 4
  | 51 => 7
  | 52 => 3
  | 53 => 3
  | 54 => 3
  | 55 => 8
  | 56 => 4
  | 57 => 1
  | 58 => 4
  | 59 => 1
  | 60 => 6
  | 61 => 6
  | 62 => 7
  | 63 => 1
  | 64 => 1
  | 65 => 1
  | 66 => 1
  | 67 => 1
  | 68 => 1
  | 69 => 5
  | 70 => 9
  | 71 => 10
  | _ => 0
def zlo : Nat → Nat
  | 0 => 109
  | 1 => 83
  | 2 => 83
  | 3 => 40
  | 4 => 61
  | 5 => 12
  | 6 => 12
  | 7 => 35
  | 8 => 12
  | 9 => 40
  | 10 => 12
  | 11 => 12
  | 12 => 12
  | 13 => 12
  | 14 => 12
  | 15 => 33
  | 16 => 33
  | 17 => 12
  | 18 => 12
  | 19 => 33
  | 20 => 159
  | 21 => 134
  | 22 => 33
  | 23 => 12
  | 24 => 54
  | 25 => 12
  | 26 => 82
  | 27 => 12
  | 28 => 12
  | 29 => 33
  | 30 => 33
  | 31 => 33
  | 32 => 57
  | 33 => 33
  | 34 => 33
  | 35 => 33
  | 36 => 56
  | 37 => 33
  | 38 => 124
  | 39 => 124
  | 40 => 33
  | 41 => 156
  | 42 => 156
  | 43 => 181
  | 44 => 124
  | 45 => 186
  | 46 => 124
  | 47 => 124
  | 48 => 58
  | 49 => 56
  | 50 => 78
  | 51 => 155
  | 52 => 56
  | 53 => 57
  | 54 => 57
  | 55 => 186
  | 56 => 104
  | 57 => 12
  | 58 => 104
  | 59 => 12
  | 60 => 134
  | 61 => 134
  | 62 => 155
  | 63 => 12
  | 64 => 12
  | 65 => 12
  | 66 => 12
  | 67 => 12
  | 68 => 12
  | 69 => 99
  | 70 => 207
  | 71 => 228
  | _ => 0
def zcname : Nat → String
  | 0 => "FrameDeltas"
  | 1 => "FrameDeltas$State"
  | 2 => "FrameDeltas$Frame"
  | 3 => "FrameDeltas$Image"
  | 8 => "FrameDeltas$Script"
  | 11 => "FrameDeltas$Coder"
  | 12 => "FrameDeltas$RunList"
  | 15 => "FrameDeltas$Planner"
  | _ => ""
/-- where a method keeps longs -/
def zlg (m i : Nat) : Bool := match m with
  | 69 => Nat.beq i 1 || Nat.beq i 1 || Nat.beq i 1 || Nat.beq i 1 || Nat.beq i 1
  | 71 => Nat.beq i 5
  | _ => false

def zML (own : String) (idx f : Nat) (n : Int) (tg : Nat) : Prop :=
  (zy f).cls ≠ "java/lang/invoke/MethodHandle" ∧ (zy f).cls ≠ "java/lang/invoke/VarHandle" ∧ (parseMethodDescriptor (zy f).desc).map (fun d => d.parameters.length) = some (n.toNat - (match tg with | 0 => 0 | _ => 1)) ∧ Cond.initialized (zy f).cls ∈ zTs ∧
  (match tg with
   | 0 => Cond.methodLink own idx (zy f) ∈ zTs ∧ Cond.static (zy f) ∈ zTs
   | g + 1 => Cond.instanceMethod (zy f) ∈ zTs ∧ Cond.selects (zy f).cls (zy f) (zy f) ∈ zTs ∧ zcname g = (zy f).cls ∧ (Cond.methodLink own idx (zy f) ∈ zTs ∨ Cond.methodLinkNest own idx (zy f) "FrameDeltas" ∈ zNs))
/-- a kind's class, its field table, how many fields -/
def zrec (o : Nat) : vw_C := (zcl[zci o]?).getD ("", (fun _ => ("", "", "", false)), 0)
def zFL (own : String) (idx o k : Nat) : Prop := Cond.fieldLink own idx (zrec o).1 ((zrec o).2.1 k).2.1 ((zrec o).2.1 k).2.2.1 ∈ zTs ∨ Cond.fieldLinkNest own idx (zrec o).1 ((zrec o).2.1 k).2.1 ((zrec o).2.1 k).2.2.1 "FrameDeltas" ∈ zNs
/-- what an instruction links, among the words -/
def zOK2 (own : String) (I : Instr) (a : Nat) (cs : List (Int × Nat)) : Prop := match I with
  | .getfield idx => (match cs with
    | _ :: (_, o) :: _ => zFL own idx o a
    | _ => True)
  | .putfield idx => (match cs with
    | _ :: (_, o) :: _ => zFL own idx o a
    | _ => True)
  | .invokevirtual idx => (match cs with
    | (n, _) :: (_, tg) :: _ => zML own idx a n tg
    | _ => True)
  | .invokestatic idx => (match a with
    | 999 => Cond.methodLink own idx arraycopyName ∈ zTs ∧ Cond.native arraycopyName ∈ zTs ∧ Cond.static arraycopyName ∈ zTs ∧ Cond.initialized "java/lang/System" ∈ zTs
    | _ => (match cs with
      | (n, _) :: (_, tg) :: _ => zML own idx a n tg
      | _ => True))
  | .ldc idx => (match cs with | (v, _) :: _ => Cond.constant own idx (Int32.ofInt v) ∈ zTs | _ => True)
  | .ldc2_w idx => (match cs with | (v, _) :: _ => Cond.constantLong own idx (Int64.ofInt v) ∈ zTs | _ => True)
  | .ldc_w idx => (match cs with | (v, _) :: _ => Cond.constant own idx (Int32.ofInt v) ∈ zTs | _ => True)
  | _ => True
def zall2 (own : String) : List mzN → Prop
  | [] => True
  | (_, I, a, cs, _) :: rest => zOK2 own I a cs ∧ zall2 own rest
def zil : Instr → Nat
  | .bipush _ => 2 | .sipush _ => 3 | .ldc _ => 2 | .ldc_w _ => 3 | .ldc2_w _ => 3 | .iload _ => 2 | .lload _ => 2 | .aload _ => 2 | .istore _ => 2 | .lstore _ => 2 | .astore _ => 2
  | .iinc _ _ => 3 | .ifCond _ _ => 3 | .if_icmp _ _ => 3 | .ifnull _ => 3 | .ifnonnull _ => 3 | .goto _ => 3 | .getfield _ => 3 | .putfield _ => 3 | .getstatic _ => 3 | .invokevirtual _ => 3
  | .invokestatic _ => 3 | .invokespecial _ => 3 | .new _ => 3 | .newarray _ => 2 | .anewarray _ => 3 | _ => 1
def zpcs (C : List mzN) (k : Nat) : Nat := match C[k]? with | some q => q.1 | none => 0
def zdk (bs : ByteArray) (pc : Nat) (I : Instr) : Bool := match I with
  | .tableswitch _ _ _ _ => (match decode bs pc with | .ok (J, _) => decide (J = I) | _ => false)
  | _ => decide (decode bs pc = .ok (I, zil I))
def zgt (C : List mzN) (pc : Nat) (off : Int) (a : Nat) : Bool := decide ((pc : Int) + off = (zpcs C a : Int)) && Nat.blt a C.length
def zsw (C : List mzN) (pc : Nat) (lo : Int) : List Int → List (Int × Nat) → Bool
  | [], [] => true
  | o :: os, (v, a) :: cs => decide (v = lo) && zgt C pc o a && zsw C pc (lo + 1) os cs
  | _, _ => false
def zsto (m i : Nat) : Bool := Nat.blt i (zml m) && (match i with | 0 => true | j + 1 => !(zlg m j))
/-- no fall over the end -/
def zfall (C : List mzN) (k : Nat) (pc : Nat) (I : Instr) : Bool := match I with
  | .goto _ => true | .ireturn => true | .areturn => true | .lreturn => true | .return_ => true | .athrow => true | .tableswitch _ _ _ _ => true
  | _ => decide (zpcs C (k + 1) = pc + zil I) && Nat.blt (k + 1) C.length
def zchk1 (m : Nat) (C : List mzN) (pc : Nat) (I : Instr) (a : Nat) (cs : List (Int × Nat)) : Bool := match I with
  | .iconst n => decide (-1 ≤ n) && decide (n ≤ 5)
  | .bipush n => decide (-128 ≤ n) && decide (n ≤ 127)
  | .sipush n => decide (-32768 ≤ n) && decide (n ≤ 32767)
  | .ldc_w _ => (match cs with | (v, _) :: _ => decide (-2147483648 ≤ v) && decide (v ≤ 2147483647) | _ => true)
  | .ldc2_w _ => (match cs with | (v, _) :: _ => decide (-9223372036854775808 ≤ v) && decide (v ≤ 9223372036854775807) | _ => true)
  | .ldc _ => (match cs with | (v, _) :: _ => decide (-2147483648 ≤ v) && decide (v ≤ 2147483647) | _ => true)
  | .istore i => zsto m i
  | .istore_n i => zsto m i.val
  | .astore i => zsto m i
  | .astore_n i => zsto m i.val
  | .lstore_n i => zsto m i.val && zlg m i.val && Nat.blt (i.val + 1) (zml m)
  | .lstore i => zsto m i && zlg m i && Nat.blt (i + 1) (zml m)
  | .iinc i n => zsto m i && decide (-32768 ≤ n) && decide (n ≤ 32767)
  | .goto o => zgt C pc o a
  | .if_icmp _ o => zgt C pc o a
  | .ifCond _ o => zgt C pc o a
  | .ifnull o => zgt C pc o a
  | .ifnonnull o => zgt C pc o a
  | .tableswitch d lo hi os => zgt C pc d a && zsw C pc lo os.toList cs && decide (hi = lo + (os.size : Int) - 1)
  | .getfield _ => (match cs with
    | (x2, kd) :: (_, o) :: (_, x1) :: (_, md) :: _ => (decide ((zfl o)[a]? = some (kd, x1, md, x2)) && Nat.blt 0 (zcnt o) && Nat.beq (zrow o) 0)
    | _ => true)
  | .putfield _ => (match cs with
    | (x2, kd) :: (_, o) :: (_, x1) :: (_, md) :: _ => decide ((zfl o)[a]? = some (kd, x1, md, x2)) && Nat.blt 0 (zcnt o) && Nat.beq (zrow o) 0 && Nat.blt kd 3
    | _ => false)
  | .invokevirtual _ => (match cs with | (n, _) :: (_, g) :: _ => Nat.ble (zfr a + 1) (zfr m) && Nat.ble (8 + (zml a + 11) + zlo a) (zlo m) && Nat.blt 0 g && Nat.blt 0 n.toNat && Nat.blt a 71 && Nat.ble n.toNat (zml a) && (Nat.beq (zrow (g - 1)) 0 && Nat.blt 0 (zcnt (g - 1))) | _ => true)
  | .invokestatic _ => (match cs with | (n, _) :: (_, g) :: _ => Nat.ble (zfr a + 1) (zfr m) && Nat.ble (8 + (zml a + 11) + zlo a) (zlo m) && Nat.beq g 0 && Nat.blt a 71 && Nat.ble n.toNat (zml a) | _ => true)
  | .ireturn => (match a with | 0 => decide (zrt m = some .int) | 1 => decide (zrt m = some .boolean) | 2 => decide (zrt m = some .char) | _ => decide (zrt m = some .byte))
  | .lreturn => decide (zrt m = some .long)
  | .areturn => (match zrt m with | some (.object _) => true | _ => false)
  | .return_ => decide (zrt m = none)
  | _ => true
def zchk0 (m : Nat) (C : List mzN) : Nat → List mzN → Bool
  | _, [] => true
  | k, (pc, I, a, cs, _) :: rest => zdk (zby m) pc I && zfall C k pc I && zchk1 m C pc I a cs && zchk0 m C (k + 1) rest
def zchk (m : Nat) (C D : List mzN) : Bool := zchk0 m C 0 D && (match C with | [] => true | (pc, _) :: _ => Nat.beq pc 0) && Nat.ble 40 (match D.any (fun q => Nat.beq q.2.2.1 999) with | true => zlo m | false => 40)

theorem zm_0_28 : zML "FrameDeltas$Coder" 28 30 2 2 := ⟨by decide +kernel, by decide +kernel, by decide +kernel, zl_2, zl_285, zs_8, rfl, Or.inr zl_292⟩
theorem zm_0_50 : zML "FrameDeltas$Coder" 50 14 1 4 := ⟨by decide +kernel, by decide +kernel, by decide +kernel, zl_3, zl_295, zs_10, rfl, Or.inr zl_293⟩
theorem zm_0_56 : zML "FrameDeltas$Coder" 56 1 3 12 := ⟨by decide +kernel, by decide +kernel, by decide +kernel, zl_6, zl_299, zs_11, rfl, Or.inl zl_297⟩
theorem zm_0_63 : zML "FrameDeltas$Coder" 63 2 5 12 := ⟨by decide +kernel, by decide +kernel, by decide +kernel, zl_6, zl_330, zs_18, rfl, Or.inl zl_328⟩
theorem zm_0_67 : zML "FrameDeltas$Coder" 67 24 4 13 := ⟨by decide +kernel, by decide +kernel, by decide +kernel, zl_7, zl_303, zs_12, rfl, Or.inr zl_301⟩
theorem zm_0_74 : zML "FrameDeltas$Coder" 74 6 6 3 := ⟨by decide +kernel, by decide +kernel, by decide +kernel, zl_4, zl_326, zs_17, rfl, Or.inr zl_324⟩
theorem zm_0_78 : zML "FrameDeltas$Coder" 78 15 2 4 := ⟨by decide +kernel, by decide +kernel, by decide +kernel, zl_3, zl_307, zs_13, rfl, Or.inr zl_332⟩
theorem zm_0_82 : zML "FrameDeltas$Coder" 82 16 2 4 := ⟨by decide +kernel, by decide +kernel, by decide +kernel, zl_3, zl_314, zs_14, rfl, Or.inr zl_333⟩
theorem zm_0_85 : zML "FrameDeltas$Coder" 85 18 6 4 := ⟨by decide +kernel, by decide +kernel, by decide +kernel, zl_3, zl_336, zs_19, rfl, Or.inr zl_334⟩
theorem zm_0_89 : zML "FrameDeltas$Coder" 89 3 6 12 := ⟨by decide +kernel, by decide +kernel, by decide +kernel, zl_6, zl_340, zs_20, rfl, Or.inl zl_338⟩
theorem zm_0_93 : zML "FrameDeltas$Coder" 93 64 1 0 := ⟨by decide +kernel, by decide +kernel, by decide +kernel, zl_10, zl_342, zl_343⟩
theorem zm_0_98 : zML "FrameDeltas$Coder" 98 17 3 4 := ⟨by decide +kernel, by decide +kernel, by decide +kernel, zl_3, zl_347, zs_21, rfl, Or.inr zl_345⟩
theorem zm_0_102 : zML "FrameDeltas$Coder" 102 65 2 0 := ⟨by decide +kernel, by decide +kernel, by decide +kernel, zl_10, zl_349, zl_310⟩
theorem zm_1_33 : zML "FrameDeltas$Frame" 33 9 2 4 := ⟨by decide +kernel, by decide +kernel, by decide +kernel, zl_3, zl_257, zs_3, rfl, Or.inr zl_270⟩
theorem zm_1_43 : zML "FrameDeltas$Frame" 43 14 1 4 := ⟨by decide +kernel, by decide +kernel, by decide +kernel, zl_3, zl_295, zs_10, rfl, Or.inr zl_391⟩
theorem zm_1_47 : zML "FrameDeltas$Frame" 47 5 3 3 := ⟨by decide +kernel, by decide +kernel, by decide +kernel, zl_4, zl_394, zs_29, rfl, Or.inl zl_392⟩
theorem zm_2_32 : zML "FrameDeltas$Image" 32 65 2 0 := ⟨by decide +kernel, by decide +kernel, by decide +kernel, zl_10, zl_309, zl_310⟩
theorem zm_2_41 : zML "FrameDeltas$Image" 41 11 2 4 := ⟨by decide +kernel, by decide +kernel, by decide +kernel, zl_3, zl_434, zs_35, rfl, Or.inl zl_432⟩
theorem zm_3_30 : zML "FrameDeltas$Planner" 30 66 2 0 := ⟨by decide +kernel, by decide +kernel, by decide +kernel, zl_10, zl_276, zl_277⟩
theorem zm_3_36 : zML "FrameDeltas$Planner" 36 21 5 16 := ⟨by decide +kernel, by decide +kernel, by decide +kernel, zl_8, zl_281, zs_7, rfl, Or.inl zl_279⟩
theorem zm_3_43 : zML "FrameDeltas$Planner" 43 22 4 16 := ⟨by decide +kernel, by decide +kernel, by decide +kernel, zl_8, zl_352, zs_22, rfl, Or.inl zl_350⟩
theorem zm_3_47 : zML "FrameDeltas$Planner" 47 63 1 0 := ⟨by decide +kernel, by decide +kernel, by decide +kernel, zl_11, zl_355, zl_356⟩
theorem zm_3_59 : zML "FrameDeltas$Planner" 59 30 2 2 := ⟨by decide +kernel, by decide +kernel, by decide +kernel, zl_2, zl_285, zs_8, rfl, Or.inr zl_283⟩
theorem zm_3_63 : zML "FrameDeltas$Planner" 63 9 2 4 := ⟨by decide +kernel, by decide +kernel, by decide +kernel, zl_3, zl_257, zs_3, rfl, Or.inr zl_287⟩
theorem zm_3_69 : zML "FrameDeltas$Planner" 69 0 4 12 := ⟨by decide +kernel, by decide +kernel, by decide +kernel, zl_6, zl_290, zs_9, rfl, Or.inr zl_288⟩
theorem zm_3_76 : zML "FrameDeltas$Planner" 76 65 2 0 := ⟨by decide +kernel, by decide +kernel, by decide +kernel, zl_10, zl_354, zl_310⟩
theorem zm_4_22 : zML "FrameDeltas$RunList" 22 15 2 4 := ⟨by decide +kernel, by decide +kernel, by decide +kernel, zl_3, zl_307, zs_13, rfl, Or.inr zl_305⟩
theorem zm_4_28 : zML "FrameDeltas$RunList" 28 16 2 4 := ⟨by decide +kernel, by decide +kernel, by decide +kernel, zl_3, zl_314, zs_14, rfl, Or.inr zl_312⟩
theorem zm_4_31 : zML "FrameDeltas$RunList" 31 13 3 4 := ⟨by decide +kernel, by decide +kernel, by decide +kernel, zl_3, zl_318, zs_15, rfl, Or.inr zl_316⟩
theorem zm_4_35 : zML "FrameDeltas$RunList" 35 25 2 13 := ⟨by decide +kernel, by decide +kernel, by decide +kernel, zl_7, zl_322, zs_16, rfl, Or.inl zl_320⟩
theorem zm_6_42 : zML "FrameDeltas$State" 42 9 2 4 := ⟨by decide +kernel, by decide +kernel, by decide +kernel, zl_3, zl_257, zs_3, rfl, Or.inr zl_255⟩
theorem zm_6_46 : zML "FrameDeltas$State" 46 27 2 2 := ⟨by decide +kernel, by decide +kernel, by decide +kernel, zl_2, zl_264, zs_4, rfl, Or.inl zl_262⟩
theorem zm_6_50 : zML "FrameDeltas$State" 50 4 2 3 := ⟨by decide +kernel, by decide +kernel, by decide +kernel, zl_4, zl_268, zs_5, rfl, Or.inr zl_266⟩
theorem zm_6_53 : zML "FrameDeltas$State" 53 28 2 2 := ⟨by decide +kernel, by decide +kernel, by decide +kernel, zl_2, zl_373, zs_24, rfl, Or.inl zl_417⟩
theorem zm_6_67 : zML "FrameDeltas$State" 67 31 2 2 := ⟨by decide +kernel, by decide +kernel, by decide +kernel, zl_2, zl_385, zs_27, rfl, Or.inl zl_408⟩
theorem zm_6_70 : zML "FrameDeltas$State" 70 33 2 2 := ⟨by decide +kernel, by decide +kernel, by decide +kernel, zl_2, zl_381, zs_26, rfl, Or.inl zl_528⟩
theorem zm_7_66 : zML "FrameDeltas" 66 57 1 0 := ⟨by decide +kernel, by decide +kernel, by decide +kernel, zl_1, zl_492, zl_493⟩
theorem zm_7_70 : zML "FrameDeltas" 70 58 1 1 := ⟨by decide +kernel, by decide +kernel, by decide +kernel, zl_1, zl_245, zs_0, rfl, Or.inl zl_243⟩
theorem zm_7_79 : zML "FrameDeltas" 79 8 3 4 := ⟨by decide +kernel, by decide +kernel, by decide +kernel, zl_3, zl_497, zs_38, rfl, Or.inr zl_495⟩
theorem zm_7_83 : zML "FrameDeltas" 83 14 1 4 := ⟨by decide +kernel, by decide +kernel, by decide +kernel, zl_3, zl_295, zs_10, rfl, Or.inr zl_499⟩
theorem zm_7_87 : zML "FrameDeltas" 87 10 2 4 := ⟨by decide +kernel, by decide +kernel, by decide +kernel, zl_3, zl_472, zs_37, rfl, Or.inr zl_470⟩
theorem zm_7_90 : zML "FrameDeltas" 90 11 2 4 := ⟨by decide +kernel, by decide +kernel, by decide +kernel, zl_3, zl_434, zs_35, rfl, Or.inr zl_474⟩
theorem zm_7_94 : zML "FrameDeltas" 94 12 3 4 := ⟨by decide +kernel, by decide +kernel, by decide +kernel, zl_3, zl_543, zs_42, rfl, Or.inr zl_541⟩
theorem zm_7_130 : zML "FrameDeltas" 130 60 2 1 := ⟨by decide +kernel, by decide +kernel, by decide +kernel, zl_1, zl_518, zs_39, rfl, Or.inl zl_516⟩
theorem zm_7_133 : zML "FrameDeltas" 133 28 2 2 := ⟨by decide +kernel, by decide +kernel, by decide +kernel, zl_2, zl_373, zs_24, rfl, Or.inr zl_371⟩
theorem zm_7_136 : zML "FrameDeltas" 136 32 2 2 := ⟨by decide +kernel, by decide +kernel, by decide +kernel, zl_2, zl_526, zs_40, rfl, Or.inr zl_524⟩
theorem zm_7_139 : zML "FrameDeltas" 139 62 1 1 := ⟨by decide +kernel, by decide +kernel, by decide +kernel, zl_1, zl_535, zs_41, rfl, Or.inl zl_533⟩
theorem zm_7_142 : zML "FrameDeltas" 142 20 4 16 := ⟨by decide +kernel, by decide +kernel, by decide +kernel, zl_8, zl_274, zs_6, rfl, Or.inr zl_272⟩
theorem zm_7_146 : zML "FrameDeltas" 146 27 2 2 := ⟨by decide +kernel, by decide +kernel, by decide +kernel, zl_2, zl_264, zs_4, rfl, Or.inr zl_361⟩
theorem zm_7_150 : zML "FrameDeltas" 150 23 2 16 := ⟨by decide +kernel, by decide +kernel, by decide +kernel, zl_8, zl_364, zs_23, rfl, Or.inr zl_362⟩
theorem zm_7_153 : zML "FrameDeltas" 153 0 4 12 := ⟨by decide +kernel, by decide +kernel, by decide +kernel, zl_6, zl_290, zs_9, rfl, Or.inr zl_366⟩
theorem zm_7_173 : zML "FrameDeltas" 173 36 1 2 := ⟨by decide +kernel, by decide +kernel, by decide +kernel, zl_2, zl_406, zs_31, rfl, Or.inr zl_404⟩
theorem zm_7_180 : zML "FrameDeltas" 180 34 2 2 := ⟨by decide +kernel, by decide +kernel, by decide +kernel, zl_2, zl_377, zs_25, rfl, Or.inr zl_375⟩
theorem zm_7_183 : zML "FrameDeltas" 183 33 2 2 := ⟨by decide +kernel, by decide +kernel, by decide +kernel, zl_2, zl_381, zs_26, rfl, Or.inr zl_379⟩
theorem zm_7_119 : zML "FrameDeltas" 119 31 2 2 := ⟨by decide +kernel, by decide +kernel, by decide +kernel, zl_2, zl_385, zs_27, rfl, Or.inr zl_383⟩
theorem zm_7_186 : zML "FrameDeltas" 186 7 2 3 := ⟨by decide +kernel, by decide +kernel, by decide +kernel, zl_4, zl_389, zs_28, rfl, Or.inr zl_387⟩
theorem zm_7_122 : zML "FrameDeltas" 122 30 2 2 := ⟨by decide +kernel, by decide +kernel, by decide +kernel, zl_2, zl_285, zs_8, rfl, Or.inr zl_427⟩
theorem zm_7_223 : zML "FrameDeltas" 223 37 1 2 := ⟨by decide +kernel, by decide +kernel, by decide +kernel, zl_2, zl_402, zs_30, rfl, Or.inr zl_400⟩
theorem zm_7_112 : zML "FrameDeltas" 112 29 2 2 := ⟨by decide +kernel, by decide +kernel, by decide +kernel, zl_2, zl_415, zs_32, rfl, Or.inr zl_413⟩
theorem zm_7_226 : zML "FrameDeltas" 226 61 2 1 := ⟨by decide +kernel, by decide +kernel, by decide +kernel, zl_1, zl_420, zs_33, rfl, Or.inl zl_418⟩
theorem zm_7_229 : zML "FrameDeltas" 229 19 2 4 := ⟨by decide +kernel, by decide +kernel, by decide +kernel, zl_3, zl_430, zs_34, rfl, Or.inr zl_428⟩
theorem zm_7_246 : zML "FrameDeltas" 246 65 2 0 := ⟨by decide +kernel, by decide +kernel, by decide +kernel, zl_10, zl_440, zl_310⟩
theorem zm_7_251 : zML "FrameDeltas" 251 35 3 2 := ⟨by decide +kernel, by decide +kernel, by decide +kernel, zl_2, zl_447, zs_36, rfl, Or.inr zl_445⟩
theorem zm_7_257 : zML "FrameDeltas" 257 59 2 1 := ⟨by decide +kernel, by decide +kernel, by decide +kernel, zl_1, zl_249, zs_1, rfl, Or.inl zl_247⟩
theorem zm_7_261 : zML "FrameDeltas" 261 26 2 2 := ⟨by decide +kernel, by decide +kernel, by decide +kernel, zl_2, zl_253, zs_2, rfl, Or.inr zl_251⟩
theorem zm_7_265 : zML "FrameDeltas" 265 9 2 4 := ⟨by decide +kernel, by decide +kernel, by decide +kernel, zl_3, zl_257, zs_3, rfl, Or.inr zl_422⟩
theorem zm_12_12 : zML "FrameDeltasLaw" 12 50 2 1 := ⟨by decide +kernel, by decide +kernel, by decide +kernel, zl_1, zl_397, zl_398, rfl, Or.inl zl_396⟩
theorem zm_12_20 : zML "FrameDeltasLaw" 20 40 2 1 := ⟨by decide +kernel, by decide +kernel, by decide +kernel, zl_1, zl_467, zl_468, rfl, Or.inl zl_466⟩
theorem zm_12_25 : zML "FrameDeltasLaw" 25 48 3 1 := ⟨by decide +kernel, by decide +kernel, by decide +kernel, zl_1, zl_368, zl_369, rfl, Or.inl zl_367⟩
theorem zm_12_31 : zML "FrameDeltasLaw" 31 49 3 1 := ⟨by decide +kernel, by decide +kernel, by decide +kernel, zl_1, zl_478, zl_479, rfl, Or.inl zl_477⟩
theorem zm_12_34 : zML "FrameDeltasLaw" 34 68 2 0 := ⟨by decide +kernel, by decide +kernel, by decide +kernel, zl_0, zl_484, zl_485⟩
theorem zm_12_39 : zML "FrameDeltasLaw" 39 38 3 1 := ⟨by decide +kernel, by decide +kernel, by decide +kernel, zl_1, zl_489, zl_490, rfl, Or.inl zl_488⟩
theorem zm_12_42 : zML "FrameDeltasLaw" 42 45 1 1 := ⟨by decide +kernel, by decide +kernel, by decide +kernel, zl_1, zl_240, zl_241, rfl, Or.inl zl_239⟩
theorem zm_12_46 : zML "FrameDeltasLaw" 46 46 4 1 := ⟨by decide +kernel, by decide +kernel, by decide +kernel, zl_1, zl_501, zl_502, rfl, Or.inl zl_500⟩
theorem zm_12_50 : zML "FrameDeltasLaw" 50 44 1 1 := ⟨by decide +kernel, by decide +kernel, by decide +kernel, zl_1, zl_505, zl_506, rfl, Or.inl zl_504⟩
theorem zm_12_53 : zML "FrameDeltasLaw" 53 47 3 1 := ⟨by decide +kernel, by decide +kernel, by decide +kernel, zl_1, zl_509, zl_510, rfl, Or.inl zl_508⟩
theorem zm_12_56 : zML "FrameDeltasLaw" 56 41 1 1 := ⟨by decide +kernel, by decide +kernel, by decide +kernel, zl_1, zl_513, zl_514, rfl, Or.inl zl_512⟩
theorem zm_12_59 : zML "FrameDeltasLaw" 59 42 2 1 := ⟨by decide +kernel, by decide +kernel, by decide +kernel, zl_1, zl_521, zl_522, rfl, Or.inl zl_520⟩
theorem zm_12_62 : zML "FrameDeltasLaw" 62 43 1 1 := ⟨by decide +kernel, by decide +kernel, by decide +kernel, zl_1, zl_530, zl_531, rfl, Or.inl zl_529⟩
theorem zm_12_65 : zML "FrameDeltasLaw" 65 39 3 1 := ⟨by decide +kernel, by decide +kernel, by decide +kernel, zl_1, zl_538, zl_539, rfl, Or.inl zl_537⟩
theorem zm_12_69 : zML "FrameDeltasLaw" 69 67 2 0 := ⟨by decide +kernel, by decide +kernel, by decide +kernel, zl_0, zl_457, zl_458⟩
theorem zm_12_72 : zML "FrameDeltasLaw" 72 69 1 0 := ⟨by decide +kernel, by decide +kernel, by decide +kernel, zl_0, zl_460, zl_461⟩
theorem zm_12_76 : zML "FrameDeltasLaw" 76 51 2 1 := ⟨by decide +kernel, by decide +kernel, by decide +kernel, zl_1, zl_410, zl_411, rfl, Or.inl zl_409⟩
theorem zm_12_79 : zML "FrameDeltasLaw" 79 70 2 0 := ⟨by decide +kernel, by decide +kernel, by decide +kernel, zl_0, zl_481, zl_482⟩
theorem zm_12_83 : zML "FrameDeltasLaw" 83 52 3 1 := ⟨by decide +kernel, by decide +kernel, by decide +kernel, zl_1, zl_424, zl_425, rfl, Or.inl zl_423⟩
theorem zm_12_86 : zML "FrameDeltasLaw" 86 56 1 1 := ⟨by decide +kernel, by decide +kernel, by decide +kernel, zl_1, zl_454, zl_455, rfl, Or.inl zl_453⟩
theorem zm_12_89 : zML "FrameDeltasLaw" 89 54 2 1 := ⟨by decide +kernel, by decide +kernel, by decide +kernel, zl_1, zl_442, zl_443, rfl, Or.inl zl_441⟩
theorem zm_12_92 : zML "FrameDeltasLaw" 92 55 1 1 := ⟨by decide +kernel, by decide +kernel, by decide +kernel, zl_1, zl_450, zl_451, rfl, Or.inl zl_449⟩
theorem zm_12_95 : zML "FrameDeltasLaw" 95 53 1 1 := ⟨by decide +kernel, by decide +kernel, by decide +kernel, zl_1, zl_437, zl_438, rfl, Or.inl zl_436⟩
theorem zcw_0 : Cond.code (zy 0) (zby 0) (zml 0) (zrt 0) ∈ zTs := zl_291
theorem zcw_1 : Cond.code (zy 1) (zby 1) (zml 1) (zrt 1) ∈ zTs := zl_300
theorem zcw_2 : Cond.code (zy 2) (zby 2) (zml 2) (zrt 2) ∈ zTs := zl_331
theorem zcw_3 : Cond.code (zy 3) (zby 3) (zml 3) (zrt 3) ∈ zTs := zl_341
theorem zcw_4 : Cond.code (zy 4) (zby 4) (zml 4) (zrt 4) ∈ zTs := zl_269
theorem zcw_5 : Cond.code (zy 5) (zby 5) (zml 5) (zrt 5) ∈ zTs := zl_395
theorem zcw_6 : Cond.code (zy 6) (zby 6) (zml 6) (zrt 6) ∈ zTs := zl_327
theorem zcw_7 : Cond.code (zy 7) (zby 7) (zml 7) (zrt 7) ∈ zTs := zl_390
theorem zcw_8 : Cond.code (zy 8) (zby 8) (zml 8) (zrt 8) ∈ zTs := zl_498
theorem zcw_9 : Cond.code (zy 9) (zby 9) (zml 9) (zrt 9) ∈ zTs := zl_258
theorem zcw_10 : Cond.code (zy 10) (zby 10) (zml 10) (zrt 10) ∈ zTs := zl_473
theorem zcw_11 : Cond.code (zy 11) (zby 11) (zml 11) (zrt 11) ∈ zTs := zl_435
theorem zcw_12 : Cond.code (zy 12) (zby 12) (zml 12) (zrt 12) ∈ zTs := zl_544
theorem zcw_13 : Cond.code (zy 13) (zby 13) (zml 13) (zrt 13) ∈ zTs := zl_319
theorem zcw_14 : Cond.code (zy 14) (zby 14) (zml 14) (zrt 14) ∈ zTs := zl_296
theorem zcw_15 : Cond.code (zy 15) (zby 15) (zml 15) (zrt 15) ∈ zTs := zl_308
theorem zcw_16 : Cond.code (zy 16) (zby 16) (zml 16) (zrt 16) ∈ zTs := zl_315
theorem zcw_17 : Cond.code (zy 17) (zby 17) (zml 17) (zrt 17) ∈ zTs := zl_348
theorem zcw_18 : Cond.code (zy 18) (zby 18) (zml 18) (zrt 18) ∈ zTs := zl_337
theorem zcw_19 : Cond.code (zy 19) (zby 19) (zml 19) (zrt 19) ∈ zTs := zl_431
theorem zcw_20 : Cond.code (zy 20) (zby 20) (zml 20) (zrt 20) ∈ zTs := zl_275
theorem zcw_21 : Cond.code (zy 21) (zby 21) (zml 21) (zrt 21) ∈ zTs := zl_282
theorem zcw_22 : Cond.code (zy 22) (zby 22) (zml 22) (zrt 22) ∈ zTs := zl_353
theorem zcw_23 : Cond.code (zy 23) (zby 23) (zml 23) (zrt 23) ∈ zTs := zl_365
theorem zcw_24 : Cond.code (zy 24) (zby 24) (zml 24) (zrt 24) ∈ zTs := zl_304
theorem zcw_25 : Cond.code (zy 25) (zby 25) (zml 25) (zrt 25) ∈ zTs := zl_323
theorem zcw_26 : Cond.code (zy 26) (zby 26) (zml 26) (zrt 26) ∈ zTs := zl_254
theorem zcw_27 : Cond.code (zy 27) (zby 27) (zml 27) (zrt 27) ∈ zTs := zl_265
theorem zcw_28 : Cond.code (zy 28) (zby 28) (zml 28) (zrt 28) ∈ zTs := zl_374
theorem zcw_29 : Cond.code (zy 29) (zby 29) (zml 29) (zrt 29) ∈ zTs := zl_416
theorem zcw_30 : Cond.code (zy 30) (zby 30) (zml 30) (zrt 30) ∈ zTs := zl_286
theorem zcw_31 : Cond.code (zy 31) (zby 31) (zml 31) (zrt 31) ∈ zTs := zl_386
theorem zcw_32 : Cond.code (zy 32) (zby 32) (zml 32) (zrt 32) ∈ zTs := zl_527
theorem zcw_33 : Cond.code (zy 33) (zby 33) (zml 33) (zrt 33) ∈ zTs := zl_382
theorem zcw_34 : Cond.code (zy 34) (zby 34) (zml 34) (zrt 34) ∈ zTs := zl_378
theorem zcw_35 : Cond.code (zy 35) (zby 35) (zml 35) (zrt 35) ∈ zTs := zl_448
theorem zcw_36 : Cond.code (zy 36) (zby 36) (zml 36) (zrt 36) ∈ zTs := zl_407
theorem zcw_37 : Cond.code (zy 37) (zby 37) (zml 37) (zrt 37) ∈ zTs := zl_403
theorem zcw_38 : Cond.code (zy 38) (zby 38) (zml 38) (zrt 38) ∈ zTs := zl_491
theorem zcw_39 : Cond.code (zy 39) (zby 39) (zml 39) (zrt 39) ∈ zTs := zl_540
theorem zcw_40 : Cond.code (zy 40) (zby 40) (zml 40) (zrt 40) ∈ zTs := zl_469
theorem zcw_41 : Cond.code (zy 41) (zby 41) (zml 41) (zrt 41) ∈ zTs := zl_515
theorem zcw_42 : Cond.code (zy 42) (zby 42) (zml 42) (zrt 42) ∈ zTs := zl_523
theorem zcw_43 : Cond.code (zy 43) (zby 43) (zml 43) (zrt 43) ∈ zTs := zl_532
theorem zcw_44 : Cond.code (zy 44) (zby 44) (zml 44) (zrt 44) ∈ zTs := zl_507
theorem zcw_45 : Cond.code (zy 45) (zby 45) (zml 45) (zrt 45) ∈ zTs := zl_242
theorem zcw_46 : Cond.code (zy 46) (zby 46) (zml 46) (zrt 46) ∈ zTs := zl_503
theorem zcw_47 : Cond.code (zy 47) (zby 47) (zml 47) (zrt 47) ∈ zTs := zl_511
theorem zcw_48 : Cond.code (zy 48) (zby 48) (zml 48) (zrt 48) ∈ zTs := zl_370
theorem zcw_49 : Cond.code (zy 49) (zby 49) (zml 49) (zrt 49) ∈ zTs := zl_480
theorem zcw_50 : Cond.code (zy 50) (zby 50) (zml 50) (zrt 50) ∈ zTs := zl_399
theorem zcw_51 : Cond.code (zy 51) (zby 51) (zml 51) (zrt 51) ∈ zTs := zl_412
theorem zcw_52 : Cond.code (zy 52) (zby 52) (zml 52) (zrt 52) ∈ zTs := zl_426
theorem zcw_53 : Cond.code (zy 53) (zby 53) (zml 53) (zrt 53) ∈ zTs := zl_439
theorem zcw_54 : Cond.code (zy 54) (zby 54) (zml 54) (zrt 54) ∈ zTs := zl_444
theorem zcw_55 : Cond.code (zy 55) (zby 55) (zml 55) (zrt 55) ∈ zTs := zl_452
theorem zcw_56 : Cond.code (zy 56) (zby 56) (zml 56) (zrt 56) ∈ zTs := zl_456
theorem zcw_57 : Cond.code (zy 57) (zby 57) (zml 57) (zrt 57) ∈ zTs := zl_494
theorem zcw_58 : Cond.code (zy 58) (zby 58) (zml 58) (zrt 58) ∈ zTs := zl_246
theorem zcw_59 : Cond.code (zy 59) (zby 59) (zml 59) (zrt 59) ∈ zTs := zl_250
theorem zcw_60 : Cond.code (zy 60) (zby 60) (zml 60) (zrt 60) ∈ zTs := zl_519
theorem zcw_61 : Cond.code (zy 61) (zby 61) (zml 61) (zrt 61) ∈ zTs := zl_421
theorem zcw_62 : Cond.code (zy 62) (zby 62) (zml 62) (zrt 62) ∈ zTs := zl_536
theorem zcw_63 : Cond.code (zy 63) (zby 63) (zml 63) (zrt 63) ∈ zTs := zl_357
theorem zcw_64 : Cond.code (zy 64) (zby 64) (zml 64) (zrt 64) ∈ zTs := zl_344
theorem zcw_65 : Cond.code (zy 65) (zby 65) (zml 65) (zrt 65) ∈ zTs := zl_311
theorem zcw_66 : Cond.code (zy 66) (zby 66) (zml 66) (zrt 66) ∈ zTs := zl_278
theorem zcw_67 : Cond.code (zy 67) (zby 67) (zml 67) (zrt 67) ∈ zTs := zl_459
theorem zcw_68 : Cond.code (zy 68) (zby 68) (zml 68) (zrt 68) ∈ zTs := zl_486
theorem zcw_69 : Cond.code (zy 69) (zby 69) (zml 69) (zrt 69) ∈ zTs := zl_462
theorem zcw_70 : Cond.code (zy 70) (zby 70) (zml 70) (zrt 70) ∈ zTs := zl_483
theorem zchk0_split (m : Nat) (C : List mzN) (n : Nat) : ∀ (k : Nat) (D : List mzN), zchk0 m C k (D.take n) = true → zchk0 m C (k + n) (D.drop n) = true → zchk0 m C k D = true := by
  induction n with
  | zero => intro k D _ h; exact h
  | succ n ih =>
    intro k D h1 h2
    cases D with
    | nil => rfl
    | cons x D =>
      obtain ⟨pc, I, a, cs, b⟩ := x
      simp only [List.take_succ_cons, zchk0, Bool.and_eq_true] at h1
      simp only [zchk0, Bool.and_eq_true]
      refine ⟨h1.1, ih (k + 1) D h1.2 ?_⟩
      rw [Nat.add_assoc, Nat.add_comm 1 n]
      exact h2
set_option maxRecDepth 100000 in
theorem zok1_0 : zchk 0 zc0 zc0 = true := by decide +kernel
set_option maxRecDepth 100000 in
theorem zok2_0 : zall2 "FrameDeltas$Coder" zc0 := ⟨trivial, trivial, trivial, trivial, trivial, trivial, trivial, zm_0_28, trivial, trivial, trivial, Or.inr zl_61, trivial, trivial, Or.inr zl_70, trivial, trivial, Or.inr zl_65, trivial, trivial, trivial, trivial, Or.inr zl_55, zm_0_50, trivial, trivial, trivial, Or.inr zl_65, trivial, trivial, trivial, trivial, trivial, zm_0_56, trivial, trivial, trivial, trivial, trivial, trivial, Or.inr zl_92, zm_0_63, trivial, Or.inr zl_65, trivial, trivial, trivial, trivial⟩
set_option maxRecDepth 100000 in
theorem zok1_1 : zchk 1 zc1 zc1 = true := by decide +kernel
set_option maxRecDepth 100000 in
theorem zok2_1 : zall2 "FrameDeltas$Coder" zc1 := ⟨trivial, Or.inl zl_171, trivial, Or.inr zl_55, trivial, trivial, zm_0_67, trivial, trivial, trivial, trivial, trivial, trivial, Or.inl zl_171, Or.inr zl_163, zm_0_74, trivial, trivial, trivial, Or.inl zl_171, Or.inr zl_163, trivial, trivial, trivial, trivial⟩
set_option maxRecDepth 100000 in
theorem zok1_2 : zchk 2 zc2 zc2 = true := by decide +kernel
set_option maxRecDepth 100000 in
theorem zok2_2 : zall2 "FrameDeltas$Coder" zc2 := ⟨trivial, Or.inr zl_55, trivial, zm_0_78, trivial, trivial, Or.inr zl_55, trivial, zm_0_82, trivial, trivial, Or.inr zl_55, trivial, trivial, trivial, trivial, trivial, zm_0_85, trivial, trivial, trivial, trivial, trivial, trivial, trivial, zm_0_74, trivial, trivial, trivial, trivial, Or.inr zl_55, trivial, trivial, trivial, trivial, zm_0_89, trivial, trivial, trivial, trivial, trivial, Or.inl zl_173, trivial, Or.inl zl_174, trivial, zm_0_74, trivial, trivial, trivial, Or.inl zl_171, trivial, Or.inr zl_55, trivial, trivial, zm_0_67, trivial, Or.inl zl_172, trivial, Or.inr zl_55, trivial, trivial, zm_0_67, trivial, Or.inl zl_171, Or.inr zl_163, trivial, Or.inl zl_172, Or.inr zl_163, trivial, trivial, trivial, trivial, trivial, trivial, trivial, Or.inl zl_171, Or.inr zl_163, zm_0_74, trivial, trivial, trivial, Or.inl zl_171, Or.inr zl_163, trivial, trivial, trivial, trivial, trivial, trivial, trivial, trivial, trivial, Or.inl zl_172, Or.inr zl_163, zm_0_74, trivial, trivial, trivial, Or.inl zl_172, Or.inr zl_163, trivial, trivial, trivial, trivial⟩
set_option maxRecDepth 100000 in
theorem zok1_3 : zchk 3 zc3 zc3 = true := by decide +kernel
set_option maxRecDepth 100000 in
theorem zok2_3 : zall2 "FrameDeltas$Coder" zc3 := ⟨trivial, trivial, trivial, trivial, trivial, trivial, trivial, trivial, trivial, trivial, trivial, trivial, trivial, trivial, trivial, zm_0_93, trivial, trivial, trivial, trivial, trivial, trivial, trivial, trivial, trivial, trivial, trivial, trivial, trivial, trivial, trivial, trivial, trivial, trivial, trivial, trivial, trivial, zm_0_98, trivial, trivial, trivial, trivial, trivial, trivial, trivial, trivial, trivial, trivial, trivial, zm_0_85, trivial, trivial, trivial, Or.inl zl_173, trivial, trivial, Or.inl zl_174, trivial, trivial, trivial, trivial, trivial, trivial, trivial, zm_0_102, trivial, trivial, trivial, trivial, trivial, trivial, trivial, trivial, trivial, trivial⟩
set_option maxRecDepth 100000 in
theorem zok1_4 : zchk 4 zc4 zc4 = true := by decide +kernel
set_option maxRecDepth 100000 in
theorem zok2_4 : zall2 "FrameDeltas$Frame" zc4 := ⟨trivial, Or.inl zl_54, trivial, Or.inl zl_54, zm_1_33, trivial, Or.inl zl_59, trivial, trivial, Or.inl zl_59, trivial, trivial, ⟨zl_271, zl_261, zl_260, zl_9⟩, trivial, trivial, Or.inl zl_60, Or.inl zl_60, trivial, trivial, Or.inl zl_64, Or.inl zl_64, trivial, trivial, Or.inl zl_69, Or.inl zl_69, trivial, trivial⟩
set_option maxRecDepth 100000 in
theorem zok1_5 : zchk 5 zc5 zc5 = true := by decide +kernel
set_option maxRecDepth 100000 in
theorem zok2_5 : zall2 "FrameDeltas$Frame" zc5 := ⟨trivial, trivial, trivial, trivial, trivial, trivial, trivial, trivial, trivial, trivial, Or.inl zl_59, trivial, trivial, trivial, Or.inl zl_59, trivial, trivial, trivial, trivial, trivial, trivial⟩
set_option maxRecDepth 100000 in
theorem zok1_6 : zchk 6 zc6 zc6 = true := by decide +kernel
set_option maxRecDepth 100000 in
theorem zok2_6 : zall2 "FrameDeltas$Frame" zc6 := ⟨trivial, trivial, trivial, trivial, trivial, trivial, trivial, trivial, trivial, trivial, Or.inl zl_59, trivial, trivial, trivial, Or.inl zl_59, trivial, trivial, trivial, trivial, trivial, trivial, Or.inl zl_59, trivial, trivial, trivial, trivial, trivial, trivial, Or.inl zl_59, trivial, trivial, trivial, trivial, trivial, trivial, Or.inl zl_59, trivial, trivial, trivial, trivial, trivial, trivial, trivial⟩
set_option maxRecDepth 100000 in
theorem zok1_7 : zchk 7 zc7 zc7 = true := by decide +kernel
set_option maxRecDepth 100000 in
theorem zok2_7 : zall2 "FrameDeltas$Frame" zc7 := ⟨trivial, trivial, trivial, trivial, trivial, trivial, Or.inl zl_54, zm_1_43, trivial, trivial, trivial, trivial, zm_1_47, trivial, trivial, trivial, trivial, trivial, trivial, trivial, trivial⟩
set_option maxRecDepth 100000 in
theorem zok1_8 : zchk 8 zc8 zc8 = true := by decide +kernel
set_option maxRecDepth 100000 in
theorem zok2_8 : zall2 "FrameDeltas$Image" zc8 := ⟨trivial, trivial, Or.inl zl_33, trivial, trivial, Or.inl zl_35, trivial, trivial, trivial, trivial, Or.inl zl_32, trivial, trivial, trivial, Or.inl zl_32, trivial, trivial, trivial, trivial, trivial, trivial, trivial⟩
set_option maxRecDepth 100000 in
theorem zok1_9 : zchk 9 zc9 zc9 = true := by decide +kernel
set_option maxRecDepth 100000 in
theorem zok2_9 : zall2 "FrameDeltas$Image" zc9 := ⟨trivial, trivial, Or.inl zl_33, Or.inl zl_33, trivial, trivial, Or.inl zl_35, Or.inl zl_35, trivial, Or.inl zl_32, trivial, trivial, Or.inl zl_32, trivial, trivial, ⟨zl_259, zl_261, zl_260, zl_9⟩, trivial, trivial⟩
set_option maxRecDepth 100000 in
theorem zok1_10 : zchk 10 zc10 zc10 = true := by decide +kernel
set_option maxRecDepth 100000 in
theorem zok2_10 : zall2 "FrameDeltas$Image" zc10 := ⟨trivial, trivial, trivial, trivial, Or.inl zl_33, trivial, Or.inl zl_35, trivial, trivial, trivial, trivial, trivial, trivial, trivial⟩
set_option maxRecDepth 100000 in
theorem zok1_11 : zchk 11 zc11 zc11 = true := by decide +kernel
set_option maxRecDepth 100000 in
theorem zok2_11 : zall2 "FrameDeltas$Image" zc11 := ⟨trivial, trivial, trivial, trivial, Or.inl zl_32, trivial, trivial, trivial, Or.inl zl_32, trivial, trivial, trivial, trivial, trivial, trivial⟩
set_option maxRecDepth 100000 in
theorem zok1_12 : zchk 12 zc12 zc12 = true := by decide +kernel
set_option maxRecDepth 100000 in
theorem zok2_12 : zall2 "FrameDeltas$Image" zc12 := ⟨trivial, trivial, trivial, trivial, Or.inl zl_32, trivial, trivial, trivial, Or.inl zl_32, trivial, trivial, trivial, trivial, trivial⟩
set_option maxRecDepth 100000 in
theorem zok1_13 : zchk 13 zc13 zc13 = true := by decide +kernel
set_option maxRecDepth 100000 in
theorem zok2_13 : zall2 "FrameDeltas$Image" zc13 := ⟨trivial, trivial, trivial, trivial, Or.inl zl_33, trivial, trivial, trivial, trivial, trivial, Or.inl zl_35, trivial, trivial, trivial, trivial, trivial, Or.inl zl_33, trivial, trivial, trivial, trivial, trivial, trivial, Or.inl zl_32, trivial, trivial, trivial, Or.inl zl_32, trivial, trivial, trivial, trivial, trivial, trivial⟩
set_option maxRecDepth 100000 in
theorem zok1_14 : zchk 14 zc14 zc14 = true := by decide +kernel
set_option maxRecDepth 100000 in
theorem zok2_14 : zall2 "FrameDeltas$Image" zc14 := ⟨trivial, Or.inl zl_33, trivial, trivial, trivial, Or.inl zl_35, trivial, trivial, trivial, trivial, trivial⟩
set_option maxRecDepth 100000 in
theorem zok1_15 : zchk 15 zc15 zc15 = true := by decide +kernel
set_option maxRecDepth 100000 in
theorem zok2_15 : zall2 "FrameDeltas$Image" zc15 := ⟨trivial, trivial, trivial, trivial, Or.inl zl_33, trivial, trivial, zm_2_32, trivial, trivial, trivial, trivial⟩
set_option maxRecDepth 100000 in
theorem zok1_16 : zchk 16 zc16 zc16 = true := by decide +kernel
set_option maxRecDepth 100000 in
theorem zok2_16 : zall2 "FrameDeltas$Image" zc16 := ⟨trivial, trivial, trivial, trivial, Or.inl zl_33, trivial, trivial, zm_2_32, trivial, trivial, trivial, trivial⟩
set_option maxRecDepth 100000 in
theorem zok1_17 : zchk 17 zc17 zc17 = true := by decide +kernel
set_option maxRecDepth 100000 in
theorem zok2_17 : zall2 "FrameDeltas$Image" zc17 := ⟨trivial, trivial, trivial, trivial, Or.inl zl_33, trivial, trivial, trivial, trivial, trivial, trivial, trivial, Or.inl zl_35, trivial, trivial, trivial, trivial, trivial, trivial, trivial, trivial⟩
set_option maxRecDepth 100000 in
theorem zok1_18 : zchk 18 zc18 zc18 = true := by decide +kernel
set_option maxRecDepth 100000 in
theorem zok2_18 : zall2 "FrameDeltas$Image" zc18 := ⟨trivial, trivial, trivial, trivial, trivial, trivial, trivial, trivial, trivial, trivial, trivial, Or.inl zl_33, trivial, trivial, trivial, trivial, trivial, trivial, trivial, trivial, trivial, trivial, trivial, trivial, trivial, trivial, Or.inl zl_33, trivial, trivial, trivial, trivial, trivial, trivial, trivial, trivial, trivial, trivial, trivial, trivial, Or.inl zl_32, trivial, trivial, trivial, trivial, trivial, trivial, Or.inl zl_32, trivial, trivial, trivial, trivial, trivial, Or.inl zl_32, trivial, trivial, trivial, Or.inl zl_32, trivial, trivial, trivial, trivial, trivial, trivial, trivial, trivial, trivial, trivial⟩
set_option maxRecDepth 100000 in
theorem zok1_19 : zchk 19 zc19 zc19 = true := by decide +kernel
set_option maxRecDepth 100000 in
theorem zok2_19 : zall2 "FrameDeltas$Image" zc19 := ⟨trivial, trivial, trivial, trivial, trivial, trivial, Or.inl zl_33, trivial, Or.inl zl_35, trivial, trivial, trivial, trivial, zm_2_41, trivial, trivial, zm_2_41, trivial, trivial, trivial, trivial, trivial, trivial, trivial⟩
set_option maxRecDepth 100000 in
theorem zok1_20 : zchk 20 zc20 zc20 = true := by decide +kernel
set_option maxRecDepth 100000 in
theorem zok2_20 : zall2 "FrameDeltas$Planner" zc20 := ⟨trivial, Or.inr zl_89, trivial, zm_3_30, trivial, trivial, trivial, trivial, trivial, trivial, zm_3_36, trivial, trivial, trivial, trivial, trivial, Or.inr zl_97, zm_3_43, Or.inl zl_192, trivial, trivial, Or.inl zl_194, trivial, trivial, trivial, trivial, trivial, trivial, trivial, trivial, trivial, trivial, trivial, Or.inr zl_97, zm_3_43, trivial, trivial, zm_3_47, trivial, Or.inl zl_194, zm_3_47, trivial, trivial, trivial, trivial, trivial, trivial, trivial, Or.inl zl_192, trivial, trivial, trivial, Or.inl zl_192, trivial, trivial, trivial, trivial, trivial, Or.inl zl_192, trivial, trivial, Or.inl zl_194, trivial, trivial, trivial, trivial⟩
set_option maxRecDepth 100000 in
theorem zok1_21 : zchk 21 zc21 zc21 = true := by decide +kernel
set_option maxRecDepth 100000 in
theorem zok2_21 : zall2 "FrameDeltas$Planner" zc21 := ⟨trivial, trivial, trivial, trivial, trivial, trivial, trivial, Or.inl zl_190, trivial, trivial, trivial, trivial, Or.inl zl_191, trivial, trivial, trivial, Or.inr zl_56, trivial, trivial, zm_3_59, zm_3_63, trivial, trivial, trivial, trivial, zm_3_69, trivial, Or.inl zl_190, trivial, trivial, Or.inr zl_66, trivial, trivial, trivial, trivial, trivial, trivial, trivial, trivial, trivial, zm_3_69, trivial, Or.inl zl_191, trivial, trivial, Or.inr zl_66, trivial, trivial, trivial, trivial, trivial⟩
set_option maxRecDepth 100000 in
theorem zok1_22 : zchk 22 zc22 zc22 = true := by decide +kernel
set_option maxRecDepth 100000 in
theorem zok2_22 : zall2 "FrameDeltas$Planner" zc22 := ⟨trivial, trivial, trivial, trivial, trivial, trivial, trivial, trivial, trivial, trivial, trivial, trivial, trivial, Or.inl zl_190, trivial, trivial, trivial, trivial, Or.inl zl_191, trivial, trivial, trivial, trivial, trivial, trivial, trivial, trivial, trivial, trivial, trivial, trivial, trivial, trivial, trivial, trivial, Or.inl zl_190, trivial, trivial, trivial, trivial, Or.inl zl_191, trivial, trivial, trivial, trivial, trivial, trivial, trivial, trivial, trivial, trivial, trivial, trivial, trivial, trivial, trivial, trivial, trivial, zm_3_76, trivial, trivial, trivial, trivial, trivial, trivial, trivial, trivial, trivial, trivial⟩
set_option maxRecDepth 100000 in
theorem zok1_23 : zchk 23 zc23 zc23 = true := by decide +kernel
set_option maxRecDepth 100000 in
theorem zok2_23 : zall2 "FrameDeltas$Planner" zc23 := ⟨trivial, Or.inl zl_194, trivial, trivial, trivial, trivial, trivial, trivial, trivial, trivial, trivial, trivial, trivial, trivial, trivial⟩
set_option maxRecDepth 100000 in
theorem zok1_24 : zchk 24 zc24 zc24 = true := by decide +kernel
set_option maxRecDepth 100000 in
theorem zok2_24 : zall2 "FrameDeltas$RunList" zc24 := ⟨trivial, trivial, zm_4_22, trivial, trivial, trivial, zm_4_28, trivial, trivial, trivial, Or.inl zl_162, trivial, trivial, trivial, trivial, trivial, trivial, trivial, trivial, trivial, trivial, trivial, trivial, trivial, trivial, trivial, trivial, trivial, trivial, trivial, trivial, zm_4_31, trivial, trivial, trivial, trivial, trivial, trivial, trivial, zm_4_31, trivial, trivial, trivial, trivial, trivial, trivial, zm_4_35, trivial, trivial, trivial, trivial⟩
set_option maxRecDepth 100000 in
theorem zok1_25 : zchk 25 zc25 zc25 = true := by decide +kernel
set_option maxRecDepth 100000 in
theorem zok2_25 : zall2 "FrameDeltas$RunList" zc25 := ⟨trivial, Or.inl zl_162, trivial, trivial, trivial, trivial, trivial, trivial, trivial, Or.inl zl_161, trivial, trivial, trivial, Or.inl zl_161, trivial, trivial, trivial, trivial, trivial, trivial, trivial, trivial, trivial, trivial, trivial, trivial, Or.inl zl_160, trivial, trivial, trivial, Or.inl zl_160, trivial, trivial, trivial, trivial, trivial, trivial, trivial, trivial, Or.inl zl_162, trivial, trivial, Or.inl zl_162, trivial, Or.inl zl_160, trivial, trivial, trivial, Or.inl zl_162, trivial, Or.inl zl_161, trivial, trivial, trivial, Or.inl zl_160, trivial, Or.inl zl_162, trivial, trivial, trivial, Or.inl zl_161, trivial, Or.inl zl_162, trivial, trivial, trivial, trivial, Or.inl zl_162, trivial, trivial, Or.inl zl_162, trivial, trivial⟩
set_option maxRecDepth 100000 in
theorem zok1_26 : zchk 26 zc26 zc26 = true := by decide +kernel
set_option maxRecDepth 100000 in
theorem zok2_26 : zall2 "FrameDeltas$State" zc26 := ⟨trivial, Or.inl zl_84, trivial, Or.inl zl_84, zm_6_42, trivial, trivial, Or.inl zl_88, Or.inl zl_88, trivial, trivial, Or.inl zl_91, Or.inl zl_91, trivial, trivial, Or.inl zl_94, Or.inl zl_94, trivial, trivial, Or.inl zl_96, Or.inl zl_96, trivial, trivial, trivial, trivial, Or.inl zl_88, trivial, trivial, trivial, zm_6_46, trivial, trivial, zm_6_46, zm_6_50, trivial, trivial, trivial, trivial⟩
set_option maxRecDepth 100000 in
theorem zok1_27 : zchk 27 zc27 zc27 = true := by decide +kernel
set_option maxRecDepth 100000 in
theorem zok2_27 : zall2 "FrameDeltas$State" zc27 := ⟨trivial, trivial, trivial, trivial, Or.inl zl_86, trivial, trivial, trivial, Or.inl zl_86, trivial, trivial, trivial, trivial, Or.inl zl_87, trivial, trivial⟩
set_option maxRecDepth 100000 in
theorem zok1_28 : zchk 28 zc28 zc28 = true := by decide +kernel
set_option maxRecDepth 100000 in
theorem zok2_28 : zall2 "FrameDeltas$State" zc28 := ⟨trivial, trivial, trivial, trivial, Or.inl zl_88, trivial, trivial, trivial, trivial, trivial, trivial⟩
set_option maxRecDepth 100000 in
theorem zok1_29 : zchk 29 zc29 zc29 = true := by decide +kernel
set_option maxRecDepth 100000 in
theorem zok2_29 : zall2 "FrameDeltas$State" zc29 := ⟨trivial, trivial, trivial, trivial, trivial, zm_6_53, trivial, trivial, trivial, trivial, trivial, trivial⟩
set_option maxRecDepth 100000 in
theorem zok1_30 : zchk 30 zc30 zc30 = true := by decide +kernel
set_option maxRecDepth 100000 in
theorem zok2_30 : zall2 "FrameDeltas$State" zc30 := ⟨trivial, trivial, trivial, trivial, Or.inl zl_84, trivial, trivial, trivial, zm_6_46, Or.inr zl_57, trivial, trivial⟩
set_option maxRecDepth 100000 in
theorem zok1_31 : zchk 31 zc31 zc31 = true := by decide +kernel
set_option maxRecDepth 100000 in
theorem zok2_31 : zall2 "FrameDeltas$State" zc31 := ⟨trivial, trivial, trivial, trivial, trivial, trivial, trivial, trivial, trivial, trivial, trivial, zm_6_46, Or.inr zl_71, trivial, trivial, trivial, trivial, trivial, zm_6_46, Or.inr zl_62, trivial, trivial, trivial, trivial, trivial, trivial⟩
set_option maxRecDepth 100000 in
theorem zok1_32 : zchk 32 zc32 zc32 = true := by decide +kernel
set_option maxRecDepth 100000 in
theorem zok2_32 : zall2 "FrameDeltas$State" zc32 := ⟨trivial, trivial, zm_6_67, trivial, trivial, trivial, zm_6_70, trivial, Or.inl zl_94, trivial, trivial, trivial, trivial, trivial, trivial⟩
set_option maxRecDepth 100000 in
theorem zok1_33 : zchk 33 zc33 zc33 = true := by decide +kernel
set_option maxRecDepth 100000 in
theorem zok2_33 : zall2 "FrameDeltas$State" zc33 := ⟨trivial, trivial, trivial, trivial, zm_6_46, Or.inr zl_62, trivial, trivial, trivial, trivial, trivial, trivial, trivial, trivial, trivial, trivial, trivial, zm_6_46, Or.inr zl_62, trivial, trivial, trivial, trivial, trivial, trivial⟩
set_option maxRecDepth 100000 in
theorem zok1_34 : zchk 34 zc34 zc34 = true := by decide +kernel
set_option maxRecDepth 100000 in
theorem zok2_34 : zall2 "FrameDeltas$State" zc34 := ⟨trivial, trivial, trivial, trivial, trivial, trivial, trivial, trivial, trivial, trivial, trivial, trivial, trivial, trivial, zm_6_46, Or.inr zl_67, trivial, trivial, trivial, trivial, zm_6_46, Or.inr zl_62, trivial, trivial, trivial, trivial, trivial, trivial⟩
set_option maxRecDepth 100000 in
theorem zok1_35 : zchk 35 zc35 zc35 = true := by decide +kernel
set_option maxRecDepth 100000 in
theorem zok2_35 : zall2 "FrameDeltas$State" zc35 := ⟨trivial, trivial, trivial, trivial, trivial, trivial, trivial, trivial, trivial, trivial, trivial, trivial, trivial, trivial, trivial, trivial, zm_6_46, Or.inr zl_62, trivial, trivial, trivial, trivial, trivial, trivial⟩
set_option maxRecDepth 100000 in
theorem zok1_36 : zchk 36 zc36 zc36 = true := by decide +kernel
set_option maxRecDepth 100000 in
theorem zok2_36 : zall2 "FrameDeltas$State" zc36 := ⟨trivial, trivial, trivial, trivial, trivial, trivial, Or.inl zl_88, trivial, trivial, trivial, zm_6_67, trivial, trivial, trivial, trivial, trivial, trivial, trivial⟩
set_option maxRecDepth 100000 in
theorem zok1_37 : zchk 37 zc37 zc37 = true := by decide +kernel
set_option maxRecDepth 100000 in
theorem zok2_37 : zall2 "FrameDeltas$State" zc37 := ⟨trivial, trivial, trivial, trivial, trivial, trivial, Or.inl zl_88, trivial, trivial, trivial, trivial, zm_6_46, Or.inr zl_67, trivial, trivial, trivial, trivial, trivial, trivial, trivial⟩
set_option maxRecDepth 100000 in
theorem zok1_38 : zchk 38 zc38 zc38 = true := by decide +kernel
set_option maxRecDepth 100000 in
theorem zok2_38 : zall2 "FrameDeltas" zc38 := ⟨trivial, zm_7_66, trivial, trivial, zm_7_66, trivial, trivial, trivial, trivial, zm_7_70, trivial, Or.inl zl_208, trivial, Or.inr zl_90, trivial, Or.inl zl_208, Or.inr zl_85, trivial, trivial, zm_7_79, trivial, Or.inl zl_208, Or.inr zl_85, zm_7_83, trivial, trivial⟩
set_option maxRecDepth 100000 in
theorem zok1_39 : zchk 39 zc39 zc39 = true := by decide +kernel
set_option maxRecDepth 100000 in
theorem zok2_39 : zall2 "FrameDeltas" zc39 := ⟨trivial, Or.inl zl_208, Or.inr zl_85, trivial, zm_7_87, trivial, trivial, trivial, trivial, trivial, trivial, trivial, trivial, trivial, zm_7_70, trivial, Or.inl zl_208, Or.inr zl_85, trivial, zm_7_90, trivial, trivial, Or.inl zl_208, Or.inr zl_85, trivial, trivial, zm_7_94, trivial, trivial, trivial⟩
set_option maxRecDepth 100000 in
theorem zok1_40 : zchk 40 zc40 zc40 = true := by decide +kernel
set_option maxRecDepth 100000 in
theorem zok2_40 : zall2 "FrameDeltas" zc40 := ⟨trivial, Or.inl zl_208, Or.inr zl_85, trivial, zm_7_87, trivial, trivial, trivial, trivial, Or.inl zl_208, Or.inr zl_85, trivial, zm_7_90, trivial, trivial⟩
set_option maxRecDepth 100000 in
theorem zok1_41 : zchk 41 zc41 zc41 = true := by decide +kernel
set_option maxRecDepth 100000 in
theorem zok2_41 : zall2 "FrameDeltas" zc41 := ⟨trivial, Or.inl zl_208, Or.inr zl_90, trivial, trivial, trivial, trivial, trivial, trivial, zm_7_130, trivial, trivial⟩
set_option maxRecDepth 100000 in
theorem zok1_42 : zchk 42 zc42 zc42 = true := by decide +kernel
set_option maxRecDepth 100000 in
theorem zok2_42 : zall2 "FrameDeltas" zc42 := ⟨trivial, Or.inl zl_208, trivial, zm_7_133, trivial, trivial, trivial, trivial, Or.inl zl_208, trivial, zm_7_136, trivial, trivial, trivial, trivial, Or.inl zl_208, Or.inr zl_90, trivial, trivial, trivial, trivial, trivial, trivial, zm_7_130, trivial, trivial⟩
set_option maxRecDepth 100000 in
theorem zok1_43 : zchk 43 zc43 zc43 = true := by decide +kernel
set_option maxRecDepth 100000 in
theorem zok2_43 : zall2 "FrameDeltas" zc43 := ⟨trivial, Or.inl zl_208, Or.inr zl_90, trivial, trivial, trivial, trivial, trivial, trivial, zm_7_139, zm_7_130, trivial, trivial⟩
set_option maxRecDepth 100000 in
theorem zok1_44 : zchk 44 zc44 zc44 = true := by decide +kernel
set_option maxRecDepth 100000 in
theorem zok2_44 : zall2 "FrameDeltas" zc44 := ⟨trivial, Or.inl zl_208, Or.inr zl_90, trivial, trivial, trivial, trivial, trivial, zm_7_70, trivial, Or.inl zl_208, trivial, Or.inr zl_90, trivial, trivial, Or.inr zl_90, trivial, Or.inl zl_208, Or.inr zl_90, trivial, trivial⟩
set_option maxRecDepth 100000 in
theorem zok1_45 : zchk 45 zc45 zc45 = true := by decide +kernel
set_option maxRecDepth 100000 in
theorem zok2_45 : zall2 "FrameDeltas" zc45 := ⟨trivial, Or.inl zl_208, Or.inr zl_90, trivial, trivial, trivial, trivial, trivial, zm_7_70, trivial, Or.inl zl_214, trivial, Or.inl zl_208, trivial, Or.inl zl_213, trivial, Or.inl zl_215, zm_7_142, trivial, trivial, trivial, trivial, Or.inl zl_208, Or.inr zl_90, trivial, trivial, Or.inl zl_213, trivial, Or.inl zl_208, trivial, zm_7_146, trivial, Or.inl zl_208, trivial, Or.inl zl_214, trivial, zm_7_150, zm_7_153, trivial, trivial, trivial, Or.inl zl_214, Or.inr zl_193, trivial, trivial⟩
set_option maxRecDepth 100000 in
theorem zok1_46 : zchk 46 zc46 zc46 = true := by decide +kernel
set_option maxRecDepth 100000 in
theorem zok2_46 : zall2 "FrameDeltas" zc46 := ⟨trivial, trivial, trivial, trivial, trivial, trivial, trivial, trivial, trivial, trivial, trivial, trivial, trivial, trivial, trivial, trivial, trivial, trivial, trivial, trivial, zm_7_70, trivial, Or.inl zl_208, Or.inr zl_93, trivial, trivial, trivial, Or.inl zl_208, Or.inr zl_95, trivial, trivial, trivial, Or.inl zl_208, Or.inr zl_98, trivial, trivial, trivial, trivial, trivial, trivial, trivial, Or.inl zl_208, trivial, Or.inr zl_93, trivial, Or.inl zl_208, trivial, Or.inr zl_95, trivial, Or.inl zl_208, trivial, Or.inr zl_98, trivial, trivial, trivial, trivial, trivial, trivial, trivial⟩
set_option maxRecDepth 100000 in
theorem zok1_47 : zchk 47 zc47 zc47 = true := by decide +kernel
set_option maxRecDepth 100000 in
theorem zok2_47 : zall2 "FrameDeltas" zc47 := ⟨trivial, Or.inl zl_208, trivial, zm_7_133, trivial, trivial, trivial, trivial, trivial, trivial, trivial, trivial, trivial, trivial, trivial, trivial, trivial, trivial, trivial, trivial, Or.inl zl_208, trivial, zm_7_146, Or.inr zl_72, trivial, trivial, trivial, trivial, trivial, zm_7_70, trivial, Or.inl zl_208, trivial, zm_7_146, trivial, Or.inr zl_72, trivial, Or.inl zl_208, zm_7_173, trivial, trivial⟩
set_option maxRecDepth 100000 in
theorem zok1_48 : zchk 48 zc48 zc48 = true := by decide +kernel
set_option maxRecDepth 100000 in
theorem zok2_48 : zall2 "FrameDeltas" zc48 := ⟨trivial, Or.inl zl_208, trivial, zm_7_133, trivial, trivial, trivial, trivial, Or.inl zl_208, trivial, zm_7_146, trivial, trivial, trivial, trivial, Or.inr zl_63, trivial, trivial, trivial, trivial, trivial, Or.inr zl_63, trivial, trivial, Or.inr zl_68, trivial, trivial, Or.inl zl_208, trivial, zm_7_180, trivial, trivial, Or.inl zl_208, trivial, zm_7_183, trivial, trivial, Or.inl zl_208, trivial, zm_7_119, trivial, trivial, trivial, trivial, trivial, trivial, trivial, zm_7_186, trivial, trivial, trivial, zm_7_186, trivial, trivial, trivial, zm_7_186, trivial, trivial, trivial, zm_7_186, trivial, trivial, trivial, trivial⟩
set_option maxRecDepth 100000 in
theorem zok1_49 : zchk 49 zc49 zc49 = true := by decide +kernel
set_option maxRecDepth 100000 in
theorem zok2_49 : zall2 "FrameDeltas" zc49 := ⟨trivial, Or.inl zl_208, trivial, zm_7_133, trivial, trivial, Or.inl zl_208, Or.inr zl_85, trivial, zm_7_87, trivial, trivial, trivial, trivial, Or.inl zl_208, trivial, zm_7_119, trivial, trivial, trivial, trivial, Or.inl zl_208, trivial, zm_7_122, trivial, zm_7_90, trivial, trivial⟩
set_option maxRecDepth 100000 in
theorem zok1_50 : zchk 50 zc50 zc50 = true := by decide +kernel
set_option maxRecDepth 100000 in
theorem zok2_50 : zall2 "FrameDeltas" zc50 := ⟨trivial, trivial, trivial, Or.inl zl_208, Or.inr zl_85, Or.inr zl_34, trivial, trivial, Or.inl zl_208, Or.inr zl_85, Or.inr zl_36, trivial, trivial, Or.inl zl_208, Or.inr zl_90, trivial, trivial, Or.inl zl_208, Or.inr zl_93, trivial, trivial, Or.inl zl_208, Or.inr zl_95, trivial, trivial, Or.inl zl_208, Or.inr zl_98, trivial, trivial, Or.inl zl_208, zm_7_223, trivial, trivial, Or.inl zl_208, zm_7_173, trivial, trivial, Or.inl zl_212, Or.inr zl_123, trivial, trivial, Or.inl zl_211, trivial, trivial, trivial, trivial⟩
set_option maxRecDepth 100000 in
theorem zok1_51 : zchk 51 zc51 zc51 = true := by decide +kernel
set_option maxRecDepth 100000 in
theorem zok2_51 : zall2 "FrameDeltas" zc51 := ⟨trivial, Or.inl zl_208, trivial, zm_7_112, trivial, trivial, trivial, trivial, Or.inl zl_208, trivial, zm_7_119, trivial, trivial, trivial, trivial, trivial, zm_7_226, trivial, trivial⟩
set_option maxRecDepth 100000 in
theorem zok1_52 : zchk 52 zc52 zc52 = true := by decide +kernel
set_option maxRecDepth 100000 in
theorem zok2_52 : zall2 "FrameDeltas" zc52 := ⟨trivial, Or.inl zl_208, trivial, zm_7_112, trivial, trivial, Or.inl zl_208, trivial, zm_7_112, trivial, trivial, trivial, trivial, Or.inl zl_208, trivial, zm_7_119, trivial, trivial, Or.inl zl_208, trivial, zm_7_119, trivial, trivial, trivial, trivial, Or.inl zl_208, trivial, zm_7_122, trivial, Or.inl zl_208, trivial, zm_7_122, zm_7_229, trivial, trivial⟩
set_option maxRecDepth 100000 in
theorem zok1_53 : zchk 53 zc53 zc53 = true := by decide +kernel
set_option maxRecDepth 100000 in
theorem zok2_53 : zall2 "FrameDeltas" zc53 := ⟨trivial, Or.inl zl_208, Or.inr zl_90, trivial, trivial, trivial, trivial, trivial, trivial, trivial, trivial, trivial, trivial, Or.inl zl_208, Or.inr zl_90, trivial, trivial, trivial, Or.inl zl_208, trivial, zm_7_180, zm_7_246, trivial, trivial, trivial, trivial, trivial, trivial⟩
set_option maxRecDepth 100000 in
theorem zok1_54 : zchk 54 zc54 zc54 = true := by decide +kernel
set_option maxRecDepth 100000 in
theorem zok2_54 : zall2 "FrameDeltas" zc54 := ⟨trivial, Or.inl zl_208, trivial, zm_7_133, trivial, trivial, trivial, trivial, trivial, trivial, trivial, trivial, trivial, Or.inl zl_208, Or.inr zl_90, trivial, trivial, Or.inl zl_208, trivial, trivial, zm_7_251, trivial, trivial, trivial, trivial, trivial, trivial, trivial⟩
set_option maxRecDepth 100000 in
theorem zok1_55 : zchk 55 zc55 zc55 = true := by decide +kernel
set_option maxRecDepth 100000 in
theorem zok2_55 : zall2 "FrameDeltas" zc55 := ⟨trivial, Or.inl zl_208, Or.inr zl_90, trivial, trivial, trivial, trivial, trivial, Or.inl zl_214, trivial, Or.inl zl_208, trivial, Or.inl zl_213, trivial, Or.inl zl_215, zm_7_142, trivial, Or.inl zl_214, Or.inr zl_193, trivial, trivial⟩
set_option maxRecDepth 100000 in
theorem zok1_56 : zchk 56 zc56 zc56 = true := by decide +kernel
set_option maxRecDepth 100000 in
theorem zok2_56 : zall2 "FrameDeltas" zc56 := ⟨trivial, Or.inl zl_211, trivial, trivial, trivial, trivial, trivial, trivial, Or.inl zl_211, trivial, trivial, Or.inl zl_211, trivial, Or.inl zl_208, trivial, trivial, Or.inl zl_211, zm_7_257, zm_7_261, trivial, Or.inl zl_211, trivial, trivial⟩
set_option maxRecDepth 100000 in
theorem zok1_57 : zchk 57 zc57 zc57 = true := by decide +kernel
set_option maxRecDepth 100000 in
theorem zok2_57 : zall2 "FrameDeltas" zc57 := ⟨trivial, trivial, trivial, trivial, trivial, trivial, trivial, trivial, trivial, trivial, trivial, trivial, trivial, trivial⟩
set_option maxRecDepth 100000 in
theorem zok1_58 : zchk 58 zc58 zc58 = true := by decide +kernel
set_option maxRecDepth 100000 in
theorem zok2_58 : zall2 "FrameDeltas" zc58 := ⟨trivial, trivial, Or.inl zl_211, zm_7_257, trivial, Or.inl zl_208, zm_7_261, trivial, Or.inl zl_211, trivial, trivial, trivial, trivial, Or.inl zl_211, trivial, trivial, Or.inl zl_211, trivial, trivial, trivial, Or.inl zl_210, trivial, trivial, trivial, trivial, Or.inl zl_210, trivial, trivial⟩
set_option maxRecDepth 100000 in
theorem zok1_59 : zchk 59 zc59 zc59 = true := by decide +kernel
set_option maxRecDepth 100000 in
theorem zok2_59 : zall2 "FrameDeltas" zc59 := ⟨trivial, Or.inl zl_210, trivial, trivial, trivial, trivial, trivial, trivial, trivial, trivial, trivial, Or.inl zl_209, trivial, trivial, trivial, Or.inl zl_209, trivial, trivial, trivial, trivial, Or.inl zl_208, trivial, trivial⟩
set_option maxRecDepth 100000 in
theorem zok1_60 : zchk 60 zc60 zc60 = true := by decide +kernel
set_option maxRecDepth 100000 in
theorem zok2_60 : zall2 "FrameDeltas" zc60 := ⟨trivial, zm_7_70, trivial, Or.inl zl_208, trivial, Or.inl zl_208, Or.inr zl_90, zm_7_146, trivial, trivial, Or.inr zl_58, trivial, Or.inl zl_208, Or.inr zl_85, zm_7_265, trivial, Or.inl zl_213, trivial, trivial, Or.inl zl_208, trivial, zm_7_153, trivial, Or.inl zl_208, trivial, Or.inr zl_90, trivial, trivial, Or.inr zl_90, trivial, Or.inr zl_68, trivial, trivial⟩
set_option maxRecDepth 100000 in
theorem zok1_61 : zchk 61 zc61 zc61 = true := by decide +kernel
set_option maxRecDepth 100000 in
theorem zok2_61 : zall2 "FrameDeltas" zc61 := ⟨trivial, Or.inl zl_215, Or.inr zl_58, trivial, Or.inl zl_208, Or.inr zl_85, zm_7_265, trivial, Or.inl zl_213, trivial, Or.inl zl_215, trivial, Or.inl zl_208, trivial, zm_7_153, trivial, Or.inl zl_215, Or.inr zl_68, trivial, trivial⟩
set_option maxRecDepth 100000 in
theorem zok1_62 : zchk 62 zc62 zc62 = true := by decide +kernel
set_option maxRecDepth 100000 in
theorem zok2_62 : zall2 "FrameDeltas" zc62 := ⟨trivial, trivial, trivial, trivial, zm_7_226, trivial, trivial, trivial, trivial, trivial, trivial, trivial, Or.inl zl_208, Or.inr zl_90, trivial, trivial, Or.inl zl_208, trivial, zm_7_136, trivial, trivial, trivial, trivial, zm_7_226, trivial, trivial, Or.inl zl_208, trivial, zm_7_183, trivial, trivial, trivial, trivial, trivial, trivial, trivial, trivial, trivial, trivial, trivial, trivial, trivial, trivial, trivial, trivial, trivial, trivial, trivial, trivial, trivial, trivial, trivial⟩
set_option maxRecDepth 100000 in
theorem zok1_63 : zchk 63 zc63 zc63 = true := by decide +kernel
set_option maxRecDepth 100000 in
theorem zok2_63 : zall2 "java/lang/Integer" zc63 := ⟨trivial, trivial, trivial, trivial, zl_358, trivial, trivial, trivial, trivial, zl_359, trivial, trivial, trivial, trivial, zl_359, trivial, trivial, trivial, trivial, trivial, trivial, trivial, trivial, zl_360, trivial, trivial, trivial, trivial, trivial, trivial, trivial, trivial, trivial, trivial, trivial, trivial, trivial, trivial, trivial, trivial, trivial, trivial, trivial⟩
set_option maxRecDepth 100000 in
theorem zok1_64 : zchk 64 zc64 zc64 = true := by decide +kernel
set_option maxRecDepth 100000 in
theorem zok2_64 : zall2 "java/lang/Math" zc64 := ⟨trivial, trivial, trivial, trivial, trivial, trivial, trivial, trivial⟩
set_option maxRecDepth 100000 in
theorem zok1_65 : zchk 65 zc65 zc65 = true := by decide +kernel
set_option maxRecDepth 100000 in
theorem zok2_65 : zall2 "java/lang/Math" zc65 := ⟨trivial, trivial, trivial, trivial, trivial, trivial, trivial, trivial⟩
set_option maxRecDepth 100000 in
theorem zok1_66 : zchk 66 zc66 zc66 = true := by decide +kernel
set_option maxRecDepth 100000 in
theorem zok2_66 : zall2 "java/lang/Math" zc66 := ⟨trivial, trivial, trivial, trivial, trivial, trivial, trivial, trivial⟩
set_option maxRecDepth 100000 in
theorem zok1_67 : zchk 67 zc67 zc67 = true := by decide +kernel
set_option maxRecDepth 100000 in
theorem zok2_67 : zall2 "FrameDeltasLaw" zc67 := ⟨trivial, trivial, trivial, trivial, trivial, trivial, trivial, trivial, trivial, trivial, trivial, trivial, trivial, trivial, trivial, trivial, trivial, trivial, trivial⟩
set_option maxRecDepth 100000 in
theorem zok1_68 : zchk 68 zc68 zc68 = true := by decide +kernel
set_option maxRecDepth 100000 in
theorem zok2_68 : zall2 "FrameDeltasLaw" zc68 := ⟨trivial, zl_487, trivial, trivial, trivial, trivial, trivial⟩
set_option maxRecDepth 100000 in
theorem zok1_69 : zchk 69 zc69 zc69 = true := by decide +kernel
set_option maxRecDepth 100000 in
theorem zok2_69 : zall2 "FrameDeltasLaw" zc69 := ⟨zl_463, trivial, trivial, trivial, trivial, trivial, trivial, trivial, zl_464, trivial, trivial, trivial, zm_12_12, trivial, trivial, trivial, trivial, trivial, trivial, trivial, trivial, trivial, trivial, zm_12_12, trivial, trivial, zm_12_12, trivial, trivial, trivial, zl_465, trivial, trivial, trivial, zm_12_20, trivial, trivial, trivial, trivial, trivial, trivial, trivial, trivial, trivial, trivial, zm_12_12, trivial, trivial, trivial, trivial, trivial, trivial, trivial, zl_475, trivial, trivial, trivial, trivial, zm_12_25, trivial, trivial, trivial, trivial, trivial, trivial, zl_476, trivial, trivial, trivial, trivial, zm_12_31, trivial, trivial, zl_463, trivial, trivial, trivial, zm_12_31, trivial, trivial, trivial, trivial, trivial, trivial, trivial, trivial, trivial⟩
set_option maxRecDepth 100000 in
theorem zok1_70 : zchk 70 zc70 zc70 = true := by decide +kernel
set_option maxRecDepth 100000 in
theorem zok2_70 : zall2 "FrameDeltasLaw" zc70 := ⟨trivial, trivial, trivial, trivial, trivial, trivial, trivial, trivial, trivial, trivial, trivial, trivial, trivial, trivial, trivial, trivial, zm_12_34, trivial, trivial, zm_12_39, trivial, trivial, zm_12_42, trivial, trivial, trivial, trivial, trivial, trivial, zm_12_34, trivial, trivial, trivial, trivial, zm_12_34, trivial, trivial, trivial, trivial, zm_12_34, zm_12_46, trivial, trivial, zm_12_50, trivial, trivial, trivial, trivial, trivial, trivial, zm_12_34, trivial, trivial, trivial, trivial, trivial, zm_12_53, trivial, trivial, zm_12_56, trivial, trivial, trivial, trivial, trivial, trivial, zm_12_34, zm_12_59, trivial, trivial, zm_12_62, trivial, trivial, trivial, trivial, trivial, trivial, zm_12_34, trivial, trivial, trivial, trivial, zm_12_34, zm_12_65, trivial, trivial⟩
set_option maxRecDepth 100000 in
theorem zok1_71_0 : zchk0 71 zc71 0 ((zc71.drop 0).take 50) = true := by decide +kernel
set_option maxRecDepth 100000 in
theorem zok1_71_50 : zchk0 71 zc71 50 ((zc71.drop 50).take 50) = true := by decide +kernel
set_option maxRecDepth 100000 in
theorem zok1_71_100 : zchk0 71 zc71 100 ((zc71.drop 100).take 50) = true := by decide +kernel
set_option maxRecDepth 100000 in
theorem zok1_71_150 : zchk0 71 zc71 150 ((zc71.drop 150).take 50) = true := by decide +kernel
set_option maxRecDepth 100000 in
theorem zok1_71_200 : zchk0 71 zc71 200 ((zc71.drop 200).take 50) = true := by decide +kernel
theorem zok1_71_e : zchk0 71 zc71 250 (zc71.drop 250) = true := by decide +kernel
theorem zok1_71_r200 : zchk0 71 zc71 200 (zc71.drop 200) = true := zchk0_split _ _ 50 _ _ zok1_71_200 (by rw [List.drop_drop]; exact zok1_71_e)
theorem zok1_71_r150 : zchk0 71 zc71 150 (zc71.drop 150) = true := zchk0_split _ _ 50 _ _ zok1_71_150 (by rw [List.drop_drop]; exact zok1_71_r200)
theorem zok1_71_r100 : zchk0 71 zc71 100 (zc71.drop 100) = true := zchk0_split _ _ 50 _ _ zok1_71_100 (by rw [List.drop_drop]; exact zok1_71_r150)
theorem zok1_71_r50 : zchk0 71 zc71 50 (zc71.drop 50) = true := zchk0_split _ _ 50 _ _ zok1_71_50 (by rw [List.drop_drop]; exact zok1_71_r100)
theorem zok1_71_r0 : zchk0 71 zc71 0 (zc71.drop 0) = true := zchk0_split _ _ 50 _ _ zok1_71_0 (by rw [List.drop_drop]; exact zok1_71_r50)
set_option maxRecDepth 100000 in
theorem zok1_71 : zchk 71 zc71 zc71 = true := by
  unfold zchk
  rw [show zchk0 71 zc71 0 zc71 = true from zok1_71_r0]
  decide +kernel
set_option maxRecDepth 100000 in
theorem zok2_71 : zall2 "FrameDeltasLaw" zc71 := ⟨trivial, trivial, trivial, trivial, trivial, trivial, trivial, trivial, trivial, trivial, trivial, trivial, trivial, zm_12_69, trivial, trivial, zm_12_72, trivial, trivial, trivial, zm_12_12, trivial, trivial, trivial, zm_12_76, trivial, trivial, trivial, zm_12_79, trivial, trivial, trivial, trivial, zm_12_72, trivial, trivial, trivial, trivial, trivial, trivial, trivial, trivial, trivial, trivial, trivial, trivial, trivial, trivial, trivial, trivial, trivial, trivial, trivial, trivial, trivial, trivial, trivial, trivial, trivial, zm_12_12, trivial, trivial, trivial, trivial, trivial, trivial, trivial, zm_12_25, trivial, trivial, trivial, trivial, trivial, zm_12_83, trivial, trivial, trivial, trivial, trivial, trivial, trivial, trivial, trivial, trivial, trivial, trivial, trivial, trivial, trivial, trivial, trivial, trivial, trivial, trivial, trivial, trivial, trivial, trivial, trivial, trivial, trivial, trivial, trivial, trivial, trivial, trivial, trivial, zm_12_86, trivial, trivial, trivial, trivial, trivial, zm_12_72, trivial, trivial, trivial, trivial, trivial, trivial, trivial, trivial, zm_12_12, trivial, trivial, trivial, trivial, trivial, trivial, trivial, trivial, trivial, trivial, trivial, zm_12_12, trivial, trivial, trivial, trivial, trivial, trivial, trivial, trivial, trivial, trivial, trivial, trivial, zm_12_25, trivial, trivial, trivial, trivial, trivial, trivial, trivial, trivial, zm_12_25, trivial, trivial, trivial, trivial, trivial, zm_12_12, trivial, trivial, zm_12_12, trivial, trivial, trivial, trivial, trivial, trivial, trivial, zm_12_25, trivial, trivial, trivial, zm_12_25, trivial, trivial, trivial, trivial, zm_12_25, trivial, trivial, trivial, trivial, zm_12_89, trivial, trivial, trivial, trivial, trivial, trivial, trivial, trivial, trivial, zm_12_12, trivial, trivial, trivial, trivial, trivial, trivial, trivial, zm_12_12, trivial, trivial, zm_12_92, trivial, trivial, trivial, trivial, trivial, trivial, trivial, trivial, trivial, trivial, trivial, trivial, trivial, trivial, trivial, trivial, zm_12_42, trivial, trivial, trivial, zm_12_92, trivial, trivial, trivial, trivial, zm_12_12, trivial, trivial, zm_12_12, trivial, zm_12_95, trivial, trivial, trivial, trivial, trivial, trivial, trivial, trivial, trivial⟩
theorem zok1_all (m : Nat) : zchk m (zcd m) (zcd m) = true := match m with
  | 0 => zok1_0
  | 1 => zok1_1
  | 2 => zok1_2
  | 3 => zok1_3
  | 4 => zok1_4
  | 5 => zok1_5
  | 6 => zok1_6
  | 7 => zok1_7
  | 8 => zok1_8
  | 9 => zok1_9
  | 10 => zok1_10
  | 11 => zok1_11
  | 12 => zok1_12
  | 13 => zok1_13
  | 14 => zok1_14
  | 15 => zok1_15
  | 16 => zok1_16
  | 17 => zok1_17
  | 18 => zok1_18
  | 19 => zok1_19
  | 20 => zok1_20
  | 21 => zok1_21
  | 22 => zok1_22
  | 23 => zok1_23
  | 24 => zok1_24
  | 25 => zok1_25
  | 26 => zok1_26
  | 27 => zok1_27
  | 28 => zok1_28
  | 29 => zok1_29
  | 30 => zok1_30
  | 31 => zok1_31
  | 32 => zok1_32
  | 33 => zok1_33
  | 34 => zok1_34
  | 35 => zok1_35
  | 36 => zok1_36
  | 37 => zok1_37
  | 38 => zok1_38
  | 39 => zok1_39
  | 40 => zok1_40
  | 41 => zok1_41
  | 42 => zok1_42
  | 43 => zok1_43
  | 44 => zok1_44
  | 45 => zok1_45
  | 46 => zok1_46
  | 47 => zok1_47
  | 48 => zok1_48
  | 49 => zok1_49
  | 50 => zok1_50
  | 51 => zok1_51
  | 52 => zok1_52
  | 53 => zok1_53
  | 54 => zok1_54
  | 55 => zok1_55
  | 56 => zok1_56
  | 57 => zok1_57
  | 58 => zok1_58
  | 59 => zok1_59
  | 60 => zok1_60
  | 61 => zok1_61
  | 62 => zok1_62
  | 63 => zok1_63
  | 64 => zok1_64
  | 65 => zok1_65
  | 66 => zok1_66
  | 67 => zok1_67
  | 68 => zok1_68
  | 69 => zok1_69
  | 70 => zok1_70
  | 71 => zok1_71
  | _ + 72 => rfl
theorem zok2_all (m : Nat) : zall2 (zy m).cls (zcd m) := match m with
  | 0 => zok2_0
  | 1 => zok2_1
  | 2 => zok2_2
  | 3 => zok2_3
  | 4 => zok2_4
  | 5 => zok2_5
  | 6 => zok2_6
  | 7 => zok2_7
  | 8 => zok2_8
  | 9 => zok2_9
  | 10 => zok2_10
  | 11 => zok2_11
  | 12 => zok2_12
  | 13 => zok2_13
  | 14 => zok2_14
  | 15 => zok2_15
  | 16 => zok2_16
  | 17 => zok2_17
  | 18 => zok2_18
  | 19 => zok2_19
  | 20 => zok2_20
  | 21 => zok2_21
  | 22 => zok2_22
  | 23 => zok2_23
  | 24 => zok2_24
  | 25 => zok2_25
  | 26 => zok2_26
  | 27 => zok2_27
  | 28 => zok2_28
  | 29 => zok2_29
  | 30 => zok2_30
  | 31 => zok2_31
  | 32 => zok2_32
  | 33 => zok2_33
  | 34 => zok2_34
  | 35 => zok2_35
  | 36 => zok2_36
  | 37 => zok2_37
  | 38 => zok2_38
  | 39 => zok2_39
  | 40 => zok2_40
  | 41 => zok2_41
  | 42 => zok2_42
  | 43 => zok2_43
  | 44 => zok2_44
  | 45 => zok2_45
  | 46 => zok2_46
  | 47 => zok2_47
  | 48 => zok2_48
  | 49 => zok2_49
  | 50 => zok2_50
  | 51 => zok2_51
  | 52 => zok2_52
  | 53 => zok2_53
  | 54 => zok2_54
  | 55 => zok2_55
  | 56 => zok2_56
  | 57 => zok2_57
  | 58 => zok2_58
  | 59 => zok2_59
  | 60 => zok2_60
  | 61 => zok2_61
  | 62 => zok2_62
  | 63 => zok2_63
  | 64 => zok2_64
  | 65 => zok2_65
  | 66 => zok2_66
  | 67 => zok2_67
  | 68 => zok2_68
  | 69 => zok2_69
  | 70 => zok2_70
  | 71 => zok2_71
  | _ + 72 => trivial
theorem zcw_all (m : Nat) (h : m < 71) : Cond.code (zy m) (zby m) (zml m) (zrt m) ∈ zTs := match m, h with
  | 0, _ => zcw_0
  | 1, _ => zcw_1
  | 2, _ => zcw_2
  | 3, _ => zcw_3
  | 4, _ => zcw_4
  | 5, _ => zcw_5
  | 6, _ => zcw_6
  | 7, _ => zcw_7
  | 8, _ => zcw_8
  | 9, _ => zcw_9
  | 10, _ => zcw_10
  | 11, _ => zcw_11
  | 12, _ => zcw_12
  | 13, _ => zcw_13
  | 14, _ => zcw_14
  | 15, _ => zcw_15
  | 16, _ => zcw_16
  | 17, _ => zcw_17
  | 18, _ => zcw_18
  | 19, _ => zcw_19
  | 20, _ => zcw_20
  | 21, _ => zcw_21
  | 22, _ => zcw_22
  | 23, _ => zcw_23
  | 24, _ => zcw_24
  | 25, _ => zcw_25
  | 26, _ => zcw_26
  | 27, _ => zcw_27
  | 28, _ => zcw_28
  | 29, _ => zcw_29
  | 30, _ => zcw_30
  | 31, _ => zcw_31
  | 32, _ => zcw_32
  | 33, _ => zcw_33
  | 34, _ => zcw_34
  | 35, _ => zcw_35
  | 36, _ => zcw_36
  | 37, _ => zcw_37
  | 38, _ => zcw_38
  | 39, _ => zcw_39
  | 40, _ => zcw_40
  | 41, _ => zcw_41
  | 42, _ => zcw_42
  | 43, _ => zcw_43
  | 44, _ => zcw_44
  | 45, _ => zcw_45
  | 46, _ => zcw_46
  | 47, _ => zcw_47
  | 48, _ => zcw_48
  | 49, _ => zcw_49
  | 50, _ => zcw_50
  | 51, _ => zcw_51
  | 52, _ => zcw_52
  | 53, _ => zcw_53
  | 54, _ => zcw_54
  | 55, _ => zcw_55
  | 56, _ => zcw_56
  | 57, _ => zcw_57
  | 58, _ => zcw_58
  | 59, _ => zcw_59
  | 60, _ => zcw_60
  | 61, _ => zcw_61
  | 62, _ => zcw_62
  | 63, _ => zcw_63
  | 64, _ => zcw_64
  | 65, _ => zcw_65
  | 66, _ => zcw_66
  | 67, _ => zcw_67
  | 68, _ => zcw_68
  | 69, _ => zcw_69
  | 70, _ => zcw_70
  | n + 71, h => absurd h (by omega)
