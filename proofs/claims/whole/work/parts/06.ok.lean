def zy : Nat → MethodName
  | 0 => ⟨"FrameDeltas$Coder", "encode", "(LFrameDeltas$Frame;LFrameDeltas$State;I)V"⟩
  | 1 => ⟨"FrameDeltas$Coder", "encodeRaw", "(LFrameDeltas$Frame;I)I"⟩
  | 2 => ⟨"FrameDeltas$Coder", "encodeWith", "(LFrameDeltas$Frame;ILFrameDeltas$Image;I)I"⟩
  | 3 => ⟨"FrameDeltas$Coder", "findMove", "(LFrameDeltas$Image;IILFrameDeltas$Image;I)Z"⟩
  | 4 => ⟨"FrameDeltas$Frame", "take", "(LFrameDeltas$Frame;)V"⟩
  | 5 => ⟨"FrameDeltas$Frame", "codePart", "(II)I"⟩
  | 6 => ⟨"FrameDeltas$Frame", "setCode", "(IIIII)V"⟩
  | 7 => ⟨"FrameDeltas$Frame", "codesOfKind", "(I)I"⟩
  | 8 => ⟨"FrameDeltas$Image", "reset", "(II)V"⟩
  | 9 => ⟨"FrameDeltas$Image", "take", "(LFrameDeltas$Image;)V"⟩
  | 10 => ⟨"FrameDeltas$Image", "hasCell", "(I)Z"⟩
  | 11 => ⟨"FrameDeltas$Image", "numbered", "(I)I"⟩
  | 12 => ⟨"FrameDeltas$Image", "putNumbered", "(II)V"⟩
  | 13 => ⟨"FrameDeltas$Image", "at", "(II)I"⟩
  | 14 => ⟨"FrameDeltas$Image", "blocks", "()I"⟩
  | 15 => ⟨"FrameDeltas$Image", "hasBlock", "(I)Z"⟩
  | 16 => ⟨"FrameDeltas$Image", "left", "(I)I"⟩
  | 17 => ⟨"FrameDeltas$Image", "top", "(I)I"⟩
  | 18 => ⟨"FrameDeltas$Image", "hasPart", "(II)Z"⟩
  | 19 => ⟨"FrameDeltas$Image", "partDigest", "(II)I"⟩
  | 20 => ⟨"FrameDeltas$Image", "samePart", "(IILFrameDeltas$Image;II)Z"⟩
  | 21 => ⟨"FrameDeltas$Image", "cellsUnlike", "(LFrameDeltas$Image;)I"⟩
  | 22 => ⟨"FrameDeltas$Image", "fillBox", "(IIIII)V"⟩
  | 23 => ⟨"FrameDeltas$Image", "takeShifted", "(LFrameDeltas$Image;II)V"⟩
  | 24 => ⟨"FrameDeltas$Image", "swapValues", "(II)V"⟩
  | 25 => ⟨"FrameDeltas$Planner", "plan", "(LFrameDeltas$State;LFrameDeltas$Coder;LFrameDeltas$Frame;)V"⟩
  | 26 => ⟨"FrameDeltas$Planner", "measure", "(LFrameDeltas$State;LFrameDeltas$Coder;LFrameDeltas$Frame;I)V"⟩
  | 27 => ⟨"FrameDeltas$Planner", "costOf", "(III)I"⟩
  | 28 => ⟨"FrameDeltas$Planner", "referenceOf", "(I)I"⟩
  | 29 => ⟨"FrameDeltas$RunList", "read", "(LFrameDeltas$Image;LFrameDeltas$Image;I)V"⟩
  | 30 => ⟨"FrameDeltas$RunList", "addCell", "(I)V"⟩
  | 31 => ⟨"FrameDeltas$RunList", "lengthOf", "(I)I"⟩
  | 32 => ⟨"FrameDeltas$RunList", "valueOf", "(I)I"⟩
  | 33 => ⟨"FrameDeltas$Script", "append", "(C)I"⟩
  | 34 => ⟨"FrameDeltas$Script", "wordOf", "(I)Ljava/lang/String;"⟩
  | 35 => ⟨"FrameDeltas$Script", "argumentsOf", "(I)Ljava/lang/String;"⟩
  | 36 => ⟨"FrameDeltas$Script", "errorPosition", "(LFrameDeltas$State;)I"⟩
  | 37 => ⟨"FrameDeltas$Script", "readCommand", "(LFrameDeltas$State;)Z"⟩
  | 38 => ⟨"FrameDeltas$Script", "addToProgram", "(I)V"⟩
  | 39 => ⟨"FrameDeltas$Script", "nextToken", "()V"⟩
  | 40 => ⟨"FrameDeltas$Script", "signAt", "(I)C"⟩
  | 41 => ⟨"FrameDeltas$Script", "isLetter", "(C)Z"⟩
  | 42 => ⟨"FrameDeltas$Script", "isDigit", "(C)Z"⟩
  | 43 => ⟨"FrameDeltas$Script", "commandOfToken", "()I"⟩
  | 44 => ⟨"FrameDeltas$Script", "isToken", "(Ljava/lang/String;)Z"⟩
  | 45 => ⟨"FrameDeltas$Script", "readNumber", "()Z"⟩
  | 46 => ⟨"FrameDeltas$Script", "isAllowed", "(CLFrameDeltas$State;)Z"⟩
  | 47 => ⟨"FrameDeltas$Script", "carryOut", "(LFrameDeltas$State;LFrameDeltas$Image;)I"⟩
  | 48 => ⟨"FrameDeltas$Script", "programAt", "(I)I"⟩
  | 49 => ⟨"FrameDeltas$Script", "apply", "(IILFrameDeltas$State;LFrameDeltas$Image;)V"⟩
  | 50 => ⟨"FrameDeltas$State", "take", "(LFrameDeltas$State;)V"⟩
  | 51 => ⟨"FrameDeltas$State", "frameAt", "(I)LFrameDeltas$Frame;"⟩
  | 52 => ⟨"FrameDeltas$State", "isFrame", "(I)Z"⟩
  | 53 => ⟨"FrameDeltas$State", "isImage", "(I)Z"⟩
  | 54 => ⟨"FrameDeltas$State", "imageOf", "(I)LFrameDeltas$Image;"⟩
  | 55 => ⟨"FrameDeltas$State", "isReadable", "(I)Z"⟩
  | 56 => ⟨"FrameDeltas$State", "mayBeReference", "(I)Z"⟩
  | 57 => ⟨"FrameDeltas$State", "depthOf", "(I)I"⟩
  | 58 => ⟨"FrameDeltas$State", "seekCost", "(I)I"⟩
  | 59 => ⟨"FrameDeltas$State", "chainHas", "(II)Z"⟩
  | 60 => ⟨"FrameDeltas$State", "readableFrames", "()I"⟩
  | 61 => ⟨"FrameDeltas$State", "costOfRecords", "()I"⟩
  | 62 => ⟨"FrameDeltas", "setSize", "(II)I"⟩
  | 63 => ⟨"FrameDeltas", "setCell", "(II)I"⟩
  | 64 => ⟨"FrameDeltas", "cell", "(I)I"⟩
  | 65 => ⟨"FrameDeltas", "appendCharacter", "(I)I"⟩
  | 66 => ⟨"FrameDeltas", "clearText", "()I"⟩
  | 67 => ⟨"FrameDeltas", "draw", "()I"⟩
  | 68 => ⟨"FrameDeltas", "digest", "(III)I"⟩
  | 69 => ⟨"FrameDeltas", "addKey", "()I"⟩
  | 70 => ⟨"FrameDeltas", "addDelta", "(I)I"⟩
  | 71 => ⟨"FrameDeltas", "addChosen", "()I"⟩
  | 72 => ⟨"FrameDeltas", "removeLast", "()I"⟩
  | 73 => ⟨"FrameDeltas", "recode", "()I"⟩
  | 74 => ⟨"FrameDeltas", "setLimits", "(III)I"⟩
  | 75 => ⟨"FrameDeltas", "setLost", "(II)I"⟩
  | 76 => ⟨"FrameDeltas", "frame", "(II)I"⟩
  | 77 => ⟨"FrameDeltas", "code", "(III)I"⟩
  | 78 => ⟨"FrameDeltas", "run", "(IIII)I"⟩
  | 79 => ⟨"FrameDeltas", "pixel", "(II)I"⟩
  | 80 => ⟨"FrameDeltas", "count", "(I)I"⟩
  | 81 => ⟨"FrameDeltas", "costWith", "(I)I"⟩
  | 82 => ⟨"FrameDeltas", "difference", "(II)I"⟩
  | 83 => ⟨"FrameDeltas", "findBlock", "(II)I"⟩
  | 84 => ⟨"FrameDeltas", "falseMatches", "(I)I"⟩
  | 85 => ⟨"FrameDeltas", "greatestSeek", "()I"⟩
  | 86 => ⟨"FrameDeltas", "dependents", "(I)I"⟩
  | 87 => ⟨"FrameDeltas", "patch", "(I)I"⟩
  | 88 => ⟨"FrameDeltas", "planCost", "()I"⟩
  | 89 => ⟨"FrameDeltas", "planKeys", "()I"⟩
  | 90 => ⟨"FrameDeltas", "undo", "()I"⟩
  | 91 => ⟨"FrameDeltas", "isSize", "(I)Z"⟩
  | 92 => ⟨"FrameDeltas", "save", "()V"⟩
  | 93 => ⟨"FrameDeltas", "savedSlot", "(I)LFrameDeltas$State;"⟩
  | 94 => ⟨"FrameDeltas", "add", "(I)I"⟩
  | 95 => ⟨"FrameDeltas", "costOfCanvas", "(I)I"⟩
  | 96 => ⟨"FrameDeltas", "chosenReference", "()I"⟩
  | 97 => ⟨"FrameDeltas", "falsePairs", "(LFrameDeltas$Image;)I"⟩
  | 98 => ⟨"FrameDeltasModel", "in", "(III)Z"⟩
  | 99 => ⟨"FrameDeltasModel", "note", "()V"⟩
  | 100 => ⟨"FrameDeltasModel", "undo", "()I"⟩
  | 101 => ⟨"FrameDeltasModel", "cells", "()I"⟩
  | 102 => ⟨"FrameDeltasModel", "blocks", "()I"⟩
  | 103 => ⟨"FrameDeltasModel", "isFrame", "(I)Z"⟩
  | 104 => ⟨"FrameDeltasModel", "value", "(II)I"⟩
  | 105 => ⟨"FrameDeltasModel", "reference", "(I)I"⟩
  | 106 => ⟨"FrameDeltasModel", "depthOf", "(I)I"⟩
  | 107 => ⟨"FrameDeltasModel", "isGood", "(I)Z"⟩
  | 108 => ⟨"FrameDeltasModel", "goods", "()I"⟩
  | 109 => ⟨"FrameDeltasModel", "setSize", "(II)I"⟩
  | 110 => ⟨"FrameDeltasModel", "isCell", "(I)Z"⟩
  | 111 => ⟨"FrameDeltasModel", "setCell", "(II)I"⟩
  | 112 => ⟨"FrameDeltasModel", "cell", "(I)I"⟩
  | 113 => ⟨"FrameDeltasModel", "appendCharacter", "(I)I"⟩
  | 114 => ⟨"FrameDeltasModel", "clearText", "()I"⟩
  | 115 => ⟨"FrameDeltasModel", "here", "()I"⟩
  | 116 => ⟨"FrameDeltasModel", "readsToken", "()V"⟩
  | 117 => ⟨"FrameDeltasModel", "takes", "(Z)V"⟩
  | 118 => ⟨"FrameDeltasModel", "takesNumber", "(II)I"⟩
  | 119 => ⟨"FrameDeltasModel", "place", "(II)I"⟩
  | 120 => ⟨"FrameDeltasModel", "keeps", "()V"⟩
  | 121 => ⟨"FrameDeltasModel", "fillsBox", "(IIIII)V"⟩
  | 122 => ⟨"FrameDeltasModel", "shifts", "(II)V"⟩
  | 123 => ⟨"FrameDeltasModel", "readsCommand", "()V"⟩
  | 124 => ⟨"FrameDeltasModel", "exchanges", "()V"⟩
  | 125 => ⟨"FrameDeltasModel", "draw", "()I"⟩
  | 126 => ⟨"FrameDeltasModel", "isImage", "(I)Z"⟩
  | 127 => ⟨"FrameDeltasModel", "isKnown", "(I)Z"⟩
  | 128 => ⟨"FrameDeltasModel", "digestOf", "(III)I"⟩
  | 129 => ⟨"FrameDeltasModel", "digest", "(III)I"⟩
  | 130 => ⟨"FrameDeltasModel", "left", "(I)I"⟩
  | 131 => ⟨"FrameDeltasModel", "top", "(I)I"⟩
  | 132 => ⟨"FrameDeltasModel", "given", "(IIII)I"⟩
  | 133 => ⟨"FrameDeltasModel", "runsOf", "(III)I"⟩
  | 134 => ⟨"FrameDeltasModel", "isLike", "(IIIII)Z"⟩
  | 135 => ⟨"FrameDeltasModel", "size", "(I)I"⟩
  | 136 => ⟨"FrameDeltasModel", "finds", "(III)Z"⟩
  | 137 => ⟨"FrameDeltasModel", "codes", "(III)I"⟩
  | 138 => ⟨"FrameDeltasModel", "codesAll", "(II)I"⟩
  | 139 => ⟨"FrameDeltasModel", "codeAt", "(II)I"⟩
  | 140 => ⟨"FrameDeltasModel", "runsIn", "(II)I"⟩
  | 141 => ⟨"FrameDeltasModel", "costOf", "(I)I"⟩
  | 142 => ⟨"FrameDeltasModel", "seekOf", "(I)I"⟩
  | 143 => ⟨"FrameDeltasModel", "records", "(II)V"⟩
  | 144 => ⟨"FrameDeltasModel", "adds", "(I)I"⟩
  | 145 => ⟨"FrameDeltasModel", "addKey", "()I"⟩
  | 146 => ⟨"FrameDeltasModel", "addDelta", "(I)I"⟩
  | 147 => ⟨"FrameDeltasModel", "addChosen", "()I"⟩
  | 148 => ⟨"FrameDeltasModel", "removeLast", "()I"⟩
  | 149 => ⟨"FrameDeltasModel", "planOf", "(I)I"⟩
  | 150 => ⟨"FrameDeltasModel", "bits", "(I)I"⟩
  | 151 => ⟨"FrameDeltasModel", "plans", "()I"⟩
  | 152 => ⟨"FrameDeltasModel", "recode", "()I"⟩
  | 153 => ⟨"FrameDeltasModel", "planCost", "()I"⟩
  | 154 => ⟨"FrameDeltasModel", "planKeys", "()I"⟩
  | 155 => ⟨"FrameDeltasModel", "setLimits", "(III)I"⟩
  | 156 => ⟨"FrameDeltasModel", "setLost", "(II)I"⟩
  | 157 => ⟨"FrameDeltasModel", "codesOf", "(II)I"⟩
  | 158 => ⟨"FrameDeltasModel", "frame", "(II)I"⟩
  | 159 => ⟨"FrameDeltasModel", "isBlock", "(I)Z"⟩
  | 160 => ⟨"FrameDeltasModel", "code", "(III)I"⟩
  | 161 => ⟨"FrameDeltasModel", "run", "(IIII)I"⟩
  | 162 => ⟨"FrameDeltasModel", "pixel", "(II)I"⟩
  | 163 => ⟨"FrameDeltasModel", "count", "(I)I"⟩
  | 164 => ⟨"FrameDeltasModel", "costWith", "(I)I"⟩
  | 165 => ⟨"FrameDeltasModel", "differing", "(II)I"⟩
  | 166 => ⟨"FrameDeltasModel", "difference", "(II)I"⟩
  | 167 => ⟨"FrameDeltasModel", "areAlike", "(IIIIII)Z"⟩
  | 168 => ⟨"FrameDeltasModel", "findBlock", "(II)I"⟩
  | 169 => ⟨"FrameDeltasModel", "falseMatches", "(I)I"⟩
  | 170 => ⟨"FrameDeltasModel", "greatestSeek", "()I"⟩
  | 171 => ⟨"FrameDeltasModel", "isInChain", "(II)Z"⟩
  | 172 => ⟨"FrameDeltasModel", "dependents", "(I)I"⟩
  | 173 => ⟨"FrameDeltasModel", "patch", "(I)I"⟩
  | 174 => ⟨"java/lang/Integer", "bitCount", "(I)I"⟩
  | 175 => ⟨"java/lang/Math", "abs", "(I)I"⟩
  | 176 => ⟨"java/lang/Math", "max", "(II)I"⟩
  | 177 => ⟨"java/lang/Math", "min", "(II)I"⟩
  | 178 => ⟨"java/lang/String", "length", "()I"⟩
  | 179 => ⟨"java/lang/String", "charAt", "(I)C"⟩
  | 180 => ⟨"java/lang/String", "coder", "()B"⟩
  | 181 => ⟨"java/lang/String", "isLatin1", "()Z"⟩
  | 182 => ⟨"java/lang/String", "checkIndex", "(II)V"⟩
  | 183 => ⟨"java/lang/StringLatin1", "charAt", "([BI)C"⟩
  | 184 => ⟨"jdk/internal/util/Preconditions", "checkIndex", "(IILjava/util/function/BiFunction;)I"⟩
  | 185 => ⟨"FrameDeltasLaw", "law", "([I)Z"⟩
  | _ => ⟨"", "", ""⟩
def zby : Nat → ByteArray
  | 0 => prog_2_method_2_code
  | 1 => prog_2_method_3_code
  | 2 => prog_2_method_4_code
  | 3 => prog_2_method_5_code
  | 4 => prog_3_method_2_code
  | 5 => prog_3_method_3_code
  | 6 => prog_3_method_4_code
  | 7 => prog_3_method_5_code
  | 8 => prog_4_method_2_code
  | 9 => prog_4_method_3_code
  | 10 => prog_4_method_4_code
  | 11 => prog_4_method_5_code
  | 12 => prog_4_method_6_code
  | 13 => prog_4_method_7_code
  | 14 => prog_4_method_8_code
  | 15 => prog_4_method_9_code
  | 16 => prog_4_method_10_code
  | 17 => prog_4_method_11_code
  | 18 => prog_4_method_12_code
  | 19 => prog_4_method_13_code
  | 20 => prog_4_method_14_code
  | 21 => prog_4_method_15_code
  | 22 => prog_4_method_16_code
  | 23 => prog_4_method_17_code
  | 24 => prog_4_method_18_code
  | 25 => prog_5_method_2_code
  | 26 => prog_5_method_3_code
  | 27 => prog_5_method_4_code
  | 28 => prog_5_method_5_code
  | 29 => prog_6_method_2_code
  | 30 => prog_6_method_3_code
  | 31 => prog_6_method_4_code
  | 32 => prog_6_method_5_code
  | 33 => prog_7_method_2_code
  | 34 => prog_7_method_3_code
  | 35 => prog_7_method_4_code
  | 36 => prog_7_method_5_code
  | 37 => prog_7_method_6_code
  | 38 => prog_7_method_7_code
  | 39 => prog_7_method_8_code
  | 40 => prog_7_method_9_code
  | 41 => prog_7_method_10_code
  | 42 => prog_7_method_11_code
  | 43 => prog_7_method_12_code
  | 44 => prog_7_method_13_code
  | 45 => prog_7_method_14_code
  | 46 => prog_7_method_15_code
  | 47 => prog_7_method_16_code
  | 48 => prog_7_method_17_code
  | 49 => prog_7_method_18_code
  | 50 => prog_8_method_2_code
  | 51 => prog_8_method_3_code
  | 52 => prog_8_method_4_code
  | 53 => prog_8_method_5_code
  | 54 => prog_8_method_6_code
  | 55 => prog_8_method_7_code
  | 56 => prog_8_method_8_code
  | 57 => prog_8_method_9_code
  | 58 => prog_8_method_10_code
  | 59 => prog_8_method_11_code
  | 60 => prog_8_method_12_code
  | 61 => prog_8_method_13_code
  | 62 => prog_1_method_2_code
  | 63 => prog_1_method_3_code
  | 64 => prog_1_method_4_code
  | 65 => prog_1_method_5_code
  | 66 => prog_1_method_6_code
  | 67 => prog_1_method_7_code
  | 68 => prog_1_method_8_code
  | 69 => prog_1_method_9_code
  | 70 => prog_1_method_10_code
  | 71 => prog_1_method_11_code
  | 72 => prog_1_method_12_code
  | 73 => prog_1_method_13_code
  | 74 => prog_1_method_14_code
  | 75 => prog_1_method_15_code
  | 76 => prog_1_method_16_code
  | 77 => prog_1_method_17_code
  | 78 => prog_1_method_18_code
  | 79 => prog_1_method_19_code
  | 80 => prog_1_method_20_code
  | 81 => prog_1_method_21_code
  | 82 => prog_1_method_22_code
  | 83 => prog_1_method_23_code
  | 84 => prog_1_method_24_code
  | 85 => prog_1_method_25_code
  | 86 => prog_1_method_26_code
  | 87 => prog_1_method_27_code
  | 88 => prog_1_method_28_code
  | 89 => prog_1_method_29_code
  | 90 => prog_1_method_30_code
  | 91 => prog_1_method_31_code
  | 92 => prog_1_method_32_code
  | 93 => prog_1_method_33_code
  | 94 => prog_1_method_34_code
  | 95 => prog_1_method_35_code
  | 96 => prog_1_method_36_code
  | 97 => prog_1_method_37_code
  | 98 => prog_10_method_3_code
  | 99 => prog_10_method_4_code
  | 100 => prog_10_method_5_code
  | 101 => prog_10_method_6_code
  | 102 => prog_10_method_7_code
  | 103 => prog_10_method_8_code
  | 104 => prog_10_method_9_code
  | 105 => prog_10_method_10_code
  | 106 => prog_10_method_11_code
  | 107 => prog_10_method_12_code
  | 108 => prog_10_method_13_code
  | 109 => prog_10_method_14_code
  | 110 => prog_10_method_15_code
  | 111 => prog_10_method_16_code
  | 112 => prog_10_method_17_code
  | 113 => prog_10_method_18_code
  | 114 => prog_10_method_19_code
  | 115 => prog_10_method_20_code
  | 116 => prog_10_method_21_code
  | 117 => prog_10_method_22_code
  | 118 => prog_10_method_23_code
  | 119 => prog_10_method_24_code
  | 120 => prog_10_method_25_code
  | 121 => prog_10_method_26_code
  | 122 => prog_10_method_27_code
  | 123 => prog_10_method_28_code
  | 124 => prog_10_method_29_code
  | 125 => prog_10_method_30_code
  | 126 => prog_10_method_31_code
  | 127 => prog_10_method_32_code
  | 128 => prog_10_method_33_code
  | 129 => prog_10_method_34_code
  | 130 => prog_10_method_35_code
  | 131 => prog_10_method_36_code
  | 132 => prog_10_method_37_code
  | 133 => prog_10_method_38_code
  | 134 => prog_10_method_39_code
  | 135 => prog_10_method_40_code
  | 136 => prog_10_method_41_code
  | 137 => prog_10_method_42_code
  | 138 => prog_10_method_43_code
  | 139 => prog_10_method_44_code
  | 140 => prog_10_method_45_code
  | 141 => prog_10_method_46_code
  | 142 => prog_10_method_47_code
  | 143 => prog_10_method_48_code
  | 144 => prog_10_method_49_code
  | 145 => prog_10_method_50_code
  | 146 => prog_10_method_51_code
  | 147 => prog_10_method_52_code
  | 148 => prog_10_method_53_code
  | 149 => prog_10_method_54_code
  | 150 => prog_10_method_55_code
  | 151 => prog_10_method_56_code
  | 152 => prog_10_method_57_code
  | 153 => prog_10_method_58_code
  | 154 => prog_10_method_59_code
  | 155 => prog_10_method_60_code
  | 156 => prog_10_method_61_code
  | 157 => prog_10_method_62_code
  | 158 => prog_10_method_63_code
  | 159 => prog_10_method_64_code
  | 160 => prog_10_method_65_code
  | 161 => prog_10_method_66_code
  | 162 => prog_10_method_67_code
  | 163 => prog_10_method_68_code
  | 164 => prog_10_method_69_code
  | 165 => prog_10_method_70_code
  | 166 => prog_10_method_71_code
  | 167 => prog_10_method_72_code
  | 168 => prog_10_method_73_code
  | 169 => prog_10_method_74_code
  | 170 => prog_10_method_75_code
  | 171 => prog_10_method_76_code
  | 172 => prog_10_method_77_code
  | 173 => prog_10_method_78_code
  | 174 => prog_11_method_49_code
  | 175 => prog_12_method_59_code
  | 176 => prog_12_method_65_code
  | 177 => prog_12_method_69_code
  | 178 => prog_13_method_54_code
  | 179 => prog_13_method_56_code
  | 180 => prog_13_method_152_code
  | 181 => prog_13_method_154_code
  | 182 => prog_13_method_155_code
  | 183 => prog_14_method_2_code
  | 184 => prog_17_method_11_code
  | 185 => code
  | _ => .empty
def zrt : Nat → Option FieldType
  | 0 => none
  | 1 => (some .int)
  | 2 => (some .int)
  | 3 => (some .boolean)
  | 4 => none
  | 5 => (some .int)
  | 6 => none
  | 7 => (some .int)
  | 8 => none
  | 9 => none
  | 10 => (some .boolean)
  | 11 => (some .int)
  | 12 => none
  | 13 => (some .int)
  | 14 => (some .int)
  | 15 => (some .boolean)
  | 16 => (some .int)
  | 17 => (some .int)
  | 18 => (some .boolean)
  | 19 => (some .int)
  | 20 => (some .boolean)
  | 21 => (some .int)
  | 22 => none
  | 23 => none
  | 24 => none
  | 25 => none
  | 26 => none
  | 27 => (some .int)
  | 28 => (some .int)
  | 29 => none
  | 30 => none
  | 31 => (some .int)
  | 32 => (some .int)
  | 33 => (some .int)
  | 34 => (some (.object "java/lang/String"))
  | 35 => (some (.object "java/lang/String"))
  | 36 => (some .int)
  | 37 => (some .boolean)
  | 38 => none
  | 39 => none
  | 40 => (some .char)
  | 41 => (some .boolean)
  | 42 => (some .boolean)
  | 43 => (some .int)
  | 44 => (some .boolean)
  | 45 => (some .boolean)
  | 46 => (some .boolean)
  | 47 => (some .int)
  | 48 => (some .int)
  | 49 => none
  | 50 => none
  | 51 => (some (.object "FrameDeltas$Frame"))
  | 52 => (some .boolean)
  | 53 => (some .boolean)
  | 54 => (some (.object "FrameDeltas$Image"))
  | 55 => (some .boolean)
  | 56 => (some .boolean)
  | 57 => (some .int)
  | 58 => (some .int)
  | 59 => (some .boolean)
  | 60 => (some .int)
  | 61 => (some .int)
  | 62 => (some .int)
  | 63 => (some .int)
  | 64 => (some .int)
  | 65 => (some .int)
  | 66 => (some .int)
  | 67 => (some .int)
  | 68 => (some .int)
  | 69 => (some .int)
  | 70 => (some .int)
  | 71 => (some .int)
  | 72 => (some .int)
  | 73 => (some .int)
  | 74 => (some .int)
  | 75 => (some .int)
  | 76 => (some .int)
  | 77 => (some .int)
  | 78 => (some .int)
  | 79 => (some .int)
  | 80 => (some .int)
  | 81 => (some .int)
  | 82 => (some .int)
  | 83 => (some .int)
  | 84 => (some .int)
  | 85 => (some .int)
  | 86 => (some .int)
  | 87 => (some .int)
  | 88 => (some .int)
  | 89 => (some .int)
  | 90 => (some .int)
  | 91 => (some .boolean)
  | 92 => none
  | 93 => (some (.object "FrameDeltas$State"))
  | 94 => (some .int)
  | 95 => (some .int)
  | 96 => (some .int)
  | 97 => (some .int)
  | 98 => (some .boolean)
  | 99 => none
  | 100 => (some .int)
  | 101 => (some .int)
  | 102 => (some .int)
  | 103 => (some .boolean)
  | 104 => (some .int)
  | 105 => (some .int)
  | 106 => (some .int)
  | 107 => (some .boolean)
  | 108 => (some .int)
  | 109 => (some .int)
  | 110 => (some .boolean)
  | 111 => (some .int)
  | 112 => (some .int)
  | 113 => (some .int)
  | 114 => (some .int)
  | 115 => (some .int)
  | 116 => none
  | 117 => none
  | 118 => (some .int)
  | 119 => (some .int)
  | 120 => none
  | 121 => none
  | 122 => none
  | 123 => none
  | 124 => none
  | 125 => (some .int)
  | 126 => (some .boolean)
  | 127 => (some .boolean)
  | 128 => (some .int)
  | 129 => (some .int)
  | 130 => (some .int)
  | 131 => (some .int)
  | 132 => (some .int)
  | 133 => (some .int)
  | 134 => (some .boolean)
  | 135 => (some .int)
  | 136 => (some .boolean)
  | 137 => (some .int)
  | 138 => (some .int)
  | 139 => (some .int)
  | 140 => (some .int)
  | 141 => (some .int)
  | 142 => (some .int)
  | 143 => none
  | 144 => (some .int)
  | 145 => (some .int)
  | 146 => (some .int)
  | 147 => (some .int)
  | 148 => (some .int)
  | 149 => (some .int)
  | 150 => (some .int)
  | 151 => (some .int)
  | 152 => (some .int)
  | 153 => (some .int)
  | 154 => (some .int)
  | 155 => (some .int)
  | 156 => (some .int)
  | 157 => (some .int)
  | 158 => (some .int)
  | 159 => (some .boolean)
  | 160 => (some .int)
  | 161 => (some .int)
  | 162 => (some .int)
  | 163 => (some .int)
  | 164 => (some .int)
  | 165 => (some .int)
  | 166 => (some .int)
  | 167 => (some .boolean)
  | 168 => (some .int)
  | 169 => (some .int)
  | 170 => (some .int)
  | 171 => (some .boolean)
  | 172 => (some .int)
  | 173 => (some .int)
  | 174 => (some .int)
  | 175 => (some .int)
  | 176 => (some .int)
  | 177 => (some .int)
  | 178 => (some .int)
  | 179 => (some .char)
  | 180 => (some .byte)
  | 181 => (some .boolean)
  | 182 => none
  | 183 => (some .char)
  | 184 => (some .int)
  | 185 => (some .boolean)
  | _ => none
/-- frames and words of locals that a call takes at most -/
def zfr : Nat → Nat
  | 0 => 5
  | 1 => 4
  | 2 => 4
  | 3 => 2
  | 4 => 2
  | 5 => 1
  | 6 => 1
  | 7 => 2
  | 8 => 1
  | 9 => 1
  | 10 => 1
  | 11 => 1
  | 12 => 1
  | 13 => 1
  | 14 => 1
  | 15 => 2
  | 16 => 2
  | 17 => 2
  | 18 => 1
  | 19 => 2
  | 20 => 1
  | 21 => 2
  | 22 => 2
  | 23 => 2
  | 24 => 1
  | 25 => 7
  | 26 => 6
  | 27 => 2
  | 28 => 1
  | 29 => 3
  | 30 => 1
  | 31 => 1
  | 32 => 1
  | 33 => 1
  | 34 => 1
  | 35 => 1
  | 36 => 8
  | 37 => 7
  | 38 => 1
  | 39 => 2
  | 40 => 1
  | 41 => 1
  | 42 => 1
  | 43 => 6
  | 44 => 5
  | 45 => 2
  | 46 => 3
  | 47 => 4
  | 48 => 1
  | 49 => 3
  | 50 => 3
  | 51 => 1
  | 52 => 1
  | 53 => 2
  | 54 => 2
  | 55 => 2
  | 56 => 3
  | 57 => 2
  | 58 => 2
  | 59 => 2
  | 60 => 3
  | 61 => 2
  | 62 => 5
  | 63 => 5
  | 64 => 2
  | 65 => 2
  | 66 => 1
  | 67 => 9
  | 68 => 3
  | 69 => 7
  | 70 => 7
  | 71 => 8
  | 72 => 5
  | 73 => 8
  | 74 => 5
  | 75 => 5
  | 76 => 3
  | 77 => 3
  | 78 => 4
  | 79 => 3
  | 80 => 4
  | 81 => 7
  | 82 => 3
  | 83 => 3
  | 84 => 4
  | 85 => 3
  | 86 => 3
  | 87 => 3
  | 88 => 8
  | 89 => 8
  | 90 => 4
  | 91 => 1
  | 92 => 4
  | 93 => 1
  | 94 => 6
  | 95 => 6
  | 96 => 7
  | 97 => 3
  | 98 => 1
  | 99 => 1
  | 100 => 1
  | 101 => 1
  | 102 => 2
  | 103 => 2
  | 104 => 1
  | 105 => 1
  | 106 => 2
  | 107 => 2
  | 108 => 3
  | 109 => 3
  | 110 => 2
  | 111 => 3
  | 112 => 3
  | 113 => 2
  | 114 => 1
  | 115 => 1
  | 116 => 2
  | 117 => 3
  | 118 => 4
  | 119 => 1
  | 120 => 1
  | 121 => 2
  | 122 => 2
  | 123 => 5
  | 124 => 1
  | 125 => 6
  | 126 => 3
  | 127 => 3
  | 128 => 2
  | 129 => 4
  | 130 => 1
  | 131 => 1
  | 132 => 2
  | 133 => 3
  | 134 => 2
  | 135 => 1
  | 136 => 3
  | 137 => 4
  | 138 => 5
  | 139 => 1
  | 140 => 4
  | 141 => 5
  | 142 => 6
  | 143 => 1
  | 144 => 6
  | 145 => 7
  | 146 => 7
  | 147 => 7
  | 148 => 2
  | 149 => 1
  | 150 => 1
  | 151 => 6
  | 152 => 7
  | 153 => 7
  | 154 => 7
  | 155 => 2
  | 156 => 4
  | 157 => 3
  | 158 => 7
  | 159 => 3
  | 160 => 5
  | 161 => 5
  | 162 => 3
  | 163 => 6
  | 164 => 6
  | 165 => 2
  | 166 => 4
  | 167 => 2
  | 168 => 4
  | 169 => 4
  | 170 => 7
  | 171 => 2
  | 172 => 3
  | 173 => 3
  | 174 => 1
  | 175 => 1
  | 176 => 1
  | 177 => 1
  | 178 => 2
  | 179 => 4
  | 180 => 1
  | 181 => 1
  | 182 => 2
  | 183 => 3
  | 184 => 1
  | 185 => 10
  | _ => 0
def zlo : Nat → Nat
  | 0 => 109
  | 1 => 83
  | 2 => 83
  | 3 => 40
  | 4 => 61
  | 5 => 12
  | 6 => 12
  | 7 => 35
  | 8 => 12
  | 9 => 40
  | 10 => 12
  | 11 => 12
  | 12 => 12
  | 13 => 12
  | 14 => 12
  | 15 => 32
  | 16 => 33
  | 17 => 33
  | 18 => 12
  | 19 => 35
  | 20 => 12
  | 21 => 33
  | 22 => 34
  | 23 => 35
  | 24 => 12
  | 25 => 159
  | 26 => 134
  | 27 => 33
  | 28 => 12
  | 29 => 54
  | 30 => 12
  | 31 => 12
  | 32 => 12
  | 33 => 12
  | 34 => 12
  | 35 => 12
  | 36 => 164
  | 37 => 140
  | 38 => 12
  | 39 => 33
  | 40 => 12
  | 41 => 12
  | 42 => 12
  | 43 => 119
  | 44 => 97
  | 45 => 33
  | 46 => 56
  | 47 => 88
  | 48 => 12
  | 49 => 61
  | 50 => 82
  | 51 => 12
  | 52 => 12
  | 53 => 33
  | 54 => 33
  | 55 => 33
  | 56 => 57
  | 57 => 33
  | 58 => 33
  | 59 => 33
  | 60 => 56
  | 61 => 33
  | 62 => 124
  | 63 => 124
  | 64 => 33
  | 65 => 33
  | 66 => 12
  | 67 => 186
  | 68 => 59
  | 69 => 156
  | 70 => 156
  | 71 => 181
  | 72 => 124
  | 73 => 186
  | 74 => 124
  | 75 => 124
  | 76 => 58
  | 77 => 53
  | 78 => 83
  | 79 => 56
  | 80 => 78
  | 81 => 155
  | 82 => 56
  | 83 => 56
  | 84 => 85
  | 85 => 57
  | 86 => 57
  | 87 => 56
  | 88 => 186
  | 89 => 186
  | 90 => 104
  | 91 => 12
  | 92 => 104
  | 93 => 12
  | 94 => 134
  | 95 => 134
  | 96 => 155
  | 97 => 59
  | 98 => 12
  | 99 => 12
  | 100 => 12
  | 101 => 12
  | 102 => 32
  | 103 => 34
  | 104 => 12
  | 105 => 12
  | 106 => 33
  | 107 => 33
  | 108 => 56
  | 109 => 52
  | 110 => 34
  | 111 => 55
  | 112 => 55
  | 113 => 34
  | 114 => 12
  | 115 => 12
  | 116 => 34
  | 117 => 55
  | 118 => 76
  | 119 => 12
  | 120 => 12
  | 121 => 34
  | 122 => 34
  | 123 => 100
  | 124 => 12
  | 125 => 130
  | 126 => 55
  | 127 => 56
  | 128 => 34
  | 129 => 77
  | 130 => 12
  | 131 => 12
  | 132 => 34
  | 133 => 59
  | 134 => 34
  | 135 => 12
  | 136 => 63
  | 137 => 92
  | 138 => 117
  | 139 => 12
  | 140 => 84
  | 141 => 107
  | 142 => 131
  | 143 => 12
  | 144 => 141
  | 145 => 165
  | 146 => 165
  | 147 => 165
  | 148 => 33
  | 149 => 12
  | 150 => 12
  | 151 => 141
  | 152 => 165
  | 153 => 165
  | 154 => 165
  | 155 => 34
  | 156 => 78
  | 157 => 52
  | 158 => 154
  | 159 => 52
  | 160 => 107
  | 161 => 107
  | 162 => 56
  | 163 => 131
  | 164 => 141
  | 165 => 34
  | 166 => 77
  | 167 => 34
  | 168 => 73
  | 169 => 77
  | 170 => 154
  | 171 => 33
  | 172 => 56
  | 173 => 58
  | 174 => 12
  | 175 => 12
  | 176 => 12
  | 177 => 12
  | 178 => 32
  | 179 => 76
  | 180 => 12
  | 181 => 12
  | 182 => 34
  | 183 => 55
  | 184 => 12
  | 185 => 208
  | _ => 0
def zcname : Nat → String
  | 0 => "FrameDeltas"
  | 1 => "FrameDeltas$State"
  | 2 => "FrameDeltas$Frame"
  | 3 => "FrameDeltas$Image"
  | 8 => "FrameDeltas$Script"
  | 11 => "FrameDeltas$Coder"
  | 12 => "FrameDeltas$RunList"
  | 15 => "FrameDeltas$Planner"
  | 20 => "FrameDeltasModel"
  | 30 => "java/lang/String"
  | _ => ""
def zstx : Nat → Nat
  | 0 => 38
  | 1 => 40
  | 2 => 42
  | 3 => 44
  | 4 => 46
  | 5 => 48
  | 6 => 50
  | 7 => 52
  | 8 => 54
  | 9 => 56
  | _ => 0
/-- where a method keeps longs -/
def zlg (m i : Nat) : Bool := match m with
  | 123 => Nat.beq i 1
  | _ => false

def zML (own : String) (idx f : Nat) (n : Int) (tg : Nat) : Prop :=
  (zy f).cls ≠ "java/lang/invoke/MethodHandle" ∧ (zy f).cls ≠ "java/lang/invoke/VarHandle" ∧ (parseMethodDescriptor (zy f).desc).map (fun d => d.parameters.length) = some (n.toNat - (match tg with | 0 => 0 | _ => 1)) ∧ Cond.initialized (zy f).cls ∈ zTs ∧
  (match tg with
   | 0 => Cond.methodLink own idx (zy f) ∈ zTs ∧ Cond.static (zy f) ∈ zTs
   | g + 1 => Cond.instanceMethod (zy f) ∈ zTs ∧ Cond.selects (zy f).cls (zy f) (zy f) ∈ zTs ∧ zcname g = (zy f).cls ∧ (Cond.methodLink own idx (zy f) ∈ zTs ∨ Cond.methodLinkNest own idx (zy f) "FrameDeltas" ∈ zNs))
/-- a kind's class, its field table, how many fields -/
def zrec (o : Nat) : vw_C := (zcl[zci o]?).getD ("", (fun _ => ("", "", "", false)), 0)
def zFL (own : String) (idx o k : Nat) : Prop := Cond.fieldLink own idx (zrec o).1 ((zrec o).2.1 k).2.1 ((zrec o).2.1 k).2.2.1 ∈ zTs ∨ Cond.fieldLinkNest own idx (zrec o).1 ((zrec o).2.1 k).2.1 ((zrec o).2.1 k).2.2.1 "FrameDeltas" ∈ zNs
/-- what an instruction links, among the words -/
def zOK2 (own : String) (I : Instr) (a : Nat) (cs : List (Int × Nat)) : Prop := match I with
  | .getfield idx => (match cs with
    | (_, 4) :: (_, 30) :: _ => Cond.fieldLink own idx "java/lang/String" "coder" "B" ∈ zTs
    | _ :: (_, 30) :: _ => Cond.fieldLink own idx "java/lang/String" "value" "[B" ∈ zTs
    | _ :: (_, o) :: _ => zFL own idx o a
    | _ => True)
  | .putfield idx => (match cs with
    | _ :: (_, o) :: _ => zFL own idx o a
    | _ => True)
  | .invokevirtual idx => (match cs with
    | (n, _) :: (_, tg) :: _ => zML own idx a n tg
    | _ => True)
  | .invokestatic idx => (match a with
    | 999 => Cond.methodLink own idx arraycopyName ∈ zTs ∧ Cond.native arraycopyName ∈ zTs ∧ Cond.static arraycopyName ∈ zTs ∧ Cond.initialized "java/lang/System" ∈ zTs
    | _ => (match cs with
      | (n, _) :: (_, tg) :: _ => zML own idx a n tg
      | _ => True))
  | .ldc idx => own = "FrameDeltas$Script" ∧ idx = zstx a
  | .ldc2_w idx => (match cs with | (v, _) :: _ => Cond.constantLong own idx (Int64.ofInt v) ∈ zTs | _ => True)
  | .ldc_w idx => (match cs with | (v, _) :: _ => Cond.constant own idx (Int32.ofInt v) ∈ zTs | _ => True)
  | .getstatic idx => (match a with | 0 => Cond.fieldLink own idx "java/lang/String" "COMPACT_STRINGS" "Z" ∈ zTs | _ => Cond.fieldLink own idx "jdk/internal/util/Preconditions" "SIOOBE_FORMATTER" "Ljava/util/function/BiFunction;" ∈ zTs)
  | _ => True
def zall2 (own : String) : List mzN → Prop
  | [] => True
  | (_, I, a, cs, _) :: rest => zOK2 own I a cs ∧ zall2 own rest
def zil : Instr → Nat
  | .bipush _ => 2 | .sipush _ => 3 | .ldc _ => 2 | .ldc_w _ => 3 | .ldc2_w _ => 3 | .iload _ => 2 | .lload _ => 2 | .aload _ => 2 | .istore _ => 2 | .lstore _ => 2 | .astore _ => 2
  | .iinc _ _ => 3 | .ifCond _ _ => 3 | .if_icmp _ _ => 3 | .ifnull _ => 3 | .ifnonnull _ => 3 | .goto _ => 3 | .getfield _ => 3 | .putfield _ => 3 | .getstatic _ => 3 | .invokevirtual _ => 3
  | .invokestatic _ => 3 | .invokespecial _ => 3 | .new _ => 3 | .newarray _ => 2 | .anewarray _ => 3 | _ => 1
def zpcs (C : List mzN) (k : Nat) : Nat := match C[k]? with | some q => q.1 | none => 0
def zdk (bs : ByteArray) (pc : Nat) (I : Instr) : Bool := match I with
  | .tableswitch _ _ _ _ => (match decode bs pc with | .ok (J, _) => decide (J = I) | _ => false)
  | _ => decide (decode bs pc = .ok (I, zil I))
def zgt (C : List mzN) (pc : Nat) (off : Int) (a : Nat) : Bool := decide ((pc : Int) + off = (zpcs C a : Int)) && Nat.blt a C.length
def zsw (C : List mzN) (pc : Nat) (lo : Int) : List Int → List (Int × Nat) → Bool
  | [], [] => true
  | o :: os, (v, a) :: cs => decide (v = lo) && zgt C pc o a && zsw C pc (lo + 1) os cs
  | _, _ => false
def zsto (m i : Nat) : Bool := Nat.blt i (zml m) && (match i with | 0 => true | j + 1 => !(zlg m j))
/-- no fall over the end -/
def zfall (C : List mzN) (k : Nat) (pc : Nat) (I : Instr) : Bool := match I with
  | .goto _ => true | .ireturn => true | .areturn => true | .return_ => true | .athrow => true | .tableswitch _ _ _ _ => true
  | _ => decide (zpcs C (k + 1) = pc + zil I) && Nat.blt (k + 1) C.length
def zchk1 (m : Nat) (C : List mzN) (pc : Nat) (I : Instr) (a : Nat) (cs : List (Int × Nat)) : Bool := match I with
  | .iconst n => decide (-1 ≤ n) && decide (n ≤ 5)
  | .bipush n => decide (-128 ≤ n) && decide (n ≤ 127)
  | .sipush n => decide (-32768 ≤ n) && decide (n ≤ 32767)
  | .ldc_w _ => (match cs with | (v, _) :: _ => decide (-2147483648 ≤ v) && decide (v ≤ 2147483647) | _ => true)
  | .ldc2_w _ => (match cs with | (v, _) :: _ => decide (-9223372036854775808 ≤ v) && decide (v ≤ 9223372036854775807) | _ => true)
  | .ldc _ => Nat.blt a 10
  | .istore i => zsto m i
  | .istore_n i => zsto m i.val
  | .astore i => zsto m i
  | .astore_n i => zsto m i.val
  | .lstore_n i => zsto m i.val && zlg m i.val && Nat.blt (i.val + 1) (zml m)
  | .iinc i n => zsto m i && decide (-32768 ≤ n) && decide (n ≤ 32767)
  | .goto o => zgt C pc o a
  | .if_icmp _ o => zgt C pc o a
  | .ifCond _ o => zgt C pc o a
  | .ifnull o => zgt C pc o a
  | .ifnonnull o => zgt C pc o a
  | .tableswitch d lo hi os => zgt C pc d a && zsw C pc lo os.toList cs && decide (hi = lo + (os.size : Int) - 1)
  | .getfield _ => (match cs with
    | (x2, kd) :: (_, o) :: (_, x1) :: (_, md) :: _ => (match Nat.beq o 30 with | true => (Nat.beq kd 4 && decide (x2 = 0)) || (Nat.beq kd 3 && Nat.beq x1 31 && Nat.beq md 1) | false => decide ((zfl o)[a]? = some (kd, x1, md, x2)) && Nat.blt 0 (zcnt o) && Nat.beq (zrow o) 0)
    | _ => true)
  | .putfield _ => (match cs with
    | (x2, kd) :: (_, o) :: (_, x1) :: (_, md) :: _ => decide ((zfl o)[a]? = some (kd, x1, md, x2)) && Nat.blt 0 (zcnt o) && Nat.beq (zrow o) 0 && Nat.blt kd 3
    | _ => false)
  | .invokevirtual _ => (match cs with | (n, _) :: (_, g) :: _ => Nat.ble (zfr a + 1) (zfr m) && Nat.ble (8 + (zml a + 11) + zlo a) (zlo m) && Nat.blt 0 g && Nat.blt 0 n.toNat && Nat.blt a 185 && Nat.ble n.toNat (zml a) && ((Nat.beq (zrow (g - 1)) 0 && Nat.blt 0 (zcnt (g - 1))) || Nat.beq g 31) | _ => true)
  | .invokestatic _ => (match cs with | (n, _) :: (_, g) :: _ => Nat.ble (zfr a + 1) (zfr m) && Nat.ble (8 + (zml a + 11) + zlo a) (zlo m) && Nat.beq g 0 && Nat.blt a 185 && Nat.ble n.toNat (zml a) | _ => true)
  | .ireturn => (match a with | 0 => decide (zrt m = some .int) | 1 => decide (zrt m = some .boolean) | 2 => decide (zrt m = some .char) | _ => decide (zrt m = some .byte))
  | .areturn => (match zrt m with | some (.object _) => true | _ => false)
  | .return_ => decide (zrt m = none)
  | _ => true
def zchk0 (m : Nat) (C : List mzN) : Nat → List mzN → Bool
  | _, [] => true
  | k, (pc, I, a, cs, _) :: rest => zdk (zby m) pc I && zfall C k pc I && zchk1 m C pc I a cs && zchk0 m C (k + 1) rest
def zchk (m : Nat) (C D : List mzN) : Bool := zchk0 m C 0 D && (match C with | [] => true | (pc, _) :: _ => Nat.beq pc 0) && Nat.ble 40 (match D.any (fun q => Nat.beq q.2.2.1 999) with | true => zlo m | false => 40)

theorem zm_0_28 : zML "FrameDeltas$Coder" 28 54 2 2 := ⟨by decide +kernel, by decide +kernel, by decide +kernel, zl_2, zl_479, zs_30, rfl, Or.inr zl_515⟩
theorem zm_0_50 : zML "FrameDeltas$Coder" 50 14 1 4 := ⟨by decide +kernel, by decide +kernel, by decide +kernel, zl_3, zl_292, zs_7, rfl, Or.inr zl_516⟩
theorem zm_0_56 : zML "FrameDeltas$Coder" 56 1 3 12 := ⟨by decide +kernel, by decide +kernel, by decide +kernel, zl_6, zl_519, zs_36, rfl, Or.inl zl_517⟩
theorem zm_0_63 : zML "FrameDeltas$Coder" 63 2 5 12 := ⟨by decide +kernel, by decide +kernel, by decide +kernel, zl_6, zl_547, zs_42, rfl, Or.inl zl_545⟩
theorem zm_0_67 : zML "FrameDeltas$Coder" 67 29 4 13 := ⟨by decide +kernel, by decide +kernel, by decide +kernel, zl_7, zl_523, zs_37, rfl, Or.inr zl_521⟩
theorem zm_0_74 : zML "FrameDeltas$Coder" 74 6 6 3 := ⟨by decide +kernel, by decide +kernel, by decide +kernel, zl_4, zl_543, zs_41, rfl, Or.inr zl_541⟩
theorem zm_0_78 : zML "FrameDeltas$Coder" 78 16 2 4 := ⟨by decide +kernel, by decide +kernel, by decide +kernel, zl_3, zl_527, zs_38, rfl, Or.inr zl_549⟩
theorem zm_0_82 : zML "FrameDeltas$Coder" 82 17 2 4 := ⟨by decide +kernel, by decide +kernel, by decide +kernel, zl_3, zl_534, zs_39, rfl, Or.inr zl_550⟩
theorem zm_0_85 : zML "FrameDeltas$Coder" 85 20 6 4 := ⟨by decide +kernel, by decide +kernel, by decide +kernel, zl_3, zl_553, zs_43, rfl, Or.inr zl_551⟩
theorem zm_0_89 : zML "FrameDeltas$Coder" 89 3 6 12 := ⟨by decide +kernel, by decide +kernel, by decide +kernel, zl_6, zl_557, zs_44, rfl, Or.inl zl_555⟩
theorem zm_0_93 : zML "FrameDeltas$Coder" 93 175 1 0 := ⟨by decide +kernel, by decide +kernel, by decide +kernel, zl_15, zl_559, zl_560⟩
theorem zm_0_98 : zML "FrameDeltas$Coder" 98 18 3 4 := ⟨by decide +kernel, by decide +kernel, by decide +kernel, zl_3, zl_493, zs_32, rfl, Or.inr zl_562⟩
theorem zm_0_102 : zML "FrameDeltas$Coder" 102 176 2 0 := ⟨by decide +kernel, by decide +kernel, by decide +kernel, zl_15, zl_563, zl_530⟩
theorem zm_1_33 : zML "FrameDeltas$Frame" 33 9 2 4 := ⟨by decide +kernel, by decide +kernel, by decide +kernel, zl_3, zl_271, zs_3, rfl, Or.inr zl_284⟩
theorem zm_1_43 : zML "FrameDeltas$Frame" 43 14 1 4 := ⟨by decide +kernel, by decide +kernel, by decide +kernel, zl_3, zl_292, zs_7, rfl, Or.inr zl_650⟩
theorem zm_1_47 : zML "FrameDeltas$Frame" 47 5 3 3 := ⟨by decide +kernel, by decide +kernel, by decide +kernel, zl_4, zl_653, zs_56, rfl, Or.inl zl_651⟩
theorem zm_2_28 : zML "FrameDeltas$Image" 28 14 1 4 := ⟨by decide +kernel, by decide +kernel, by decide +kernel, zl_3, zl_292, zs_7, rfl, Or.inl zl_663⟩
theorem zm_2_32 : zML "FrameDeltas$Image" 32 176 2 0 := ⟨by decide +kernel, by decide +kernel, by decide +kernel, zl_15, zl_529, zl_530⟩
theorem zm_2_38 : zML "FrameDeltas$Image" 38 13 3 4 := ⟨by decide +kernel, by decide +kernel, by decide +kernel, zl_3, zl_471, zs_28, rfl, Or.inl zl_469⟩
theorem zm_2_41 : zML "FrameDeltas$Image" 41 11 2 4 := ⟨by decide +kernel, by decide +kernel, by decide +kernel, zl_3, zl_304, zs_9, rfl, Or.inl zl_702⟩
theorem zm_2_45 : zML "FrameDeltas$Image" 45 177 2 0 := ⟨by decide +kernel, by decide +kernel, by decide +kernel, zl_15, zl_460, zl_461⟩
theorem zm_2_48 : zML "FrameDeltas$Image" 48 12 3 4 := ⟨by decide +kernel, by decide +kernel, by decide +kernel, zl_3, zl_308, zs_10, rfl, Or.inl zl_463⟩
theorem zm_3_30 : zML "FrameDeltas$Planner" 30 177 2 0 := ⟨by decide +kernel, by decide +kernel, by decide +kernel, zl_15, zl_603, zl_461⟩
theorem zm_3_36 : zML "FrameDeltas$Planner" 36 26 5 16 := ⟨by decide +kernel, by decide +kernel, by decide +kernel, zl_8, zl_606, zs_50, rfl, Or.inl zl_604⟩
theorem zm_3_43 : zML "FrameDeltas$Planner" 43 27 4 16 := ⟨by decide +kernel, by decide +kernel, by decide +kernel, zl_8, zl_613, zs_51, rfl, Or.inl zl_611⟩
theorem zm_3_47 : zML "FrameDeltas$Planner" 47 174 1 0 := ⟨by decide +kernel, by decide +kernel, by decide +kernel, zl_16, zl_616, zl_617⟩
theorem zm_3_59 : zML "FrameDeltas$Planner" 59 54 2 2 := ⟨by decide +kernel, by decide +kernel, by decide +kernel, zl_2, zl_479, zs_30, rfl, Or.inr zl_608⟩
theorem zm_3_63 : zML "FrameDeltas$Planner" 63 9 2 4 := ⟨by decide +kernel, by decide +kernel, by decide +kernel, zl_3, zl_271, zs_3, rfl, Or.inr zl_609⟩
theorem zm_3_69 : zML "FrameDeltas$Planner" 69 0 4 12 := ⟨by decide +kernel, by decide +kernel, by decide +kernel, zl_6, zl_513, zs_35, rfl, Or.inr zl_610⟩
theorem zm_3_76 : zML "FrameDeltas$Planner" 76 176 2 0 := ⟨by decide +kernel, by decide +kernel, by decide +kernel, zl_15, zl_615, zl_530⟩
theorem zm_4_22 : zML "FrameDeltas$RunList" 22 16 2 4 := ⟨by decide +kernel, by decide +kernel, by decide +kernel, zl_3, zl_527, zs_38, rfl, Or.inr zl_525⟩
theorem zm_4_28 : zML "FrameDeltas$RunList" 28 17 2 4 := ⟨by decide +kernel, by decide +kernel, by decide +kernel, zl_3, zl_534, zs_39, rfl, Or.inr zl_532⟩
theorem zm_4_31 : zML "FrameDeltas$RunList" 31 13 3 4 := ⟨by decide +kernel, by decide +kernel, by decide +kernel, zl_3, zl_471, zs_28, rfl, Or.inr zl_536⟩
theorem zm_4_35 : zML "FrameDeltas$RunList" 35 30 2 13 := ⟨by decide +kernel, by decide +kernel, by decide +kernel, zl_7, zl_539, zs_40, rfl, Or.inl zl_537⟩
theorem zm_5_58 : zML "FrameDeltas$Script" 58 39 1 9 := ⟨by decide +kernel, by decide +kernel, by decide +kernel, zl_5, zl_336, zs_13, rfl, Or.inl zl_334⟩
theorem zm_5_61 : zML "FrameDeltas$Script" 61 37 2 9 := ⟨by decide +kernel, by decide +kernel, by decide +kernel, zl_5, zl_350, zs_15, rfl, Or.inl zl_348⟩
theorem zm_5_65 : zML "FrameDeltas$Script" 65 43 1 9 := ⟨by decide +kernel, by decide +kernel, by decide +kernel, zl_5, zl_354, zs_16, rfl, Or.inl zl_352⟩
theorem zm_5_69 : zML "FrameDeltas$Script" 69 38 2 9 := ⟨by decide +kernel, by decide +kernel, by decide +kernel, zl_5, zl_418, zs_18, rfl, Or.inl zl_416⟩
theorem zm_5_73 : zML "FrameDeltas$Script" 73 35 1 0 := ⟨by decide +kernel, by decide +kernel, by decide +kernel, zl_5, zl_420, zl_421⟩
theorem zm_5_77 : zML "FrameDeltas$Script" 77 178 1 31 := ⟨by decide +kernel, by decide +kernel, by decide +kernel, zl_11, zl_369, zl_370, rfl, Or.inl zl_368⟩
theorem zm_5_81 : zML "FrameDeltas$Script" 81 45 1 9 := ⟨by decide +kernel, by decide +kernel, by decide +kernel, zl_5, zl_430, zs_19, rfl, Or.inl zl_428⟩
theorem zm_5_85 : zML "FrameDeltas$Script" 85 179 2 31 := ⟨by decide +kernel, by decide +kernel, by decide +kernel, zl_11, zl_379, zl_380, rfl, Or.inl zl_378⟩
theorem zm_5_89 : zML "FrameDeltas$Script" 89 46 3 9 := ⟨by decide +kernel, by decide +kernel, by decide +kernel, zl_5, zl_434, zs_20, rfl, Or.inl zl_432⟩
theorem zm_5_93 : zML "FrameDeltas$Script" 93 40 2 9 := ⟨by decide +kernel, by decide +kernel, by decide +kernel, zl_5, zl_340, zs_14, rfl, Or.inl zl_338⟩
theorem zm_5_96 : zML "FrameDeltas$Script" 96 41 1 0 := ⟨by decide +kernel, by decide +kernel, by decide +kernel, zl_5, zl_342, zl_343⟩
theorem zm_5_100 : zML "FrameDeltas$Script" 100 42 1 0 := ⟨by decide +kernel, by decide +kernel, by decide +kernel, zl_5, zl_345, zl_346⟩
theorem zm_5_103 : zML "FrameDeltas$Script" 103 34 1 0 := ⟨by decide +kernel, by decide +kernel, by decide +kernel, zl_5, zl_356, zl_357⟩
theorem zm_5_106 : zML "FrameDeltas$Script" 106 44 2 9 := ⟨by decide +kernel, by decide +kernel, by decide +kernel, zl_5, zl_366, zs_17, rfl, Or.inl zl_364⟩
theorem zm_5_110 : zML "FrameDeltas$Script" 110 52 2 2 := ⟨by decide +kernel, by decide +kernel, by decide +kernel, zl_2, zl_438, zs_21, rfl, Or.inr zl_436⟩
theorem zm_5_116 : zML "FrameDeltas$Script" 116 55 2 2 := ⟨by decide +kernel, by decide +kernel, by decide +kernel, zl_2, zl_442, zs_22, rfl, Or.inr zl_440⟩
theorem zm_5_119 : zML "FrameDeltas$Script" 119 48 2 9 := ⟨by decide +kernel, by decide +kernel, by decide +kernel, zl_5, zl_450, zs_24, rfl, Or.inl zl_448⟩
theorem zm_5_123 : zML "FrameDeltas$Script" 123 49 5 9 := ⟨by decide +kernel, by decide +kernel, by decide +kernel, zl_5, zl_454, zs_25, rfl, Or.inl zl_452⟩
theorem zm_5_139 : zML "FrameDeltas$Script" 139 22 6 4 := ⟨by decide +kernel, by decide +kernel, by decide +kernel, zl_3, zl_458, zs_26, rfl, Or.inr zl_456⟩
theorem zm_5_143 : zML "FrameDeltas$Script" 143 9 2 4 := ⟨by decide +kernel, by decide +kernel, by decide +kernel, zl_3, zl_271, zs_3, rfl, Or.inr zl_464⟩
theorem zm_5_147 : zML "FrameDeltas$Script" 147 23 4 4 := ⟨by decide +kernel, by decide +kernel, by decide +kernel, zl_3, zl_467, zs_27, rfl, Or.inr zl_465⟩
theorem zm_5_151 : zML "FrameDeltas$Script" 151 24 3 4 := ⟨by decide +kernel, by decide +kernel, by decide +kernel, zl_3, zl_475, zs_29, rfl, Or.inr zl_473⟩
theorem zm_5_155 : zML "FrameDeltas$Script" 155 54 2 2 := ⟨by decide +kernel, by decide +kernel, by decide +kernel, zl_2, zl_479, zs_30, rfl, Or.inr zl_477⟩
theorem zm_6_42 : zML "FrameDeltas$State" 42 9 2 4 := ⟨by decide +kernel, by decide +kernel, by decide +kernel, zl_3, zl_271, zs_3, rfl, Or.inr zl_269⟩
theorem zm_6_46 : zML "FrameDeltas$State" 46 51 2 2 := ⟨by decide +kernel, by decide +kernel, by decide +kernel, zl_2, zl_278, zs_4, rfl, Or.inl zl_276⟩
theorem zm_6_50 : zML "FrameDeltas$State" 50 4 2 3 := ⟨by decide +kernel, by decide +kernel, by decide +kernel, zl_4, zl_282, zs_5, rfl, Or.inr zl_280⟩
theorem zm_6_53 : zML "FrameDeltas$State" 53 52 2 2 := ⟨by decide +kernel, by decide +kernel, by decide +kernel, zl_2, zl_438, zs_21, rfl, Or.inl zl_490⟩
theorem zm_6_67 : zML "FrameDeltas$State" 67 55 2 2 := ⟨by decide +kernel, by decide +kernel, by decide +kernel, zl_2, zl_442, zs_22, rfl, Or.inl zl_573⟩
theorem zm_6_70 : zML "FrameDeltas$State" 70 57 2 2 := ⟨by decide +kernel, by decide +kernel, by decide +kernel, zl_2, zl_576, zs_46, rfl, Or.inl zl_574⟩
theorem zm_7_66 : zML "FrameDeltas" 66 91 1 0 := ⟨by decide +kernel, by decide +kernel, by decide +kernel, zl_1, zl_254, zl_255⟩
theorem zm_7_70 : zML "FrameDeltas" 70 92 1 1 := ⟨by decide +kernel, by decide +kernel, by decide +kernel, zl_1, zl_259, zs_0, rfl, Or.inl zl_257⟩
theorem zm_7_79 : zML "FrameDeltas" 79 8 3 4 := ⟨by decide +kernel, by decide +kernel, by decide +kernel, zl_3, zl_288, zs_6, rfl, Or.inr zl_286⟩
theorem zm_7_83 : zML "FrameDeltas" 83 14 1 4 := ⟨by decide +kernel, by decide +kernel, by decide +kernel, zl_3, zl_292, zs_7, rfl, Or.inr zl_290⟩
theorem zm_7_87 : zML "FrameDeltas" 87 10 2 4 := ⟨by decide +kernel, by decide +kernel, by decide +kernel, zl_3, zl_300, zs_8, rfl, Or.inr zl_298⟩
theorem zm_7_90 : zML "FrameDeltas" 90 11 2 4 := ⟨by decide +kernel, by decide +kernel, by decide +kernel, zl_3, zl_304, zs_9, rfl, Or.inr zl_302⟩
theorem zm_7_94 : zML "FrameDeltas" 94 12 3 4 := ⟨by decide +kernel, by decide +kernel, by decide +kernel, zl_3, zl_308, zs_10, rfl, Or.inr zl_306⟩
theorem zm_7_100 : zML "FrameDeltas" 100 33 2 9 := ⟨by decide +kernel, by decide +kernel, by decide +kernel, zl_5, zl_320, zs_11, rfl, Or.inr zl_318⟩
theorem zm_7_104 : zML "FrameDeltas" 104 36 2 9 := ⟨by decide +kernel, by decide +kernel, by decide +kernel, zl_5, zl_332, zs_12, rfl, Or.inr zl_330⟩
theorem zm_7_108 : zML "FrameDeltas" 108 47 3 9 := ⟨by decide +kernel, by decide +kernel, by decide +kernel, zl_5, zl_446, zs_23, rfl, Or.inr zl_444⟩
theorem zm_7_112 : zML "FrameDeltas" 112 53 2 2 := ⟨by decide +kernel, by decide +kernel, by decide +kernel, zl_2, zl_488, zs_31, rfl, Or.inr zl_486⟩
theorem zm_7_115 : zML "FrameDeltas" 115 18 3 4 := ⟨by decide +kernel, by decide +kernel, by decide +kernel, zl_3, zl_493, zs_32, rfl, Or.inr zl_491⟩
theorem zm_7_119 : zML "FrameDeltas" 119 55 2 2 := ⟨by decide +kernel, by decide +kernel, by decide +kernel, zl_2, zl_442, zs_22, rfl, Or.inr zl_495⟩
theorem zm_7_122 : zML "FrameDeltas" 122 54 2 2 := ⟨by decide +kernel, by decide +kernel, by decide +kernel, zl_2, zl_479, zs_30, rfl, Or.inr zl_496⟩
theorem zm_7_126 : zML "FrameDeltas" 126 19 3 4 := ⟨by decide +kernel, by decide +kernel, by decide +kernel, zl_3, zl_499, zs_33, rfl, Or.inr zl_497⟩
theorem zm_7_130 : zML "FrameDeltas" 130 94 2 1 := ⟨by decide +kernel, by decide +kernel, by decide +kernel, zl_1, zl_507, zs_34, rfl, Or.inl zl_505⟩
theorem zm_7_133 : zML "FrameDeltas" 133 52 2 2 := ⟨by decide +kernel, by decide +kernel, by decide +kernel, zl_2, zl_438, zs_21, rfl, Or.inr zl_568⟩
theorem zm_7_136 : zML "FrameDeltas" 136 56 2 2 := ⟨by decide +kernel, by decide +kernel, by decide +kernel, zl_2, zl_571, zs_45, rfl, Or.inr zl_569⟩
theorem zm_7_139 : zML "FrameDeltas" 139 96 1 1 := ⟨by decide +kernel, by decide +kernel, by decide +kernel, zl_1, zl_584, zs_47, rfl, Or.inl zl_582⟩
theorem zm_7_142 : zML "FrameDeltas" 142 25 4 16 := ⟨by decide +kernel, by decide +kernel, by decide +kernel, zl_8, zl_601, zs_49, rfl, Or.inr zl_599⟩
theorem zm_7_146 : zML "FrameDeltas" 146 51 2 2 := ⟨by decide +kernel, by decide +kernel, by decide +kernel, zl_2, zl_278, zs_4, rfl, Or.inr zl_509⟩
theorem zm_7_150 : zML "FrameDeltas" 150 28 2 16 := ⟨by decide +kernel, by decide +kernel, by decide +kernel, zl_8, zl_624, zs_52, rfl, Or.inr zl_622⟩
theorem zm_7_153 : zML "FrameDeltas" 153 0 4 12 := ⟨by decide +kernel, by decide +kernel, by decide +kernel, zl_6, zl_513, zs_35, rfl, Or.inr zl_511⟩
theorem zm_7_173 : zML "FrameDeltas" 173 60 1 2 := ⟨by decide +kernel, by decide +kernel, by decide +kernel, zl_2, zl_636, zs_53, rfl, Or.inr zl_634⟩
theorem zm_7_180 : zML "FrameDeltas" 180 58 2 2 := ⟨by decide +kernel, by decide +kernel, by decide +kernel, zl_2, zl_644, zs_54, rfl, Or.inr zl_642⟩
theorem zm_7_183 : zML "FrameDeltas" 183 57 2 2 := ⟨by decide +kernel, by decide +kernel, by decide +kernel, zl_2, zl_576, zs_46, rfl, Or.inr zl_590⟩
theorem zm_7_186 : zML "FrameDeltas" 186 7 2 3 := ⟨by decide +kernel, by decide +kernel, by decide +kernel, zl_4, zl_648, zs_55, rfl, Or.inr zl_646⟩
theorem zm_7_189 : zML "FrameDeltas" 189 15 2 4 := ⟨by decide +kernel, by decide +kernel, by decide +kernel, zl_3, zl_661, zs_57, rfl, Or.inr zl_659⟩
theorem zm_7_192 : zML "FrameDeltas" 192 5 3 3 := ⟨by decide +kernel, by decide +kernel, by decide +kernel, zl_4, zl_653, zs_56, rfl, Or.inr zl_664⟩
theorem zm_7_202 : zML "FrameDeltas" 202 29 4 13 := ⟨by decide +kernel, by decide +kernel, by decide +kernel, zl_7, zl_523, zs_37, rfl, Or.inr zl_669⟩
theorem zm_7_211 : zML "FrameDeltas" 211 31 2 13 := ⟨by decide +kernel, by decide +kernel, by decide +kernel, zl_7, zl_672, zs_58, rfl, Or.inr zl_670⟩
theorem zm_7_214 : zML "FrameDeltas" 214 32 2 13 := ⟨by decide +kernel, by decide +kernel, by decide +kernel, zl_7, zl_676, zs_59, rfl, Or.inr zl_674⟩
theorem zm_7_223 : zML "FrameDeltas" 223 61 1 2 := ⟨by decide +kernel, by decide +kernel, by decide +kernel, zl_2, zl_688, zs_60, rfl, Or.inr zl_686⟩
theorem zm_7_226 : zML "FrameDeltas" 226 95 2 1 := ⟨by decide +kernel, by decide +kernel, by decide +kernel, zl_1, zl_588, zs_48, rfl, Or.inl zl_586⟩
theorem zm_7_229 : zML "FrameDeltas" 229 21 2 4 := ⟨by decide +kernel, by decide +kernel, by decide +kernel, zl_3, zl_700, zs_61, rfl, Or.inr zl_698⟩
theorem zm_7_233 : zML "FrameDeltas" 233 16 2 4 := ⟨by decide +kernel, by decide +kernel, by decide +kernel, zl_3, zl_527, zs_38, rfl, Or.inr zl_707⟩
theorem zm_7_236 : zML "FrameDeltas" 236 17 2 4 := ⟨by decide +kernel, by decide +kernel, by decide +kernel, zl_3, zl_534, zs_39, rfl, Or.inr zl_708⟩
theorem zm_7_239 : zML "FrameDeltas" 239 20 6 4 := ⟨by decide +kernel, by decide +kernel, by decide +kernel, zl_3, zl_553, zs_43, rfl, Or.inr zl_709⟩
theorem zm_7_243 : zML "FrameDeltas" 243 97 2 1 := ⟨by decide +kernel, by decide +kernel, by decide +kernel, zl_1, zl_716, zs_62, rfl, Or.inl zl_714⟩
theorem zm_7_246 : zML "FrameDeltas" 246 176 2 0 := ⟨by decide +kernel, by decide +kernel, by decide +kernel, zl_15, zl_723, zl_530⟩
theorem zm_7_251 : zML "FrameDeltas" 251 59 3 2 := ⟨by decide +kernel, by decide +kernel, by decide +kernel, zl_2, zl_730, zs_63, rfl, Or.inr zl_728⟩
theorem zm_7_257 : zML "FrameDeltas" 257 93 2 1 := ⟨by decide +kernel, by decide +kernel, by decide +kernel, zl_1, zl_263, zs_1, rfl, Or.inl zl_261⟩
theorem zm_7_261 : zML "FrameDeltas" 261 50 2 2 := ⟨by decide +kernel, by decide +kernel, by decide +kernel, zl_2, zl_267, zs_2, rfl, Or.inr zl_265⟩
theorem zm_7_265 : zML "FrameDeltas" 265 9 2 4 := ⟨by decide +kernel, by decide +kernel, by decide +kernel, zl_3, zl_271, zs_3, rfl, Or.inr zl_510⟩
theorem zm_7_268 : zML "FrameDeltas" 268 177 2 0 := ⟨by decide +kernel, by decide +kernel, by decide +kernel, zl_15, zl_718, zl_461⟩
theorem zm_8_42 : zML "FrameDeltasModel" 42 101 1 21 := ⟨by decide +kernel, by decide +kernel, by decide +kernel, zl_9, zl_830, zs_66, rfl, Or.inl zl_828⟩
theorem zm_8_46 : zML "FrameDeltasModel" 46 98 3 0 := ⟨by decide +kernel, by decide +kernel, by decide +kernel, zl_9, zl_817, zl_818⟩
theorem zm_8_50 : zML "FrameDeltasModel" 50 105 2 21 := ⟨by decide +kernel, by decide +kernel, by decide +kernel, zl_9, zl_913, zs_79, rfl, Or.inl zl_911⟩
theorem zm_8_54 : zML "FrameDeltasModel" 54 107 2 21 := ⟨by decide +kernel, by decide +kernel, by decide +kernel, zl_9, zl_909, zs_78, rfl, Or.inl zl_907⟩
theorem zm_8_58 : zML "FrameDeltasModel" 58 99 1 21 := ⟨by decide +kernel, by decide +kernel, by decide +kernel, zl_9, zl_822, zs_64, rfl, Or.inl zl_820⟩
theorem zm_8_61 : zML "FrameDeltasModel" 61 102 1 21 := ⟨by decide +kernel, by decide +kernel, by decide +kernel, zl_9, zl_826, zs_65, rfl, Or.inl zl_824⟩
theorem zm_8_64 : zML "FrameDeltasModel" 64 110 2 21 := ⟨by decide +kernel, by decide +kernel, by decide +kernel, zl_9, zl_838, zs_67, rfl, Or.inl zl_836⟩
theorem zm_8_73 : zML "FrameDeltasModel" 73 115 1 21 := ⟨by decide +kernel, by decide +kernel, by decide +kernel, zl_9, zl_862, zs_69, rfl, Or.inl zl_860⟩
theorem zm_8_105 : zML "FrameDeltasModel" 105 116 1 21 := ⟨by decide +kernel, by decide +kernel, by decide +kernel, zl_9, zl_858, zs_68, rfl, Or.inl zl_856⟩
theorem zm_8_108 : zML "FrameDeltasModel" 108 117 2 21 := ⟨by decide +kernel, by decide +kernel, by decide +kernel, zl_9, zl_881, zs_71, rfl, Or.inl zl_879⟩
theorem zm_8_112 : zML "FrameDeltasModel" 112 120 1 21 := ⟨by decide +kernel, by decide +kernel, by decide +kernel, zl_9, zl_897, zs_75, rfl, Or.inl zl_895⟩
theorem zm_8_115 : zML "FrameDeltasModel" 115 119 3 21 := ⟨by decide +kernel, by decide +kernel, by decide +kernel, zl_9, zl_901, zs_76, rfl, Or.inl zl_899⟩
theorem zm_8_129 : zML "FrameDeltasModel" 129 118 3 21 := ⟨by decide +kernel, by decide +kernel, by decide +kernel, zl_9, zl_885, zs_72, rfl, Or.inl zl_883⟩
theorem zm_8_132 : zML "FrameDeltasModel" 132 121 6 21 := ⟨by decide +kernel, by decide +kernel, by decide +kernel, zl_9, zl_889, zs_73, rfl, Or.inl zl_887⟩
theorem zm_8_136 : zML "FrameDeltasModel" 136 122 3 21 := ⟨by decide +kernel, by decide +kernel, by decide +kernel, zl_9, zl_893, zs_74, rfl, Or.inl zl_891⟩
theorem zm_8_140 : zML "FrameDeltasModel" 140 103 2 21 := ⟨by decide +kernel, by decide +kernel, by decide +kernel, zl_9, zl_905, zs_77, rfl, Or.inl zl_903⟩
theorem zm_8_143 : zML "FrameDeltasModel" 143 104 3 21 := ⟨by decide +kernel, by decide +kernel, by decide +kernel, zl_9, zl_917, zs_80, rfl, Or.inl zl_915⟩
theorem zm_8_146 : zML "FrameDeltasModel" 146 123 1 21 := ⟨by decide +kernel, by decide +kernel, by decide +kernel, zl_9, zl_872, zs_70, rfl, Or.inl zl_870⟩
theorem zm_8_149 : zML "FrameDeltasModel" 149 124 1 21 := ⟨by decide +kernel, by decide +kernel, by decide +kernel, zl_9, zl_921, zs_81, rfl, Or.inl zl_919⟩
theorem zm_8_152 : zML "FrameDeltasModel" 152 126 2 21 := ⟨by decide +kernel, by decide +kernel, by decide +kernel, zl_9, zl_929, zs_82, rfl, Or.inl zl_927⟩
theorem zm_8_155 : zML "FrameDeltasModel" 155 127 2 21 := ⟨by decide +kernel, by decide +kernel, by decide +kernel, zl_9, zl_933, zs_83, rfl, Or.inl zl_931⟩
theorem zm_8_158 : zML "FrameDeltasModel" 158 128 4 21 := ⟨by decide +kernel, by decide +kernel, by decide +kernel, zl_9, zl_937, zs_84, rfl, Or.inl zl_935⟩
theorem zm_8_162 : zML "FrameDeltasModel" 162 130 2 21 := ⟨by decide +kernel, by decide +kernel, by decide +kernel, zl_9, zl_965, zs_90, rfl, Or.inl zl_963⟩
theorem zm_8_165 : zML "FrameDeltasModel" 165 131 2 21 := ⟨by decide +kernel, by decide +kernel, by decide +kernel, zl_9, zl_969, zs_91, rfl, Or.inl zl_967⟩
theorem zm_8_168 : zML "FrameDeltasModel" 168 132 5 21 := ⟨by decide +kernel, by decide +kernel, by decide +kernel, zl_9, zl_961, zs_89, rfl, Or.inl zl_959⟩
theorem zm_8_172 : zML "FrameDeltasModel" 172 135 1 0 := ⟨by decide +kernel, by decide +kernel, by decide +kernel, zl_9, zl_979, zl_980⟩
theorem zm_8_175 : zML "FrameDeltasModel" 175 134 6 21 := ⟨by decide +kernel, by decide +kernel, by decide +kernel, zl_9, zl_973, zs_92, rfl, Or.inl zl_971⟩
theorem zm_8_179 : zML "FrameDeltasModel" 179 133 4 21 := ⟨by decide +kernel, by decide +kernel, by decide +kernel, zl_9, zl_957, zs_88, rfl, Or.inl zl_955⟩
theorem zm_8_182 : zML "FrameDeltasModel" 182 136 4 21 := ⟨by decide +kernel, by decide +kernel, by decide +kernel, zl_9, zl_977, zs_93, rfl, Or.inl zl_975⟩
theorem zm_8_185 : zML "FrameDeltasModel" 185 137 4 21 := ⟨by decide +kernel, by decide +kernel, by decide +kernel, zl_9, zl_953, zs_87, rfl, Or.inl zl_951⟩
theorem zm_8_188 : zML "FrameDeltasModel" 188 139 3 21 := ⟨by decide +kernel, by decide +kernel, by decide +kernel, zl_9, zl_1047, zs_100, rfl, Or.inl zl_1045⟩
theorem zm_8_191 : zML "FrameDeltasModel" 191 140 3 21 := ⟨by decide +kernel, by decide +kernel, by decide +kernel, zl_9, zl_1051, zs_101, rfl, Or.inl zl_1049⟩
theorem zm_8_194 : zML "FrameDeltasModel" 194 141 2 21 := ⟨by decide +kernel, by decide +kernel, by decide +kernel, zl_9, zl_1043, zs_99, rfl, Or.inl zl_1041⟩
theorem zm_8_197 : zML "FrameDeltasModel" 197 138 3 21 := ⟨by decide +kernel, by decide +kernel, by decide +kernel, zl_9, zl_949, zs_86, rfl, Or.inl zl_947⟩
theorem zm_8_200 : zML "FrameDeltasModel" 200 143 3 21 := ⟨by decide +kernel, by decide +kernel, by decide +kernel, zl_9, zl_984, zs_94, rfl, Or.inl zl_982⟩
theorem zm_8_203 : zML "FrameDeltasModel" 203 144 2 21 := ⟨by decide +kernel, by decide +kernel, by decide +kernel, zl_9, zl_945, zs_85, rfl, Or.inl zl_943⟩
theorem zm_8_206 : zML "FrameDeltasModel" 206 106 2 21 := ⟨by decide +kernel, by decide +kernel, by decide +kernel, zl_9, zl_992, zs_95, rfl, Or.inl zl_990⟩
theorem zm_8_212 : zML "FrameDeltasModel" 212 149 2 21 := ⟨by decide +kernel, by decide +kernel, by decide +kernel, zl_9, zl_1012, zs_97, rfl, Or.inl zl_1010⟩
theorem zm_8_215 : zML "FrameDeltasModel" 215 150 1 0 := ⟨by decide +kernel, by decide +kernel, by decide +kernel, zl_9, zl_1014, zl_1015⟩
theorem zm_8_218 : zML "FrameDeltasModel" 218 151 1 21 := ⟨by decide +kernel, by decide +kernel, by decide +kernel, zl_9, zl_1008, zs_96, rfl, Or.inl zl_1006⟩
theorem zm_8_221 : zML "FrameDeltasModel" 221 108 1 21 := ⟨by decide +kernel, by decide +kernel, by decide +kernel, zl_9, zl_1035, zs_98, rfl, Or.inl zl_1033⟩
theorem zm_8_224 : zML "FrameDeltasModel" 224 142 2 21 := ⟨by decide +kernel, by decide +kernel, by decide +kernel, zl_9, zl_1055, zs_102, rfl, Or.inl zl_1053⟩
theorem zm_8_227 : zML "FrameDeltasModel" 227 157 3 21 := ⟨by decide +kernel, by decide +kernel, by decide +kernel, zl_9, zl_1059, zs_103, rfl, Or.inl zl_1057⟩
theorem zm_8_230 : zML "FrameDeltasModel" 230 159 2 21 := ⟨by decide +kernel, by decide +kernel, by decide +kernel, zl_9, zl_1067, zs_104, rfl, Or.inl zl_1065⟩
theorem zm_8_233 : zML "FrameDeltasModel" 233 165 3 21 := ⟨by decide +kernel, by decide +kernel, by decide +kernel, zl_9, zl_1091, zs_105, rfl, Or.inl zl_1089⟩
theorem zm_8_236 : zML "FrameDeltasModel" 236 167 7 21 := ⟨by decide +kernel, by decide +kernel, by decide +kernel, zl_9, zl_1099, zs_106, rfl, Or.inl zl_1097⟩
theorem zm_8_240 : zML "FrameDeltasModel" 240 171 3 21 := ⟨by decide +kernel, by decide +kernel, by decide +kernel, zl_9, zl_1115, zs_107, rfl, Or.inl zl_1113⟩
theorem zm_11_335 : zML "java/lang/String" 335 180 1 31 := ⟨by decide +kernel, by decide +kernel, by decide +kernel, zl_11, zl_373, zl_374, rfl, Or.inl zl_372⟩
theorem zm_11_492 : zML "java/lang/String" 492 181 1 31 := ⟨by decide +kernel, by decide +kernel, by decide +kernel, zl_11, zl_383, zl_384, rfl, Or.inl zl_382⟩
theorem zm_11_495 : zML "java/lang/String" 495 183 2 0 := ⟨by decide +kernel, by decide +kernel, by decide +kernel, zl_12, zl_386, zl_387⟩
theorem zm_11_1059 : zML "java/lang/String" 1059 184 3 0 := ⟨by decide +kernel, by decide +kernel, by decide +kernel, zl_13, zl_394, zl_395⟩
theorem zm_12_9 : zML "java/lang/StringLatin1" 9 182 2 0 := ⟨by decide +kernel, by decide +kernel, by decide +kernel, zl_11, zl_389, zl_390⟩
theorem zm_16_13 : zML "FrameDeltasLaw" 13 62 3 1 := ⟨by decide +kernel, by decide +kernel, by decide +kernel, zl_1, zl_251, zl_252, rfl, Or.inl zl_250⟩
theorem zm_16_17 : zML "FrameDeltasLaw" 17 109 3 21 := ⟨by decide +kernel, by decide +kernel, by decide +kernel, zl_9, zl_814, zl_815, rfl, Or.inl zl_813⟩
theorem zm_16_18 : zML "FrameDeltasLaw" 18 63 3 1 := ⟨by decide +kernel, by decide +kernel, by decide +kernel, zl_1, zl_295, zl_296, rfl, Or.inl zl_294⟩
theorem zm_16_21 : zML "FrameDeltasLaw" 21 111 3 21 := ⟨by decide +kernel, by decide +kernel, by decide +kernel, zl_9, zl_833, zl_834, rfl, Or.inl zl_832⟩
theorem zm_16_22 : zML "FrameDeltasLaw" 22 64 2 1 := ⟨by decide +kernel, by decide +kernel, by decide +kernel, zl_1, zl_311, zl_312, rfl, Or.inl zl_310⟩
theorem zm_16_26 : zML "FrameDeltasLaw" 26 112 2 21 := ⟨by decide +kernel, by decide +kernel, by decide +kernel, zl_9, zl_841, zl_842, rfl, Or.inl zl_840⟩
theorem zm_16_27 : zML "FrameDeltasLaw" 27 65 2 1 := ⟨by decide +kernel, by decide +kernel, by decide +kernel, zl_1, zl_315, zl_316, rfl, Or.inl zl_314⟩
theorem zm_16_30 : zML "FrameDeltasLaw" 30 113 2 21 := ⟨by decide +kernel, by decide +kernel, by decide +kernel, zl_9, zl_845, zl_846, rfl, Or.inl zl_844⟩
theorem zm_16_31 : zML "FrameDeltasLaw" 31 66 1 1 := ⟨by decide +kernel, by decide +kernel, by decide +kernel, zl_1, zl_323, zl_324, rfl, Or.inl zl_322⟩
theorem zm_16_35 : zML "FrameDeltasLaw" 35 114 1 21 := ⟨by decide +kernel, by decide +kernel, by decide +kernel, zl_9, zl_849, zl_850, rfl, Or.inl zl_848⟩
theorem zm_16_36 : zML "FrameDeltasLaw" 36 67 1 1 := ⟨by decide +kernel, by decide +kernel, by decide +kernel, zl_1, zl_327, zl_328, rfl, Or.inl zl_326⟩
theorem zm_16_39 : zML "FrameDeltasLaw" 39 125 1 21 := ⟨by decide +kernel, by decide +kernel, by decide +kernel, zl_9, zl_853, zl_854, rfl, Or.inl zl_852⟩
theorem zm_16_40 : zML "FrameDeltasLaw" 40 68 4 1 := ⟨by decide +kernel, by decide +kernel, by decide +kernel, zl_1, zl_483, zl_484, rfl, Or.inl zl_482⟩
theorem zm_16_44 : zML "FrameDeltasLaw" 44 129 4 21 := ⟨by decide +kernel, by decide +kernel, by decide +kernel, zl_9, zl_924, zl_925, rfl, Or.inl zl_923⟩
theorem zm_16_45 : zML "FrameDeltasLaw" 45 69 1 1 := ⟨by decide +kernel, by decide +kernel, by decide +kernel, zl_1, zl_502, zl_503, rfl, Or.inl zl_501⟩
theorem zm_16_48 : zML "FrameDeltasLaw" 48 145 1 21 := ⟨by decide +kernel, by decide +kernel, by decide +kernel, zl_9, zl_940, zl_941, rfl, Or.inl zl_939⟩
theorem zm_16_49 : zML "FrameDeltasLaw" 49 70 2 1 := ⟨by decide +kernel, by decide +kernel, by decide +kernel, zl_1, zl_565, zl_566, rfl, Or.inl zl_564⟩
theorem zm_16_52 : zML "FrameDeltasLaw" 52 146 2 21 := ⟨by decide +kernel, by decide +kernel, by decide +kernel, zl_9, zl_987, zl_988, rfl, Or.inl zl_986⟩
theorem zm_16_53 : zML "FrameDeltasLaw" 53 71 1 1 := ⟨by decide +kernel, by decide +kernel, by decide +kernel, zl_1, zl_579, zl_580, rfl, Or.inl zl_578⟩
theorem zm_16_56 : zML "FrameDeltasLaw" 56 147 1 21 := ⟨by decide +kernel, by decide +kernel, by decide +kernel, zl_9, zl_995, zl_996, rfl, Or.inl zl_994⟩
theorem zm_16_57 : zML "FrameDeltasLaw" 57 72 1 1 := ⟨by decide +kernel, by decide +kernel, by decide +kernel, zl_1, zl_592, zl_593, rfl, Or.inl zl_591⟩
theorem zm_16_60 : zML "FrameDeltasLaw" 60 148 1 21 := ⟨by decide +kernel, by decide +kernel, by decide +kernel, zl_9, zl_999, zl_1000, rfl, Or.inl zl_998⟩
theorem zm_16_61 : zML "FrameDeltasLaw" 61 73 1 1 := ⟨by decide +kernel, by decide +kernel, by decide +kernel, zl_1, zl_596, zl_597, rfl, Or.inl zl_595⟩
theorem zm_16_64 : zML "FrameDeltasLaw" 64 152 1 21 := ⟨by decide +kernel, by decide +kernel, by decide +kernel, zl_9, zl_1003, zl_1004, rfl, Or.inl zl_1002⟩
theorem zm_16_65 : zML "FrameDeltasLaw" 65 74 4 1 := ⟨by decide +kernel, by decide +kernel, by decide +kernel, zl_1, zl_627, zl_628, rfl, Or.inl zl_626⟩
theorem zm_16_68 : zML "FrameDeltasLaw" 68 155 4 21 := ⟨by decide +kernel, by decide +kernel, by decide +kernel, zl_9, zl_1026, zl_1027, rfl, Or.inl zl_1025⟩
theorem zm_16_69 : zML "FrameDeltasLaw" 69 75 3 1 := ⟨by decide +kernel, by decide +kernel, by decide +kernel, zl_1, zl_631, zl_632, rfl, Or.inl zl_630⟩
theorem zm_16_72 : zML "FrameDeltasLaw" 72 156 3 21 := ⟨by decide +kernel, by decide +kernel, by decide +kernel, zl_9, zl_1030, zl_1031, rfl, Or.inl zl_1029⟩
theorem zm_16_73 : zML "FrameDeltasLaw" 73 76 3 1 := ⟨by decide +kernel, by decide +kernel, by decide +kernel, zl_1, zl_639, zl_640, rfl, Or.inl zl_638⟩
theorem zm_16_76 : zML "FrameDeltasLaw" 76 158 3 21 := ⟨by decide +kernel, by decide +kernel, by decide +kernel, zl_9, zl_1038, zl_1039, rfl, Or.inl zl_1037⟩
theorem zm_16_77 : zML "FrameDeltasLaw" 77 77 4 1 := ⟨by decide +kernel, by decide +kernel, by decide +kernel, zl_1, zl_656, zl_657, rfl, Or.inl zl_655⟩
theorem zm_16_80 : zML "FrameDeltasLaw" 80 160 4 21 := ⟨by decide +kernel, by decide +kernel, by decide +kernel, zl_9, zl_1062, zl_1063, rfl, Or.inl zl_1061⟩
theorem zm_16_81 : zML "FrameDeltasLaw" 81 78 5 1 := ⟨by decide +kernel, by decide +kernel, by decide +kernel, zl_1, zl_666, zl_667, rfl, Or.inl zl_665⟩
theorem zm_16_85 : zML "FrameDeltasLaw" 85 161 5 21 := ⟨by decide +kernel, by decide +kernel, by decide +kernel, zl_9, zl_1070, zl_1071, rfl, Or.inl zl_1069⟩
theorem zm_16_86 : zML "FrameDeltasLaw" 86 79 3 1 := ⟨by decide +kernel, by decide +kernel, by decide +kernel, zl_1, zl_679, zl_680, rfl, Or.inl zl_678⟩
theorem zm_16_89 : zML "FrameDeltasLaw" 89 162 3 21 := ⟨by decide +kernel, by decide +kernel, by decide +kernel, zl_9, zl_1074, zl_1075, rfl, Or.inl zl_1073⟩
theorem zm_16_90 : zML "FrameDeltasLaw" 90 80 2 1 := ⟨by decide +kernel, by decide +kernel, by decide +kernel, zl_1, zl_683, zl_684, rfl, Or.inl zl_682⟩
theorem zm_16_93 : zML "FrameDeltasLaw" 93 163 2 21 := ⟨by decide +kernel, by decide +kernel, by decide +kernel, zl_9, zl_1078, zl_1079, rfl, Or.inl zl_1077⟩
theorem zm_16_94 : zML "FrameDeltasLaw" 94 81 2 1 := ⟨by decide +kernel, by decide +kernel, by decide +kernel, zl_1, zl_691, zl_692, rfl, Or.inl zl_690⟩
theorem zm_16_97 : zML "FrameDeltasLaw" 97 164 2 21 := ⟨by decide +kernel, by decide +kernel, by decide +kernel, zl_9, zl_1082, zl_1083, rfl, Or.inl zl_1081⟩
theorem zm_16_98 : zML "FrameDeltasLaw" 98 82 3 1 := ⟨by decide +kernel, by decide +kernel, by decide +kernel, zl_1, zl_695, zl_696, rfl, Or.inl zl_694⟩
theorem zm_16_101 : zML "FrameDeltasLaw" 101 166 3 21 := ⟨by decide +kernel, by decide +kernel, by decide +kernel, zl_9, zl_1086, zl_1087, rfl, Or.inl zl_1085⟩
theorem zm_16_102 : zML "FrameDeltasLaw" 102 83 3 1 := ⟨by decide +kernel, by decide +kernel, by decide +kernel, zl_1, zl_704, zl_705, rfl, Or.inl zl_703⟩
theorem zm_16_105 : zML "FrameDeltasLaw" 105 168 3 21 := ⟨by decide +kernel, by decide +kernel, by decide +kernel, zl_9, zl_1094, zl_1095, rfl, Or.inl zl_1093⟩
theorem zm_16_106 : zML "FrameDeltasLaw" 106 84 2 1 := ⟨by decide +kernel, by decide +kernel, by decide +kernel, zl_1, zl_711, zl_712, rfl, Or.inl zl_710⟩
theorem zm_16_109 : zML "FrameDeltasLaw" 109 169 2 21 := ⟨by decide +kernel, by decide +kernel, by decide +kernel, zl_9, zl_1102, zl_1103, rfl, Or.inl zl_1101⟩
theorem zm_16_110 : zML "FrameDeltasLaw" 110 85 1 1 := ⟨by decide +kernel, by decide +kernel, by decide +kernel, zl_1, zl_720, zl_721, rfl, Or.inl zl_719⟩
theorem zm_16_113 : zML "FrameDeltasLaw" 113 170 1 21 := ⟨by decide +kernel, by decide +kernel, by decide +kernel, zl_9, zl_1106, zl_1107, rfl, Or.inl zl_1105⟩
theorem zm_16_114 : zML "FrameDeltasLaw" 114 86 2 1 := ⟨by decide +kernel, by decide +kernel, by decide +kernel, zl_1, zl_725, zl_726, rfl, Or.inl zl_724⟩
theorem zm_16_117 : zML "FrameDeltasLaw" 117 172 2 21 := ⟨by decide +kernel, by decide +kernel, by decide +kernel, zl_9, zl_1110, zl_1111, rfl, Or.inl zl_1109⟩
theorem zm_16_118 : zML "FrameDeltasLaw" 118 87 2 1 := ⟨by decide +kernel, by decide +kernel, by decide +kernel, zl_1, zl_733, zl_734, rfl, Or.inl zl_732⟩
theorem zm_16_121 : zML "FrameDeltasLaw" 121 173 2 21 := ⟨by decide +kernel, by decide +kernel, by decide +kernel, zl_9, zl_1118, zl_1119, rfl, Or.inl zl_1117⟩
theorem zm_16_122 : zML "FrameDeltasLaw" 122 88 1 1 := ⟨by decide +kernel, by decide +kernel, by decide +kernel, zl_1, zl_737, zl_738, rfl, Or.inl zl_736⟩
theorem zm_16_125 : zML "FrameDeltasLaw" 125 153 1 21 := ⟨by decide +kernel, by decide +kernel, by decide +kernel, zl_9, zl_1018, zl_1019, rfl, Or.inl zl_1017⟩
theorem zm_16_126 : zML "FrameDeltasLaw" 126 89 1 1 := ⟨by decide +kernel, by decide +kernel, by decide +kernel, zl_1, zl_741, zl_742, rfl, Or.inl zl_740⟩
theorem zm_16_129 : zML "FrameDeltasLaw" 129 154 1 21 := ⟨by decide +kernel, by decide +kernel, by decide +kernel, zl_9, zl_1022, zl_1023, rfl, Or.inl zl_1021⟩
theorem zm_16_130 : zML "FrameDeltasLaw" 130 90 1 1 := ⟨by decide +kernel, by decide +kernel, by decide +kernel, zl_1, zl_745, zl_746, rfl, Or.inl zl_744⟩
theorem zm_16_133 : zML "FrameDeltasLaw" 133 100 1 21 := ⟨by decide +kernel, by decide +kernel, by decide +kernel, zl_9, zl_810, zl_811, rfl, Or.inl zl_809⟩
theorem zcw_0 : Cond.code (zy 0) (zby 0) (zml 0) (zrt 0) ∈ zTs := zl_514
theorem zcw_1 : Cond.code (zy 1) (zby 1) (zml 1) (zrt 1) ∈ zTs := zl_520
theorem zcw_2 : Cond.code (zy 2) (zby 2) (zml 2) (zrt 2) ∈ zTs := zl_548
theorem zcw_3 : Cond.code (zy 3) (zby 3) (zml 3) (zrt 3) ∈ zTs := zl_558
theorem zcw_4 : Cond.code (zy 4) (zby 4) (zml 4) (zrt 4) ∈ zTs := zl_283
theorem zcw_5 : Cond.code (zy 5) (zby 5) (zml 5) (zrt 5) ∈ zTs := zl_654
theorem zcw_6 : Cond.code (zy 6) (zby 6) (zml 6) (zrt 6) ∈ zTs := zl_544
theorem zcw_7 : Cond.code (zy 7) (zby 7) (zml 7) (zrt 7) ∈ zTs := zl_649
theorem zcw_8 : Cond.code (zy 8) (zby 8) (zml 8) (zrt 8) ∈ zTs := zl_289
theorem zcw_9 : Cond.code (zy 9) (zby 9) (zml 9) (zrt 9) ∈ zTs := zl_272
theorem zcw_10 : Cond.code (zy 10) (zby 10) (zml 10) (zrt 10) ∈ zTs := zl_301
theorem zcw_11 : Cond.code (zy 11) (zby 11) (zml 11) (zrt 11) ∈ zTs := zl_305
theorem zcw_12 : Cond.code (zy 12) (zby 12) (zml 12) (zrt 12) ∈ zTs := zl_309
theorem zcw_13 : Cond.code (zy 13) (zby 13) (zml 13) (zrt 13) ∈ zTs := zl_472
theorem zcw_14 : Cond.code (zy 14) (zby 14) (zml 14) (zrt 14) ∈ zTs := zl_293
theorem zcw_15 : Cond.code (zy 15) (zby 15) (zml 15) (zrt 15) ∈ zTs := zl_662
theorem zcw_16 : Cond.code (zy 16) (zby 16) (zml 16) (zrt 16) ∈ zTs := zl_528
theorem zcw_17 : Cond.code (zy 17) (zby 17) (zml 17) (zrt 17) ∈ zTs := zl_535
theorem zcw_18 : Cond.code (zy 18) (zby 18) (zml 18) (zrt 18) ∈ zTs := zl_494
theorem zcw_19 : Cond.code (zy 19) (zby 19) (zml 19) (zrt 19) ∈ zTs := zl_500
theorem zcw_20 : Cond.code (zy 20) (zby 20) (zml 20) (zrt 20) ∈ zTs := zl_554
theorem zcw_21 : Cond.code (zy 21) (zby 21) (zml 21) (zrt 21) ∈ zTs := zl_701
theorem zcw_22 : Cond.code (zy 22) (zby 22) (zml 22) (zrt 22) ∈ zTs := zl_459
theorem zcw_23 : Cond.code (zy 23) (zby 23) (zml 23) (zrt 23) ∈ zTs := zl_468
theorem zcw_24 : Cond.code (zy 24) (zby 24) (zml 24) (zrt 24) ∈ zTs := zl_476
theorem zcw_25 : Cond.code (zy 25) (zby 25) (zml 25) (zrt 25) ∈ zTs := zl_602
theorem zcw_26 : Cond.code (zy 26) (zby 26) (zml 26) (zrt 26) ∈ zTs := zl_607
theorem zcw_27 : Cond.code (zy 27) (zby 27) (zml 27) (zrt 27) ∈ zTs := zl_614
theorem zcw_28 : Cond.code (zy 28) (zby 28) (zml 28) (zrt 28) ∈ zTs := zl_625
theorem zcw_29 : Cond.code (zy 29) (zby 29) (zml 29) (zrt 29) ∈ zTs := zl_524
theorem zcw_30 : Cond.code (zy 30) (zby 30) (zml 30) (zrt 30) ∈ zTs := zl_540
theorem zcw_31 : Cond.code (zy 31) (zby 31) (zml 31) (zrt 31) ∈ zTs := zl_673
theorem zcw_32 : Cond.code (zy 32) (zby 32) (zml 32) (zrt 32) ∈ zTs := zl_677
theorem zcw_33 : Cond.code (zy 33) (zby 33) (zml 33) (zrt 33) ∈ zTs := zl_321
theorem zcw_34 : Cond.code (zy 34) (zby 34) (zml 34) (zrt 34) ∈ zTs := zl_358
theorem zcw_35 : Cond.code (zy 35) (zby 35) (zml 35) (zrt 35) ∈ zTs := zl_422
theorem zcw_36 : Cond.code (zy 36) (zby 36) (zml 36) (zrt 36) ∈ zTs := zl_333
theorem zcw_37 : Cond.code (zy 37) (zby 37) (zml 37) (zrt 37) ∈ zTs := zl_351
theorem zcw_38 : Cond.code (zy 38) (zby 38) (zml 38) (zrt 38) ∈ zTs := zl_419
theorem zcw_39 : Cond.code (zy 39) (zby 39) (zml 39) (zrt 39) ∈ zTs := zl_337
theorem zcw_40 : Cond.code (zy 40) (zby 40) (zml 40) (zrt 40) ∈ zTs := zl_341
theorem zcw_41 : Cond.code (zy 41) (zby 41) (zml 41) (zrt 41) ∈ zTs := zl_344
theorem zcw_42 : Cond.code (zy 42) (zby 42) (zml 42) (zrt 42) ∈ zTs := zl_347
theorem zcw_43 : Cond.code (zy 43) (zby 43) (zml 43) (zrt 43) ∈ zTs := zl_355
theorem zcw_44 : Cond.code (zy 44) (zby 44) (zml 44) (zrt 44) ∈ zTs := zl_367
theorem zcw_45 : Cond.code (zy 45) (zby 45) (zml 45) (zrt 45) ∈ zTs := zl_431
theorem zcw_46 : Cond.code (zy 46) (zby 46) (zml 46) (zrt 46) ∈ zTs := zl_435
theorem zcw_47 : Cond.code (zy 47) (zby 47) (zml 47) (zrt 47) ∈ zTs := zl_447
theorem zcw_48 : Cond.code (zy 48) (zby 48) (zml 48) (zrt 48) ∈ zTs := zl_451
theorem zcw_49 : Cond.code (zy 49) (zby 49) (zml 49) (zrt 49) ∈ zTs := zl_455
theorem zcw_50 : Cond.code (zy 50) (zby 50) (zml 50) (zrt 50) ∈ zTs := zl_268
theorem zcw_51 : Cond.code (zy 51) (zby 51) (zml 51) (zrt 51) ∈ zTs := zl_279
theorem zcw_52 : Cond.code (zy 52) (zby 52) (zml 52) (zrt 52) ∈ zTs := zl_439
theorem zcw_53 : Cond.code (zy 53) (zby 53) (zml 53) (zrt 53) ∈ zTs := zl_489
theorem zcw_54 : Cond.code (zy 54) (zby 54) (zml 54) (zrt 54) ∈ zTs := zl_480
theorem zcw_55 : Cond.code (zy 55) (zby 55) (zml 55) (zrt 55) ∈ zTs := zl_443
theorem zcw_56 : Cond.code (zy 56) (zby 56) (zml 56) (zrt 56) ∈ zTs := zl_572
theorem zcw_57 : Cond.code (zy 57) (zby 57) (zml 57) (zrt 57) ∈ zTs := zl_577
theorem zcw_58 : Cond.code (zy 58) (zby 58) (zml 58) (zrt 58) ∈ zTs := zl_645
theorem zcw_59 : Cond.code (zy 59) (zby 59) (zml 59) (zrt 59) ∈ zTs := zl_731
theorem zcw_60 : Cond.code (zy 60) (zby 60) (zml 60) (zrt 60) ∈ zTs := zl_637
theorem zcw_61 : Cond.code (zy 61) (zby 61) (zml 61) (zrt 61) ∈ zTs := zl_689
theorem zcw_62 : Cond.code (zy 62) (zby 62) (zml 62) (zrt 62) ∈ zTs := zl_253
theorem zcw_63 : Cond.code (zy 63) (zby 63) (zml 63) (zrt 63) ∈ zTs := zl_297
theorem zcw_64 : Cond.code (zy 64) (zby 64) (zml 64) (zrt 64) ∈ zTs := zl_313
theorem zcw_65 : Cond.code (zy 65) (zby 65) (zml 65) (zrt 65) ∈ zTs := zl_317
theorem zcw_66 : Cond.code (zy 66) (zby 66) (zml 66) (zrt 66) ∈ zTs := zl_325
theorem zcw_67 : Cond.code (zy 67) (zby 67) (zml 67) (zrt 67) ∈ zTs := zl_329
theorem zcw_68 : Cond.code (zy 68) (zby 68) (zml 68) (zrt 68) ∈ zTs := zl_485
theorem zcw_69 : Cond.code (zy 69) (zby 69) (zml 69) (zrt 69) ∈ zTs := zl_504
theorem zcw_70 : Cond.code (zy 70) (zby 70) (zml 70) (zrt 70) ∈ zTs := zl_567
theorem zcw_71 : Cond.code (zy 71) (zby 71) (zml 71) (zrt 71) ∈ zTs := zl_581
theorem zcw_72 : Cond.code (zy 72) (zby 72) (zml 72) (zrt 72) ∈ zTs := zl_594
theorem zcw_73 : Cond.code (zy 73) (zby 73) (zml 73) (zrt 73) ∈ zTs := zl_598
theorem zcw_74 : Cond.code (zy 74) (zby 74) (zml 74) (zrt 74) ∈ zTs := zl_629
theorem zcw_75 : Cond.code (zy 75) (zby 75) (zml 75) (zrt 75) ∈ zTs := zl_633
theorem zcw_76 : Cond.code (zy 76) (zby 76) (zml 76) (zrt 76) ∈ zTs := zl_641
theorem zcw_77 : Cond.code (zy 77) (zby 77) (zml 77) (zrt 77) ∈ zTs := zl_658
theorem zcw_78 : Cond.code (zy 78) (zby 78) (zml 78) (zrt 78) ∈ zTs := zl_668
theorem zcw_79 : Cond.code (zy 79) (zby 79) (zml 79) (zrt 79) ∈ zTs := zl_681
theorem zcw_80 : Cond.code (zy 80) (zby 80) (zml 80) (zrt 80) ∈ zTs := zl_685
theorem zcw_81 : Cond.code (zy 81) (zby 81) (zml 81) (zrt 81) ∈ zTs := zl_693
theorem zcw_82 : Cond.code (zy 82) (zby 82) (zml 82) (zrt 82) ∈ zTs := zl_697
theorem zcw_83 : Cond.code (zy 83) (zby 83) (zml 83) (zrt 83) ∈ zTs := zl_706
theorem zcw_84 : Cond.code (zy 84) (zby 84) (zml 84) (zrt 84) ∈ zTs := zl_713
theorem zcw_85 : Cond.code (zy 85) (zby 85) (zml 85) (zrt 85) ∈ zTs := zl_722
theorem zcw_86 : Cond.code (zy 86) (zby 86) (zml 86) (zrt 86) ∈ zTs := zl_727
theorem zcw_87 : Cond.code (zy 87) (zby 87) (zml 87) (zrt 87) ∈ zTs := zl_735
theorem zcw_88 : Cond.code (zy 88) (zby 88) (zml 88) (zrt 88) ∈ zTs := zl_739
theorem zcw_89 : Cond.code (zy 89) (zby 89) (zml 89) (zrt 89) ∈ zTs := zl_743
theorem zcw_90 : Cond.code (zy 90) (zby 90) (zml 90) (zrt 90) ∈ zTs := zl_747
theorem zcw_91 : Cond.code (zy 91) (zby 91) (zml 91) (zrt 91) ∈ zTs := zl_256
theorem zcw_92 : Cond.code (zy 92) (zby 92) (zml 92) (zrt 92) ∈ zTs := zl_260
theorem zcw_93 : Cond.code (zy 93) (zby 93) (zml 93) (zrt 93) ∈ zTs := zl_264
theorem zcw_94 : Cond.code (zy 94) (zby 94) (zml 94) (zrt 94) ∈ zTs := zl_508
theorem zcw_95 : Cond.code (zy 95) (zby 95) (zml 95) (zrt 95) ∈ zTs := zl_589
theorem zcw_96 : Cond.code (zy 96) (zby 96) (zml 96) (zrt 96) ∈ zTs := zl_585
theorem zcw_97 : Cond.code (zy 97) (zby 97) (zml 97) (zrt 97) ∈ zTs := zl_717
theorem zcw_98 : Cond.code (zy 98) (zby 98) (zml 98) (zrt 98) ∈ zTs := zl_819
theorem zcw_99 : Cond.code (zy 99) (zby 99) (zml 99) (zrt 99) ∈ zTs := zl_823
theorem zcw_100 : Cond.code (zy 100) (zby 100) (zml 100) (zrt 100) ∈ zTs := zl_812
theorem zcw_101 : Cond.code (zy 101) (zby 101) (zml 101) (zrt 101) ∈ zTs := zl_831
theorem zcw_102 : Cond.code (zy 102) (zby 102) (zml 102) (zrt 102) ∈ zTs := zl_827
theorem zcw_103 : Cond.code (zy 103) (zby 103) (zml 103) (zrt 103) ∈ zTs := zl_906
theorem zcw_104 : Cond.code (zy 104) (zby 104) (zml 104) (zrt 104) ∈ zTs := zl_918
theorem zcw_105 : Cond.code (zy 105) (zby 105) (zml 105) (zrt 105) ∈ zTs := zl_914
theorem zcw_106 : Cond.code (zy 106) (zby 106) (zml 106) (zrt 106) ∈ zTs := zl_993
theorem zcw_107 : Cond.code (zy 107) (zby 107) (zml 107) (zrt 107) ∈ zTs := zl_910
theorem zcw_108 : Cond.code (zy 108) (zby 108) (zml 108) (zrt 108) ∈ zTs := zl_1036
theorem zcw_109 : Cond.code (zy 109) (zby 109) (zml 109) (zrt 109) ∈ zTs := zl_816
theorem zcw_110 : Cond.code (zy 110) (zby 110) (zml 110) (zrt 110) ∈ zTs := zl_839
theorem zcw_111 : Cond.code (zy 111) (zby 111) (zml 111) (zrt 111) ∈ zTs := zl_835
theorem zcw_112 : Cond.code (zy 112) (zby 112) (zml 112) (zrt 112) ∈ zTs := zl_843
theorem zcw_113 : Cond.code (zy 113) (zby 113) (zml 113) (zrt 113) ∈ zTs := zl_847
theorem zcw_114 : Cond.code (zy 114) (zby 114) (zml 114) (zrt 114) ∈ zTs := zl_851
theorem zcw_115 : Cond.code (zy 115) (zby 115) (zml 115) (zrt 115) ∈ zTs := zl_863
theorem zcw_116 : Cond.code (zy 116) (zby 116) (zml 116) (zrt 116) ∈ zTs := zl_859
theorem zcw_117 : Cond.code (zy 117) (zby 117) (zml 117) (zrt 117) ∈ zTs := zl_882
theorem zcw_118 : Cond.code (zy 118) (zby 118) (zml 118) (zrt 118) ∈ zTs := zl_886
theorem zcw_119 : Cond.code (zy 119) (zby 119) (zml 119) (zrt 119) ∈ zTs := zl_902
theorem zcw_120 : Cond.code (zy 120) (zby 120) (zml 120) (zrt 120) ∈ zTs := zl_898
theorem zcw_121 : Cond.code (zy 121) (zby 121) (zml 121) (zrt 121) ∈ zTs := zl_890
theorem zcw_122 : Cond.code (zy 122) (zby 122) (zml 122) (zrt 122) ∈ zTs := zl_894
theorem zcw_123 : Cond.code (zy 123) (zby 123) (zml 123) (zrt 123) ∈ zTs := zl_873
theorem zcw_124 : Cond.code (zy 124) (zby 124) (zml 124) (zrt 124) ∈ zTs := zl_922
theorem zcw_125 : Cond.code (zy 125) (zby 125) (zml 125) (zrt 125) ∈ zTs := zl_855
theorem zcw_126 : Cond.code (zy 126) (zby 126) (zml 126) (zrt 126) ∈ zTs := zl_930
theorem zcw_127 : Cond.code (zy 127) (zby 127) (zml 127) (zrt 127) ∈ zTs := zl_934
theorem zcw_128 : Cond.code (zy 128) (zby 128) (zml 128) (zrt 128) ∈ zTs := zl_938
theorem zcw_129 : Cond.code (zy 129) (zby 129) (zml 129) (zrt 129) ∈ zTs := zl_926
theorem zcw_130 : Cond.code (zy 130) (zby 130) (zml 130) (zrt 130) ∈ zTs := zl_966
theorem zcw_131 : Cond.code (zy 131) (zby 131) (zml 131) (zrt 131) ∈ zTs := zl_970
theorem zcw_132 : Cond.code (zy 132) (zby 132) (zml 132) (zrt 132) ∈ zTs := zl_962
theorem zcw_133 : Cond.code (zy 133) (zby 133) (zml 133) (zrt 133) ∈ zTs := zl_958
theorem zcw_134 : Cond.code (zy 134) (zby 134) (zml 134) (zrt 134) ∈ zTs := zl_974
theorem zcw_135 : Cond.code (zy 135) (zby 135) (zml 135) (zrt 135) ∈ zTs := zl_981
theorem zcw_136 : Cond.code (zy 136) (zby 136) (zml 136) (zrt 136) ∈ zTs := zl_978
theorem zcw_137 : Cond.code (zy 137) (zby 137) (zml 137) (zrt 137) ∈ zTs := zl_954
theorem zcw_138 : Cond.code (zy 138) (zby 138) (zml 138) (zrt 138) ∈ zTs := zl_950
theorem zcw_139 : Cond.code (zy 139) (zby 139) (zml 139) (zrt 139) ∈ zTs := zl_1048
theorem zcw_140 : Cond.code (zy 140) (zby 140) (zml 140) (zrt 140) ∈ zTs := zl_1052
theorem zcw_141 : Cond.code (zy 141) (zby 141) (zml 141) (zrt 141) ∈ zTs := zl_1044
theorem zcw_142 : Cond.code (zy 142) (zby 142) (zml 142) (zrt 142) ∈ zTs := zl_1056
theorem zcw_143 : Cond.code (zy 143) (zby 143) (zml 143) (zrt 143) ∈ zTs := zl_985
theorem zcw_144 : Cond.code (zy 144) (zby 144) (zml 144) (zrt 144) ∈ zTs := zl_946
theorem zcw_145 : Cond.code (zy 145) (zby 145) (zml 145) (zrt 145) ∈ zTs := zl_942
theorem zcw_146 : Cond.code (zy 146) (zby 146) (zml 146) (zrt 146) ∈ zTs := zl_989
theorem zcw_147 : Cond.code (zy 147) (zby 147) (zml 147) (zrt 147) ∈ zTs := zl_997
theorem zcw_148 : Cond.code (zy 148) (zby 148) (zml 148) (zrt 148) ∈ zTs := zl_1001
theorem zcw_149 : Cond.code (zy 149) (zby 149) (zml 149) (zrt 149) ∈ zTs := zl_1013
theorem zcw_150 : Cond.code (zy 150) (zby 150) (zml 150) (zrt 150) ∈ zTs := zl_1016
theorem zcw_151 : Cond.code (zy 151) (zby 151) (zml 151) (zrt 151) ∈ zTs := zl_1009
theorem zcw_152 : Cond.code (zy 152) (zby 152) (zml 152) (zrt 152) ∈ zTs := zl_1005
theorem zcw_153 : Cond.code (zy 153) (zby 153) (zml 153) (zrt 153) ∈ zTs := zl_1020
theorem zcw_154 : Cond.code (zy 154) (zby 154) (zml 154) (zrt 154) ∈ zTs := zl_1024
theorem zcw_155 : Cond.code (zy 155) (zby 155) (zml 155) (zrt 155) ∈ zTs := zl_1028
theorem zcw_156 : Cond.code (zy 156) (zby 156) (zml 156) (zrt 156) ∈ zTs := zl_1032
theorem zcw_157 : Cond.code (zy 157) (zby 157) (zml 157) (zrt 157) ∈ zTs := zl_1060
theorem zcw_158 : Cond.code (zy 158) (zby 158) (zml 158) (zrt 158) ∈ zTs := zl_1040
theorem zcw_159 : Cond.code (zy 159) (zby 159) (zml 159) (zrt 159) ∈ zTs := zl_1068
theorem zcw_160 : Cond.code (zy 160) (zby 160) (zml 160) (zrt 160) ∈ zTs := zl_1064
theorem zcw_161 : Cond.code (zy 161) (zby 161) (zml 161) (zrt 161) ∈ zTs := zl_1072
theorem zcw_162 : Cond.code (zy 162) (zby 162) (zml 162) (zrt 162) ∈ zTs := zl_1076
theorem zcw_163 : Cond.code (zy 163) (zby 163) (zml 163) (zrt 163) ∈ zTs := zl_1080
theorem zcw_164 : Cond.code (zy 164) (zby 164) (zml 164) (zrt 164) ∈ zTs := zl_1084
theorem zcw_165 : Cond.code (zy 165) (zby 165) (zml 165) (zrt 165) ∈ zTs := zl_1092
theorem zcw_166 : Cond.code (zy 166) (zby 166) (zml 166) (zrt 166) ∈ zTs := zl_1088
theorem zcw_167 : Cond.code (zy 167) (zby 167) (zml 167) (zrt 167) ∈ zTs := zl_1100
theorem zcw_168 : Cond.code (zy 168) (zby 168) (zml 168) (zrt 168) ∈ zTs := zl_1096
theorem zcw_169 : Cond.code (zy 169) (zby 169) (zml 169) (zrt 169) ∈ zTs := zl_1104
theorem zcw_170 : Cond.code (zy 170) (zby 170) (zml 170) (zrt 170) ∈ zTs := zl_1108
theorem zcw_171 : Cond.code (zy 171) (zby 171) (zml 171) (zrt 171) ∈ zTs := zl_1116
theorem zcw_172 : Cond.code (zy 172) (zby 172) (zml 172) (zrt 172) ∈ zTs := zl_1112
theorem zcw_173 : Cond.code (zy 173) (zby 173) (zml 173) (zrt 173) ∈ zTs := zl_1120
theorem zcw_174 : Cond.code (zy 174) (zby 174) (zml 174) (zrt 174) ∈ zTs := zl_618
theorem zcw_175 : Cond.code (zy 175) (zby 175) (zml 175) (zrt 175) ∈ zTs := zl_561
theorem zcw_176 : Cond.code (zy 176) (zby 176) (zml 176) (zrt 176) ∈ zTs := zl_531
theorem zcw_177 : Cond.code (zy 177) (zby 177) (zml 177) (zrt 177) ∈ zTs := zl_462
theorem zcw_178 : Cond.code (zy 178) (zby 178) (zml 178) (zrt 178) ∈ zTs := zl_371
theorem zcw_179 : Cond.code (zy 179) (zby 179) (zml 179) (zrt 179) ∈ zTs := zl_381
theorem zcw_180 : Cond.code (zy 180) (zby 180) (zml 180) (zrt 180) ∈ zTs := zl_375
theorem zcw_181 : Cond.code (zy 181) (zby 181) (zml 181) (zrt 181) ∈ zTs := zl_385
theorem zcw_182 : Cond.code (zy 182) (zby 182) (zml 182) (zrt 182) ∈ zTs := zl_391
theorem zcw_183 : Cond.code (zy 183) (zby 183) (zml 183) (zrt 183) ∈ zTs := zl_388
theorem zcw_184 : Cond.code (zy 184) (zby 184) (zml 184) (zrt 184) ∈ zTs := zl_396
theorem zchk0_split (m : Nat) (C : List mzN) (n : Nat) : ∀ (k : Nat) (D : List mzN), zchk0 m C k (D.take n) = true → zchk0 m C (k + n) (D.drop n) = true → zchk0 m C k D = true := by
  induction n with
  | zero => intro k D _ h; exact h
  | succ n ih =>
    intro k D h1 h2
    cases D with
    | nil => rfl
    | cons x D =>
      obtain ⟨pc, I, a, cs, b⟩ := x
      simp only [List.take_succ_cons, zchk0, Bool.and_eq_true] at h1
      simp only [zchk0, Bool.and_eq_true]
      refine ⟨h1.1, ih (k + 1) D h1.2 ?_⟩
      rw [Nat.add_assoc, Nat.add_comm 1 n]
      exact h2
set_option maxRecDepth 100000 in
theorem zok1_0 : zchk 0 zc0 zc0 = true := by decide +kernel
set_option maxRecDepth 100000 in
theorem zok2_0 : zall2 "FrameDeltas$Coder" zc0 := ⟨trivial, trivial, trivial, trivial, trivial, trivial, trivial, zm_0_28, trivial, trivial, trivial, Or.inr zl_68, trivial, trivial, Or.inr zl_77, trivial, trivial, Or.inr zl_72, trivial, trivial, trivial, trivial, Or.inr zl_62, zm_0_50, trivial, trivial, trivial, Or.inr zl_72, trivial, trivial, trivial, trivial, trivial, zm_0_56, trivial, trivial, trivial, trivial, trivial, trivial, Or.inr zl_100, zm_0_63, trivial, Or.inr zl_72, trivial, trivial, trivial, trivial⟩
set_option maxRecDepth 100000 in
theorem zok1_1 : zchk 1 zc1 zc1 = true := by decide +kernel
set_option maxRecDepth 100000 in
theorem zok2_1 : zall2 "FrameDeltas$Coder" zc1 := ⟨trivial, Or.inl zl_180, trivial, Or.inr zl_62, trivial, trivial, zm_0_67, trivial, trivial, trivial, trivial, trivial, trivial, Or.inl zl_180, Or.inr zl_171, zm_0_74, trivial, trivial, trivial, Or.inl zl_180, Or.inr zl_171, trivial, trivial, trivial, trivial⟩
set_option maxRecDepth 100000 in
theorem zok1_2 : zchk 2 zc2 zc2 = true := by decide +kernel
set_option maxRecDepth 100000 in
theorem zok2_2 : zall2 "FrameDeltas$Coder" zc2 := ⟨trivial, Or.inr zl_62, trivial, zm_0_78, trivial, trivial, Or.inr zl_62, trivial, zm_0_82, trivial, trivial, Or.inr zl_62, trivial, trivial, trivial, trivial, trivial, zm_0_85, trivial, trivial, trivial, trivial, trivial, trivial, trivial, zm_0_74, trivial, trivial, trivial, trivial, Or.inr zl_62, trivial, trivial, trivial, trivial, zm_0_89, trivial, trivial, trivial, trivial, trivial, Or.inl zl_183, trivial, Or.inl zl_184, trivial, zm_0_74, trivial, trivial, trivial, Or.inl zl_180, trivial, Or.inr zl_62, trivial, trivial, zm_0_67, trivial, Or.inl zl_182, trivial, Or.inr zl_62, trivial, trivial, zm_0_67, trivial, Or.inl zl_180, Or.inr zl_171, trivial, Or.inl zl_182, Or.inr zl_171, trivial, trivial, trivial, trivial, trivial, trivial, trivial, Or.inl zl_180, Or.inr zl_171, zm_0_74, trivial, trivial, trivial, Or.inl zl_180, Or.inr zl_171, trivial, trivial, trivial, trivial, trivial, trivial, trivial, trivial, trivial, Or.inl zl_182, Or.inr zl_171, zm_0_74, trivial, trivial, trivial, Or.inl zl_182, Or.inr zl_171, trivial, trivial, trivial, trivial⟩
set_option maxRecDepth 100000 in
theorem zok1_3 : zchk 3 zc3 zc3 = true := by decide +kernel
set_option maxRecDepth 100000 in
theorem zok2_3 : zall2 "FrameDeltas$Coder" zc3 := ⟨trivial, trivial, trivial, trivial, trivial, trivial, trivial, trivial, trivial, trivial, trivial, trivial, trivial, trivial, trivial, zm_0_93, trivial, trivial, trivial, trivial, trivial, trivial, trivial, trivial, trivial, trivial, trivial, trivial, trivial, trivial, trivial, trivial, trivial, trivial, trivial, trivial, trivial, zm_0_98, trivial, trivial, trivial, trivial, trivial, trivial, trivial, trivial, trivial, trivial, trivial, zm_0_85, trivial, trivial, trivial, Or.inl zl_183, trivial, trivial, Or.inl zl_184, trivial, trivial, trivial, trivial, trivial, trivial, trivial, zm_0_102, trivial, trivial, trivial, trivial, trivial, trivial, trivial, trivial, trivial, trivial⟩
set_option maxRecDepth 100000 in
theorem zok1_4 : zchk 4 zc4 zc4 = true := by decide +kernel
set_option maxRecDepth 100000 in
theorem zok2_4 : zall2 "FrameDeltas$Frame" zc4 := ⟨trivial, Or.inl zl_61, trivial, Or.inl zl_61, zm_1_33, trivial, Or.inl zl_66, trivial, trivial, Or.inl zl_66, trivial, trivial, ⟨zl_285, zl_275, zl_274, zl_10⟩, trivial, trivial, Or.inl zl_67, Or.inl zl_67, trivial, trivial, Or.inl zl_71, Or.inl zl_71, trivial, trivial, Or.inl zl_76, Or.inl zl_76, trivial, trivial⟩
set_option maxRecDepth 100000 in
theorem zok1_5 : zchk 5 zc5 zc5 = true := by decide +kernel
set_option maxRecDepth 100000 in
theorem zok2_5 : zall2 "FrameDeltas$Frame" zc5 := ⟨trivial, trivial, trivial, trivial, trivial, trivial, trivial, trivial, trivial, trivial, Or.inl zl_66, trivial, trivial, trivial, Or.inl zl_66, trivial, trivial, trivial, trivial, trivial, trivial⟩
set_option maxRecDepth 100000 in
theorem zok1_6 : zchk 6 zc6 zc6 = true := by decide +kernel
set_option maxRecDepth 100000 in
theorem zok2_6 : zall2 "FrameDeltas$Frame" zc6 := ⟨trivial, trivial, trivial, trivial, trivial, trivial, trivial, trivial, trivial, trivial, Or.inl zl_66, trivial, trivial, trivial, Or.inl zl_66, trivial, trivial, trivial, trivial, trivial, trivial, Or.inl zl_66, trivial, trivial, trivial, trivial, trivial, trivial, Or.inl zl_66, trivial, trivial, trivial, trivial, trivial, trivial, Or.inl zl_66, trivial, trivial, trivial, trivial, trivial, trivial, trivial⟩
set_option maxRecDepth 100000 in
theorem zok1_7 : zchk 7 zc7 zc7 = true := by decide +kernel
set_option maxRecDepth 100000 in
theorem zok2_7 : zall2 "FrameDeltas$Frame" zc7 := ⟨trivial, trivial, trivial, trivial, trivial, trivial, Or.inl zl_61, zm_1_43, trivial, trivial, trivial, trivial, zm_1_47, trivial, trivial, trivial, trivial, trivial, trivial, trivial, trivial⟩
set_option maxRecDepth 100000 in
theorem zok1_8 : zchk 8 zc8 zc8 = true := by decide +kernel
set_option maxRecDepth 100000 in
theorem zok2_8 : zall2 "FrameDeltas$Image" zc8 := ⟨trivial, trivial, Or.inl zl_38, trivial, trivial, Or.inl zl_41, trivial, trivial, trivial, trivial, Or.inl zl_37, trivial, trivial, trivial, Or.inl zl_37, trivial, trivial, trivial, trivial, trivial, trivial, trivial⟩
set_option maxRecDepth 100000 in
theorem zok1_9 : zchk 9 zc9 zc9 = true := by decide +kernel
set_option maxRecDepth 100000 in
theorem zok2_9 : zall2 "FrameDeltas$Image" zc9 := ⟨trivial, trivial, Or.inl zl_38, Or.inl zl_38, trivial, trivial, Or.inl zl_41, Or.inl zl_41, trivial, Or.inl zl_37, trivial, trivial, Or.inl zl_37, trivial, trivial, ⟨zl_273, zl_275, zl_274, zl_10⟩, trivial, trivial⟩
set_option maxRecDepth 100000 in
theorem zok1_10 : zchk 10 zc10 zc10 = true := by decide +kernel
set_option maxRecDepth 100000 in
theorem zok2_10 : zall2 "FrameDeltas$Image" zc10 := ⟨trivial, trivial, trivial, trivial, Or.inl zl_38, trivial, Or.inl zl_41, trivial, trivial, trivial, trivial, trivial, trivial, trivial⟩
set_option maxRecDepth 100000 in
theorem zok1_11 : zchk 11 zc11 zc11 = true := by decide +kernel
set_option maxRecDepth 100000 in
theorem zok2_11 : zall2 "FrameDeltas$Image" zc11 := ⟨trivial, trivial, trivial, trivial, Or.inl zl_37, trivial, trivial, trivial, Or.inl zl_37, trivial, trivial, trivial, trivial, trivial, trivial⟩
set_option maxRecDepth 100000 in
theorem zok1_12 : zchk 12 zc12 zc12 = true := by decide +kernel
set_option maxRecDepth 100000 in
theorem zok2_12 : zall2 "FrameDeltas$Image" zc12 := ⟨trivial, trivial, trivial, trivial, Or.inl zl_37, trivial, trivial, trivial, Or.inl zl_37, trivial, trivial, trivial, trivial, trivial⟩
set_option maxRecDepth 100000 in
theorem zok1_13 : zchk 13 zc13 zc13 = true := by decide +kernel
set_option maxRecDepth 100000 in
theorem zok2_13 : zall2 "FrameDeltas$Image" zc13 := ⟨trivial, trivial, trivial, trivial, Or.inl zl_38, trivial, trivial, trivial, trivial, trivial, Or.inl zl_41, trivial, trivial, trivial, trivial, trivial, Or.inl zl_38, trivial, trivial, trivial, trivial, trivial, trivial, Or.inl zl_37, trivial, trivial, trivial, Or.inl zl_37, trivial, trivial, trivial, trivial, trivial, trivial⟩
set_option maxRecDepth 100000 in
theorem zok1_14 : zchk 14 zc14 zc14 = true := by decide +kernel
set_option maxRecDepth 100000 in
theorem zok2_14 : zall2 "FrameDeltas$Image" zc14 := ⟨trivial, Or.inl zl_38, trivial, trivial, trivial, Or.inl zl_41, trivial, trivial, trivial, trivial, trivial⟩
set_option maxRecDepth 100000 in
theorem zok1_15 : zchk 15 zc15 zc15 = true := by decide +kernel
set_option maxRecDepth 100000 in
theorem zok2_15 : zall2 "FrameDeltas$Image" zc15 := ⟨trivial, trivial, trivial, trivial, zm_2_28, trivial, trivial, trivial, trivial, trivial, trivial⟩
set_option maxRecDepth 100000 in
theorem zok1_16 : zchk 16 zc16 zc16 = true := by decide +kernel
set_option maxRecDepth 100000 in
theorem zok2_16 : zall2 "FrameDeltas$Image" zc16 := ⟨trivial, trivial, trivial, trivial, Or.inl zl_38, trivial, trivial, zm_2_32, trivial, trivial, trivial, trivial⟩
set_option maxRecDepth 100000 in
theorem zok1_17 : zchk 17 zc17 zc17 = true := by decide +kernel
set_option maxRecDepth 100000 in
theorem zok2_17 : zall2 "FrameDeltas$Image" zc17 := ⟨trivial, trivial, trivial, trivial, Or.inl zl_38, trivial, trivial, zm_2_32, trivial, trivial, trivial, trivial⟩
set_option maxRecDepth 100000 in
theorem zok1_18 : zchk 18 zc18 zc18 = true := by decide +kernel
set_option maxRecDepth 100000 in
theorem zok2_18 : zall2 "FrameDeltas$Image" zc18 := ⟨trivial, trivial, trivial, trivial, Or.inl zl_38, trivial, trivial, trivial, trivial, trivial, trivial, trivial, Or.inl zl_41, trivial, trivial, trivial, trivial, trivial, trivial, trivial, trivial⟩
set_option maxRecDepth 100000 in
theorem zok1_19 : zchk 19 zc19 zc19 = true := by decide +kernel
set_option maxRecDepth 100000 in
theorem zok2_19 : zall2 "FrameDeltas$Image" zc19 := ⟨trivial, trivial, trivial, trivial, trivial, trivial, trivial, trivial, trivial, trivial, trivial, trivial, trivial, trivial, trivial, trivial, trivial, trivial, trivial, trivial, trivial, zm_2_38, trivial, trivial, trivial, trivial, trivial, trivial, trivial, trivial, trivial⟩
set_option maxRecDepth 100000 in
theorem zok1_20 : zchk 20 zc20 zc20 = true := by decide +kernel
set_option maxRecDepth 100000 in
theorem zok2_20 : zall2 "FrameDeltas$Image" zc20 := ⟨trivial, trivial, trivial, trivial, trivial, trivial, trivial, trivial, trivial, trivial, trivial, Or.inl zl_38, trivial, trivial, trivial, trivial, trivial, trivial, trivial, trivial, trivial, trivial, trivial, trivial, trivial, trivial, Or.inl zl_38, trivial, trivial, trivial, trivial, trivial, trivial, trivial, trivial, trivial, trivial, trivial, trivial, Or.inl zl_37, trivial, trivial, trivial, trivial, trivial, trivial, Or.inl zl_37, trivial, trivial, trivial, trivial, trivial, Or.inl zl_37, trivial, trivial, trivial, Or.inl zl_37, trivial, trivial, trivial, trivial, trivial, trivial, trivial, trivial, trivial, trivial⟩
set_option maxRecDepth 100000 in
theorem zok1_21 : zchk 21 zc21 zc21 = true := by decide +kernel
set_option maxRecDepth 100000 in
theorem zok2_21 : zall2 "FrameDeltas$Image" zc21 := ⟨trivial, trivial, trivial, trivial, trivial, trivial, Or.inl zl_38, trivial, Or.inl zl_41, trivial, trivial, trivial, trivial, zm_2_41, trivial, trivial, zm_2_41, trivial, trivial, trivial, trivial, trivial, trivial, trivial⟩
set_option maxRecDepth 100000 in
theorem zok1_22 : zchk 22 zc22 zc22 = true := by decide +kernel
set_option maxRecDepth 100000 in
theorem zok2_22 : zall2 "FrameDeltas$Image" zc22 := ⟨trivial, trivial, trivial, trivial, Or.inl zl_41, trivial, trivial, trivial, zm_2_45, trivial, trivial, trivial, trivial, trivial, Or.inl zl_38, trivial, trivial, trivial, zm_2_45, trivial, trivial, trivial, trivial, Or.inl zl_38, trivial, trivial, trivial, trivial, zm_2_48, trivial, trivial, trivial, trivial, trivial, trivial⟩
set_option maxRecDepth 100000 in
theorem zok1_23 : zchk 23 zc23 zc23 = true := by decide +kernel
set_option maxRecDepth 100000 in
theorem zok2_23 : zall2 "FrameDeltas$Image" zc23 := ⟨trivial, trivial, trivial, trivial, Or.inl zl_41, trivial, trivial, trivial, trivial, trivial, Or.inl zl_38, trivial, trivial, trivial, trivial, Or.inl zl_38, trivial, trivial, trivial, trivial, trivial, trivial, trivial, trivial, trivial, trivial, zm_2_38, zm_2_48, trivial, trivial, trivial, trivial, trivial, trivial⟩
set_option maxRecDepth 100000 in
theorem zok1_24 : zchk 24 zc24 zc24 = true := by decide +kernel
set_option maxRecDepth 100000 in
theorem zok2_24 : zall2 "FrameDeltas$Image" zc24 := ⟨trivial, trivial, trivial, trivial, Or.inl zl_37, trivial, trivial, trivial, Or.inl zl_37, trivial, trivial, trivial, trivial, trivial, Or.inl zl_37, trivial, trivial, trivial, trivial, trivial, Or.inl zl_37, trivial, trivial, trivial, trivial, trivial, Or.inl zl_37, trivial, trivial, trivial, trivial, trivial, trivial, trivial⟩
set_option maxRecDepth 100000 in
theorem zok1_25 : zchk 25 zc25 zc25 = true := by decide +kernel
set_option maxRecDepth 100000 in
theorem zok2_25 : zall2 "FrameDeltas$Planner" zc25 := ⟨trivial, Or.inr zl_97, trivial, zm_3_30, trivial, trivial, trivial, trivial, trivial, trivial, zm_3_36, trivial, trivial, trivial, trivial, trivial, Or.inr zl_105, zm_3_43, Or.inl zl_202, trivial, trivial, Or.inl zl_204, trivial, trivial, trivial, trivial, trivial, trivial, trivial, trivial, trivial, trivial, trivial, Or.inr zl_105, zm_3_43, trivial, trivial, zm_3_47, trivial, Or.inl zl_204, zm_3_47, trivial, trivial, trivial, trivial, trivial, trivial, trivial, Or.inl zl_202, trivial, trivial, trivial, Or.inl zl_202, trivial, trivial, trivial, trivial, trivial, Or.inl zl_202, trivial, trivial, Or.inl zl_204, trivial, trivial, trivial, trivial⟩
set_option maxRecDepth 100000 in
theorem zok1_26 : zchk 26 zc26 zc26 = true := by decide +kernel
set_option maxRecDepth 100000 in
theorem zok2_26 : zall2 "FrameDeltas$Planner" zc26 := ⟨trivial, trivial, trivial, trivial, trivial, trivial, trivial, Or.inl zl_200, trivial, trivial, trivial, trivial, Or.inl zl_201, trivial, trivial, trivial, Or.inr zl_63, trivial, trivial, zm_3_59, zm_3_63, trivial, trivial, trivial, trivial, zm_3_69, trivial, Or.inl zl_200, trivial, trivial, Or.inr zl_73, trivial, trivial, trivial, trivial, trivial, trivial, trivial, trivial, trivial, zm_3_69, trivial, Or.inl zl_201, trivial, trivial, Or.inr zl_73, trivial, trivial, trivial, trivial, trivial⟩
set_option maxRecDepth 100000 in
theorem zok1_27 : zchk 27 zc27 zc27 = true := by decide +kernel
set_option maxRecDepth 100000 in
theorem zok2_27 : zall2 "FrameDeltas$Planner" zc27 := ⟨trivial, trivial, trivial, trivial, trivial, trivial, trivial, trivial, trivial, trivial, trivial, trivial, trivial, Or.inl zl_200, trivial, trivial, trivial, trivial, Or.inl zl_201, trivial, trivial, trivial, trivial, trivial, trivial, trivial, trivial, trivial, trivial, trivial, trivial, trivial, trivial, trivial, trivial, Or.inl zl_200, trivial, trivial, trivial, trivial, Or.inl zl_201, trivial, trivial, trivial, trivial, trivial, trivial, trivial, trivial, trivial, trivial, trivial, trivial, trivial, trivial, trivial, trivial, trivial, zm_3_76, trivial, trivial, trivial, trivial, trivial, trivial, trivial, trivial, trivial, trivial⟩
set_option maxRecDepth 100000 in
theorem zok1_28 : zchk 28 zc28 zc28 = true := by decide +kernel
set_option maxRecDepth 100000 in
theorem zok2_28 : zall2 "FrameDeltas$Planner" zc28 := ⟨trivial, Or.inl zl_204, trivial, trivial, trivial, trivial, trivial, trivial, trivial, trivial, trivial, trivial, trivial, trivial, trivial⟩
set_option maxRecDepth 100000 in
theorem zok1_29 : zchk 29 zc29 zc29 = true := by decide +kernel
set_option maxRecDepth 100000 in
theorem zok2_29 : zall2 "FrameDeltas$RunList" zc29 := ⟨trivial, trivial, zm_4_22, trivial, trivial, trivial, zm_4_28, trivial, trivial, trivial, Or.inl zl_170, trivial, trivial, trivial, trivial, trivial, trivial, trivial, trivial, trivial, trivial, trivial, trivial, trivial, trivial, trivial, trivial, trivial, trivial, trivial, trivial, zm_4_31, trivial, trivial, trivial, trivial, trivial, trivial, trivial, zm_4_31, trivial, trivial, trivial, trivial, trivial, trivial, zm_4_35, trivial, trivial, trivial, trivial⟩
set_option maxRecDepth 100000 in
theorem zok1_30 : zchk 30 zc30 zc30 = true := by decide +kernel
set_option maxRecDepth 100000 in
theorem zok2_30 : zall2 "FrameDeltas$RunList" zc30 := ⟨trivial, Or.inl zl_170, trivial, trivial, trivial, trivial, trivial, trivial, trivial, Or.inl zl_169, trivial, trivial, trivial, Or.inl zl_169, trivial, trivial, trivial, trivial, trivial, trivial, trivial, trivial, trivial, trivial, trivial, trivial, Or.inl zl_168, trivial, trivial, trivial, Or.inl zl_168, trivial, trivial, trivial, trivial, trivial, trivial, trivial, trivial, Or.inl zl_170, trivial, trivial, Or.inl zl_170, trivial, Or.inl zl_168, trivial, trivial, trivial, Or.inl zl_170, trivial, Or.inl zl_169, trivial, trivial, trivial, Or.inl zl_168, trivial, Or.inl zl_170, trivial, trivial, trivial, Or.inl zl_169, trivial, Or.inl zl_170, trivial, trivial, trivial, trivial, Or.inl zl_170, trivial, trivial, Or.inl zl_170, trivial, trivial⟩
set_option maxRecDepth 100000 in
theorem zok1_31 : zchk 31 zc31 zc31 = true := by decide +kernel
set_option maxRecDepth 100000 in
theorem zok2_31 : zall2 "FrameDeltas$RunList" zc31 := ⟨trivial, trivial, trivial, trivial, Or.inl zl_168, trivial, trivial, trivial, Or.inl zl_168, trivial, trivial, trivial, trivial, trivial, trivial⟩
set_option maxRecDepth 100000 in
theorem zok1_32 : zchk 32 zc32 zc32 = true := by decide +kernel
set_option maxRecDepth 100000 in
theorem zok2_32 : zall2 "FrameDeltas$RunList" zc32 := ⟨trivial, trivial, trivial, trivial, Or.inl zl_169, trivial, trivial, trivial, Or.inl zl_169, trivial, trivial, trivial, trivial, trivial, trivial⟩
set_option maxRecDepth 100000 in
theorem zok1_33 : zchk 33 zc33 zc33 = true := by decide +kernel
set_option maxRecDepth 100000 in
theorem zok2_33 : zall2 "FrameDeltas$Script" zc33 := ⟨trivial, Or.inl zl_130, trivial, trivial, Or.inl zl_130, trivial, Or.inl zl_129, trivial, trivial, trivial, Or.inl zl_129, trivial, Or.inl zl_130, trivial, trivial, trivial, trivial, Or.inl zl_130, trivial, trivial, Or.inl zl_130, trivial, Or.inl zl_130, trivial, trivial⟩
set_option maxRecDepth 100000 in
theorem zok1_34 : zchk 34 zc34 zc34 = true := by decide +kernel
set_option maxRecDepth 100000 in
theorem zok2_34 : zall2 "FrameDeltas$Script" zc34 := ⟨trivial, trivial, ⟨rfl, rfl⟩, trivial, ⟨rfl, rfl⟩, trivial, ⟨rfl, rfl⟩, trivial, ⟨rfl, rfl⟩, trivial, ⟨rfl, rfl⟩, trivial, trivial⟩
set_option maxRecDepth 100000 in
theorem zok1_35 : zchk 35 zc35 zc35 = true := by decide +kernel
set_option maxRecDepth 100000 in
theorem zok2_35 : zall2 "FrameDeltas$Script" zc35 := ⟨trivial, trivial, ⟨rfl, rfl⟩, trivial, ⟨rfl, rfl⟩, trivial, ⟨rfl, rfl⟩, trivial, ⟨rfl, rfl⟩, trivial, ⟨rfl, rfl⟩, trivial, trivial⟩
set_option maxRecDepth 100000 in
theorem zok1_36 : zchk 36 zc36 zc36 = true := by decide +kernel
set_option maxRecDepth 100000 in
theorem zok2_36 : zall2 "FrameDeltas$Script" zc36 := ⟨trivial, trivial, Or.inl zl_134, trivial, trivial, Or.inl zl_137, trivial, trivial, trivial, trivial, trivial, trivial, zm_5_58, trivial, Or.inl zl_132, trivial, trivial, trivial, trivial, trivial, zm_5_61, trivial, trivial, Or.inl zl_133, trivial, trivial, trivial, trivial, Or.inl zl_133, trivial, trivial⟩
set_option maxRecDepth 100000 in
theorem zok1_37 : zchk 37 zc37 zc37 = true := by decide +kernel
set_option maxRecDepth 100000 in
theorem zok2_37 : zall2 "FrameDeltas$Script" zc37 := ⟨trivial, zm_5_65, trivial, trivial, trivial, trivial, trivial, trivial, trivial, zm_5_69, trivial, zm_5_73, trivial, trivial, trivial, trivial, trivial, zm_5_77, trivial, trivial, zm_5_58, trivial, zm_5_81, trivial, trivial, trivial, trivial, zm_5_85, trivial, zm_5_89, trivial, trivial, trivial, trivial, trivial, Or.inl zl_135, zm_5_69, trivial, trivial, trivial, zm_5_58, trivial, Or.inl zl_132, trivial, trivial, trivial, trivial, Or.inl zl_133, zm_5_93, trivial, trivial, trivial, trivial, trivial, trivial, trivial⟩
set_option maxRecDepth 100000 in
theorem zok1_38 : zchk 38 zc38 zc38 = true := by decide +kernel
set_option maxRecDepth 100000 in
theorem zok2_38 : zall2 "FrameDeltas$Script" zc38 := ⟨trivial, Or.inl zl_137, trivial, trivial, Or.inl zl_137, trivial, Or.inl zl_136, trivial, trivial, trivial, Or.inl zl_136, trivial, Or.inl zl_137, trivial, trivial, trivial, trivial, Or.inl zl_137, trivial, trivial, Or.inl zl_137, trivial, trivial⟩
set_option maxRecDepth 100000 in
theorem zok1_39 : zchk 39 zc39 zc39 = true := by decide +kernel
set_option maxRecDepth 100000 in
theorem zok2_39 : zall2 "FrameDeltas$Script" zc39 := ⟨trivial, trivial, Or.inl zl_134, Or.inl zl_133, trivial, Or.inl zl_133, trivial, Or.inl zl_130, trivial, trivial, trivial, Or.inl zl_133, zm_5_93, trivial, trivial, trivial, trivial, Or.inl zl_133, trivial, trivial, Or.inl zl_133, trivial, trivial, trivial, Or.inl zl_133, Or.inl zl_134, trivial, Or.inl zl_133, trivial, Or.inl zl_130, trivial, trivial, trivial, Or.inl zl_132, trivial, trivial, trivial, Or.inl zl_134, trivial, trivial, Or.inl zl_134, trivial, trivial, Or.inl zl_133, zm_5_93, trivial, trivial, zm_5_96, trivial, trivial, trivial, Or.inl zl_132, trivial, Or.inl zl_134, trivial, Or.inl zl_130, trivial, trivial, trivial, Or.inl zl_134, zm_5_93, zm_5_96, trivial, trivial, trivial, Or.inl zl_134, trivial, trivial, Or.inl zl_134, trivial, trivial, trivial, trivial, trivial, zm_5_100, trivial, trivial, trivial, Or.inl zl_132, trivial, Or.inl zl_134, trivial, Or.inl zl_130, trivial, trivial, trivial, Or.inl zl_134, zm_5_93, zm_5_100, trivial, trivial, trivial, Or.inl zl_134, trivial, trivial, Or.inl zl_134, trivial, trivial, trivial, Or.inl zl_132, trivial, trivial⟩
set_option maxRecDepth 100000 in
theorem zok1_40 : zchk 40 zc40 zc40 = true := by decide +kernel
set_option maxRecDepth 100000 in
theorem zok2_40 : zall2 "FrameDeltas$Script" zc40 := ⟨trivial, trivial, trivial, trivial, Or.inl zl_130, trivial, trivial, trivial, Or.inl zl_129, trivial, trivial, trivial, Or.inl zl_129, trivial, trivial, trivial, trivial, trivial, trivial⟩
set_option maxRecDepth 100000 in
theorem zok1_41 : zchk 41 zc41 zc41 = true := by decide +kernel
set_option maxRecDepth 100000 in
theorem zok2_41 : zall2 "FrameDeltas$Script" zc41 := ⟨trivial, trivial, trivial, trivial, trivial, trivial, trivial, trivial, trivial, trivial, trivial⟩
set_option maxRecDepth 100000 in
theorem zok1_42 : zchk 42 zc42 zc42 = true := by decide +kernel
set_option maxRecDepth 100000 in
theorem zok2_42 : zall2 "FrameDeltas$Script" zc42 := ⟨trivial, trivial, trivial, trivial, trivial, trivial, trivial, trivial, trivial, trivial, trivial⟩
set_option maxRecDepth 100000 in
theorem zok1_43 : zchk 43 zc43 zc43 = true := by decide +kernel
set_option maxRecDepth 100000 in
theorem zok2_43 : zall2 "FrameDeltas$Script" zc43 := ⟨trivial, trivial, trivial, trivial, trivial, trivial, Or.inl zl_132, trivial, trivial, trivial, trivial, zm_5_103, zm_5_106, trivial, trivial, trivial, trivial, trivial, trivial, trivial, trivial⟩
set_option maxRecDepth 100000 in
theorem zok1_44 : zchk 44 zc44 zc44 = true := by decide +kernel
set_option maxRecDepth 100000 in
theorem zok2_44 : zall2 "FrameDeltas$Script" zc44 := ⟨trivial, Or.inl zl_134, trivial, Or.inl zl_133, trivial, trivial, zm_5_77, trivial, trivial, trivial, trivial, trivial, trivial, trivial, zm_5_77, trivial, trivial, trivial, Or.inl zl_133, trivial, trivial, zm_5_93, trivial, trivial, zm_5_85, trivial, trivial, trivial, trivial, trivial, trivial, trivial, trivial⟩
set_option maxRecDepth 100000 in
theorem zok1_45 : zchk 45 zc45 zc45 = true := by decide +kernel
set_option maxRecDepth 100000 in
theorem zok2_45 : zall2 "FrameDeltas$Script" zc45 := ⟨trivial, Or.inl zl_132, trivial, trivial, trivial, trivial, trivial, trivial, Or.inl zl_133, zm_5_93, trivial, trivial, trivial, Or.inl zl_133, trivial, trivial, trivial, trivial, Or.inl zl_133, trivial, trivial, Or.inl zl_134, trivial, trivial, trivial, trivial, trivial, trivial, trivial, trivial, trivial, trivial, trivial, trivial, trivial, trivial, zm_5_93, trivial, trivial, trivial, trivial, trivial, trivial, trivial, zm_5_93, trivial, trivial, Or.inl zl_135, trivial, trivial, trivial, trivial, trivial, trivial, Or.inl zl_135, trivial, trivial, trivial, trivial, trivial, zm_5_93, trivial, trivial, trivial, Or.inl zl_135, trivial, trivial, Or.inl zl_133, trivial, trivial, trivial, Or.inl zl_135, trivial, Or.inl zl_135, trivial, trivial, trivial⟩
set_option maxRecDepth 100000 in
theorem zok1_46 : zchk 46 zc46 zc46 = true := by decide +kernel
set_option maxRecDepth 100000 in
theorem zok2_46 : zall2 "FrameDeltas$Script" zc46 := ⟨trivial, trivial, trivial, trivial, Or.inl zl_135, trivial, trivial, trivial, Or.inl zl_135, trivial, trivial, trivial, trivial, trivial, trivial, trivial, trivial, Or.inl zl_133, zm_5_93, trivial, trivial, trivial, trivial, trivial, trivial, trivial, trivial, trivial, Or.inl zl_135, zm_5_110, trivial, trivial, trivial, Or.inl zl_135, zm_5_116, trivial, trivial, trivial, trivial, trivial, trivial, Or.inl zl_135, trivial, trivial, trivial, trivial, trivial, trivial, trivial, trivial, trivial, trivial, trivial, trivial⟩
set_option maxRecDepth 100000 in
theorem zok1_47 : zchk 47 zc47 zc47 = true := by decide +kernel
set_option maxRecDepth 100000 in
theorem zok2_47 : zall2 "FrameDeltas$Script" zc47 := ⟨trivial, trivial, trivial, trivial, trivial, trivial, Or.inl zl_137, trivial, trivial, trivial, zm_5_119, trivial, trivial, trivial, trivial, trivial, trivial, trivial, trivial, zm_5_123, trivial, trivial, trivial, zm_5_73, zm_5_77, trivial, trivial, trivial, trivial, trivial, trivial, trivial, trivial⟩
set_option maxRecDepth 100000 in
theorem zok1_48 : zchk 48 zc48 zc48 = true := by decide +kernel
set_option maxRecDepth 100000 in
theorem zok2_48 : zall2 "FrameDeltas$Script" zc48 := ⟨trivial, trivial, trivial, trivial, Or.inl zl_136, trivial, trivial, trivial, Or.inl zl_136, trivial, trivial, trivial, trivial, trivial, trivial⟩
set_option maxRecDepth 100000 in
theorem zok1_49 : zchk 49 zc49 zc49 = true := by decide +kernel
set_option maxRecDepth 100000 in
theorem zok2_49 : zall2 "FrameDeltas$Script" zc49 := ⟨trivial, Or.inr zl_93, trivial, trivial, trivial, zm_5_119, trivial, trivial, trivial, trivial, trivial, zm_5_119, trivial, trivial, trivial, trivial, trivial, trivial, trivial, Or.inr zl_39, trivial, Or.inr zl_42, trivial, zm_5_139, trivial, trivial, trivial, trivial, trivial, trivial, trivial, trivial, zm_5_119, trivial, trivial, trivial, trivial, zm_5_119, trivial, trivial, trivial, trivial, zm_5_119, zm_5_139, trivial, trivial, trivial, zm_5_143, trivial, trivial, trivial, trivial, zm_5_147, trivial, trivial, trivial, trivial, zm_5_151, trivial, trivial, trivial, trivial, zm_5_155, zm_5_143, trivial, trivial⟩
set_option maxRecDepth 100000 in
theorem zok1_50 : zchk 50 zc50 zc50 = true := by decide +kernel
set_option maxRecDepth 100000 in
theorem zok2_50 : zall2 "FrameDeltas$State" zc50 := ⟨trivial, Or.inl zl_91, trivial, Or.inl zl_91, zm_6_42, trivial, trivial, Or.inl zl_96, Or.inl zl_96, trivial, trivial, Or.inl zl_99, Or.inl zl_99, trivial, trivial, Or.inl zl_102, Or.inl zl_102, trivial, trivial, Or.inl zl_104, Or.inl zl_104, trivial, trivial, trivial, trivial, Or.inl zl_96, trivial, trivial, trivial, zm_6_46, trivial, trivial, zm_6_46, zm_6_50, trivial, trivial, trivial, trivial⟩
set_option maxRecDepth 100000 in
theorem zok1_51 : zchk 51 zc51 zc51 = true := by decide +kernel
set_option maxRecDepth 100000 in
theorem zok2_51 : zall2 "FrameDeltas$State" zc51 := ⟨trivial, trivial, trivial, trivial, Or.inl zl_94, trivial, trivial, trivial, Or.inl zl_94, trivial, trivial, trivial, trivial, Or.inl zl_95, trivial, trivial⟩
set_option maxRecDepth 100000 in
theorem zok1_52 : zchk 52 zc52 zc52 = true := by decide +kernel
set_option maxRecDepth 100000 in
theorem zok2_52 : zall2 "FrameDeltas$State" zc52 := ⟨trivial, trivial, trivial, trivial, Or.inl zl_96, trivial, trivial, trivial, trivial, trivial, trivial⟩
set_option maxRecDepth 100000 in
theorem zok1_53 : zchk 53 zc53 zc53 = true := by decide +kernel
set_option maxRecDepth 100000 in
theorem zok2_53 : zall2 "FrameDeltas$State" zc53 := ⟨trivial, trivial, trivial, trivial, trivial, zm_6_53, trivial, trivial, trivial, trivial, trivial, trivial⟩
set_option maxRecDepth 100000 in
theorem zok1_54 : zchk 54 zc54 zc54 = true := by decide +kernel
set_option maxRecDepth 100000 in
theorem zok2_54 : zall2 "FrameDeltas$State" zc54 := ⟨trivial, trivial, trivial, trivial, Or.inl zl_91, trivial, trivial, trivial, zm_6_46, Or.inr zl_64, trivial, trivial⟩
set_option maxRecDepth 100000 in
theorem zok1_55 : zchk 55 zc55 zc55 = true := by decide +kernel
set_option maxRecDepth 100000 in
theorem zok2_55 : zall2 "FrameDeltas$State" zc55 := ⟨trivial, trivial, trivial, trivial, trivial, trivial, trivial, trivial, trivial, trivial, trivial, zm_6_46, Or.inr zl_78, trivial, trivial, trivial, trivial, trivial, zm_6_46, Or.inr zl_69, trivial, trivial, trivial, trivial, trivial, trivial⟩
set_option maxRecDepth 100000 in
theorem zok1_56 : zchk 56 zc56 zc56 = true := by decide +kernel
set_option maxRecDepth 100000 in
theorem zok2_56 : zall2 "FrameDeltas$State" zc56 := ⟨trivial, trivial, zm_6_67, trivial, trivial, trivial, zm_6_70, trivial, Or.inl zl_102, trivial, trivial, trivial, trivial, trivial, trivial⟩
set_option maxRecDepth 100000 in
theorem zok1_57 : zchk 57 zc57 zc57 = true := by decide +kernel
set_option maxRecDepth 100000 in
theorem zok2_57 : zall2 "FrameDeltas$State" zc57 := ⟨trivial, trivial, trivial, trivial, zm_6_46, Or.inr zl_69, trivial, trivial, trivial, trivial, trivial, trivial, trivial, trivial, trivial, trivial, trivial, zm_6_46, Or.inr zl_69, trivial, trivial, trivial, trivial, trivial, trivial⟩
set_option maxRecDepth 100000 in
theorem zok1_58 : zchk 58 zc58 zc58 = true := by decide +kernel
set_option maxRecDepth 100000 in
theorem zok2_58 : zall2 "FrameDeltas$State" zc58 := ⟨trivial, trivial, trivial, trivial, trivial, trivial, trivial, trivial, trivial, trivial, trivial, trivial, trivial, trivial, zm_6_46, Or.inr zl_74, trivial, trivial, trivial, trivial, zm_6_46, Or.inr zl_69, trivial, trivial, trivial, trivial, trivial, trivial⟩
set_option maxRecDepth 100000 in
theorem zok1_59 : zchk 59 zc59 zc59 = true := by decide +kernel
set_option maxRecDepth 100000 in
theorem zok2_59 : zall2 "FrameDeltas$State" zc59 := ⟨trivial, trivial, trivial, trivial, trivial, trivial, trivial, trivial, trivial, trivial, trivial, trivial, trivial, trivial, trivial, trivial, zm_6_46, Or.inr zl_69, trivial, trivial, trivial, trivial, trivial, trivial⟩
set_option maxRecDepth 100000 in
theorem zok1_60 : zchk 60 zc60 zc60 = true := by decide +kernel
set_option maxRecDepth 100000 in
theorem zok2_60 : zall2 "FrameDeltas$State" zc60 := ⟨trivial, trivial, trivial, trivial, trivial, trivial, Or.inl zl_96, trivial, trivial, trivial, zm_6_67, trivial, trivial, trivial, trivial, trivial, trivial, trivial⟩
set_option maxRecDepth 100000 in
theorem zok1_61 : zchk 61 zc61 zc61 = true := by decide +kernel
set_option maxRecDepth 100000 in
theorem zok2_61 : zall2 "FrameDeltas$State" zc61 := ⟨trivial, trivial, trivial, trivial, trivial, trivial, Or.inl zl_96, trivial, trivial, trivial, trivial, zm_6_46, Or.inr zl_74, trivial, trivial, trivial, trivial, trivial, trivial, trivial⟩
set_option maxRecDepth 100000 in
theorem zok1_62 : zchk 62 zc62 zc62 = true := by decide +kernel
set_option maxRecDepth 100000 in
theorem zok2_62 : zall2 "FrameDeltas" zc62 := ⟨trivial, zm_7_66, trivial, trivial, zm_7_66, trivial, trivial, trivial, trivial, zm_7_70, trivial, Or.inl zl_219, trivial, Or.inr zl_98, trivial, Or.inl zl_219, Or.inr zl_92, trivial, trivial, zm_7_79, trivial, Or.inl zl_219, Or.inr zl_92, zm_7_83, trivial, trivial⟩
set_option maxRecDepth 100000 in
theorem zok1_63 : zchk 63 zc63 zc63 = true := by decide +kernel
set_option maxRecDepth 100000 in
theorem zok2_63 : zall2 "FrameDeltas" zc63 := ⟨trivial, Or.inl zl_219, Or.inr zl_92, trivial, zm_7_87, trivial, trivial, trivial, trivial, trivial, trivial, trivial, trivial, trivial, zm_7_70, trivial, Or.inl zl_219, Or.inr zl_92, trivial, zm_7_90, trivial, trivial, Or.inl zl_219, Or.inr zl_92, trivial, trivial, zm_7_94, trivial, trivial, trivial⟩
set_option maxRecDepth 100000 in
theorem zok1_64 : zchk 64 zc64 zc64 = true := by decide +kernel
set_option maxRecDepth 100000 in
theorem zok2_64 : zall2 "FrameDeltas" zc64 := ⟨trivial, Or.inl zl_219, Or.inr zl_92, trivial, zm_7_87, trivial, trivial, trivial, trivial, Or.inl zl_219, Or.inr zl_92, trivial, zm_7_90, trivial, trivial⟩
set_option maxRecDepth 100000 in
theorem zok1_65 : zchk 65 zc65 zc65 = true := by decide +kernel
set_option maxRecDepth 100000 in
theorem zok2_65 : zall2 "FrameDeltas" zc65 := ⟨trivial, trivial, trivial, trivial, trivial, trivial, trivial, trivial, Or.inl zl_223, Or.inr zl_131, trivial, trivial, trivial, trivial, trivial, Or.inl zl_223, trivial, trivial, zm_7_100, trivial, trivial⟩
set_option maxRecDepth 100000 in
theorem zok1_66 : zchk 66 zc66 zc66 = true := by decide +kernel
set_option maxRecDepth 100000 in
theorem zok2_66 : zall2 "FrameDeltas" zc66 := ⟨trivial, Or.inl zl_223, Or.inr zl_131, trivial, trivial, Or.inl zl_223, trivial, Or.inr zl_131, trivial, trivial, trivial⟩
set_option maxRecDepth 100000 in
theorem zok1_67 : zchk 67 zc67 zc67 = true := by decide +kernel
set_option maxRecDepth 100000 in
theorem zok2_67 : zall2 "FrameDeltas" zc67 := ⟨trivial, Or.inl zl_223, trivial, Or.inl zl_219, zm_7_104, trivial, trivial, trivial, trivial, trivial, trivial, trivial, trivial, zm_7_70, trivial, Or.inl zl_223, trivial, Or.inl zl_219, trivial, Or.inl zl_227, zm_7_108, trivial, trivial, Or.inl zl_223, trivial, Or.inr zl_131, trivial, trivial, trivial⟩
set_option maxRecDepth 100000 in
theorem zok1_68 : zchk 68 zc68 zc68 = true := by decide +kernel
set_option maxRecDepth 100000 in
theorem zok2_68 : zall2 "FrameDeltas" zc68 := ⟨trivial, Or.inl zl_219, trivial, zm_7_112, trivial, trivial, Or.inl zl_219, Or.inr zl_92, trivial, trivial, zm_7_115, trivial, trivial, trivial, trivial, Or.inl zl_219, trivial, zm_7_119, trivial, trivial, trivial, trivial, Or.inl zl_219, trivial, zm_7_122, trivial, trivial, zm_7_126, trivial, trivial⟩
set_option maxRecDepth 100000 in
theorem zok1_69 : zchk 69 zc69 zc69 = true := by decide +kernel
set_option maxRecDepth 100000 in
theorem zok2_69 : zall2 "FrameDeltas" zc69 := ⟨trivial, Or.inl zl_219, Or.inr zl_98, trivial, trivial, trivial, trivial, trivial, trivial, zm_7_130, trivial, trivial⟩
set_option maxRecDepth 100000 in
theorem zok1_70 : zchk 70 zc70 zc70 = true := by decide +kernel
set_option maxRecDepth 100000 in
theorem zok2_70 : zall2 "FrameDeltas" zc70 := ⟨trivial, Or.inl zl_219, trivial, zm_7_133, trivial, trivial, trivial, trivial, Or.inl zl_219, trivial, zm_7_136, trivial, trivial, trivial, trivial, Or.inl zl_219, Or.inr zl_98, trivial, trivial, trivial, trivial, trivial, trivial, zm_7_130, trivial, trivial⟩
set_option maxRecDepth 100000 in
theorem zok1_71 : zchk 71 zc71 zc71 = true := by decide +kernel
set_option maxRecDepth 100000 in
theorem zok2_71 : zall2 "FrameDeltas" zc71 := ⟨trivial, Or.inl zl_219, Or.inr zl_98, trivial, trivial, trivial, trivial, trivial, trivial, zm_7_139, zm_7_130, trivial, trivial⟩
set_option maxRecDepth 100000 in
theorem zok1_72 : zchk 72 zc72 zc72 = true := by decide +kernel
set_option maxRecDepth 100000 in
theorem zok2_72 : zall2 "FrameDeltas" zc72 := ⟨trivial, Or.inl zl_219, Or.inr zl_98, trivial, trivial, trivial, trivial, trivial, zm_7_70, trivial, Or.inl zl_219, trivial, Or.inr zl_98, trivial, trivial, Or.inr zl_98, trivial, Or.inl zl_219, Or.inr zl_98, trivial, trivial⟩
set_option maxRecDepth 100000 in
theorem zok1_73 : zchk 73 zc73 zc73 = true := by decide +kernel
set_option maxRecDepth 100000 in
theorem zok2_73 : zall2 "FrameDeltas" zc73 := ⟨trivial, Or.inl zl_219, Or.inr zl_98, trivial, trivial, trivial, trivial, trivial, zm_7_70, trivial, Or.inl zl_225, trivial, Or.inl zl_219, trivial, Or.inl zl_224, trivial, Or.inl zl_226, zm_7_142, trivial, trivial, trivial, trivial, Or.inl zl_219, Or.inr zl_98, trivial, trivial, Or.inl zl_224, trivial, Or.inl zl_219, trivial, zm_7_146, trivial, Or.inl zl_219, trivial, Or.inl zl_225, trivial, zm_7_150, zm_7_153, trivial, trivial, trivial, Or.inl zl_225, Or.inr zl_203, trivial, trivial⟩
set_option maxRecDepth 100000 in
theorem zok1_74 : zchk 74 zc74 zc74 = true := by decide +kernel
set_option maxRecDepth 100000 in
theorem zok2_74 : zall2 "FrameDeltas" zc74 := ⟨trivial, trivial, trivial, trivial, trivial, trivial, trivial, trivial, trivial, trivial, trivial, trivial, trivial, trivial, trivial, trivial, trivial, trivial, trivial, trivial, zm_7_70, trivial, Or.inl zl_219, Or.inr zl_101, trivial, trivial, trivial, Or.inl zl_219, Or.inr zl_103, trivial, trivial, trivial, Or.inl zl_219, Or.inr zl_106, trivial, trivial, trivial, trivial, trivial, trivial, trivial, Or.inl zl_219, trivial, Or.inr zl_101, trivial, Or.inl zl_219, trivial, Or.inr zl_103, trivial, Or.inl zl_219, trivial, Or.inr zl_106, trivial, trivial, trivial, trivial, trivial, trivial, trivial⟩
set_option maxRecDepth 100000 in
theorem zok1_75 : zchk 75 zc75 zc75 = true := by decide +kernel
set_option maxRecDepth 100000 in
theorem zok2_75 : zall2 "FrameDeltas" zc75 := ⟨trivial, Or.inl zl_219, trivial, zm_7_133, trivial, trivial, trivial, trivial, trivial, trivial, trivial, trivial, trivial, trivial, trivial, trivial, trivial, trivial, trivial, trivial, Or.inl zl_219, trivial, zm_7_146, Or.inr zl_79, trivial, trivial, trivial, trivial, trivial, zm_7_70, trivial, Or.inl zl_219, trivial, zm_7_146, trivial, Or.inr zl_79, trivial, Or.inl zl_219, zm_7_173, trivial, trivial⟩
set_option maxRecDepth 100000 in
theorem zok1_76 : zchk 76 zc76 zc76 = true := by decide +kernel
set_option maxRecDepth 100000 in
theorem zok2_76 : zall2 "FrameDeltas" zc76 := ⟨trivial, Or.inl zl_219, trivial, zm_7_133, trivial, trivial, trivial, trivial, Or.inl zl_219, trivial, zm_7_146, trivial, trivial, trivial, trivial, Or.inr zl_70, trivial, trivial, trivial, trivial, trivial, Or.inr zl_70, trivial, trivial, Or.inr zl_75, trivial, trivial, Or.inl zl_219, trivial, zm_7_180, trivial, trivial, Or.inl zl_219, trivial, zm_7_183, trivial, trivial, Or.inl zl_219, trivial, zm_7_119, trivial, trivial, trivial, trivial, trivial, trivial, trivial, zm_7_186, trivial, trivial, trivial, zm_7_186, trivial, trivial, trivial, zm_7_186, trivial, trivial, trivial, zm_7_186, trivial, trivial, trivial, trivial⟩
set_option maxRecDepth 100000 in
theorem zok1_77 : zchk 77 zc77 zc77 = true := by decide +kernel
set_option maxRecDepth 100000 in
theorem zok2_77 : zall2 "FrameDeltas" zc77 := ⟨trivial, Or.inl zl_219, trivial, zm_7_133, trivial, trivial, Or.inl zl_219, Or.inr zl_92, trivial, zm_7_189, trivial, trivial, trivial, trivial, trivial, trivial, trivial, trivial, trivial, trivial, trivial, Or.inl zl_219, trivial, zm_7_146, trivial, trivial, trivial, trivial, zm_7_192, trivial, trivial, trivial, trivial, trivial, trivial, trivial, trivial, trivial, trivial, trivial, trivial, trivial, trivial, trivial, trivial, trivial, trivial, trivial, trivial, trivial, trivial, trivial, trivial, trivial, trivial, zm_7_192, trivial, trivial⟩
set_option maxRecDepth 100000 in
theorem zok1_78 : zchk 78 zc78 zc78 = true := by decide +kernel
set_option maxRecDepth 100000 in
theorem zok2_78 : zall2 "FrameDeltas" zc78 := ⟨trivial, Or.inl zl_219, trivial, zm_7_133, trivial, trivial, Or.inl zl_219, Or.inr zl_92, trivial, zm_7_189, trivial, trivial, trivial, trivial, trivial, trivial, trivial, trivial, trivial, trivial, trivial, trivial, trivial, Or.inl zl_219, trivial, zm_7_146, trivial, trivial, trivial, trivial, zm_7_192, trivial, trivial, trivial, trivial, trivial, trivial, trivial, trivial, trivial, trivial, trivial, trivial, trivial, Or.inl zl_219, trivial, Or.inr zl_70, zm_7_146, Or.inr zl_65, trivial, trivial, trivial, trivial, Or.inl zl_224, Or.inr zl_181, trivial, trivial, trivial, Or.inr zl_65, trivial, trivial, zm_7_202, trivial, trivial, Or.inr zl_172, trivial, trivial, trivial, trivial, trivial, trivial, trivial, zm_7_211, trivial, trivial, trivial, zm_7_214, trivial, trivial⟩
set_option maxRecDepth 100000 in
theorem zok1_79 : zchk 79 zc79 zc79 = true := by decide +kernel
set_option maxRecDepth 100000 in
theorem zok2_79 : zall2 "FrameDeltas" zc79 := ⟨trivial, Or.inl zl_219, trivial, zm_7_133, trivial, trivial, Or.inl zl_219, Or.inr zl_92, trivial, zm_7_87, trivial, trivial, trivial, trivial, Or.inl zl_219, trivial, zm_7_119, trivial, trivial, trivial, trivial, Or.inl zl_219, trivial, zm_7_122, trivial, zm_7_90, trivial, trivial⟩
set_option maxRecDepth 100000 in
theorem zok1_80 : zchk 80 zc80 zc80 = true := by decide +kernel
set_option maxRecDepth 100000 in
theorem zok2_80 : zall2 "FrameDeltas" zc80 := ⟨trivial, trivial, trivial, Or.inl zl_219, Or.inr zl_92, Or.inr zl_40, trivial, trivial, Or.inl zl_219, Or.inr zl_92, Or.inr zl_43, trivial, trivial, Or.inl zl_219, Or.inr zl_98, trivial, trivial, Or.inl zl_219, Or.inr zl_101, trivial, trivial, Or.inl zl_219, Or.inr zl_103, trivial, trivial, Or.inl zl_219, Or.inr zl_106, trivial, trivial, Or.inl zl_219, zm_7_223, trivial, trivial, Or.inl zl_219, zm_7_173, trivial, trivial, Or.inl zl_223, Or.inr zl_131, trivial, trivial, Or.inl zl_222, trivial, trivial, trivial, trivial⟩
set_option maxRecDepth 100000 in
theorem zok1_81 : zchk 81 zc81 zc81 = true := by decide +kernel
set_option maxRecDepth 100000 in
theorem zok2_81 : zall2 "FrameDeltas" zc81 := ⟨trivial, Or.inl zl_219, trivial, zm_7_112, trivial, trivial, trivial, trivial, Or.inl zl_219, trivial, zm_7_119, trivial, trivial, trivial, trivial, trivial, zm_7_226, trivial, trivial⟩
set_option maxRecDepth 100000 in
theorem zok1_82 : zchk 82 zc82 zc82 = true := by decide +kernel
set_option maxRecDepth 100000 in
theorem zok2_82 : zall2 "FrameDeltas" zc82 := ⟨trivial, Or.inl zl_219, trivial, zm_7_112, trivial, trivial, Or.inl zl_219, trivial, zm_7_112, trivial, trivial, trivial, trivial, Or.inl zl_219, trivial, zm_7_119, trivial, trivial, Or.inl zl_219, trivial, zm_7_119, trivial, trivial, trivial, trivial, Or.inl zl_219, trivial, zm_7_122, trivial, Or.inl zl_219, trivial, zm_7_122, zm_7_229, trivial, trivial⟩
set_option maxRecDepth 100000 in
theorem zok1_83 : zchk 83 zc83 zc83 = true := by decide +kernel
set_option maxRecDepth 100000 in
theorem zok2_83 : zall2 "FrameDeltas" zc83 := ⟨trivial, Or.inl zl_219, trivial, zm_7_133, trivial, trivial, Or.inl zl_219, Or.inr zl_92, trivial, zm_7_189, trivial, trivial, trivial, trivial, Or.inl zl_219, trivial, zm_7_119, trivial, trivial, trivial, trivial, Or.inl zl_219, trivial, zm_7_122, trivial, trivial, Or.inl zl_219, Or.inr zl_92, trivial, zm_7_233, trivial, trivial, Or.inl zl_219, Or.inr zl_92, trivial, zm_7_236, trivial, trivial, trivial, trivial, trivial, Or.inr zl_43, trivial, trivial, trivial, trivial, trivial, trivial, trivial, Or.inr zl_40, trivial, trivial, trivial, trivial, Or.inl zl_219, Or.inr zl_92, trivial, trivial, trivial, trivial, trivial, zm_7_239, trivial, trivial, trivial, trivial, trivial, trivial, trivial, trivial, trivial, trivial, trivial, trivial, trivial, trivial⟩
set_option maxRecDepth 100000 in
theorem zok1_84 : zchk 84 zc84 zc84 = true := by decide +kernel
set_option maxRecDepth 100000 in
theorem zok2_84 : zall2 "FrameDeltas" zc84 := ⟨trivial, Or.inl zl_219, trivial, zm_7_112, trivial, trivial, trivial, trivial, Or.inl zl_219, trivial, zm_7_119, trivial, trivial, trivial, trivial, trivial, Or.inl zl_219, trivial, zm_7_122, zm_7_243, trivial, trivial⟩
set_option maxRecDepth 100000 in
theorem zok1_85 : zchk 85 zc85 zc85 = true := by decide +kernel
set_option maxRecDepth 100000 in
theorem zok2_85 : zall2 "FrameDeltas" zc85 := ⟨trivial, Or.inl zl_219, Or.inr zl_98, trivial, trivial, trivial, trivial, trivial, trivial, trivial, trivial, trivial, trivial, Or.inl zl_219, Or.inr zl_98, trivial, trivial, trivial, Or.inl zl_219, trivial, zm_7_180, zm_7_246, trivial, trivial, trivial, trivial, trivial, trivial⟩
set_option maxRecDepth 100000 in
theorem zok1_86 : zchk 86 zc86 zc86 = true := by decide +kernel
set_option maxRecDepth 100000 in
theorem zok2_86 : zall2 "FrameDeltas" zc86 := ⟨trivial, Or.inl zl_219, trivial, zm_7_133, trivial, trivial, trivial, trivial, trivial, trivial, trivial, trivial, trivial, Or.inl zl_219, Or.inr zl_98, trivial, trivial, Or.inl zl_219, trivial, trivial, zm_7_251, trivial, trivial, trivial, trivial, trivial, trivial, trivial⟩
set_option maxRecDepth 100000 in
theorem zok1_87 : zchk 87 zc87 zc87 = true := by decide +kernel
set_option maxRecDepth 100000 in
theorem zok2_87 : zall2 "FrameDeltas" zc87 := ⟨trivial, Or.inl zl_219, trivial, zm_7_133, trivial, trivial, trivial, trivial, Or.inl zl_219, trivial, zm_7_146, Or.inr zl_79, trivial, trivial, trivial, trivial, Or.inl zl_219, trivial, zm_7_122, trivial, trivial, trivial, trivial, trivial, trivial, trivial, trivial, trivial, Or.inl zl_219, Or.inr zl_98, trivial, trivial, Or.inl zl_219, trivial, zm_7_119, trivial, trivial, trivial, Or.inl zl_219, trivial, zm_7_122, zm_7_229, trivial, trivial, trivial, trivial, trivial, trivial, trivial, trivial, trivial, trivial, trivial, trivial, trivial⟩
set_option maxRecDepth 100000 in
theorem zok1_88 : zchk 88 zc88 zc88 = true := by decide +kernel
set_option maxRecDepth 100000 in
theorem zok2_88 : zall2 "FrameDeltas" zc88 := ⟨trivial, Or.inl zl_219, Or.inr zl_98, trivial, trivial, trivial, trivial, trivial, Or.inl zl_225, trivial, Or.inl zl_219, trivial, Or.inl zl_224, trivial, Or.inl zl_226, zm_7_142, trivial, Or.inl zl_225, Or.inr zl_203, trivial, trivial⟩
set_option maxRecDepth 100000 in
theorem zok1_89 : zchk 89 zc89 zc89 = true := by decide +kernel
set_option maxRecDepth 100000 in
theorem zok2_89 : zall2 "FrameDeltas" zc89 := ⟨trivial, Or.inl zl_219, Or.inr zl_98, trivial, trivial, trivial, trivial, trivial, Or.inl zl_225, trivial, Or.inl zl_219, trivial, Or.inl zl_224, trivial, Or.inl zl_226, zm_7_142, trivial, Or.inl zl_225, Or.inr zl_205, trivial, trivial⟩
set_option maxRecDepth 100000 in
theorem zok1_90 : zchk 90 zc90 zc90 = true := by decide +kernel
set_option maxRecDepth 100000 in
theorem zok2_90 : zall2 "FrameDeltas" zc90 := ⟨trivial, Or.inl zl_222, trivial, trivial, trivial, trivial, trivial, trivial, Or.inl zl_222, trivial, trivial, Or.inl zl_222, trivial, Or.inl zl_219, trivial, trivial, Or.inl zl_222, zm_7_257, zm_7_261, trivial, Or.inl zl_222, trivial, trivial⟩
set_option maxRecDepth 100000 in
theorem zok1_91 : zchk 91 zc91 zc91 = true := by decide +kernel
set_option maxRecDepth 100000 in
theorem zok2_91 : zall2 "FrameDeltas" zc91 := ⟨trivial, trivial, trivial, trivial, trivial, trivial, trivial, trivial, trivial, trivial, trivial, trivial, trivial, trivial⟩
set_option maxRecDepth 100000 in
theorem zok1_92 : zchk 92 zc92 zc92 = true := by decide +kernel
set_option maxRecDepth 100000 in
theorem zok2_92 : zall2 "FrameDeltas" zc92 := ⟨trivial, trivial, Or.inl zl_222, zm_7_257, trivial, Or.inl zl_219, zm_7_261, trivial, Or.inl zl_222, trivial, trivial, trivial, trivial, Or.inl zl_222, trivial, trivial, Or.inl zl_222, trivial, trivial, trivial, Or.inl zl_221, trivial, trivial, trivial, trivial, Or.inl zl_221, trivial, trivial⟩
set_option maxRecDepth 100000 in
theorem zok1_93 : zchk 93 zc93 zc93 = true := by decide +kernel
set_option maxRecDepth 100000 in
theorem zok2_93 : zall2 "FrameDeltas" zc93 := ⟨trivial, Or.inl zl_221, trivial, trivial, trivial, trivial, trivial, trivial, trivial, trivial, trivial, Or.inl zl_220, trivial, trivial, trivial, Or.inl zl_220, trivial, trivial, trivial, trivial, Or.inl zl_219, trivial, trivial⟩
set_option maxRecDepth 100000 in
theorem zok1_94 : zchk 94 zc94 zc94 = true := by decide +kernel
set_option maxRecDepth 100000 in
theorem zok2_94 : zall2 "FrameDeltas" zc94 := ⟨trivial, zm_7_70, trivial, Or.inl zl_219, trivial, Or.inl zl_219, Or.inr zl_98, zm_7_146, trivial, trivial, Or.inr zl_65, trivial, Or.inl zl_219, Or.inr zl_92, zm_7_265, trivial, Or.inl zl_224, trivial, trivial, Or.inl zl_219, trivial, zm_7_153, trivial, Or.inl zl_219, trivial, Or.inr zl_98, trivial, trivial, Or.inr zl_98, trivial, Or.inr zl_75, trivial, trivial⟩
set_option maxRecDepth 100000 in
theorem zok1_95 : zchk 95 zc95 zc95 = true := by decide +kernel
set_option maxRecDepth 100000 in
theorem zok2_95 : zall2 "FrameDeltas" zc95 := ⟨trivial, Or.inl zl_226, Or.inr zl_65, trivial, Or.inl zl_219, Or.inr zl_92, zm_7_265, trivial, Or.inl zl_224, trivial, Or.inl zl_226, trivial, Or.inl zl_219, trivial, zm_7_153, trivial, Or.inl zl_226, Or.inr zl_75, trivial, trivial⟩
set_option maxRecDepth 100000 in
theorem zok1_96 : zchk 96 zc96 zc96 = true := by decide +kernel
set_option maxRecDepth 100000 in
theorem zok2_96 : zall2 "FrameDeltas" zc96 := ⟨trivial, trivial, trivial, trivial, zm_7_226, trivial, trivial, trivial, trivial, trivial, trivial, trivial, Or.inl zl_219, Or.inr zl_98, trivial, trivial, Or.inl zl_219, trivial, zm_7_136, trivial, trivial, trivial, trivial, zm_7_226, trivial, trivial, Or.inl zl_219, trivial, zm_7_183, trivial, trivial, trivial, trivial, trivial, trivial, trivial, trivial, trivial, trivial, trivial, trivial, trivial, trivial, trivial, trivial, trivial, trivial, trivial, trivial, trivial, trivial, trivial⟩
set_option maxRecDepth 100000 in
theorem zok1_97 : zchk 97 zc97 zc97 = true := by decide +kernel
set_option maxRecDepth 100000 in
theorem zok2_97 : zall2 "FrameDeltas" zc97 := ⟨trivial, Or.inr zl_40, trivial, trivial, trivial, trivial, trivial, trivial, Or.inl zl_228, trivial, trivial, trivial, Or.inr zl_43, trivial, trivial, trivial, trivial, trivial, zm_7_268, trivial, trivial, trivial, trivial, trivial, trivial, trivial, trivial, trivial, trivial, trivial, trivial, Or.inl zl_228, trivial, trivial, trivial, trivial, trivial, trivial, trivial, trivial, zm_7_126, trivial, trivial, trivial, trivial, trivial, trivial, trivial, trivial, trivial, trivial, trivial, trivial, trivial, trivial, trivial, trivial, trivial, trivial, Or.inl zl_228, trivial, trivial, trivial, Or.inl zl_228, trivial, trivial, trivial, trivial, trivial, trivial, trivial, trivial, trivial, trivial, trivial, trivial, trivial, trivial, trivial, trivial, trivial, zm_7_239, trivial, trivial, trivial, trivial, trivial, trivial, trivial, trivial, trivial⟩
set_option maxRecDepth 100000 in
theorem zok1_98 : zchk 98 zc98 zc98 = true := by decide +kernel
set_option maxRecDepth 100000 in
theorem zok2_98 : zall2 "FrameDeltasModel" zc98 := ⟨trivial, trivial, trivial, trivial, trivial, trivial, trivial, trivial, trivial, trivial, trivial⟩
set_option maxRecDepth 100000 in
theorem zok1_99 : zchk 99 zc99 zc99 = true := by decide +kernel
set_option maxRecDepth 100000 in
theorem zok2_99 : zall2 "FrameDeltasModel" zc99 := ⟨trivial, Or.inl zl_756, trivial, trivial, trivial, trivial, trivial, trivial, trivial, trivial, Or.inl zl_755, trivial, trivial, Or.inl zl_755, trivial, trivial, trivial, trivial, trivial, trivial, trivial, trivial, trivial, Or.inl zl_756, trivial, trivial, Or.inl zl_756, trivial, trivial, trivial, trivial, trivial, trivial, Or.inl zl_755, trivial, trivial, Or.inl zl_756, trivial, trivial, trivial, trivial, Or.inl zl_754, trivial, trivial, trivial, trivial, trivial, trivial, trivial, Or.inl zl_756, trivial, trivial, Or.inl zl_756, trivial, trivial⟩
set_option maxRecDepth 100000 in
theorem zok1_100 : zchk 100 zc100 zc100 = true := by decide +kernel
set_option maxRecDepth 100000 in
theorem zok2_100 : zall2 "FrameDeltasModel" zc100 := ⟨trivial, Or.inl zl_756, trivial, trivial, trivial, trivial, trivial, Or.inl zl_756, trivial, trivial, Or.inl zl_756, trivial, trivial, trivial, trivial, trivial, trivial, Or.inl zl_754, trivial, trivial, Or.inl zl_755, trivial, trivial, Or.inl zl_756, trivial, trivial, trivial, trivial, trivial, trivial, trivial, trivial, Or.inl zl_756, trivial, trivial⟩
set_option maxRecDepth 100000 in
theorem zok1_101 : zchk 101 zc101 zc101 = true := by decide +kernel
set_option maxRecDepth 100000 in
theorem zok2_101 : zall2 "FrameDeltasModel" zc101 := ⟨trivial, Or.inl zl_754, trivial, trivial, trivial, Or.inl zl_754, trivial, trivial, trivial, trivial, trivial⟩
set_option maxRecDepth 100000 in
theorem zok1_102 : zchk 102 zc102 zc102 = true := by decide +kernel
set_option maxRecDepth 100000 in
theorem zok2_102 : zall2 "FrameDeltasModel" zc102 := ⟨trivial, zm_8_42, trivial, trivial, trivial, trivial⟩
set_option maxRecDepth 100000 in
theorem zok1_103 : zchk 103 zc103 zc103 = true := by decide +kernel
set_option maxRecDepth 100000 in
theorem zok2_103 : zall2 "FrameDeltasModel" zc103 := ⟨trivial, trivial, trivial, Or.inl zl_754, trivial, trivial, trivial, trivial, zm_8_46, trivial, trivial⟩
set_option maxRecDepth 100000 in
theorem zok1_104 : zchk 104 zc104 zc104 = true := by decide +kernel
set_option maxRecDepth 100000 in
theorem zok2_104 : zall2 "FrameDeltasModel" zc104 := ⟨trivial, trivial, trivial, Or.inl zl_754, trivial, trivial, trivial, trivial, trivial, trivial, Or.inl zl_754, trivial, trivial, trivial, trivial, trivial, trivial, trivial, trivial, trivial, trivial⟩
set_option maxRecDepth 100000 in
theorem zok1_105 : zchk 105 zc105 zc105 = true := by decide +kernel
set_option maxRecDepth 100000 in
theorem zok2_105 : zall2 "FrameDeltasModel" zc105 := ⟨trivial, Or.inl zl_754, trivial, trivial, trivial, trivial, trivial, trivial⟩
set_option maxRecDepth 100000 in
theorem zok1_106 : zchk 106 zc106 zc106 = true := by decide +kernel
set_option maxRecDepth 100000 in
theorem zok2_106 : zall2 "FrameDeltasModel" zc106 := ⟨trivial, trivial, trivial, trivial, trivial, trivial, zm_8_50, trivial, trivial, trivial, trivial, trivial, zm_8_50, trivial, trivial, trivial, trivial, trivial⟩
set_option maxRecDepth 100000 in
theorem zok1_107 : zchk 107 zc107 zc107 = true := by decide +kernel
set_option maxRecDepth 100000 in
theorem zok2_107 : zall2 "FrameDeltasModel" zc107 := ⟨trivial, Or.inl zl_754, trivial, trivial, trivial, trivial, trivial, trivial, trivial, trivial, trivial, trivial, trivial, trivial, trivial, zm_8_50, trivial, trivial, trivial, trivial, trivial, Or.inl zl_754, trivial, trivial, trivial, zm_8_50, trivial, trivial, trivial, trivial, trivial, trivial, trivial, trivial, trivial, zm_8_50, trivial, trivial, trivial, trivial, trivial⟩
set_option maxRecDepth 100000 in
theorem zok1_108 : zchk 108 zc108 zc108 = true := by decide +kernel
set_option maxRecDepth 100000 in
theorem zok2_108 : zall2 "FrameDeltasModel" zc108 := ⟨trivial, trivial, trivial, trivial, trivial, trivial, Or.inl zl_754, trivial, trivial, trivial, trivial, trivial, trivial, zm_8_54, trivial, trivial, trivial, trivial, trivial, trivial, trivial, trivial, trivial, trivial, trivial⟩
set_option maxRecDepth 100000 in
theorem zok1_109 : zchk 109 zc109 zc109 = true := by decide +kernel
set_option maxRecDepth 100000 in
theorem zok2_109 : zall2 "FrameDeltasModel" zc109 := ⟨trivial, trivial, trivial, trivial, trivial, trivial, trivial, trivial, trivial, trivial, trivial, zm_8_46, trivial, trivial, trivial, trivial, zm_8_46, trivial, trivial, trivial, trivial, zm_8_58, trivial, Or.inl zl_754, trivial, trivial, trivial, trivial, Or.inl zl_754, trivial, trivial, trivial, trivial, Or.inl zl_754, trivial, trivial, trivial, trivial, trivial, trivial, trivial, trivial, trivial, Or.inl zl_754, trivial, trivial, trivial, trivial, trivial, trivial, zm_8_61, trivial, trivial⟩
set_option maxRecDepth 100000 in
theorem zok1_110 : zchk 110 zc110 zc110 = true := by decide +kernel
set_option maxRecDepth 100000 in
theorem zok2_110 : zall2 "FrameDeltasModel" zc110 := ⟨trivial, trivial, trivial, zm_8_42, trivial, trivial, zm_8_46, trivial, trivial⟩
set_option maxRecDepth 100000 in
theorem zok1_111 : zchk 111 zc111 zc111 = true := by decide +kernel
set_option maxRecDepth 100000 in
theorem zok2_111 : zall2 "FrameDeltasModel" zc111 := ⟨trivial, trivial, zm_8_64, trivial, trivial, trivial, trivial, zm_8_46, trivial, trivial, trivial, trivial, zm_8_58, trivial, Or.inl zl_754, trivial, trivial, trivial, trivial, trivial, trivial, Or.inl zl_754, trivial, trivial, trivial, trivial, trivial, trivial, trivial, trivial⟩
set_option maxRecDepth 100000 in
theorem zok1_112 : zchk 112 zc112 zc112 = true := by decide +kernel
set_option maxRecDepth 100000 in
theorem zok2_112 : zall2 "FrameDeltasModel" zc112 := ⟨trivial, trivial, zm_8_64, trivial, trivial, Or.inl zl_754, trivial, trivial, trivial, trivial, trivial, trivial, trivial, trivial⟩
set_option maxRecDepth 100000 in
theorem zok1_113 : zchk 113 zc113 zc113 = true := by decide +kernel
set_option maxRecDepth 100000 in
theorem zok2_113 : zall2 "FrameDeltasModel" zc113 := ⟨trivial, trivial, trivial, zm_8_46, trivial, trivial, trivial, trivial, Or.inl zl_758, trivial, trivial, trivial, trivial, trivial, Or.inl zl_757, trivial, Or.inl zl_758, trivial, trivial, trivial, trivial, trivial, Or.inl zl_758, trivial, trivial, Or.inl zl_758, trivial, Or.inl zl_758, trivial, trivial⟩
set_option maxRecDepth 100000 in
theorem zok1_114 : zchk 114 zc114 zc114 = true := by decide +kernel
set_option maxRecDepth 100000 in
theorem zok2_114 : zall2 "FrameDeltasModel" zc114 := ⟨trivial, Or.inl zl_758, trivial, trivial, trivial, Or.inl zl_758, trivial, trivial, trivial⟩
set_option maxRecDepth 100000 in
theorem zok1_115 : zchk 115 zc115 zc115 = true := by decide +kernel
set_option maxRecDepth 100000 in
theorem zok2_115 : zall2 "FrameDeltasModel" zc115 := ⟨trivial, Or.inl zl_759, trivial, Or.inl zl_758, trivial, trivial, Or.inl zl_757, trivial, Or.inl zl_759, trivial, trivial, trivial, trivial, trivial, trivial, trivial⟩
set_option maxRecDepth 100000 in
theorem zok1_116 : zchk 116 zc116 zc116 = true := by decide +kernel
set_option maxRecDepth 100000 in
theorem zok2_116 : zall2 "FrameDeltasModel" zc116 := ⟨trivial, zm_8_73, trivial, trivial, trivial, trivial, Or.inl zl_759, trivial, trivial, Or.inl zl_759, trivial, trivial, trivial, Or.inl zl_759, Or.inl zl_760, trivial, trivial, Or.inl zl_762, trivial, trivial, zm_8_73, trivial, trivial, trivial, trivial, trivial, Or.inl zl_763, trivial, trivial, Or.inl zl_759, trivial, Or.inl zl_763, trivial, trivial, trivial, trivial, trivial, Or.inl zl_759, trivial, Or.inl zl_763, trivial, trivial, zm_8_73, trivial, trivial, zm_8_46, trivial, trivial, trivial, Or.inl zl_761, trivial, zm_8_73, trivial, trivial, zm_8_46, trivial, trivial, trivial, Or.inl zl_759, trivial, Or.inl zl_760, trivial, trivial, trivial, zl_864, trivial, Or.inl zl_762, trivial, trivial, zm_8_73, trivial, trivial, zl_865, trivial, trivial, trivial, trivial, zl_866, Or.inl zl_762, trivial, trivial, Or.inl zl_759, trivial, trivial, Or.inl zl_759, trivial, trivial, zm_8_73, trivial, trivial, zm_8_46, trivial, trivial, Or.inl zl_759, trivial, trivial, zm_8_73, trivial, trivial, zm_8_46, trivial, trivial, trivial, Or.inl zl_762, zl_867, trivial, trivial, zl_868, trivial, Or.inl zl_762, trivial, trivial, zm_8_73, trivial, trivial, zl_869, trivial, trivial, trivial, Or.inl zl_762, Or.inl zl_762, trivial, trivial, Or.inl zl_759, trivial, trivial, Or.inl zl_759, trivial, trivial, trivial, Or.inl zl_759, trivial, trivial, trivial, trivial, trivial, Or.inl zl_757, trivial, trivial, trivial, trivial, trivial, Or.inl zl_759, trivial, trivial, trivial, trivial, trivial, trivial, trivial, Or.inl zl_761, trivial, trivial, trivial, Or.inl zl_763, trivial, trivial, trivial, trivial, zm_8_73, trivial, trivial, trivial, trivial, zm_8_73, trivial, trivial, trivial, trivial, trivial, Or.inl zl_761, trivial, trivial, Or.inl zl_759, trivial, Or.inl zl_763, trivial, trivial, zm_8_73, trivial, trivial, trivial, trivial, trivial, Or.inl zl_759, trivial, trivial⟩
set_option maxRecDepth 100000 in
theorem zok1_117 : zchk 117 zc117 zc117 = true := by decide +kernel
set_option maxRecDepth 100000 in
theorem zok2_117 : zall2 "FrameDeltasModel" zc117 := ⟨trivial, trivial, Or.inl zl_764, trivial, trivial, trivial, trivial, trivial, trivial, Or.inl zl_764, trivial, Or.inl zl_764, trivial, trivial, zm_8_105, trivial, trivial⟩
set_option maxRecDepth 100000 in
theorem zok1_118 : zchk 118 zc118 zc118 = true := by decide +kernel
set_option maxRecDepth 100000 in
theorem zok2_118 : zall2 "FrameDeltasModel" zc118 := ⟨trivial, Or.inl zl_763, trivial, trivial, Or.inl zl_762, trivial, trivial, trivial, trivial, Or.inl zl_762, trivial, trivial, trivial, Or.inl zl_761, trivial, trivial, trivial, trivial, trivial, zm_8_46, trivial, trivial, Or.inl zl_763, trivial, trivial, trivial, trivial, trivial, trivial, trivial, trivial, trivial, zm_8_108, trivial, trivial, trivial, trivial, trivial, trivial, trivial⟩
set_option maxRecDepth 100000 in
theorem zok1_119 : zchk 119 zc119 zc119 = true := by decide +kernel
set_option maxRecDepth 100000 in
theorem zok2_119 : zall2 "FrameDeltasModel" zc119 := ⟨trivial, trivial, Or.inl zl_754, trivial, trivial, trivial, trivial, trivial, trivial, trivial⟩
set_option maxRecDepth 100000 in
theorem zok1_120 : zchk 120 zc120 zc120 = true := by decide +kernel
set_option maxRecDepth 100000 in
theorem zok2_120 : zall2 "FrameDeltasModel" zc120 := ⟨trivial, trivial, trivial, trivial, trivial, trivial, Or.inl zl_765, trivial, trivial, Or.inl zl_754, trivial, trivial, trivial, trivial, trivial, trivial, trivial, trivial, trivial⟩
set_option maxRecDepth 100000 in
theorem zok1_121 : zchk 121 zc121 zc121 = true := by decide +kernel
set_option maxRecDepth 100000 in
theorem zok2_121 : zall2 "FrameDeltasModel" zc121 := ⟨trivial, trivial, trivial, trivial, zm_8_42, trivial, trivial, Or.inl zl_764, trivial, trivial, trivial, Or.inl zl_754, trivial, trivial, trivial, trivial, trivial, trivial, Or.inl zl_754, trivial, trivial, trivial, trivial, trivial, Or.inl zl_754, trivial, trivial, trivial, trivial, trivial, trivial, trivial, trivial, trivial, trivial, zm_8_46, trivial, trivial, trivial, trivial, trivial, trivial, trivial, trivial, zm_8_46, trivial, trivial, trivial, trivial, Or.inl zl_754, trivial, trivial, trivial, trivial, trivial, trivial, trivial, trivial, trivial⟩
set_option maxRecDepth 100000 in
theorem zok1_122 : zchk 122 zc122 zc122 = true := by decide +kernel
set_option maxRecDepth 100000 in
theorem zok2_122 : zall2 "FrameDeltasModel" zc122 := ⟨trivial, zm_8_112, trivial, trivial, trivial, trivial, zm_8_42, trivial, trivial, Or.inl zl_764, trivial, trivial, trivial, Or.inl zl_754, trivial, trivial, trivial, trivial, trivial, trivial, trivial, trivial, Or.inl zl_754, trivial, trivial, trivial, trivial, trivial, trivial, trivial, Or.inl zl_754, trivial, trivial, trivial, trivial, trivial, trivial, Or.inl zl_754, trivial, trivial, trivial, trivial, zm_8_46, trivial, trivial, trivial, trivial, Or.inl zl_754, trivial, trivial, trivial, trivial, zm_8_46, trivial, trivial, Or.inl zl_765, trivial, trivial, trivial, zm_8_115, trivial, trivial, trivial, trivial, trivial, trivial, trivial, trivial⟩
set_option maxRecDepth 100000 in
theorem zok1_123 : zchk 123 zc123 zc123 = true := by decide +kernel
set_option maxRecDepth 100000 in
theorem zok2_123 : zall2 "FrameDeltasModel" zc123 := ⟨trivial, Or.inl zl_761, trivial, trivial, trivial, Or.inl zl_762, trivial, zl_866, trivial, trivial, zl_874, trivial, trivial, trivial, trivial, trivial, trivial, trivial, zl_875, trivial, trivial, trivial, trivial, trivial, trivial, trivial, zl_876, trivial, trivial, trivial, trivial, trivial, trivial, trivial, zl_877, trivial, trivial, trivial, trivial, trivial, trivial, trivial, trivial, trivial, trivial, trivial, trivial, trivial, trivial, trivial, trivial, zl_878, trivial, trivial, trivial, trivial, trivial, zm_8_108, trivial, Or.inl zl_764, trivial, trivial, trivial, trivial, trivial, trivial, trivial, trivial, trivial, trivial, trivial, trivial, zm_8_129, zm_8_132, trivial, trivial, trivial, trivial, trivial, trivial, zm_8_129, trivial, trivial, trivial, trivial, zm_8_129, trivial, trivial, trivial, trivial, zm_8_129, trivial, trivial, trivial, trivial, zm_8_129, trivial, trivial, trivial, trivial, trivial, trivial, trivial, trivial, trivial, zm_8_129, zm_8_132, trivial, trivial, trivial, trivial, trivial, trivial, zm_8_129, trivial, trivial, trivial, trivial, trivial, trivial, zm_8_129, zm_8_136, trivial, trivial, trivial, trivial, trivial, trivial, zm_8_129, trivial, trivial, trivial, trivial, zm_8_129, trivial, trivial, trivial, trivial, trivial, zm_8_42, trivial, trivial, Or.inl zl_764, trivial, trivial, Or.inl zl_754, trivial, trivial, trivial, trivial, trivial, trivial, Or.inl zl_754, trivial, trivial, trivial, trivial, trivial, trivial, trivial, trivial, trivial, trivial, trivial, trivial, trivial, trivial, trivial, trivial, trivial, trivial, trivial, Or.inl zl_761, trivial, trivial, trivial, Or.inl zl_763, trivial, trivial, Or.inl zl_762, trivial, trivial, trivial, trivial, trivial, trivial, trivial, zm_8_140, trivial, trivial, trivial, zm_8_54, trivial, trivial, trivial, trivial, zm_8_108, trivial, trivial, trivial, trivial, zm_8_42, trivial, trivial, Or.inl zl_764, trivial, trivial, Or.inl zl_754, trivial, trivial, trivial, trivial, trivial, trivial, zm_8_143, trivial, trivial, trivial, trivial, trivial, Or.inl zl_761, trivial, trivial, trivial, trivial, trivial, zm_8_108, trivial, trivial⟩
set_option maxRecDepth 100000 in
theorem zok1_124 : zchk 124 zc124 zc124 = true := by decide +kernel
set_option maxRecDepth 100000 in
theorem zok2_124 : zall2 "FrameDeltasModel" zc124 := ⟨trivial, trivial, trivial, trivial, trivial, trivial, Or.inl zl_754, trivial, trivial, trivial, trivial, trivial, trivial, Or.inl zl_754, trivial, trivial, trivial, trivial, Or.inl zl_766, trivial, trivial, trivial, trivial, Or.inl zl_766, trivial, trivial, trivial, trivial, trivial, trivial, trivial⟩
set_option maxRecDepth 100000 in
theorem zok1_125 : zchk 125 zc125 zc125 = true := by decide +kernel
set_option maxRecDepth 100000 in
theorem zok2_125 : zall2 "FrameDeltasModel" zc125 := ⟨trivial, trivial, trivial, trivial, trivial, trivial, Or.inl zl_766, trivial, trivial, Or.inl zl_754, trivial, trivial, trivial, trivial, trivial, trivial, trivial, trivial, trivial, Or.inl zl_759, trivial, trivial, Or.inl zl_764, trivial, trivial, trivial, zm_8_105, trivial, Or.inl zl_764, trivial, trivial, Or.inl zl_761, trivial, trivial, zm_8_146, trivial, trivial, trivial, zm_8_149, trivial, Or.inl zl_764, trivial, trivial, trivial, Or.inl zl_760, trivial, trivial, trivial, zm_8_58, trivial, zm_8_149, trivial, trivial, Or.inl zl_758, trivial, trivial, trivial⟩
set_option maxRecDepth 100000 in
theorem zok1_126 : zchk 126 zc126 zc126 = true := by decide +kernel
set_option maxRecDepth 100000 in
theorem zok2_126 : zall2 "FrameDeltasModel" zc126 := ⟨trivial, trivial, trivial, trivial, trivial, zm_8_140, trivial, trivial, trivial, trivial, trivial, trivial⟩
set_option maxRecDepth 100000 in
theorem zok1_127 : zchk 127 zc127 zc127 = true := by decide +kernel
set_option maxRecDepth 100000 in
theorem zok2_127 : zall2 "FrameDeltasModel" zc127 := ⟨trivial, trivial, trivial, trivial, zm_8_54, trivial, trivial, trivial, trivial, trivial, trivial⟩
set_option maxRecDepth 100000 in
theorem zok1_128 : zchk 128 zc128 zc128 = true := by decide +kernel
set_option maxRecDepth 100000 in
theorem zok2_128 : zall2 "FrameDeltasModel" zc128 := ⟨trivial, trivial, trivial, trivial, trivial, trivial, trivial, trivial, trivial, trivial, trivial, trivial, trivial, trivial, trivial, trivial, trivial, trivial, trivial, trivial, trivial, trivial, trivial, zm_8_115, zm_8_143, trivial, trivial, trivial, trivial, trivial, trivial, trivial, trivial, trivial⟩
set_option maxRecDepth 100000 in
theorem zok1_129 : zchk 129 zc129 zc129 = true := by decide +kernel
set_option maxRecDepth 100000 in
theorem zok2_129 : zall2 "FrameDeltasModel" zc129 := ⟨trivial, trivial, zm_8_152, trivial, trivial, trivial, trivial, Or.inl zl_754, trivial, trivial, trivial, trivial, zm_8_46, trivial, trivial, trivial, trivial, Or.inl zl_754, trivial, trivial, trivial, trivial, zm_8_46, trivial, trivial, trivial, trivial, trivial, zm_8_155, trivial, trivial, trivial, trivial, trivial, zm_8_158, trivial, trivial, trivial, trivial⟩
set_option maxRecDepth 100000 in
theorem zok1_130 : zchk 130 zc130 zc130 = true := by decide +kernel
set_option maxRecDepth 100000 in
theorem zok2_130 : zall2 "FrameDeltasModel" zc130 := ⟨trivial, trivial, trivial, Or.inl zl_754, trivial, trivial, trivial, trivial, trivial, trivial, trivial, trivial⟩
set_option maxRecDepth 100000 in
theorem zok1_131 : zchk 131 zc131 zc131 = true := by decide +kernel
set_option maxRecDepth 100000 in
theorem zok2_131 : zall2 "FrameDeltasModel" zc131 := ⟨trivial, trivial, trivial, Or.inl zl_754, trivial, trivial, trivial, trivial, trivial, trivial, trivial, trivial⟩
set_option maxRecDepth 100000 in
theorem zok1_132 : zchk 132 zc132 zc132 = true := by decide +kernel
set_option maxRecDepth 100000 in
theorem zok2_132 : zall2 "FrameDeltasModel" zc132 := ⟨trivial, trivial, trivial, zm_8_162, trivial, trivial, trivial, trivial, trivial, trivial, zm_8_165, trivial, trivial, trivial, trivial, zm_8_115, trivial, trivial, trivial, trivial, trivial, trivial, trivial, zm_8_143, trivial, trivial, trivial, trivial, zm_8_143, trivial, trivial, trivial, zm_8_143, trivial, trivial, trivial, trivial, trivial, trivial, trivial⟩
set_option maxRecDepth 100000 in
theorem zok1_133 : zchk 133 zc133 zc133 = true := by decide +kernel
set_option maxRecDepth 100000 in
theorem zok2_133 : zall2 "FrameDeltasModel" zc133 := ⟨trivial, trivial, trivial, trivial, trivial, trivial, trivial, trivial, trivial, trivial, trivial, trivial, trivial, zm_8_168, trivial, trivial, trivial, trivial, trivial, trivial, trivial, zm_8_168, trivial, trivial, trivial, trivial, trivial, trivial, trivial, trivial, trivial, trivial, trivial⟩
set_option maxRecDepth 100000 in
theorem zok1_134 : zchk 134 zc134 zc134 = true := by decide +kernel
set_option maxRecDepth 100000 in
theorem zok2_134 : zall2 "FrameDeltasModel" zc134 := ⟨trivial, trivial, zm_8_162, trivial, trivial, trivial, trivial, trivial, zm_8_165, trivial, trivial, trivial, trivial, trivial, trivial, Or.inl zl_754, trivial, trivial, trivial, trivial, zm_8_46, trivial, trivial, trivial, trivial, Or.inl zl_754, trivial, trivial, trivial, trivial, zm_8_46, trivial, trivial, trivial, trivial, trivial, trivial, trivial, trivial, trivial, trivial, trivial, trivial, trivial, trivial, trivial, trivial, trivial, zm_8_162, trivial, trivial, trivial, trivial, trivial, trivial, zm_8_165, trivial, trivial, trivial, trivial, zm_8_115, zm_8_143, trivial, trivial, trivial, trivial, trivial, trivial, trivial, trivial, trivial, trivial, trivial, trivial, trivial, zm_8_115, zm_8_143, trivial, trivial, trivial, trivial, trivial, trivial, trivial, trivial, trivial, trivial⟩
set_option maxRecDepth 100000 in
theorem zok1_135 : zchk 135 zc135 zc135 = true := by decide +kernel
set_option maxRecDepth 100000 in
theorem zok2_135 : zall2 "FrameDeltasModel" zc135 := ⟨trivial, trivial, trivial, trivial, trivial, trivial, trivial, trivial⟩
set_option maxRecDepth 100000 in
theorem zok1_136 : zchk 136 zc136 zc136 = true := by decide +kernel
set_option maxRecDepth 100000 in
theorem zok2_136 : zall2 "FrameDeltasModel" zc136 := ⟨trivial, trivial, trivial, Or.inl zl_754, trivial, trivial, trivial, trivial, trivial, trivial, trivial, trivial, trivial, trivial, trivial, trivial, trivial, trivial, trivial, trivial, zm_8_172, trivial, zm_8_172, trivial, trivial, trivial, trivial, trivial, trivial, Or.inl zl_767, trivial, trivial, trivial, trivial, trivial, trivial, zm_8_172, trivial, Or.inl zl_767, trivial, trivial, trivial, trivial, trivial, trivial, zm_8_172, trivial, trivial, trivial, trivial, trivial, trivial, trivial, trivial, trivial, trivial, trivial, trivial, trivial, trivial, trivial, trivial, zm_8_175, trivial, trivial, trivial, trivial, Or.inl zl_767, trivial, trivial, trivial, trivial, trivial, trivial, trivial, trivial, Or.inl zl_767, trivial, trivial, trivial, trivial, trivial, trivial, trivial, trivial, trivial, trivial, trivial, trivial, trivial, trivial⟩
set_option maxRecDepth 100000 in
theorem zok1_137 : zchk 137 zc137 zc137 = true := by decide +kernel
set_option maxRecDepth 100000 in
theorem zok2_137 : zall2 "FrameDeltasModel" zc137 := ⟨trivial, Or.inl zl_767, trivial, trivial, trivial, trivial, trivial, trivial, trivial, trivial, Or.inl zl_767, trivial, trivial, trivial, trivial, trivial, trivial, trivial, trivial, trivial, trivial, trivial, trivial, trivial, zm_8_179, trivial, trivial, trivial, trivial, trivial, trivial, trivial, Or.inl zl_767, trivial, trivial, trivial, trivial, trivial, trivial, trivial, trivial, trivial, trivial, trivial, trivial, trivial, zm_8_175, trivial, trivial, Or.inl zl_767, trivial, trivial, trivial, trivial, trivial, trivial, trivial, trivial, trivial, trivial, trivial, zm_8_182, trivial, trivial, Or.inl zl_767, trivial, trivial, trivial, trivial, trivial, trivial, trivial, trivial, trivial, trivial, trivial, trivial, trivial, zm_8_179, trivial, trivial, trivial, trivial, Or.inl zl_767, trivial, trivial, trivial, trivial, trivial, trivial, trivial, trivial, trivial, trivial, trivial, trivial, trivial, trivial, trivial, trivial, trivial, trivial⟩
set_option maxRecDepth 100000 in
theorem zok1_138 : zchk 138 zc138 zc138 = true := by decide +kernel
set_option maxRecDepth 100000 in
theorem zok2_138 : zall2 "FrameDeltasModel" zc138 := ⟨trivial, trivial, trivial, trivial, trivial, trivial, zm_8_61, trivial, trivial, trivial, trivial, trivial, trivial, zm_8_185, trivial, trivial, trivial, trivial, trivial, trivial, trivial⟩
set_option maxRecDepth 100000 in
theorem zok1_139 : zchk 139 zc139 zc139 = true := by decide +kernel
set_option maxRecDepth 100000 in
theorem zok2_139 : zall2 "FrameDeltasModel" zc139 := ⟨trivial, trivial, trivial, trivial, trivial, trivial, trivial, trivial, trivial, trivial, trivial⟩
set_option maxRecDepth 100000 in
theorem zok1_140 : zchk 140 zc140 zc140 = true := by decide +kernel
set_option maxRecDepth 100000 in
theorem zok2_140 : zall2 "FrameDeltasModel" zc140 := ⟨trivial, Or.inl zl_754, trivial, trivial, trivial, zm_8_188, trivial, trivial, trivial, trivial, trivial, trivial, trivial, trivial, trivial, zm_8_50, trivial, zm_8_179, trivial, trivial, trivial, trivial, trivial, trivial, trivial, trivial, zm_8_179, trivial, trivial, trivial, trivial⟩
set_option maxRecDepth 100000 in
theorem zok1_141 : zchk 141 zc141 zc141 = true := by decide +kernel
set_option maxRecDepth 100000 in
theorem zok2_141 : zall2 "FrameDeltasModel" zc141 := ⟨trivial, trivial, trivial, trivial, trivial, trivial, zm_8_61, trivial, trivial, Or.inl zl_754, trivial, trivial, trivial, zm_8_188, trivial, trivial, trivial, trivial, trivial, trivial, trivial, trivial, trivial, trivial, trivial, trivial, trivial, trivial, trivial, trivial, trivial, zm_8_191, trivial, trivial, trivial, trivial, trivial, trivial, trivial, trivial, trivial⟩
set_option maxRecDepth 100000 in
theorem zok1_142 : zchk 142 zc142 zc142 = true := by decide +kernel
set_option maxRecDepth 100000 in
theorem zok2_142 : zall2 "FrameDeltasModel" zc142 := ⟨trivial, trivial, zm_8_194, trivial, trivial, trivial, trivial, trivial, zm_8_50, trivial, trivial, trivial, trivial, trivial, trivial, zm_8_50, zm_8_194, trivial, trivial, trivial, trivial, zm_8_50, trivial, trivial, trivial, trivial, trivial⟩
set_option maxRecDepth 100000 in
theorem zok1_143 : zchk 143 zc143 zc143 = true := by decide +kernel
set_option maxRecDepth 100000 in
theorem zok2_143 : zall2 "FrameDeltasModel" zc143 := ⟨trivial, Or.inl zl_754, trivial, trivial, trivial, trivial, trivial, trivial, Or.inl zl_754, trivial, trivial, trivial, trivial, trivial, trivial, trivial, trivial, trivial, trivial, trivial, Or.inl zl_754, trivial, trivial, trivial, trivial, trivial, trivial, trivial, trivial, Or.inl zl_767, trivial, trivial, trivial, trivial, trivial, trivial, trivial⟩
set_option maxRecDepth 100000 in
theorem zok1_144 : zchk 144 zc144 zc144 = true := by decide +kernel
set_option maxRecDepth 100000 in
theorem zok2_144 : zall2 "FrameDeltasModel" zc144 := ⟨trivial, zm_8_58, trivial, Or.inl zl_754, trivial, trivial, trivial, trivial, trivial, trivial, zm_8_197, trivial, trivial, trivial, trivial, trivial, trivial, trivial, Or.inl zl_754, trivial, trivial, trivial, trivial, trivial, trivial, trivial, trivial, Or.inl zl_754, trivial, trivial, trivial, trivial, trivial, trivial, trivial, trivial, trivial, trivial, zm_8_200, trivial, Or.inl zl_754, trivial, trivial, trivial, trivial, trivial, trivial, trivial, trivial, trivial⟩
set_option maxRecDepth 100000 in
theorem zok1_145 : zchk 145 zc145 zc145 = true := by decide +kernel
set_option maxRecDepth 100000 in
theorem zok2_145 : zall2 "FrameDeltasModel" zc145 := ⟨trivial, Or.inl zl_754, trivial, trivial, trivial, trivial, trivial, trivial, trivial, trivial, zm_8_203, trivial, trivial⟩
set_option maxRecDepth 100000 in
theorem zok1_146 : zchk 146 zc146 zc146 = true := by decide +kernel
set_option maxRecDepth 100000 in
theorem zok2_146 : zall2 "FrameDeltasModel" zc146 := ⟨trivial, trivial, zm_8_140, trivial, trivial, trivial, trivial, trivial, zm_8_54, trivial, trivial, trivial, zm_8_206, trivial, Or.inl zl_754, trivial, trivial, trivial, trivial, trivial, trivial, Or.inl zl_754, trivial, trivial, trivial, trivial, trivial, trivial, trivial, trivial, zm_8_203, trivial, trivial⟩
set_option maxRecDepth 100000 in
theorem zok1_147 : zchk 147 zc147 zc147 = true := by decide +kernel
set_option maxRecDepth 100000 in
theorem zok2_147 : zall2 "FrameDeltasModel" zc147 := ⟨trivial, Or.inl zl_754, trivial, trivial, trivial, trivial, trivial, trivial, trivial, trivial, trivial, trivial, trivial, zm_8_197, trivial, trivial, trivial, trivial, trivial, trivial, trivial, Or.inl zl_754, trivial, trivial, trivial, trivial, trivial, zm_8_54, trivial, trivial, trivial, zm_8_206, trivial, Or.inl zl_754, trivial, trivial, trivial, trivial, trivial, trivial, zm_8_197, trivial, trivial, trivial, zm_8_206, trivial, trivial, trivial, trivial, trivial, trivial, trivial, trivial, trivial, trivial, trivial, trivial, trivial, trivial, trivial, trivial, trivial, trivial, trivial, trivial, trivial, trivial, trivial, trivial, trivial, trivial, trivial, trivial, trivial, trivial, trivial, trivial, trivial, trivial, trivial, trivial, trivial, trivial, zm_8_203, trivial, trivial⟩
set_option maxRecDepth 100000 in
theorem zok1_148 : zchk 148 zc148 zc148 = true := by decide +kernel
set_option maxRecDepth 100000 in
theorem zok2_148 : zall2 "FrameDeltasModel" zc148 := ⟨trivial, Or.inl zl_754, trivial, trivial, trivial, trivial, trivial, trivial, zm_8_58, trivial, Or.inl zl_754, trivial, trivial, trivial, trivial, trivial, trivial, trivial, Or.inl zl_754, trivial, trivial, trivial, trivial⟩
set_option maxRecDepth 100000 in
theorem zok1_149 : zchk 149 zc149 zc149 = true := by decide +kernel
set_option maxRecDepth 100000 in
theorem zok2_149 : zall2 "FrameDeltasModel" zc149 := ⟨trivial, trivial, trivial, trivial, trivial, trivial, trivial, trivial, trivial, trivial, Or.inl zl_754, trivial, trivial, trivial, trivial, trivial, trivial, trivial, trivial, trivial, trivial, trivial, trivial, trivial, trivial, trivial, trivial, trivial, Or.inl zl_768, trivial, trivial, trivial, trivial, Or.inl zl_769, trivial, trivial, trivial, trivial, trivial, trivial, trivial, trivial, trivial, trivial, trivial, trivial, trivial, trivial, trivial, trivial, trivial, trivial, trivial, trivial, trivial, trivial, trivial, trivial, trivial, trivial, Or.inl zl_754, trivial, trivial, trivial, trivial, trivial, trivial, trivial⟩
set_option maxRecDepth 100000 in
theorem zok1_150 : zchk 150 zc150 zc150 = true := by decide +kernel
set_option maxRecDepth 100000 in
theorem zok2_150 : zall2 "FrameDeltasModel" zc150 := ⟨trivial, trivial, trivial, trivial, trivial, trivial, trivial, trivial, trivial, trivial, trivial, trivial, trivial, trivial, trivial, trivial, trivial, trivial, trivial, trivial⟩
set_option maxRecDepth 100000 in
theorem zok1_151 : zchk 151 zc151 zc151 = true := by decide +kernel
set_option maxRecDepth 100000 in
theorem zok2_151 : zall2 "FrameDeltasModel" zc151 := ⟨trivial, trivial, trivial, trivial, Or.inl zl_754, trivial, trivial, trivial, trivial, Or.inl zl_768, trivial, trivial, trivial, trivial, zm_8_197, trivial, trivial, Or.inl zl_769, trivial, trivial, trivial, trivial, trivial, trivial, trivial, trivial, trivial, trivial, zm_8_197, trivial, trivial, trivial, trivial, trivial, Or.inl zl_770, trivial, trivial, zm_8_212, trivial, trivial, trivial, trivial, trivial, trivial, Or.inl zl_754, trivial, trivial, trivial, trivial, trivial, trivial, zm_8_212, trivial, trivial, trivial, trivial, trivial, trivial, trivial, trivial, zm_8_215, trivial, Or.inl zl_770, zm_8_215, trivial, trivial, trivial, trivial, trivial, trivial, trivial, trivial, trivial, trivial, trivial, Or.inl zl_770, Or.inl zl_770, trivial, trivial, trivial, trivial, trivial, trivial, trivial, trivial, trivial, trivial, trivial⟩
set_option maxRecDepth 100000 in
theorem zok1_152 : zchk 152 zc152 zc152 = true := by decide +kernel
set_option maxRecDepth 100000 in
theorem zok2_152 : zall2 "FrameDeltasModel" zc152 := ⟨trivial, Or.inl zl_754, trivial, trivial, trivial, trivial, trivial, trivial, zm_8_58, trivial, zm_8_218, trivial, trivial, trivial, trivial, trivial, Or.inl zl_754, trivial, trivial, trivial, trivial, Or.inl zl_770, trivial, trivial, trivial, trivial, trivial, trivial, trivial, trivial, trivial, trivial, trivial, trivial, trivial, trivial, trivial, zm_8_197, trivial, trivial, trivial, trivial, trivial, trivial, trivial, trivial, zm_8_200, trivial, trivial, trivial, trivial, trivial⟩
set_option maxRecDepth 100000 in
theorem zok1_153 : zchk 153 zc153 zc153 = true := by decide +kernel
set_option maxRecDepth 100000 in
theorem zok2_153 : zall2 "FrameDeltasModel" zc153 := ⟨trivial, Or.inl zl_754, trivial, trivial, trivial, trivial, trivial, trivial, zm_8_218, trivial, trivial⟩
set_option maxRecDepth 100000 in
theorem zok1_154 : zchk 154 zc154 zc154 = true := by decide +kernel
set_option maxRecDepth 100000 in
theorem zok2_154 : zall2 "FrameDeltasModel" zc154 := ⟨trivial, Or.inl zl_754, trivial, trivial, trivial, trivial, trivial, trivial, zm_8_218, trivial, trivial, trivial, trivial, Or.inl zl_770, trivial, trivial⟩
set_option maxRecDepth 100000 in
theorem zok1_155 : zchk 155 zc155 zc155 = true := by decide +kernel
set_option maxRecDepth 100000 in
theorem zok2_155 : zall2 "FrameDeltasModel" zc155 := ⟨trivial, trivial, trivial, zm_8_46, trivial, trivial, trivial, trivial, zm_8_46, trivial, trivial, trivial, trivial, zm_8_46, trivial, trivial, trivial, trivial, zm_8_58, trivial, Or.inl zl_754, trivial, trivial, trivial, trivial, trivial, Or.inl zl_754, trivial, trivial, trivial, trivial, trivial, Or.inl zl_754, trivial, trivial, trivial, trivial, trivial, trivial, trivial, trivial, trivial, Or.inl zl_754, trivial, trivial, trivial, trivial, Or.inl zl_754, trivial, trivial, trivial, trivial, Or.inl zl_754, trivial, trivial, trivial, trivial, trivial, trivial, trivial, trivial, trivial, trivial⟩
set_option maxRecDepth 100000 in
theorem zok1_156 : zchk 156 zc156 zc156 = true := by decide +kernel
set_option maxRecDepth 100000 in
theorem zok2_156 : zall2 "FrameDeltasModel" zc156 := ⟨trivial, trivial, zm_8_140, trivial, trivial, trivial, trivial, zm_8_46, trivial, trivial, trivial, trivial, Or.inl zl_754, trivial, trivial, trivial, trivial, trivial, trivial, trivial, trivial, trivial, zm_8_58, trivial, Or.inl zl_754, trivial, trivial, trivial, trivial, trivial, trivial, zm_8_221, trivial, trivial⟩
set_option maxRecDepth 100000 in
theorem zok1_157 : zchk 157 zc157 zc157 = true := by decide +kernel
set_option maxRecDepth 100000 in
theorem zok2_157 : zall2 "FrameDeltasModel" zc157 := ⟨trivial, trivial, trivial, trivial, trivial, trivial, zm_8_61, trivial, trivial, trivial, Or.inl zl_754, trivial, trivial, trivial, zm_8_188, trivial, trivial, trivial, trivial, trivial, trivial, trivial, trivial, trivial, trivial, trivial, trivial, trivial⟩
set_option maxRecDepth 100000 in
theorem zok1_158 : zchk 158 zc158 zc158 = true := by decide +kernel
set_option maxRecDepth 100000 in
theorem zok2_158 : zall2 "FrameDeltasModel" zc158 := ⟨trivial, trivial, zm_8_140, trivial, trivial, trivial, trivial, zm_8_46, trivial, trivial, trivial, trivial, trivial, trivial, trivial, zm_8_50, trivial, trivial, trivial, trivial, trivial, trivial, zm_8_50, trivial, trivial, trivial, zm_8_194, trivial, trivial, trivial, zm_8_224, trivial, trivial, trivial, zm_8_206, trivial, trivial, trivial, zm_8_54, trivial, trivial, trivial, trivial, trivial, trivial, trivial, trivial, trivial, trivial, zm_8_227, trivial, trivial⟩
set_option maxRecDepth 100000 in
theorem zok1_159 : zchk 159 zc159 zc159 = true := by decide +kernel
set_option maxRecDepth 100000 in
theorem zok2_159 : zall2 "FrameDeltasModel" zc159 := ⟨trivial, trivial, trivial, zm_8_61, trivial, trivial, zm_8_46, trivial, trivial⟩
set_option maxRecDepth 100000 in
theorem zok1_160 : zchk 160 zc160 zc160 = true := by decide +kernel
set_option maxRecDepth 100000 in
theorem zok2_160 : zall2 "FrameDeltasModel" zc160 := ⟨trivial, trivial, zm_8_140, trivial, trivial, trivial, zm_8_230, trivial, trivial, trivial, trivial, zm_8_46, trivial, trivial, trivial, trivial, Or.inl zl_754, trivial, trivial, trivial, zm_8_188, trivial, trivial, trivial, trivial, trivial, trivial, trivial, trivial, trivial, trivial, trivial, trivial, trivial, trivial, trivial, zm_8_191, trivial, trivial, trivial, trivial, trivial, trivial, trivial, Or.inl zl_754, trivial, trivial, trivial, zm_8_188, trivial, trivial, trivial, trivial, trivial, trivial, trivial⟩
set_option maxRecDepth 100000 in
theorem zok1_161 : zchk 161 zc161 zc161 = true := by decide +kernel
set_option maxRecDepth 100000 in
theorem zok2_161 : zall2 "FrameDeltasModel" zc161 := ⟨trivial, trivial, zm_8_140, trivial, trivial, trivial, zm_8_230, trivial, trivial, trivial, trivial, trivial, trivial, zm_8_46, trivial, trivial, trivial, trivial, Or.inl zl_754, trivial, trivial, trivial, zm_8_188, trivial, trivial, trivial, trivial, trivial, trivial, zm_8_191, trivial, trivial, trivial, trivial, trivial, trivial, trivial, trivial, zm_8_50, trivial, trivial, trivial, trivial, trivial, trivial, trivial, trivial, trivial, trivial, trivial, trivial, trivial, trivial, trivial, trivial, trivial, trivial, trivial, trivial, trivial, trivial, zm_8_168, trivial, trivial, trivial, trivial, trivial, trivial, trivial, zm_8_168, trivial, trivial, trivial, trivial, trivial, trivial, trivial, trivial, trivial, trivial, trivial, trivial, trivial, trivial, trivial, trivial, trivial, trivial, trivial, trivial, trivial, trivial, trivial, zm_8_168, trivial, trivial, trivial, trivial, trivial, trivial, trivial, trivial, trivial, trivial, trivial, trivial⟩
set_option maxRecDepth 100000 in
theorem zok1_162 : zchk 162 zc162 zc162 = true := by decide +kernel
set_option maxRecDepth 100000 in
theorem zok2_162 : zall2 "FrameDeltasModel" zc162 := ⟨trivial, trivial, zm_8_140, trivial, trivial, trivial, zm_8_64, trivial, trivial, trivial, trivial, trivial, zm_8_54, trivial, trivial, trivial, trivial, zm_8_143, trivial, trivial, trivial, trivial⟩
set_option maxRecDepth 100000 in
theorem zok1_163 : zchk 163 zc163 zc163 = true := by decide +kernel
set_option maxRecDepth 100000 in
theorem zok2_163 : zall2 "FrameDeltasModel" zc163 := ⟨trivial, trivial, trivial, trivial, trivial, Or.inl zl_754, trivial, trivial, trivial, trivial, trivial, trivial, trivial, Or.inl zl_754, trivial, trivial, trivial, trivial, trivial, trivial, zm_8_194, trivial, trivial, trivial, trivial, trivial, trivial, trivial, zm_8_221, trivial, trivial, Or.inl zl_758, trivial, trivial, Or.inl zl_756, trivial, trivial, trivial, trivial⟩
set_option maxRecDepth 100000 in
theorem zok1_164 : zchk 164 zc164 zc164 = true := by decide +kernel
set_option maxRecDepth 100000 in
theorem zok2_164 : zall2 "FrameDeltasModel" zc164 := ⟨trivial, trivial, zm_8_152, trivial, trivial, trivial, trivial, trivial, zm_8_155, trivial, trivial, trivial, trivial, zm_8_197, trivial, trivial, trivial, trivial⟩
set_option maxRecDepth 100000 in
theorem zok1_165 : zchk 165 zc165 zc165 = true := by decide +kernel
set_option maxRecDepth 100000 in
theorem zok2_165 : zall2 "FrameDeltasModel" zc165 := ⟨trivial, trivial, trivial, trivial, trivial, trivial, zm_8_42, trivial, trivial, trivial, trivial, trivial, zm_8_143, trivial, trivial, trivial, zm_8_143, trivial, trivial, trivial, trivial, trivial, trivial, trivial, trivial, trivial, trivial, trivial⟩
set_option maxRecDepth 100000 in
theorem zok1_166 : zchk 166 zc166 zc166 = true := by decide +kernel
set_option maxRecDepth 100000 in
theorem zok2_166 : zall2 "FrameDeltasModel" zc166 := ⟨trivial, trivial, zm_8_152, trivial, trivial, trivial, zm_8_152, trivial, trivial, trivial, trivial, trivial, zm_8_155, trivial, trivial, trivial, zm_8_155, trivial, trivial, trivial, trivial, zm_8_233, trivial, trivial, trivial, trivial⟩
set_option maxRecDepth 100000 in
theorem zok1_167 : zchk 167 zc167 zc167 = true := by decide +kernel
set_option maxRecDepth 100000 in
theorem zok2_167 : zall2 "FrameDeltasModel" zc167 := ⟨trivial, trivial, trivial, trivial, trivial, trivial, trivial, trivial, trivial, trivial, trivial, trivial, trivial, trivial, trivial, trivial, trivial, trivial, trivial, trivial, trivial, trivial, zm_8_115, zm_8_143, trivial, trivial, trivial, trivial, trivial, trivial, trivial, trivial, trivial, trivial, trivial, trivial, trivial, zm_8_115, zm_8_143, trivial, trivial, trivial, trivial, trivial, trivial, trivial, trivial, trivial, trivial⟩
set_option maxRecDepth 100000 in
theorem zok1_168 : zchk 168 zc168 zc168 = true := by decide +kernel
set_option maxRecDepth 100000 in
theorem zok2_168 : zall2 "FrameDeltasModel" zc168 := ⟨trivial, trivial, zm_8_140, trivial, trivial, trivial, zm_8_230, trivial, trivial, trivial, trivial, trivial, zm_8_54, trivial, trivial, trivial, trivial, trivial, trivial, trivial, Or.inl zl_754, trivial, trivial, trivial, trivial, trivial, trivial, trivial, trivial, trivial, Or.inl zl_754, trivial, trivial, trivial, trivial, trivial, trivial, trivial, trivial, trivial, zm_8_162, trivial, trivial, zm_8_165, trivial, trivial, trivial, zm_8_236, trivial, trivial, trivial, trivial, trivial, trivial, trivial, trivial, trivial, trivial, trivial, trivial, trivial, trivial⟩
set_option maxRecDepth 100000 in
theorem zok1_169 : zchk 169 zc169 zc169 = true := by decide +kernel
set_option maxRecDepth 100000 in
theorem zok2_169 : zall2 "FrameDeltasModel" zc169 := ⟨trivial, trivial, zm_8_152, trivial, trivial, trivial, trivial, trivial, zm_8_155, trivial, trivial, trivial, trivial, Or.inl zl_754, trivial, trivial, trivial, trivial, trivial, trivial, trivial, Or.inl zl_754, trivial, trivial, trivial, trivial, trivial, trivial, trivial, trivial, trivial, trivial, trivial, trivial, trivial, trivial, Or.inl zl_771, trivial, trivial, trivial, trivial, trivial, trivial, trivial, trivial, trivial, zm_8_158, trivial, trivial, trivial, trivial, trivial, trivial, trivial, Or.inl zl_771, trivial, trivial, trivial, Or.inl zl_771, trivial, trivial, trivial, trivial, trivial, trivial, trivial, trivial, trivial, trivial, trivial, trivial, trivial, trivial, trivial, trivial, trivial, trivial, zm_8_236, trivial, trivial, trivial, trivial, trivial, trivial, trivial, trivial, trivial, trivial, trivial, trivial, trivial, trivial, trivial, trivial, trivial, trivial, trivial, trivial⟩
set_option maxRecDepth 100000 in
theorem zok1_170 : zchk 170 zc170 zc170 = true := by decide +kernel
set_option maxRecDepth 100000 in
theorem zok2_170 : zall2 "FrameDeltasModel" zc170 := ⟨trivial, trivial, trivial, trivial, trivial, trivial, Or.inl zl_754, trivial, trivial, trivial, trivial, trivial, zm_8_224, trivial, trivial, trivial, trivial, zm_8_224, trivial, trivial, trivial, trivial, trivial, trivial, trivial, trivial⟩
set_option maxRecDepth 100000 in
theorem zok1_171 : zchk 171 zc171 zc171 = true := by decide +kernel
set_option maxRecDepth 100000 in
theorem zok2_171 : zall2 "FrameDeltasModel" zc171 := ⟨trivial, trivial, trivial, trivial, trivial, trivial, trivial, zm_8_50, trivial, trivial, trivial, trivial, zm_8_50, trivial, trivial, trivial, trivial, trivial, trivial, trivial, trivial, trivial, trivial⟩
set_option maxRecDepth 100000 in
theorem zok1_172 : zchk 172 zc172 zc172 = true := by decide +kernel
set_option maxRecDepth 100000 in
theorem zok2_172 : zall2 "FrameDeltasModel" zc172 := ⟨trivial, trivial, zm_8_140, trivial, trivial, trivial, trivial, trivial, trivial, trivial, trivial, trivial, Or.inl zl_754, trivial, trivial, trivial, trivial, trivial, trivial, trivial, zm_8_240, trivial, trivial, trivial, trivial, trivial, trivial, trivial, trivial, trivial, trivial, trivial⟩
set_option maxRecDepth 100000 in
theorem zok1_173 : zchk 173 zc173 zc173 = true := by decide +kernel
set_option maxRecDepth 100000 in
theorem zok2_173 : zall2 "FrameDeltasModel" zc173 := ⟨trivial, trivial, zm_8_140, trivial, trivial, trivial, trivial, Or.inl zl_754, trivial, trivial, trivial, trivial, trivial, trivial, trivial, trivial, trivial, trivial, trivial, trivial, trivial, Or.inl zl_754, trivial, trivial, trivial, trivial, trivial, zm_8_54, trivial, trivial, trivial, trivial, trivial, trivial, trivial, zm_8_233, trivial, trivial, trivial, zm_8_233, trivial, trivial, trivial, trivial, trivial, trivial, trivial, trivial, trivial, trivial, trivial, trivial, trivial, trivial, trivial, trivial⟩
set_option maxRecDepth 100000 in
theorem zok1_174 : zchk 174 zc174 zc174 = true := by decide +kernel
set_option maxRecDepth 100000 in
theorem zok2_174 : zall2 "java/lang/Integer" zc174 := ⟨trivial, trivial, trivial, trivial, zl_619, trivial, trivial, trivial, trivial, zl_620, trivial, trivial, trivial, trivial, zl_620, trivial, trivial, trivial, trivial, trivial, trivial, trivial, trivial, zl_621, trivial, trivial, trivial, trivial, trivial, trivial, trivial, trivial, trivial, trivial, trivial, trivial, trivial, trivial, trivial, trivial, trivial, trivial, trivial⟩
set_option maxRecDepth 100000 in
theorem zok1_175 : zchk 175 zc175 zc175 = true := by decide +kernel
set_option maxRecDepth 100000 in
theorem zok2_175 : zall2 "java/lang/Math" zc175 := ⟨trivial, trivial, trivial, trivial, trivial, trivial, trivial, trivial⟩
set_option maxRecDepth 100000 in
theorem zok1_176 : zchk 176 zc176 zc176 = true := by decide +kernel
set_option maxRecDepth 100000 in
theorem zok2_176 : zall2 "java/lang/Math" zc176 := ⟨trivial, trivial, trivial, trivial, trivial, trivial, trivial, trivial⟩
set_option maxRecDepth 100000 in
theorem zok1_177 : zchk 177 zc177 zc177 = true := by decide +kernel
set_option maxRecDepth 100000 in
theorem zok2_177 : zall2 "java/lang/Math" zc177 := ⟨trivial, trivial, trivial, trivial, trivial, trivial, trivial, trivial⟩
set_option maxRecDepth 100000 in
theorem zok1_178 : zchk 178 zc178 zc178 = true := by decide +kernel
set_option maxRecDepth 100000 in
theorem zok2_178 : zall2 "java/lang/String" zc178 := ⟨trivial, zl_1121, trivial, trivial, zm_11_335, trivial, trivial, trivial⟩
set_option maxRecDepth 100000 in
theorem zok1_179 : zchk 179 zc179 zc179 = true := by decide +kernel
set_option maxRecDepth 100000 in
theorem zok2_179 : zall2 "java/lang/String" zc179 := ⟨trivial, zm_11_492, trivial, trivial, zl_1121, trivial, zm_11_495, trivial, trivial, zl_1121, trivial, trivial, trivial, trivial⟩
set_option maxRecDepth 100000 in
theorem zok1_180 : zchk 180 zc180 zc180 = true := by decide +kernel
set_option maxRecDepth 100000 in
theorem zok2_180 : zall2 "java/lang/String" zc180 := ⟨zl_376, trivial, trivial, zl_1122, trivial, trivial, trivial, trivial⟩
set_option maxRecDepth 100000 in
theorem zok1_181 : zchk 181 zc181 zc181 = true := by decide +kernel
set_option maxRecDepth 100000 in
theorem zok2_181 : zall2 "java/lang/String" zc181 := ⟨zl_376, trivial, trivial, zl_1122, trivial, trivial, trivial, trivial, trivial, trivial⟩
set_option maxRecDepth 100000 in
theorem zok1_182 : zchk 182 zc182 zc182 = true := by decide +kernel
set_option maxRecDepth 100000 in
theorem zok2_182 : zall2 "java/lang/String" zc182 := ⟨trivial, trivial, zl_392, zm_11_1059, trivial, trivial, trivial⟩
set_option maxRecDepth 100000 in
theorem zok1_183 : zchk 183 zc183 zc183 = true := by decide +kernel
set_option maxRecDepth 100000 in
theorem zok2_183 : zall2 "java/lang/StringLatin1" zc183 := ⟨trivial, trivial, trivial, zm_12_9, trivial, trivial, trivial, trivial, trivial, trivial, trivial, trivial⟩
set_option maxRecDepth 100000 in
theorem zok1_184 : zchk 184 zc184 zc184 = true := by decide +kernel
set_option maxRecDepth 100000 in
theorem zok2_184 : zall2 "jdk/internal/util/Preconditions" zc184 := ⟨trivial, trivial, trivial, trivial, trivial, trivial, trivial, trivial, trivial, trivial, trivial, trivial, trivial⟩
set_option maxRecDepth 100000 in
theorem zok1_185_0 : zchk0 185 zc185 0 ((zc185.drop 0).take 50) = true := by decide +kernel
set_option maxRecDepth 100000 in
theorem zok1_185_50 : zchk0 185 zc185 50 ((zc185.drop 50).take 50) = true := by decide +kernel
set_option maxRecDepth 100000 in
theorem zok1_185_100 : zchk0 185 zc185 100 ((zc185.drop 100).take 50) = true := by decide +kernel
set_option maxRecDepth 100000 in
theorem zok1_185_150 : zchk0 185 zc185 150 ((zc185.drop 150).take 50) = true := by decide +kernel
set_option maxRecDepth 100000 in
theorem zok1_185_200 : zchk0 185 zc185 200 ((zc185.drop 200).take 50) = true := by decide +kernel
set_option maxRecDepth 100000 in
theorem zok1_185_250 : zchk0 185 zc185 250 ((zc185.drop 250).take 50) = true := by decide +kernel
set_option maxRecDepth 100000 in
theorem zok1_185_300 : zchk0 185 zc185 300 ((zc185.drop 300).take 50) = true := by decide +kernel
set_option maxRecDepth 100000 in
theorem zok1_185_350 : zchk0 185 zc185 350 ((zc185.drop 350).take 50) = true := by decide +kernel
set_option maxRecDepth 100000 in
theorem zok1_185_400 : zchk0 185 zc185 400 ((zc185.drop 400).take 50) = true := by decide +kernel
set_option maxRecDepth 100000 in
theorem zok1_185_450 : zchk0 185 zc185 450 ((zc185.drop 450).take 50) = true := by decide +kernel
set_option maxRecDepth 100000 in
theorem zok1_185_500 : zchk0 185 zc185 500 ((zc185.drop 500).take 50) = true := by decide +kernel
set_option maxRecDepth 100000 in
theorem zok1_185_550 : zchk0 185 zc185 550 ((zc185.drop 550).take 50) = true := by decide +kernel
theorem zok1_185_e : zchk0 185 zc185 600 (zc185.drop 600) = true := by decide +kernel
theorem zok1_185_r550 : zchk0 185 zc185 550 (zc185.drop 550) = true := zchk0_split _ _ 50 _ _ zok1_185_550 (by rw [List.drop_drop]; exact zok1_185_e)
theorem zok1_185_r500 : zchk0 185 zc185 500 (zc185.drop 500) = true := zchk0_split _ _ 50 _ _ zok1_185_500 (by rw [List.drop_drop]; exact zok1_185_r550)
theorem zok1_185_r450 : zchk0 185 zc185 450 (zc185.drop 450) = true := zchk0_split _ _ 50 _ _ zok1_185_450 (by rw [List.drop_drop]; exact zok1_185_r500)
theorem zok1_185_r400 : zchk0 185 zc185 400 (zc185.drop 400) = true := zchk0_split _ _ 50 _ _ zok1_185_400 (by rw [List.drop_drop]; exact zok1_185_r450)
theorem zok1_185_r350 : zchk0 185 zc185 350 (zc185.drop 350) = true := zchk0_split _ _ 50 _ _ zok1_185_350 (by rw [List.drop_drop]; exact zok1_185_r400)
theorem zok1_185_r300 : zchk0 185 zc185 300 (zc185.drop 300) = true := zchk0_split _ _ 50 _ _ zok1_185_300 (by rw [List.drop_drop]; exact zok1_185_r350)
theorem zok1_185_r250 : zchk0 185 zc185 250 (zc185.drop 250) = true := zchk0_split _ _ 50 _ _ zok1_185_250 (by rw [List.drop_drop]; exact zok1_185_r300)
theorem zok1_185_r200 : zchk0 185 zc185 200 (zc185.drop 200) = true := zchk0_split _ _ 50 _ _ zok1_185_200 (by rw [List.drop_drop]; exact zok1_185_r250)
theorem zok1_185_r150 : zchk0 185 zc185 150 (zc185.drop 150) = true := zchk0_split _ _ 50 _ _ zok1_185_150 (by rw [List.drop_drop]; exact zok1_185_r200)
theorem zok1_185_r100 : zchk0 185 zc185 100 (zc185.drop 100) = true := zchk0_split _ _ 50 _ _ zok1_185_100 (by rw [List.drop_drop]; exact zok1_185_r150)
theorem zok1_185_r50 : zchk0 185 zc185 50 (zc185.drop 50) = true := zchk0_split _ _ 50 _ _ zok1_185_50 (by rw [List.drop_drop]; exact zok1_185_r100)
theorem zok1_185_r0 : zchk0 185 zc185 0 (zc185.drop 0) = true := zchk0_split _ _ 50 _ _ zok1_185_0 (by rw [List.drop_drop]; exact zok1_185_r50)
set_option maxRecDepth 100000 in
theorem zok1_185 : zchk 185 zc185 zc185 = true := by
  unfold zchk
  rw [show zchk0 185 zc185 0 zc185 = true from zok1_185_r0]
  decide +kernel
set_option maxRecDepth 100000 in
theorem zok2_185 : zall2 "FrameDeltasLaw" zc185 := ⟨trivial, trivial, trivial, trivial, trivial, trivial, trivial, trivial, trivial, trivial, trivial, trivial, trivial, trivial, trivial, trivial, trivial, trivial, trivial, trivial, trivial, trivial, trivial, trivial, trivial, trivial, trivial, trivial, trivial, trivial, trivial, trivial, trivial, zm_16_13, trivial, trivial, trivial, trivial, trivial, trivial, trivial, trivial, trivial, trivial, trivial, zm_16_17, trivial, trivial, trivial, trivial, trivial, trivial, trivial, trivial, trivial, trivial, trivial, trivial, trivial, trivial, zm_16_18, trivial, trivial, trivial, trivial, trivial, trivial, trivial, trivial, trivial, trivial, trivial, zm_16_21, trivial, trivial, trivial, trivial, trivial, trivial, trivial, trivial, trivial, zm_16_22, trivial, trivial, trivial, trivial, trivial, trivial, zm_16_26, trivial, trivial, trivial, trivial, trivial, trivial, trivial, trivial, trivial, zm_16_27, trivial, trivial, trivial, trivial, trivial, trivial, zm_16_30, trivial, trivial, trivial, trivial, zm_16_31, trivial, zm_16_35, trivial, trivial, trivial, trivial, zm_16_36, trivial, zm_16_39, trivial, trivial, trivial, trivial, trivial, trivial, trivial, trivial, trivial, trivial, trivial, trivial, trivial, trivial, trivial, trivial, trivial, trivial, trivial, zm_16_40, trivial, trivial, trivial, trivial, trivial, trivial, trivial, trivial, trivial, trivial, trivial, trivial, trivial, trivial, trivial, trivial, zm_16_44, trivial, trivial, trivial, trivial, zm_16_45, trivial, zm_16_48, trivial, trivial, trivial, trivial, trivial, trivial, trivial, trivial, trivial, zm_16_49, trivial, trivial, trivial, trivial, trivial, trivial, zm_16_52, trivial, trivial, trivial, trivial, zm_16_53, trivial, zm_16_56, trivial, trivial, trivial, trivial, zm_16_57, trivial, zm_16_60, trivial, trivial, trivial, trivial, zm_16_61, trivial, zm_16_64, trivial, trivial, trivial, trivial, trivial, trivial, trivial, trivial, trivial, trivial, trivial, trivial, trivial, trivial, trivial, trivial, trivial, trivial, trivial, zm_16_65, trivial, trivial, trivial, trivial, trivial, trivial, trivial, trivial, trivial, trivial, trivial, trivial, trivial, trivial, trivial, trivial, zm_16_68, trivial, trivial, trivial, trivial, trivial, trivial, trivial, trivial, trivial, trivial, trivial, trivial, trivial, trivial, zm_16_69, trivial, trivial, trivial, trivial, trivial, trivial, trivial, trivial, trivial, trivial, trivial, zm_16_72, trivial, trivial, trivial, trivial, trivial, trivial, trivial, trivial, trivial, trivial, trivial, trivial, trivial, trivial, zm_16_73, trivial, trivial, trivial, trivial, trivial, trivial, trivial, trivial, trivial, trivial, trivial, zm_16_76, trivial, trivial, trivial, trivial, trivial, trivial, trivial, trivial, trivial, trivial, trivial, trivial, trivial, trivial, trivial, trivial, trivial, trivial, trivial, zm_16_77, trivial, trivial, trivial, trivial, trivial, trivial, trivial, trivial, trivial, trivial, trivial, trivial, trivial, trivial, trivial, trivial, zm_16_80, trivial, trivial, trivial, trivial, trivial, trivial, trivial, trivial, trivial, trivial, trivial, trivial, trivial, trivial, trivial, trivial, trivial, trivial, trivial, trivial, trivial, trivial, trivial, trivial, zm_16_81, trivial, trivial, trivial, trivial, trivial, trivial, trivial, trivial, trivial, trivial, trivial, trivial, trivial, trivial, trivial, trivial, trivial, trivial, trivial, trivial, trivial, zm_16_85, trivial, trivial, trivial, trivial, trivial, trivial, trivial, trivial, trivial, trivial, trivial, trivial, trivial, trivial, zm_16_86, trivial, trivial, trivial, trivial, trivial, trivial, trivial, trivial, trivial, trivial, trivial, zm_16_89, trivial, trivial, trivial, trivial, trivial, trivial, trivial, trivial, trivial, zm_16_90, trivial, trivial, trivial, trivial, trivial, trivial, zm_16_93, trivial, trivial, trivial, trivial, trivial, trivial, trivial, trivial, trivial, zm_16_94, trivial, trivial, trivial, trivial, trivial, trivial, zm_16_97, trivial, trivial, trivial, trivial, trivial, trivial, trivial, trivial, trivial, trivial, trivial, trivial, trivial, trivial, zm_16_98, trivial, trivial, trivial, trivial, trivial, trivial, trivial, trivial, trivial, trivial, trivial, zm_16_101, trivial, trivial, trivial, trivial, trivial, trivial, trivial, trivial, trivial, trivial, trivial, trivial, trivial, trivial, zm_16_102, trivial, trivial, trivial, trivial, trivial, trivial, trivial, trivial, trivial, trivial, trivial, zm_16_105, trivial, trivial, trivial, trivial, trivial, trivial, trivial, trivial, trivial, zm_16_106, trivial, trivial, trivial, trivial, trivial, trivial, zm_16_109, trivial, trivial, trivial, trivial, zm_16_110, trivial, zm_16_113, trivial, trivial, trivial, trivial, trivial, trivial, trivial, trivial, trivial, zm_16_114, trivial, trivial, trivial, trivial, trivial, trivial, zm_16_117, trivial, trivial, trivial, trivial, trivial, trivial, trivial, trivial, trivial, zm_16_118, trivial, trivial, trivial, trivial, trivial, trivial, zm_16_121, trivial, trivial, trivial, trivial, zm_16_122, trivial, zm_16_125, trivial, trivial, trivial, trivial, zm_16_126, trivial, zm_16_129, trivial, trivial, trivial, trivial, zm_16_130, trivial, zm_16_133, trivial, trivial, trivial, trivial, trivial, trivial, trivial, trivial⟩
theorem zok1_all (m : Nat) : zchk m (zcd m) (zcd m) = true := match m with
  | 0 => zok1_0
  | 1 => zok1_1
  | 2 => zok1_2
  | 3 => zok1_3
  | 4 => zok1_4
  | 5 => zok1_5
  | 6 => zok1_6
  | 7 => zok1_7
  | 8 => zok1_8
  | 9 => zok1_9
  | 10 => zok1_10
  | 11 => zok1_11
  | 12 => zok1_12
  | 13 => zok1_13
  | 14 => zok1_14
  | 15 => zok1_15
  | 16 => zok1_16
  | 17 => zok1_17
  | 18 => zok1_18
  | 19 => zok1_19
  | 20 => zok1_20
  | 21 => zok1_21
  | 22 => zok1_22
  | 23 => zok1_23
  | 24 => zok1_24
  | 25 => zok1_25
  | 26 => zok1_26
  | 27 => zok1_27
  | 28 => zok1_28
  | 29 => zok1_29
  | 30 => zok1_30
  | 31 => zok1_31
  | 32 => zok1_32
  | 33 => zok1_33
  | 34 => zok1_34
  | 35 => zok1_35
  | 36 => zok1_36
  | 37 => zok1_37
  | 38 => zok1_38
  | 39 => zok1_39
  | 40 => zok1_40
  | 41 => zok1_41
  | 42 => zok1_42
  | 43 => zok1_43
  | 44 => zok1_44
  | 45 => zok1_45
  | 46 => zok1_46
  | 47 => zok1_47
  | 48 => zok1_48
  | 49 => zok1_49
  | 50 => zok1_50
  | 51 => zok1_51
  | 52 => zok1_52
  | 53 => zok1_53
  | 54 => zok1_54
  | 55 => zok1_55
  | 56 => zok1_56
  | 57 => zok1_57
  | 58 => zok1_58
  | 59 => zok1_59
  | 60 => zok1_60
  | 61 => zok1_61
  | 62 => zok1_62
  | 63 => zok1_63
  | 64 => zok1_64
  | 65 => zok1_65
  | 66 => zok1_66
  | 67 => zok1_67
  | 68 => zok1_68
  | 69 => zok1_69
  | 70 => zok1_70
  | 71 => zok1_71
  | 72 => zok1_72
  | 73 => zok1_73
  | 74 => zok1_74
  | 75 => zok1_75
  | 76 => zok1_76
  | 77 => zok1_77
  | 78 => zok1_78
  | 79 => zok1_79
  | 80 => zok1_80
  | 81 => zok1_81
  | 82 => zok1_82
  | 83 => zok1_83
  | 84 => zok1_84
  | 85 => zok1_85
  | 86 => zok1_86
  | 87 => zok1_87
  | 88 => zok1_88
  | 89 => zok1_89
  | 90 => zok1_90
  | 91 => zok1_91
  | 92 => zok1_92
  | 93 => zok1_93
  | 94 => zok1_94
  | 95 => zok1_95
  | 96 => zok1_96
  | 97 => zok1_97
  | 98 => zok1_98
  | 99 => zok1_99
  | 100 => zok1_100
  | 101 => zok1_101
  | 102 => zok1_102
  | 103 => zok1_103
  | 104 => zok1_104
  | 105 => zok1_105
  | 106 => zok1_106
  | 107 => zok1_107
  | 108 => zok1_108
  | 109 => zok1_109
  | 110 => zok1_110
  | 111 => zok1_111
  | 112 => zok1_112
  | 113 => zok1_113
  | 114 => zok1_114
  | 115 => zok1_115
  | 116 => zok1_116
  | 117 => zok1_117
  | 118 => zok1_118
  | 119 => zok1_119
  | 120 => zok1_120
  | 121 => zok1_121
  | 122 => zok1_122
  | 123 => zok1_123
  | 124 => zok1_124
  | 125 => zok1_125
  | 126 => zok1_126
  | 127 => zok1_127
  | 128 => zok1_128
  | 129 => zok1_129
  | 130 => zok1_130
  | 131 => zok1_131
  | 132 => zok1_132
  | 133 => zok1_133
  | 134 => zok1_134
  | 135 => zok1_135
  | 136 => zok1_136
  | 137 => zok1_137
  | 138 => zok1_138
  | 139 => zok1_139
  | 140 => zok1_140
  | 141 => zok1_141
  | 142 => zok1_142
  | 143 => zok1_143
  | 144 => zok1_144
  | 145 => zok1_145
  | 146 => zok1_146
  | 147 => zok1_147
  | 148 => zok1_148
  | 149 => zok1_149
  | 150 => zok1_150
  | 151 => zok1_151
  | 152 => zok1_152
  | 153 => zok1_153
  | 154 => zok1_154
  | 155 => zok1_155
  | 156 => zok1_156
  | 157 => zok1_157
  | 158 => zok1_158
  | 159 => zok1_159
  | 160 => zok1_160
  | 161 => zok1_161
  | 162 => zok1_162
  | 163 => zok1_163
  | 164 => zok1_164
  | 165 => zok1_165
  | 166 => zok1_166
  | 167 => zok1_167
  | 168 => zok1_168
  | 169 => zok1_169
  | 170 => zok1_170
  | 171 => zok1_171
  | 172 => zok1_172
  | 173 => zok1_173
  | 174 => zok1_174
  | 175 => zok1_175
  | 176 => zok1_176
  | 177 => zok1_177
  | 178 => zok1_178
  | 179 => zok1_179
  | 180 => zok1_180
  | 181 => zok1_181
  | 182 => zok1_182
  | 183 => zok1_183
  | 184 => zok1_184
  | 185 => zok1_185
  | _ + 186 => rfl
theorem zok2_all (m : Nat) : zall2 (zy m).cls (zcd m) := match m with
  | 0 => zok2_0
  | 1 => zok2_1
  | 2 => zok2_2
  | 3 => zok2_3
  | 4 => zok2_4
  | 5 => zok2_5
  | 6 => zok2_6
  | 7 => zok2_7
  | 8 => zok2_8
  | 9 => zok2_9
  | 10 => zok2_10
  | 11 => zok2_11
  | 12 => zok2_12
  | 13 => zok2_13
  | 14 => zok2_14
  | 15 => zok2_15
  | 16 => zok2_16
  | 17 => zok2_17
  | 18 => zok2_18
  | 19 => zok2_19
  | 20 => zok2_20
  | 21 => zok2_21
  | 22 => zok2_22
  | 23 => zok2_23
  | 24 => zok2_24
  | 25 => zok2_25
  | 26 => zok2_26
  | 27 => zok2_27
  | 28 => zok2_28
  | 29 => zok2_29
  | 30 => zok2_30
  | 31 => zok2_31
  | 32 => zok2_32
  | 33 => zok2_33
  | 34 => zok2_34
  | 35 => zok2_35
  | 36 => zok2_36
  | 37 => zok2_37
  | 38 => zok2_38
  | 39 => zok2_39
  | 40 => zok2_40
  | 41 => zok2_41
  | 42 => zok2_42
  | 43 => zok2_43
  | 44 => zok2_44
  | 45 => zok2_45
  | 46 => zok2_46
  | 47 => zok2_47
  | 48 => zok2_48
  | 49 => zok2_49
  | 50 => zok2_50
  | 51 => zok2_51
  | 52 => zok2_52
  | 53 => zok2_53
  | 54 => zok2_54
  | 55 => zok2_55
  | 56 => zok2_56
  | 57 => zok2_57
  | 58 => zok2_58
  | 59 => zok2_59
  | 60 => zok2_60
  | 61 => zok2_61
  | 62 => zok2_62
  | 63 => zok2_63
  | 64 => zok2_64
  | 65 => zok2_65
  | 66 => zok2_66
  | 67 => zok2_67
  | 68 => zok2_68
  | 69 => zok2_69
  | 70 => zok2_70
  | 71 => zok2_71
  | 72 => zok2_72
  | 73 => zok2_73
  | 74 => zok2_74
  | 75 => zok2_75
  | 76 => zok2_76
  | 77 => zok2_77
  | 78 => zok2_78
  | 79 => zok2_79
  | 80 => zok2_80
  | 81 => zok2_81
  | 82 => zok2_82
  | 83 => zok2_83
  | 84 => zok2_84
  | 85 => zok2_85
  | 86 => zok2_86
  | 87 => zok2_87
  | 88 => zok2_88
  | 89 => zok2_89
  | 90 => zok2_90
  | 91 => zok2_91
  | 92 => zok2_92
  | 93 => zok2_93
  | 94 => zok2_94
  | 95 => zok2_95
  | 96 => zok2_96
  | 97 => zok2_97
  | 98 => zok2_98
  | 99 => zok2_99
  | 100 => zok2_100
  | 101 => zok2_101
  | 102 => zok2_102
  | 103 => zok2_103
  | 104 => zok2_104
  | 105 => zok2_105
  | 106 => zok2_106
  | 107 => zok2_107
  | 108 => zok2_108
  | 109 => zok2_109
  | 110 => zok2_110
  | 111 => zok2_111
  | 112 => zok2_112
  | 113 => zok2_113
  | 114 => zok2_114
  | 115 => zok2_115
  | 116 => zok2_116
  | 117 => zok2_117
  | 118 => zok2_118
  | 119 => zok2_119
  | 120 => zok2_120
  | 121 => zok2_121
  | 122 => zok2_122
  | 123 => zok2_123
  | 124 => zok2_124
  | 125 => zok2_125
  | 126 => zok2_126
  | 127 => zok2_127
  | 128 => zok2_128
  | 129 => zok2_129
  | 130 => zok2_130
  | 131 => zok2_131
  | 132 => zok2_132
  | 133 => zok2_133
  | 134 => zok2_134
  | 135 => zok2_135
  | 136 => zok2_136
  | 137 => zok2_137
  | 138 => zok2_138
  | 139 => zok2_139
  | 140 => zok2_140
  | 141 => zok2_141
  | 142 => zok2_142
  | 143 => zok2_143
  | 144 => zok2_144
  | 145 => zok2_145
  | 146 => zok2_146
  | 147 => zok2_147
  | 148 => zok2_148
  | 149 => zok2_149
  | 150 => zok2_150
  | 151 => zok2_151
  | 152 => zok2_152
  | 153 => zok2_153
  | 154 => zok2_154
  | 155 => zok2_155
  | 156 => zok2_156
  | 157 => zok2_157
  | 158 => zok2_158
  | 159 => zok2_159
  | 160 => zok2_160
  | 161 => zok2_161
  | 162 => zok2_162
  | 163 => zok2_163
  | 164 => zok2_164
  | 165 => zok2_165
  | 166 => zok2_166
  | 167 => zok2_167
  | 168 => zok2_168
  | 169 => zok2_169
  | 170 => zok2_170
  | 171 => zok2_171
  | 172 => zok2_172
  | 173 => zok2_173
  | 174 => zok2_174
  | 175 => zok2_175
  | 176 => zok2_176
  | 177 => zok2_177
  | 178 => zok2_178
  | 179 => zok2_179
  | 180 => zok2_180
  | 181 => zok2_181
  | 182 => zok2_182
  | 183 => zok2_183
  | 184 => zok2_184
  | 185 => zok2_185
  | _ + 186 => trivial
theorem zcw_all (m : Nat) (h : m < 185) : Cond.code (zy m) (zby m) (zml m) (zrt m) ∈ zTs := match m, h with
  | 0, _ => zcw_0
  | 1, _ => zcw_1
  | 2, _ => zcw_2
  | 3, _ => zcw_3
  | 4, _ => zcw_4
  | 5, _ => zcw_5
  | 6, _ => zcw_6
  | 7, _ => zcw_7
  | 8, _ => zcw_8
  | 9, _ => zcw_9
  | 10, _ => zcw_10
  | 11, _ => zcw_11
  | 12, _ => zcw_12
  | 13, _ => zcw_13
  | 14, _ => zcw_14
  | 15, _ => zcw_15
  | 16, _ => zcw_16
  | 17, _ => zcw_17
  | 18, _ => zcw_18
  | 19, _ => zcw_19
  | 20, _ => zcw_20
  | 21, _ => zcw_21
  | 22, _ => zcw_22
  | 23, _ => zcw_23
  | 24, _ => zcw_24
  | 25, _ => zcw_25
  | 26, _ => zcw_26
  | 27, _ => zcw_27
  | 28, _ => zcw_28
  | 29, _ => zcw_29
  | 30, _ => zcw_30
  | 31, _ => zcw_31
  | 32, _ => zcw_32
  | 33, _ => zcw_33
  | 34, _ => zcw_34
  | 35, _ => zcw_35
  | 36, _ => zcw_36
  | 37, _ => zcw_37
  | 38, _ => zcw_38
  | 39, _ => zcw_39
  | 40, _ => zcw_40
  | 41, _ => zcw_41
  | 42, _ => zcw_42
  | 43, _ => zcw_43
  | 44, _ => zcw_44
  | 45, _ => zcw_45
  | 46, _ => zcw_46
  | 47, _ => zcw_47
  | 48, _ => zcw_48
  | 49, _ => zcw_49
  | 50, _ => zcw_50
  | 51, _ => zcw_51
  | 52, _ => zcw_52
  | 53, _ => zcw_53
  | 54, _ => zcw_54
  | 55, _ => zcw_55
  | 56, _ => zcw_56
  | 57, _ => zcw_57
  | 58, _ => zcw_58
  | 59, _ => zcw_59
  | 60, _ => zcw_60
  | 61, _ => zcw_61
  | 62, _ => zcw_62
  | 63, _ => zcw_63
  | 64, _ => zcw_64
  | 65, _ => zcw_65
  | 66, _ => zcw_66
  | 67, _ => zcw_67
  | 68, _ => zcw_68
  | 69, _ => zcw_69
  | 70, _ => zcw_70
  | 71, _ => zcw_71
  | 72, _ => zcw_72
  | 73, _ => zcw_73
  | 74, _ => zcw_74
  | 75, _ => zcw_75
  | 76, _ => zcw_76
  | 77, _ => zcw_77
  | 78, _ => zcw_78
  | 79, _ => zcw_79
  | 80, _ => zcw_80
  | 81, _ => zcw_81
  | 82, _ => zcw_82
  | 83, _ => zcw_83
  | 84, _ => zcw_84
  | 85, _ => zcw_85
  | 86, _ => zcw_86
  | 87, _ => zcw_87
  | 88, _ => zcw_88
  | 89, _ => zcw_89
  | 90, _ => zcw_90
  | 91, _ => zcw_91
  | 92, _ => zcw_92
  | 93, _ => zcw_93
  | 94, _ => zcw_94
  | 95, _ => zcw_95
  | 96, _ => zcw_96
  | 97, _ => zcw_97
  | 98, _ => zcw_98
  | 99, _ => zcw_99
  | 100, _ => zcw_100
  | 101, _ => zcw_101
  | 102, _ => zcw_102
  | 103, _ => zcw_103
  | 104, _ => zcw_104
  | 105, _ => zcw_105
  | 106, _ => zcw_106
  | 107, _ => zcw_107
  | 108, _ => zcw_108
  | 109, _ => zcw_109
  | 110, _ => zcw_110
  | 111, _ => zcw_111
  | 112, _ => zcw_112
  | 113, _ => zcw_113
  | 114, _ => zcw_114
  | 115, _ => zcw_115
  | 116, _ => zcw_116
  | 117, _ => zcw_117
  | 118, _ => zcw_118
  | 119, _ => zcw_119
  | 120, _ => zcw_120
  | 121, _ => zcw_121
  | 122, _ => zcw_122
  | 123, _ => zcw_123
  | 124, _ => zcw_124
  | 125, _ => zcw_125
  | 126, _ => zcw_126
  | 127, _ => zcw_127
  | 128, _ => zcw_128
  | 129, _ => zcw_129
  | 130, _ => zcw_130
  | 131, _ => zcw_131
  | 132, _ => zcw_132
  | 133, _ => zcw_133
  | 134, _ => zcw_134
  | 135, _ => zcw_135
  | 136, _ => zcw_136
  | 137, _ => zcw_137
  | 138, _ => zcw_138
  | 139, _ => zcw_139
  | 140, _ => zcw_140
  | 141, _ => zcw_141
  | 142, _ => zcw_142
  | 143, _ => zcw_143
  | 144, _ => zcw_144
  | 145, _ => zcw_145
  | 146, _ => zcw_146
  | 147, _ => zcw_147
  | 148, _ => zcw_148
  | 149, _ => zcw_149
  | 150, _ => zcw_150
  | 151, _ => zcw_151
  | 152, _ => zcw_152
  | 153, _ => zcw_153
  | 154, _ => zcw_154
  | 155, _ => zcw_155
  | 156, _ => zcw_156
  | 157, _ => zcw_157
  | 158, _ => zcw_158
  | 159, _ => zcw_159
  | 160, _ => zcw_160
  | 161, _ => zcw_161
  | 162, _ => zcw_162
  | 163, _ => zcw_163
  | 164, _ => zcw_164
  | 165, _ => zcw_165
  | 166, _ => zcw_166
  | 167, _ => zcw_167
  | 168, _ => zcw_168
  | 169, _ => zcw_169
  | 170, _ => zcw_170
  | 171, _ => zcw_171
  | 172, _ => zcw_172
  | 173, _ => zcw_173
  | 174, _ => zcw_174
  | 175, _ => zcw_175
  | 176, _ => zcw_176
  | 177, _ => zcw_177
  | 178, _ => zcw_178
  | 179, _ => zcw_179
  | 180, _ => zcw_180
  | 181, _ => zcw_181
  | 182, _ => zcw_182
  | 183, _ => zcw_183
  | 184, _ => zcw_184
  | n + 185, h => absurd h (by omega)
