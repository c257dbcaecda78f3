/-! the methods by number: names, codes, locals, answers; what a call wants of the tables -/
def zyL : List MethodName := [⟨zR6, "in", "(III)Z"⟩, ⟨zR6, "isColour", "(I)Z"⟩, ⟨zR6, "record", "()V"⟩, ⟨zR6, "puts", "(III)V"⟩, ⟨zR6, "addCountry", "(II)I"⟩, ⟨zR6, "of", "(II)I"⟩, ⟨zR6, "isThere", "(I)Z"⟩, ⟨zR6, "no", "(I)Z"⟩, ⟨zR6, "length", "(II)I"⟩, ⟨zR6, "isBad", "(II)Z"⟩, ⟨zR6, "isConflict", "(II)Z"⟩, ⟨zR6, "conflicts", "(I)I"⟩, ⟨zR6, "isWrong", "(I)Z"⟩, ⟨zR6, "wrongs", "()I"⟩, ⟨zR6, "paint", "(II)I"⟩, ⟨zR6, "allow", "(II)I"⟩, ⟨zR6, "set", "(I)I"⟩, ⟨zR6, "bits", "(I)I"⟩, ⟨zR6, "fix", "(IZ)I"⟩, ⟨zR6, "overBorders", "(I)I"⟩, ⟨zR6, "forbid", "(IIZ)I"⟩, ⟨zR6, "code", "(II)I"⟩, ⟨zR6, "lays", "(III)V"⟩, ⟨zR6, "setBorder", "(III)I"⟩, ⟨zR6, "isBetween", "(II)Z"⟩, ⟨zR6, "takes", "(I)Z"⟩, ⟨zR6, "takesBorder", "()Z"⟩, ⟨zR6, "bordersOfText", "()I"⟩, ⟨zR6, "readBorders", "()I"⟩, ⟨zR6, "neighbours", "(I)I"⟩, ⟨zR6, "join", "(II)I"⟩, ⟨zR6, "give", "(IIII)I"⟩, ⟨zR6, "meets", "()V"⟩, ⟨zR6, "areNeighbours", "(II)Z"⟩, ⟨zR6, "fits", "(I)Z"⟩, ⟨zR6, "goesThrough", "()V"⟩, ⟨zR6, "repaint", "()I"⟩, ⟨zR6, "isBarred", "(II)Z"⟩, ⟨zR6, "chainOf", "(II)I"⟩, ⟨zR6, "exchange", "(II)I"⟩, ⟨zR6, "type", "(C)I"⟩, ⟨zR6, "clearText", "()I"⟩, ⟨zR6, "undo", "()I"⟩, ⟨zR6, "keep", "()I"⟩, ⟨zR6, "restore", "()I"⟩, ⟨zR6, "lengths", "(I)I"⟩, ⟨zR6, "could", "(I)I"⟩, ⟨zR6, "country", "(II)I"⟩, ⟨zR6, "border", "(II)I"⟩, ⟨zR6, "borderAt", "(I)I"⟩, ⟨zR6, "forbidden", "(II)I"⟩, ⟨zR6, "changed", "()I"⟩, ⟨zR6, "leastRepaint", "(I)I"⟩, ⟨zR6, "repainted", "(I)I"⟩, ⟨zR6, "wouldCost", "(II)I"⟩, ⟨zR6, "repaints", "()I"⟩, ⟨zR6, "freedom", "(I)I"⟩, ⟨zR6, "fewestColours", "()I"⟩, ⟨zR6, "chain", "(II)I"⟩, ⟨zR6, "different", "()I"⟩, ⟨zR6, "pairs", "()I"⟩, ⟨zR6, "count", "(I)I"⟩, ⟨zR5, "isColour", "(I)Z"⟩, ⟨zR1, "copyFrom", "(LBorderPaints$Borders;)V"⟩, ⟨zR4, "copyFrom", "(LBorderPaints$State;)V"⟩, ⟨zR2, "remember", "(LBorderPaints$State;)V"⟩, ⟨zR5, "isNumber", "(I)Z"⟩, ⟨zR4, "add", "(II)I"⟩, ⟨zR5, "addCountry", "(II)I"⟩, ⟨zR5, "has", "(II)Z"⟩, ⟨zR4, "isThere", "(I)Z"⟩, ⟨zR4, "isFixed", "(I)Z"⟩, ⟨zR1, "neighboursOf", "(I)I"⟩, ⟨zR4, "isPairForbidden", "(II)Z"⟩, ⟨zR4, "conflictsOf", "(I)I"⟩, ⟨zR4, "isWrong", "(I)Z"⟩, ⟨zR4, "wrongCountries", "()I"⟩, ⟨zR5, "paint", "(II)I"⟩, ⟨zR5, "allow", "(II)I"⟩, ⟨"java/lang/Integer", "bitCount", "(I)I"⟩, ⟨zR5, "fix", "(IZ)I"⟩, ⟨zR4, "setPair", "(IIZ)V"⟩, ⟨zR4, "isConflictAt", "(I)Z"⟩, ⟨zR4, "conflicts", "()I"⟩, ⟨zR5, "forbid", "(IIZ)I"⟩, ⟨zR1, "placeOf", "(II)I"⟩, ⟨zR1, "lengthBetween", "(II)I"⟩, ⟨zR1, "removeAt", "(I)V"⟩, ⟨zR1, "put", "(III)V"⟩, ⟨zR5, "setBorder", "(III)I"⟩, ⟨zR0, "isDigitAt", "(I)Z"⟩, ⟨zR0, "isSignAt", "(IC)Z"⟩, ⟨zR0, "digitAt", "(I)I"⟩, ⟨zR0, "faultInBorder", "(I)I"⟩, ⟨zR0, "takeBorder", "(II)I"⟩, ⟨zR0, "read", "()I"⟩, ⟨zR5, "readBorders", "()I"⟩, ⟨zR5, "canJoin", "(II)Z"⟩, ⟨zR1, "firstNeighbourOf", "(I)I"⟩, ⟨zR4, "merge", "(II)V"⟩, ⟨zR5, "join", "(II)I"⟩, ⟨zR5, "give", "(IIII)I"⟩, ⟨zR3, "prepare", "(LBorderPaints$State;)V"⟩, ⟨zR3, "coloursFor", "(I)I"⟩, ⟨zR3, "findLeastFrom", "(LBorderPaints$Repainter;II)V"⟩, ⟨zR3, "findLeastFrom", "(LBorderPaints$Repainter;II)V"⟩, ⟨zR3, "findLeastFrom", "(LBorderPaints$Repainter;II)V"⟩, ⟨zR3, "findLeastFrom", "(LBorderPaints$Repainter;II)V"⟩, ⟨zR3, "findLeastFrom", "(LBorderPaints$Repainter;II)V"⟩, ⟨zR3, "findLeastFrom", "(LBorderPaints$Repainter;II)V"⟩, ⟨zR3, "findLeastFrom", "(LBorderPaints$Repainter;II)V"⟩, ⟨zR3, "findLeastFrom", "(LBorderPaints$Repainter;II)V"⟩, ⟨zR3, "findLeastFrom", "(LBorderPaints$Repainter;II)V"⟩, ⟨zR3, "findLeastFrom", "(LBorderPaints$Repainter;II)V"⟩, ⟨zR3, "findLeast", "()Z"⟩, ⟨zR5, "repaint", "()I"⟩, ⟨zR4, "withEitherColour", "(II)I"⟩, ⟨zR4, "chainOf", "(II)I"⟩, ⟨zR4, "canExchange", "(III)Z"⟩, ⟨zR4, "exchangeColours", "(III)V"⟩, ⟨zR5, "exchange", "(II)I"⟩, ⟨zR0, "append", "(C)V"⟩, ⟨zR5, "type", "(C)I"⟩, ⟨zR5, "clearText", "()I"⟩, ⟨zR2, "takeLatest", "(LBorderPaints$State;)V"⟩, ⟨zR5, "undo", "()I"⟩, ⟨zR5, "keep", "()I"⟩, ⟨zR5, "restore", "()I"⟩, ⟨zR1, "lengthAround", "(I)I"⟩, ⟨zR4, "coloursWithoutWrong", "(I)I"⟩, ⟨zR5, "country", "(II)I"⟩, ⟨zR5, "border", "(II)I"⟩, ⟨zR5, "borderAt", "(I)I"⟩, ⟨zR5, "forbidden", "(II)I"⟩, ⟨zR3, "changedCountries", "()I"⟩, ⟨zR5, "leastRepaint", "(I)I"⟩, ⟨zR5, "repainted", "(I)I"⟩, ⟨zR3, "supposeBorder", "(II)V"⟩, ⟨zR5, "wouldCost", "(II)I"⟩, ⟨zR3, "bindsLaterOnes", "(I)Z"⟩, ⟨zR3, "countFrom", "(LBorderPaints$Repainter;I)I"⟩, ⟨zR3, "countFrom", "(LBorderPaints$Repainter;I)I"⟩, ⟨zR3, "countFrom", "(LBorderPaints$Repainter;I)I"⟩, ⟨zR3, "countFrom", "(LBorderPaints$Repainter;I)I"⟩, ⟨zR3, "countFrom", "(LBorderPaints$Repainter;I)I"⟩, ⟨zR3, "countFrom", "(LBorderPaints$Repainter;I)I"⟩, ⟨zR3, "countFrom", "(LBorderPaints$Repainter;I)I"⟩, ⟨zR3, "countFrom", "(LBorderPaints$Repainter;I)I"⟩, ⟨zR3, "countFrom", "(LBorderPaints$Repainter;I)I"⟩, ⟨zR3, "countFrom", "(LBorderPaints$Repainter;I)I"⟩, ⟨zR3, "countAll", "()I"⟩, ⟨zR5, "repaints", "()I"⟩, ⟨zR3, "canPaintFrom", "(LBorderPaints$Repainter;I)Z"⟩, ⟨zR3, "canPaintFrom", "(LBorderPaints$Repainter;I)Z"⟩, ⟨zR3, "canPaintFrom", "(LBorderPaints$Repainter;I)Z"⟩, ⟨zR3, "canPaintFrom", "(LBorderPaints$Repainter;I)Z"⟩, ⟨zR3, "canPaintFrom", "(LBorderPaints$Repainter;I)Z"⟩, ⟨zR3, "canPaintFrom", "(LBorderPaints$Repainter;I)Z"⟩, ⟨zR3, "canPaintFrom", "(LBorderPaints$Repainter;I)Z"⟩, ⟨zR3, "canPaintFrom", "(LBorderPaints$Repainter;I)Z"⟩, ⟨zR3, "canPaintFrom", "(LBorderPaints$Repainter;I)Z"⟩, ⟨zR3, "canPaintFrom", "(LBorderPaints$Repainter;I)Z"⟩, ⟨zR3, "canPaint", "()Z"⟩, ⟨zR5, "freedom", "(I)I"⟩, ⟨zR3, "keepOpen", "(I)V"⟩, ⟨zR5, "fewestColours", "()I"⟩, ⟨zR5, "chain", "(II)I"⟩, ⟨zR4, "lengthOfBorders", "(Z)I"⟩, ⟨zR4, "differentColours", "()I"⟩, ⟨zR4, "forbiddenPairs", "()I"⟩, ⟨zR5, "count", "(I)I"⟩, ⟨"BorderPaintsLaw", "law", "([I)Z"⟩]
def zbL : List ByteArray := [prog_8_method_2_code, prog_8_method_8_code, prog_8_method_10_code, prog_8_method_4_code, prog_8_method_18_code, prog_8_method_3_code, prog_8_method_5_code, prog_8_method_6_code, prog_8_method_7_code, prog_8_method_9_code, prog_8_method_13_code, prog_8_method_14_code, prog_8_method_15_code, prog_8_method_16_code, prog_8_method_19_code, prog_8_method_20_code, prog_8_method_21_code, prog_8_method_22_code, prog_8_method_23_code, prog_8_method_17_code, prog_8_method_24_code, prog_8_method_11_code, prog_8_method_12_code, prog_8_method_25_code, prog_8_method_39_code, prog_8_method_40_code, prog_8_method_41_code, prog_8_method_42_code, prog_8_method_43_code, prog_8_method_26_code, prog_8_method_27_code, prog_8_method_28_code, prog_8_method_31_code, prog_8_method_29_code, prog_8_method_30_code, prog_8_method_32_code, prog_8_method_33_code, prog_8_method_35_code, prog_8_method_34_code, prog_8_method_36_code, prog_8_method_37_code, prog_8_method_38_code, prog_8_method_44_code, prog_8_method_45_code, prog_8_method_46_code, prog_8_method_47_code, prog_8_method_48_code, prog_8_method_49_code, prog_8_method_50_code, prog_8_method_51_code, prog_8_method_52_code, prog_8_method_53_code, prog_8_method_54_code, prog_8_method_55_code, prog_8_method_56_code, prog_8_method_57_code, prog_8_method_58_code, prog_8_method_59_code, prog_8_method_60_code, prog_8_method_61_code, prog_8_method_62_code, prog_8_method_63_code, prog_1_method_31_code, prog_3_method_2_code, prog_6_method_2_code, prog_4_method_2_code, prog_1_method_32_code, prog_6_method_5_code, prog_1_method_2_code, prog_1_method_33_code, prog_6_method_3_code, prog_6_method_4_code, prog_3_method_7_code, prog_6_method_6_code, prog_6_method_12_code, prog_6_method_13_code, prog_6_method_14_code, prog_1_method_3_code, prog_1_method_4_code, prog_9_method_49_code, prog_1_method_5_code, prog_6_method_7_code, prog_6_method_9_code, prog_6_method_10_code, prog_1_method_6_code, prog_3_method_3_code, prog_3_method_4_code, prog_3_method_6_code, prog_3_method_5_code, prog_1_method_7_code, prog_2_method_4_code, prog_2_method_3_code, prog_2_method_5_code, prog_2_method_7_code, prog_2_method_8_code, prog_2_method_6_code, prog_1_method_8_code, prog_1_method_10_code, prog_3_method_8_code, prog_6_method_17_code, prog_1_method_9_code, prog_1_method_11_code, prog_5_method_2_code, prog_5_method_5_code, prog_5_method_12_code, prog_5_method_12_code, prog_5_method_12_code, prog_5_method_12_code, prog_5_method_12_code, prog_5_method_12_code, prog_5_method_12_code, prog_5_method_12_code, prog_5_method_12_code, prog_5_method_12_code, prog_5_method_11_code, prog_1_method_12_code, prog_6_method_18_code, prog_6_method_19_code, prog_6_method_20_code, prog_6_method_21_code, prog_1_method_13_code, prog_2_method_2_code, prog_1_method_14_code, prog_1_method_15_code, prog_4_method_3_code, prog_1_method_16_code, prog_1_method_17_code, prog_1_method_18_code, prog_3_method_9_code, prog_6_method_15_code, prog_1_method_19_code, prog_1_method_20_code, prog_1_method_21_code, prog_1_method_22_code, prog_5_method_13_code, prog_1_method_23_code, prog_1_method_24_code, prog_5_method_3_code, prog_1_method_25_code, prog_5_method_6_code, prog_5_method_8_code, prog_5_method_8_code, prog_5_method_8_code, prog_5_method_8_code, prog_5_method_8_code, prog_5_method_8_code, prog_5_method_8_code, prog_5_method_8_code, prog_5_method_8_code, prog_5_method_8_code, prog_5_method_7_code, prog_1_method_26_code, prog_5_method_10_code, prog_5_method_10_code, prog_5_method_10_code, prog_5_method_10_code, prog_5_method_10_code, prog_5_method_10_code, prog_5_method_10_code, prog_5_method_10_code, prog_5_method_10_code, prog_5_method_10_code, prog_5_method_9_code, prog_1_method_27_code, prog_5_method_4_code, prog_1_method_28_code, prog_1_method_29_code, prog_6_method_11_code, prog_6_method_16_code, prog_6_method_8_code, prog_1_method_30_code, code]
def zlL : List Nat := [3, 1, 2, 4, 4, 3, 2, 2, 3, 3, 3, 4, 2, 3, 3, 4, 4, 3, 3, 6, 4, 2, 7, 5, 3, 3, 1, 3, 4, 4, 8, 7, 4, 3, 4, 3, 2, 3, 7, 7, 2, 2, 2, 2, 2, 4, 5, 3, 3, 2, 3, 3, 2, 2, 3, 1, 2, 1, 3, 3, 4, 2, 1, 2, 2, 2, 1, 4, 3, 2, 2, 2, 4, 3, 5, 2, 3, 3, 4, 1, 3, 4, 2, 3, 4, 6, 4, 3, 5, 5, 2, 3, 2, 2, 4, 4, 3, 3, 3, 7, 3, 7, 3, 4, 6, 6, 6, 6, 6, 6, 6, 6, 6, 6, 1, 2, 5, 8, 6, 5, 5, 2, 2, 2, 2, 1, 1, 1, 4, 5, 3, 3, 2, 3, 3, 2, 2, 3, 3, 2, 5, 5, 5, 5, 5, 5, 5, 5, 5, 5, 1, 1, 4, 4, 4, 4, 4, 4, 4, 4, 4, 4, 1, 4, 3, 4, 3, 4, 3, 4, 2, 4]
def ztL : List (Option FieldType) := [some .boolean, some .boolean, none, none, some .int, some .int, some .boolean, some .boolean, some .int, some .boolean, some .boolean, some .int, some .boolean, some .int, some .int, some .int, some .int, some .int, some .int, some .int, some .int, some .int, none, some .int, some .boolean, some .boolean, some .boolean, some .int, some .int, some .int, some .int, some .int, none, some .boolean, some .boolean, none, some .int, some .boolean, some .int, some .int, some .int, some .int, some .int, some .int, some .int, some .int, some .int, some .int, some .int, some .int, some .int, some .int, some .int, some .int, some .int, some .int, some .int, some .int, some .int, some .int, some .int, some .int, some .boolean, none, none, none, some .boolean, some .int, some .int, some .boolean, some .boolean, some .boolean, some .int, some .boolean, some .int, some .boolean, some .int, some .int, some .int, some .int, some .int, none, some .boolean, some .int, some .int, some .int, some .int, none, none, some .int, some .boolean, some .boolean, some .int, some .int, some .int, some .int, some .int, some .boolean, some .int, none, some .int, some .int, none, some .int, none, none, none, none, none, none, none, none, none, none, some .boolean, some .int, some .int, some .int, some .boolean, none, some .int, none, some .int, some .int, none, some .int, some .int, some .int, some .int, some .int, some .int, some .int, some .int, some .int, some .int, some .int, some .int, none, some .int, some .boolean, some .int, some .int, some .int, some .int, some .int, some .int, some .int, some .int, some .int, some .int, some .int, some .int, some .boolean, some .boolean, some .boolean, some .boolean, some .boolean, some .boolean, some .boolean, some .boolean, some .boolean, some .boolean, some .boolean, some .int, none, some .int, some .int, some .int, some .int, some .int, some .int, some .boolean]
def zmL : List Nat := [6, 6, 6, 6, 6, 6, 6, 6, 6, 6, 6, 6, 6, 6, 6, 6, 6, 6, 6, 6, 6, 6, 6, 6, 6, 6, 6, 6, 6, 6, 6, 6, 6, 6, 6, 6, 6, 6, 6, 6, 6, 6, 6, 6, 6, 6, 6, 6, 6, 6, 6, 6, 6, 6, 6, 6, 6, 6, 6, 6, 6, 6, 5, 1, 4, 2, 5, 4, 5, 5, 4, 4, 1, 4, 4, 4, 4, 5, 5, 99, 5, 4, 4, 4, 5, 1, 1, 1, 1, 5, 0, 0, 0, 0, 0, 0, 5, 5, 1, 4, 5, 5, 3, 3, 3, 3, 3, 3, 3, 3, 3, 3, 3, 3, 3, 5, 4, 4, 4, 4, 5, 0, 5, 5, 2, 5, 5, 5, 1, 4, 5, 5, 5, 5, 3, 5, 5, 3, 5, 3, 3, 3, 3, 3, 3, 3, 3, 3, 3, 3, 3, 5, 3, 3, 3, 3, 3, 3, 3, 3, 3, 3, 3, 5, 3, 5, 5, 4, 4, 4, 5, 99]
def zyM (i : Nat) : MethodName := zyL.getD i ⟨"", "", ""⟩
def zbM (i : Nat) : ByteArray := zbL.getD i ByteArray.empty
def zlM (i : Nat) : Nat := zlL.getD i 0
def ztM (i : Nat) : Option FieldType := ztL.getD i none
def zmci (i : Nat) : Nat := zmL.getD i 99
set_option maxRecDepth 40000 in
theorem zmin_s : Jvm.Cond.static Lib.Math.min.name ∈ zbw := zin 257 rfl rfl
set_option maxRecDepth 40000 in
theorem zmin_c : Jvm.Cond.code Lib.Math.min.name Lib.Math.min.code 2 (some .int) ∈ zbw := zin 258 rfl rfl
set_option maxRecDepth 40000 in
theorem zmax_s : Jvm.Cond.static Lib.Math.max.name ∈ zbw := zin 347 rfl rfl
set_option maxRecDepth 40000 in
theorem zmax_c : Jvm.Cond.code Lib.Math.max.name Lib.Math.max.code 2 (some .int) ∈ zbw := zin 348 rfl rfl
set_option maxRecDepth 40000 in
theorem zmath : Jvm.Cond.initialized "java/lang/Math" ∈ zbw := zin 50 rfl rfl
set_option maxRecDepth 40000 in
theorem zcopy_n : Jvm.Cond.native arraycopyName ∈ zbw := zin 250 rfl rfl
set_option maxRecDepth 40000 in
theorem zcopy_s : Jvm.Cond.static arraycopyName ∈ zbw := zin 249 rfl rfl
set_option maxRecDepth 40000 in
theorem zcopy_i : Jvm.Cond.initialized "java/lang/System" ∈ zbw := zin 49 rfl rfl
set_option maxRecDepth 40000 in
theorem zcl_0 : zcl (zyM 0) (zbM 0) (zlM 0) (ztM 0) 3 := ⟨zin 48 rfl rfl, zin 660 rfl rfl, ⟨by decide +kernel, by decide +kernel, by decide +kernel⟩, by decide⟩
set_option maxRecDepth 40000 in
theorem zct_0 : Jvm.Cond.static (zyM 0) ∈ zbw := zin 659 rfl rfl
set_option maxRecDepth 40000 in
theorem zcl_1 : zcl (zyM 1) (zbM 1) (zlM 1) (ztM 1) 1 := ⟨zin 48 rfl rfl, zin 657 rfl rfl, ⟨by decide +kernel, by decide +kernel, by decide +kernel⟩, by decide⟩
set_option maxRecDepth 40000 in
theorem zct_1 : Jvm.Cond.static (zyM 1) ∈ zbw := zin 656 rfl rfl
set_option maxRecDepth 40000 in
theorem zcl_2 : zcl (zyM 2) (zbM 2) (zlM 2) (ztM 2) 0 := ⟨zin 48 rfl rfl, zin 664 rfl rfl, ⟨by decide +kernel, by decide +kernel, by decide +kernel⟩, by decide⟩
set_option maxRecDepth 40000 in
theorem zci_2 : Jvm.Cond.instanceMethod (zyM 2) ∈ zbw := zin 663 rfl rfl
set_option maxRecDepth 40000 in
theorem zcs_2 : Jvm.Cond.selects (zyM 2).cls (zyM 2) (zyM 2) ∈ zbw := zin 11 rfl rfl
set_option maxRecDepth 40000 in
theorem zcl_3 : zcl (zyM 3) (zbM 3) (zlM 3) (ztM 3) 3 := ⟨zin 48 rfl rfl, zin 668 rfl rfl, ⟨by decide +kernel, by decide +kernel, by decide +kernel⟩, by decide⟩
set_option maxRecDepth 40000 in
theorem zci_3 : Jvm.Cond.instanceMethod (zyM 3) ∈ zbw := zin 667 rfl rfl
set_option maxRecDepth 40000 in
theorem zcs_3 : Jvm.Cond.selects (zyM 3).cls (zyM 3) (zyM 3) ∈ zbw := zin 12 rfl rfl
set_option maxRecDepth 40000 in
theorem zcl_4 : zcl (zyM 4) (zbM 4) (zlM 4) (ztM 4) 2 := ⟨zin 48 rfl rfl, zin 654 rfl rfl, ⟨by decide +kernel, by decide +kernel, by decide +kernel⟩, by decide⟩
set_option maxRecDepth 40000 in
theorem zci_4 : Jvm.Cond.instanceMethod (zyM 4) ∈ zbw := zin 652 rfl rfl
set_option maxRecDepth 40000 in
theorem zcs_4 : Jvm.Cond.selects (zyM 4).cls (zyM 4) (zyM 4) ∈ zbw := zin 653 rfl rfl
set_option maxRecDepth 40000 in
theorem zcl_5 : zcl (zyM 5) (zbM 5) (zlM 5) (ztM 5) 2 := ⟨zin 48 rfl rfl, zin 684 rfl rfl, ⟨by decide +kernel, by decide +kernel, by decide +kernel⟩, by decide⟩
set_option maxRecDepth 40000 in
theorem zci_5 : Jvm.Cond.instanceMethod (zyM 5) ∈ zbw := zin 683 rfl rfl
set_option maxRecDepth 40000 in
theorem zcs_5 : Jvm.Cond.selects (zyM 5).cls (zyM 5) (zyM 5) ∈ zbw := zin 15 rfl rfl
set_option maxRecDepth 40000 in
theorem zcl_6 : zcl (zyM 6) (zbM 6) (zlM 6) (ztM 6) 1 := ⟨zin 48 rfl rfl, zin 680 rfl rfl, ⟨by decide +kernel, by decide +kernel, by decide +kernel⟩, by decide⟩
set_option maxRecDepth 40000 in
theorem zci_6 : Jvm.Cond.instanceMethod (zyM 6) ∈ zbw := zin 679 rfl rfl
set_option maxRecDepth 40000 in
theorem zcs_6 : Jvm.Cond.selects (zyM 6).cls (zyM 6) (zyM 6) ∈ zbw := zin 14 rfl rfl
set_option maxRecDepth 40000 in
theorem zcl_7 : zcl (zyM 7) (zbM 7) (zlM 7) (ztM 7) 1 := ⟨zin 48 rfl rfl, zin 676 rfl rfl, ⟨by decide +kernel, by decide +kernel, by decide +kernel⟩, by decide⟩
set_option maxRecDepth 40000 in
theorem zci_7 : Jvm.Cond.instanceMethod (zyM 7) ∈ zbw := zin 675 rfl rfl
set_option maxRecDepth 40000 in
theorem zcs_7 : Jvm.Cond.selects (zyM 7).cls (zyM 7) (zyM 7) ∈ zbw := zin 13 rfl rfl
set_option maxRecDepth 40000 in
theorem zcl_8 : zcl (zyM 8) (zbM 8) (zlM 8) (ztM 8) 2 := ⟨zin 48 rfl rfl, zin 704 rfl rfl, ⟨by decide +kernel, by decide +kernel, by decide +kernel⟩, by decide⟩
set_option maxRecDepth 40000 in
theorem zci_8 : Jvm.Cond.instanceMethod (zyM 8) ∈ zbw := zin 703 rfl rfl
set_option maxRecDepth 40000 in
theorem zcs_8 : Jvm.Cond.selects (zyM 8).cls (zyM 8) (zyM 8) ∈ zbw := zin 20 rfl rfl
set_option maxRecDepth 40000 in
theorem zcl_9 : zcl (zyM 9) (zbM 9) (zlM 9) (ztM 9) 2 := ⟨zin 48 rfl rfl, zin 708 rfl rfl, ⟨by decide +kernel, by decide +kernel, by decide +kernel⟩, by decide⟩
set_option maxRecDepth 40000 in
theorem zci_9 : Jvm.Cond.instanceMethod (zyM 9) ∈ zbw := zin 707 rfl rfl
set_option maxRecDepth 40000 in
theorem zcs_9 : Jvm.Cond.selects (zyM 9).cls (zyM 9) (zyM 9) ∈ zbw := zin 21 rfl rfl
set_option maxRecDepth 40000 in
theorem zcl_10 : zcl (zyM 10) (zbM 10) (zlM 10) (ztM 10) 2 := ⟨zin 48 rfl rfl, zin 700 rfl rfl, ⟨by decide +kernel, by decide +kernel, by decide +kernel⟩, by decide⟩
set_option maxRecDepth 40000 in
theorem zci_10 : Jvm.Cond.instanceMethod (zyM 10) ∈ zbw := zin 699 rfl rfl
set_option maxRecDepth 40000 in
theorem zcs_10 : Jvm.Cond.selects (zyM 10).cls (zyM 10) (zyM 10) ∈ zbw := zin 19 rfl rfl
set_option maxRecDepth 40000 in
theorem zcl_11 : zcl (zyM 11) (zbM 11) (zlM 11) (ztM 11) 1 := ⟨zin 48 rfl rfl, zin 696 rfl rfl, ⟨by decide +kernel, by decide +kernel, by decide +kernel⟩, by decide⟩
set_option maxRecDepth 40000 in
theorem zci_11 : Jvm.Cond.instanceMethod (zyM 11) ∈ zbw := zin 695 rfl rfl
set_option maxRecDepth 40000 in
theorem zcs_11 : Jvm.Cond.selects (zyM 11).cls (zyM 11) (zyM 11) ∈ zbw := zin 18 rfl rfl
set_option maxRecDepth 40000 in
theorem zcl_12 : zcl (zyM 12) (zbM 12) (zlM 12) (ztM 12) 1 := ⟨zin 48 rfl rfl, zin 692 rfl rfl, ⟨by decide +kernel, by decide +kernel, by decide +kernel⟩, by decide⟩
set_option maxRecDepth 40000 in
theorem zci_12 : Jvm.Cond.instanceMethod (zyM 12) ∈ zbw := zin 691 rfl rfl
set_option maxRecDepth 40000 in
theorem zcs_12 : Jvm.Cond.selects (zyM 12).cls (zyM 12) (zyM 12) ∈ zbw := zin 17 rfl rfl
set_option maxRecDepth 40000 in
theorem zcl_13 : zcl (zyM 13) (zbM 13) (zlM 13) (ztM 13) 0 := ⟨zin 48 rfl rfl, zin 688 rfl rfl, ⟨by decide +kernel, by decide +kernel, by decide +kernel⟩, by decide⟩
set_option maxRecDepth 40000 in
theorem zci_13 : Jvm.Cond.instanceMethod (zyM 13) ∈ zbw := zin 687 rfl rfl
set_option maxRecDepth 40000 in
theorem zcs_13 : Jvm.Cond.selects (zyM 13).cls (zyM 13) (zyM 13) ∈ zbw := zin 16 rfl rfl
set_option maxRecDepth 40000 in
theorem zcl_14 : zcl (zyM 14) (zbM 14) (zlM 14) (ztM 14) 2 := ⟨zin 48 rfl rfl, zin 672 rfl rfl, ⟨by decide +kernel, by decide +kernel, by decide +kernel⟩, by decide⟩
set_option maxRecDepth 40000 in
theorem zci_14 : Jvm.Cond.instanceMethod (zyM 14) ∈ zbw := zin 670 rfl rfl
set_option maxRecDepth 40000 in
theorem zcs_14 : Jvm.Cond.selects (zyM 14).cls (zyM 14) (zyM 14) ∈ zbw := zin 671 rfl rfl
set_option maxRecDepth 40000 in
theorem zcl_15 : zcl (zyM 15) (zbM 15) (zlM 15) (ztM 15) 2 := ⟨zin 48 rfl rfl, zin 712 rfl rfl, ⟨by decide +kernel, by decide +kernel, by decide +kernel⟩, by decide⟩
set_option maxRecDepth 40000 in
theorem zci_15 : Jvm.Cond.instanceMethod (zyM 15) ∈ zbw := zin 710 rfl rfl
set_option maxRecDepth 40000 in
theorem zcs_15 : Jvm.Cond.selects (zyM 15).cls (zyM 15) (zyM 15) ∈ zbw := zin 711 rfl rfl
set_option maxRecDepth 40000 in
theorem zcl_16 : zcl (zyM 16) (zbM 16) (zlM 16) (ztM 16) 1 := ⟨zin 48 rfl rfl, zin 720 rfl rfl, ⟨by decide +kernel, by decide +kernel, by decide +kernel⟩, by decide⟩
set_option maxRecDepth 40000 in
theorem zci_16 : Jvm.Cond.instanceMethod (zyM 16) ∈ zbw := zin 719 rfl rfl
set_option maxRecDepth 40000 in
theorem zcs_16 : Jvm.Cond.selects (zyM 16).cls (zyM 16) (zyM 16) ∈ zbw := zin 22 rfl rfl
set_option maxRecDepth 40000 in
theorem zcl_17 : zcl (zyM 17) (zbM 17) (zlM 17) (ztM 17) 1 := ⟨zin 48 rfl rfl, zin 723 rfl rfl, ⟨by decide +kernel, by decide +kernel, by decide +kernel⟩, by decide⟩
set_option maxRecDepth 40000 in
theorem zct_17 : Jvm.Cond.static (zyM 17) ∈ zbw := zin 722 rfl rfl
set_option maxRecDepth 40000 in
theorem zcl_18 : zcl (zyM 18) (zbM 18) (zlM 18) (ztM 18) 2 := ⟨zin 48 rfl rfl, zin 716 rfl rfl, ⟨by decide +kernel, by decide +kernel, by decide +kernel⟩, by decide⟩
set_option maxRecDepth 40000 in
theorem zci_18 : Jvm.Cond.instanceMethod (zyM 18) ∈ zbw := zin 714 rfl rfl
set_option maxRecDepth 40000 in
theorem zcs_18 : Jvm.Cond.selects (zyM 18).cls (zyM 18) (zyM 18) ∈ zbw := zin 715 rfl rfl
set_option maxRecDepth 40000 in
theorem zcl_19 : zcl (zyM 19) (zbM 19) (zlM 19) (ztM 19) 1 := ⟨zin 48 rfl rfl, zin 731 rfl rfl, ⟨by decide +kernel, by decide +kernel, by decide +kernel⟩, by decide⟩
set_option maxRecDepth 40000 in
theorem zci_19 : Jvm.Cond.instanceMethod (zyM 19) ∈ zbw := zin 730 rfl rfl
set_option maxRecDepth 40000 in
theorem zcs_19 : Jvm.Cond.selects (zyM 19).cls (zyM 19) (zyM 19) ∈ zbw := zin 23 rfl rfl
set_option maxRecDepth 40000 in
theorem zcl_20 : zcl (zyM 20) (zbM 20) (zlM 20) (ztM 20) 3 := ⟨zin 48 rfl rfl, zin 727 rfl rfl, ⟨by decide +kernel, by decide +kernel, by decide +kernel⟩, by decide⟩
set_option maxRecDepth 40000 in
theorem zci_20 : Jvm.Cond.instanceMethod (zyM 20) ∈ zbw := zin 725 rfl rfl
set_option maxRecDepth 40000 in
theorem zcs_20 : Jvm.Cond.selects (zyM 20).cls (zyM 20) (zyM 20) ∈ zbw := zin 726 rfl rfl
set_option maxRecDepth 40000 in
theorem zcl_21 : zcl (zyM 21) (zbM 21) (zlM 21) (ztM 21) 2 := ⟨zin 48 rfl rfl, zin 742 rfl rfl, ⟨by decide +kernel, by decide +kernel, by decide +kernel⟩, by decide⟩
set_option maxRecDepth 40000 in
theorem zct_21 : Jvm.Cond.static (zyM 21) ∈ zbw := zin 741 rfl rfl
set_option maxRecDepth 40000 in
theorem zcl_22 : zcl (zyM 22) (zbM 22) (zlM 22) (ztM 22) 3 := ⟨zin 48 rfl rfl, zin 739 rfl rfl, ⟨by decide +kernel, by decide +kernel, by decide +kernel⟩, by decide⟩
set_option maxRecDepth 40000 in
theorem zci_22 : Jvm.Cond.instanceMethod (zyM 22) ∈ zbw := zin 738 rfl rfl
set_option maxRecDepth 40000 in
theorem zcs_22 : Jvm.Cond.selects (zyM 22).cls (zyM 22) (zyM 22) ∈ zbw := zin 24 rfl rfl
set_option maxRecDepth 40000 in
theorem zcl_23 : zcl (zyM 23) (zbM 23) (zlM 23) (ztM 23) 3 := ⟨zin 48 rfl rfl, zin 735 rfl rfl, ⟨by decide +kernel, by decide +kernel, by decide +kernel⟩, by decide⟩
set_option maxRecDepth 40000 in
theorem zci_23 : Jvm.Cond.instanceMethod (zyM 23) ∈ zbw := zin 733 rfl rfl
set_option maxRecDepth 40000 in
theorem zcs_23 : Jvm.Cond.selects (zyM 23).cls (zyM 23) (zyM 23) ∈ zbw := zin 734 rfl rfl
set_option maxRecDepth 40000 in
theorem zcl_24 : zcl (zyM 24) (zbM 24) (zlM 24) (ztM 24) 2 := ⟨zin 48 rfl rfl, zin 810 rfl rfl, ⟨by decide +kernel, by decide +kernel, by decide +kernel⟩, by decide⟩
set_option maxRecDepth 40000 in
theorem zci_24 : Jvm.Cond.instanceMethod (zyM 24) ∈ zbw := zin 809 rfl rfl
set_option maxRecDepth 40000 in
theorem zcs_24 : Jvm.Cond.selects (zyM 24).cls (zyM 24) (zyM 24) ∈ zbw := zin 34 rfl rfl
set_option maxRecDepth 40000 in
theorem zcl_25 : zcl (zyM 25) (zbM 25) (zlM 25) (ztM 25) 1 := ⟨zin 48 rfl rfl, zin 814 rfl rfl, ⟨by decide +kernel, by decide +kernel, by decide +kernel⟩, by decide⟩
set_option maxRecDepth 40000 in
theorem zci_25 : Jvm.Cond.instanceMethod (zyM 25) ∈ zbw := zin 813 rfl rfl
set_option maxRecDepth 40000 in
theorem zcs_25 : Jvm.Cond.selects (zyM 25).cls (zyM 25) (zyM 25) ∈ zbw := zin 35 rfl rfl
set_option maxRecDepth 40000 in
theorem zcl_26 : zcl (zyM 26) (zbM 26) (zlM 26) (ztM 26) 0 := ⟨zin 48 rfl rfl, zin 806 rfl rfl, ⟨by decide +kernel, by decide +kernel, by decide +kernel⟩, by decide⟩
set_option maxRecDepth 40000 in
theorem zci_26 : Jvm.Cond.instanceMethod (zyM 26) ∈ zbw := zin 805 rfl rfl
set_option maxRecDepth 40000 in
theorem zcs_26 : Jvm.Cond.selects (zyM 26).cls (zyM 26) (zyM 26) ∈ zbw := zin 33 rfl rfl
set_option maxRecDepth 40000 in
theorem zcl_27 : zcl (zyM 27) (zbM 27) (zlM 27) (ztM 27) 0 := ⟨zin 48 rfl rfl, zin 802 rfl rfl, ⟨by decide +kernel, by decide +kernel, by decide +kernel⟩, by decide⟩
set_option maxRecDepth 40000 in
theorem zci_27 : Jvm.Cond.instanceMethod (zyM 27) ∈ zbw := zin 801 rfl rfl
set_option maxRecDepth 40000 in
theorem zcs_27 : Jvm.Cond.selects (zyM 27).cls (zyM 27) (zyM 27) ∈ zbw := zin 32 rfl rfl
set_option maxRecDepth 40000 in
theorem zcl_28 : zcl (zyM 28) (zbM 28) (zlM 28) (ztM 28) 0 := ⟨zin 48 rfl rfl, zin 798 rfl rfl, ⟨by decide +kernel, by decide +kernel, by decide +kernel⟩, by decide⟩
set_option maxRecDepth 40000 in
theorem zci_28 : Jvm.Cond.instanceMethod (zyM 28) ∈ zbw := zin 796 rfl rfl
set_option maxRecDepth 40000 in
theorem zcs_28 : Jvm.Cond.selects (zyM 28).cls (zyM 28) (zyM 28) ∈ zbw := zin 797 rfl rfl
set_option maxRecDepth 40000 in
theorem zcl_29 : zcl (zyM 29) (zbM 29) (zlM 29) (ztM 29) 1 := ⟨zin 48 rfl rfl, zin 750 rfl rfl, ⟨by decide +kernel, by decide +kernel, by decide +kernel⟩, by decide⟩
set_option maxRecDepth 40000 in
theorem zci_29 : Jvm.Cond.instanceMethod (zyM 29) ∈ zbw := zin 749 rfl rfl
set_option maxRecDepth 40000 in
theorem zcs_29 : Jvm.Cond.selects (zyM 29).cls (zyM 29) (zyM 29) ∈ zbw := zin 25 rfl rfl
set_option maxRecDepth 40000 in
theorem zcl_30 : zcl (zyM 30) (zbM 30) (zlM 30) (ztM 30) 2 := ⟨zin 48 rfl rfl, zin 746 rfl rfl, ⟨by decide +kernel, by decide +kernel, by decide +kernel⟩, by decide⟩
set_option maxRecDepth 40000 in
theorem zci_30 : Jvm.Cond.instanceMethod (zyM 30) ∈ zbw := zin 744 rfl rfl
set_option maxRecDepth 40000 in
theorem zcs_30 : Jvm.Cond.selects (zyM 30).cls (zyM 30) (zyM 30) ∈ zbw := zin 745 rfl rfl
set_option maxRecDepth 40000 in
theorem zcl_31 : zcl (zyM 31) (zbM 31) (zlM 31) (ztM 31) 4 := ⟨zin 48 rfl rfl, zin 754 rfl rfl, ⟨by decide +kernel, by decide +kernel, by decide +kernel⟩, by decide⟩
set_option maxRecDepth 40000 in
theorem zci_31 : Jvm.Cond.instanceMethod (zyM 31) ∈ zbw := zin 752 rfl rfl
set_option maxRecDepth 40000 in
theorem zcs_31 : Jvm.Cond.selects (zyM 31).cls (zyM 31) (zyM 31) ∈ zbw := zin 753 rfl rfl
set_option maxRecDepth 40000 in
theorem zcl_32 : zcl (zyM 32) (zbM 32) (zlM 32) (ztM 32) 0 := ⟨zin 48 rfl rfl, zin 766 rfl rfl, ⟨by decide +kernel, by decide +kernel, by decide +kernel⟩, by decide⟩
set_option maxRecDepth 40000 in
theorem zci_32 : Jvm.Cond.instanceMethod (zyM 32) ∈ zbw := zin 765 rfl rfl
set_option maxRecDepth 40000 in
theorem zcs_32 : Jvm.Cond.selects (zyM 32).cls (zyM 32) (zyM 32) ∈ zbw := zin 27 rfl rfl
set_option maxRecDepth 40000 in
theorem zcl_33 : zcl (zyM 33) (zbM 33) (zlM 33) (ztM 33) 2 := ⟨zin 48 rfl rfl, zin 774 rfl rfl, ⟨by decide +kernel, by decide +kernel, by decide +kernel⟩, by decide⟩
set_option maxRecDepth 40000 in
theorem zci_33 : Jvm.Cond.instanceMethod (zyM 33) ∈ zbw := zin 773 rfl rfl
set_option maxRecDepth 40000 in
theorem zcs_33 : Jvm.Cond.selects (zyM 33).cls (zyM 33) (zyM 33) ∈ zbw := zin 29 rfl rfl
set_option maxRecDepth 40000 in
theorem zcl_34 : zcl (zyM 34) (zbM 34) (zlM 34) (ztM 34) 1 := ⟨zin 48 rfl rfl, zin 770 rfl rfl, ⟨by decide +kernel, by decide +kernel, by decide +kernel⟩, by decide⟩
set_option maxRecDepth 40000 in
theorem zci_34 : Jvm.Cond.instanceMethod (zyM 34) ∈ zbw := zin 769 rfl rfl
set_option maxRecDepth 40000 in
theorem zcs_34 : Jvm.Cond.selects (zyM 34).cls (zyM 34) (zyM 34) ∈ zbw := zin 28 rfl rfl
set_option maxRecDepth 40000 in
theorem zcl_35 : zcl (zyM 35) (zbM 35) (zlM 35) (ztM 35) 0 := ⟨zin 48 rfl rfl, zin 762 rfl rfl, ⟨by decide +kernel, by decide +kernel, by decide +kernel⟩, by decide⟩
set_option maxRecDepth 40000 in
theorem zci_35 : Jvm.Cond.instanceMethod (zyM 35) ∈ zbw := zin 761 rfl rfl
set_option maxRecDepth 40000 in
theorem zcs_35 : Jvm.Cond.selects (zyM 35).cls (zyM 35) (zyM 35) ∈ zbw := zin 26 rfl rfl
set_option maxRecDepth 40000 in
theorem zcl_36 : zcl (zyM 36) (zbM 36) (zlM 36) (ztM 36) 0 := ⟨zin 48 rfl rfl, zin 758 rfl rfl, ⟨by decide +kernel, by decide +kernel, by decide +kernel⟩, by decide⟩
set_option maxRecDepth 40000 in
theorem zci_36 : Jvm.Cond.instanceMethod (zyM 36) ∈ zbw := zin 756 rfl rfl
set_option maxRecDepth 40000 in
theorem zcs_36 : Jvm.Cond.selects (zyM 36).cls (zyM 36) (zyM 36) ∈ zbw := zin 757 rfl rfl
set_option maxRecDepth 40000 in
theorem zcl_37 : zcl (zyM 37) (zbM 37) (zlM 37) (ztM 37) 2 := ⟨zin 48 rfl rfl, zin 782 rfl rfl, ⟨by decide +kernel, by decide +kernel, by decide +kernel⟩, by decide⟩
set_option maxRecDepth 40000 in
theorem zci_37 : Jvm.Cond.instanceMethod (zyM 37) ∈ zbw := zin 781 rfl rfl
set_option maxRecDepth 40000 in
theorem zcs_37 : Jvm.Cond.selects (zyM 37).cls (zyM 37) (zyM 37) ∈ zbw := zin 30 rfl rfl
set_option maxRecDepth 40000 in
theorem zcl_38 : zcl (zyM 38) (zbM 38) (zlM 38) (ztM 38) 2 := ⟨zin 48 rfl rfl, zin 786 rfl rfl, ⟨by decide +kernel, by decide +kernel, by decide +kernel⟩, by decide⟩
set_option maxRecDepth 40000 in
theorem zci_38 : Jvm.Cond.instanceMethod (zyM 38) ∈ zbw := zin 785 rfl rfl
set_option maxRecDepth 40000 in
theorem zcs_38 : Jvm.Cond.selects (zyM 38).cls (zyM 38) (zyM 38) ∈ zbw := zin 31 rfl rfl
set_option maxRecDepth 40000 in
theorem zcl_39 : zcl (zyM 39) (zbM 39) (zlM 39) (ztM 39) 2 := ⟨zin 48 rfl rfl, zin 778 rfl rfl, ⟨by decide +kernel, by decide +kernel, by decide +kernel⟩, by decide⟩
set_option maxRecDepth 40000 in
theorem zci_39 : Jvm.Cond.instanceMethod (zyM 39) ∈ zbw := zin 776 rfl rfl
set_option maxRecDepth 40000 in
theorem zcs_39 : Jvm.Cond.selects (zyM 39).cls (zyM 39) (zyM 39) ∈ zbw := zin 777 rfl rfl
set_option maxRecDepth 40000 in
theorem zcl_40 : zcl (zyM 40) (zbM 40) (zlM 40) (ztM 40) 1 := ⟨zin 48 rfl rfl, zin 790 rfl rfl, ⟨by decide +kernel, by decide +kernel, by decide +kernel⟩, by decide⟩
set_option maxRecDepth 40000 in
theorem zci_40 : Jvm.Cond.instanceMethod (zyM 40) ∈ zbw := zin 788 rfl rfl
set_option maxRecDepth 40000 in
theorem zcs_40 : Jvm.Cond.selects (zyM 40).cls (zyM 40) (zyM 40) ∈ zbw := zin 789 rfl rfl
set_option maxRecDepth 40000 in
theorem zcl_41 : zcl (zyM 41) (zbM 41) (zlM 41) (ztM 41) 0 := ⟨zin 48 rfl rfl, zin 794 rfl rfl, ⟨by decide +kernel, by decide +kernel, by decide +kernel⟩, by decide⟩
set_option maxRecDepth 40000 in
theorem zci_41 : Jvm.Cond.instanceMethod (zyM 41) ∈ zbw := zin 792 rfl rfl
set_option maxRecDepth 40000 in
theorem zcs_41 : Jvm.Cond.selects (zyM 41).cls (zyM 41) (zyM 41) ∈ zbw := zin 793 rfl rfl
set_option maxRecDepth 40000 in
theorem zcl_42 : zcl (zyM 42) (zbM 42) (zlM 42) (ztM 42) 0 := ⟨zin 48 rfl rfl, zin 818 rfl rfl, ⟨by decide +kernel, by decide +kernel, by decide +kernel⟩, by decide⟩
set_option maxRecDepth 40000 in
theorem zci_42 : Jvm.Cond.instanceMethod (zyM 42) ∈ zbw := zin 816 rfl rfl
set_option maxRecDepth 40000 in
theorem zcs_42 : Jvm.Cond.selects (zyM 42).cls (zyM 42) (zyM 42) ∈ zbw := zin 817 rfl rfl
set_option maxRecDepth 40000 in
theorem zcl_43 : zcl (zyM 43) (zbM 43) (zlM 43) (ztM 43) 0 := ⟨zin 48 rfl rfl, zin 822 rfl rfl, ⟨by decide +kernel, by decide +kernel, by decide +kernel⟩, by decide⟩
set_option maxRecDepth 40000 in
theorem zci_43 : Jvm.Cond.instanceMethod (zyM 43) ∈ zbw := zin 820 rfl rfl
set_option maxRecDepth 40000 in
theorem zcs_43 : Jvm.Cond.selects (zyM 43).cls (zyM 43) (zyM 43) ∈ zbw := zin 821 rfl rfl
set_option maxRecDepth 40000 in
theorem zcl_44 : zcl (zyM 44) (zbM 44) (zlM 44) (ztM 44) 0 := ⟨zin 48 rfl rfl, zin 826 rfl rfl, ⟨by decide +kernel, by decide +kernel, by decide +kernel⟩, by decide⟩
set_option maxRecDepth 40000 in
theorem zci_44 : Jvm.Cond.instanceMethod (zyM 44) ∈ zbw := zin 824 rfl rfl
set_option maxRecDepth 40000 in
theorem zcs_44 : Jvm.Cond.selects (zyM 44).cls (zyM 44) (zyM 44) ∈ zbw := zin 825 rfl rfl
set_option maxRecDepth 40000 in
theorem zcl_45 : zcl (zyM 45) (zbM 45) (zlM 45) (ztM 45) 1 := ⟨zin 48 rfl rfl, zin 834 rfl rfl, ⟨by decide +kernel, by decide +kernel, by decide +kernel⟩, by decide⟩
set_option maxRecDepth 40000 in
theorem zci_45 : Jvm.Cond.instanceMethod (zyM 45) ∈ zbw := zin 833 rfl rfl
set_option maxRecDepth 40000 in
theorem zcs_45 : Jvm.Cond.selects (zyM 45).cls (zyM 45) (zyM 45) ∈ zbw := zin 36 rfl rfl
set_option maxRecDepth 40000 in
theorem zcl_46 : zcl (zyM 46) (zbM 46) (zlM 46) (ztM 46) 1 := ⟨zin 48 rfl rfl, zin 838 rfl rfl, ⟨by decide +kernel, by decide +kernel, by decide +kernel⟩, by decide⟩
set_option maxRecDepth 40000 in
theorem zci_46 : Jvm.Cond.instanceMethod (zyM 46) ∈ zbw := zin 837 rfl rfl
set_option maxRecDepth 40000 in
theorem zcs_46 : Jvm.Cond.selects (zyM 46).cls (zyM 46) (zyM 46) ∈ zbw := zin 37 rfl rfl
set_option maxRecDepth 40000 in
theorem zcl_47 : zcl (zyM 47) (zbM 47) (zlM 47) (ztM 47) 2 := ⟨zin 48 rfl rfl, zin 830 rfl rfl, ⟨by decide +kernel, by decide +kernel, by decide +kernel⟩, by decide⟩
set_option maxRecDepth 40000 in
theorem zci_47 : Jvm.Cond.instanceMethod (zyM 47) ∈ zbw := zin 828 rfl rfl
set_option maxRecDepth 40000 in
theorem zcs_47 : Jvm.Cond.selects (zyM 47).cls (zyM 47) (zyM 47) ∈ zbw := zin 829 rfl rfl
set_option maxRecDepth 40000 in
theorem zcl_48 : zcl (zyM 48) (zbM 48) (zlM 48) (ztM 48) 2 := ⟨zin 48 rfl rfl, zin 842 rfl rfl, ⟨by decide +kernel, by decide +kernel, by decide +kernel⟩, by decide⟩
set_option maxRecDepth 40000 in
theorem zci_48 : Jvm.Cond.instanceMethod (zyM 48) ∈ zbw := zin 840 rfl rfl
set_option maxRecDepth 40000 in
theorem zcs_48 : Jvm.Cond.selects (zyM 48).cls (zyM 48) (zyM 48) ∈ zbw := zin 841 rfl rfl
set_option maxRecDepth 40000 in
theorem zcl_49 : zcl (zyM 49) (zbM 49) (zlM 49) (ztM 49) 1 := ⟨zin 48 rfl rfl, zin 846 rfl rfl, ⟨by decide +kernel, by decide +kernel, by decide +kernel⟩, by decide⟩
set_option maxRecDepth 40000 in
theorem zci_49 : Jvm.Cond.instanceMethod (zyM 49) ∈ zbw := zin 844 rfl rfl
set_option maxRecDepth 40000 in
theorem zcs_49 : Jvm.Cond.selects (zyM 49).cls (zyM 49) (zyM 49) ∈ zbw := zin 845 rfl rfl
set_option maxRecDepth 40000 in
theorem zcl_50 : zcl (zyM 50) (zbM 50) (zlM 50) (ztM 50) 2 := ⟨zin 48 rfl rfl, zin 850 rfl rfl, ⟨by decide +kernel, by decide +kernel, by decide +kernel⟩, by decide⟩
set_option maxRecDepth 40000 in
theorem zci_50 : Jvm.Cond.instanceMethod (zyM 50) ∈ zbw := zin 848 rfl rfl
set_option maxRecDepth 40000 in
theorem zcs_50 : Jvm.Cond.selects (zyM 50).cls (zyM 50) (zyM 50) ∈ zbw := zin 849 rfl rfl
set_option maxRecDepth 40000 in
theorem zcl_51 : zcl (zyM 51) (zbM 51) (zlM 51) (ztM 51) 0 := ⟨zin 48 rfl rfl, zin 858 rfl rfl, ⟨by decide +kernel, by decide +kernel, by decide +kernel⟩, by decide⟩
set_option maxRecDepth 40000 in
theorem zci_51 : Jvm.Cond.instanceMethod (zyM 51) ∈ zbw := zin 857 rfl rfl
set_option maxRecDepth 40000 in
theorem zcs_51 : Jvm.Cond.selects (zyM 51).cls (zyM 51) (zyM 51) ∈ zbw := zin 38 rfl rfl
set_option maxRecDepth 40000 in
theorem zcl_52 : zcl (zyM 52) (zbM 52) (zlM 52) (ztM 52) 1 := ⟨zin 48 rfl rfl, zin 854 rfl rfl, ⟨by decide +kernel, by decide +kernel, by decide +kernel⟩, by decide⟩
set_option maxRecDepth 40000 in
theorem zci_52 : Jvm.Cond.instanceMethod (zyM 52) ∈ zbw := zin 852 rfl rfl
set_option maxRecDepth 40000 in
theorem zcs_52 : Jvm.Cond.selects (zyM 52).cls (zyM 52) (zyM 52) ∈ zbw := zin 853 rfl rfl
set_option maxRecDepth 40000 in
theorem zcl_53 : zcl (zyM 53) (zbM 53) (zlM 53) (ztM 53) 1 := ⟨zin 48 rfl rfl, zin 862 rfl rfl, ⟨by decide +kernel, by decide +kernel, by decide +kernel⟩, by decide⟩
set_option maxRecDepth 40000 in
theorem zci_53 : Jvm.Cond.instanceMethod (zyM 53) ∈ zbw := zin 860 rfl rfl
set_option maxRecDepth 40000 in
theorem zcs_53 : Jvm.Cond.selects (zyM 53).cls (zyM 53) (zyM 53) ∈ zbw := zin 861 rfl rfl
set_option maxRecDepth 40000 in
theorem zcl_54 : zcl (zyM 54) (zbM 54) (zlM 54) (ztM 54) 2 := ⟨zin 48 rfl rfl, zin 866 rfl rfl, ⟨by decide +kernel, by decide +kernel, by decide +kernel⟩, by decide⟩
set_option maxRecDepth 40000 in
theorem zci_54 : Jvm.Cond.instanceMethod (zyM 54) ∈ zbw := zin 864 rfl rfl
set_option maxRecDepth 40000 in
theorem zcs_54 : Jvm.Cond.selects (zyM 54).cls (zyM 54) (zyM 54) ∈ zbw := zin 865 rfl rfl
set_option maxRecDepth 40000 in
theorem zcl_55 : zcl (zyM 55) (zbM 55) (zlM 55) (ztM 55) 0 := ⟨zin 48 rfl rfl, zin 870 rfl rfl, ⟨by decide +kernel, by decide +kernel, by decide +kernel⟩, by decide⟩
set_option maxRecDepth 40000 in
theorem zci_55 : Jvm.Cond.instanceMethod (zyM 55) ∈ zbw := zin 868 rfl rfl
set_option maxRecDepth 40000 in
theorem zcs_55 : Jvm.Cond.selects (zyM 55).cls (zyM 55) (zyM 55) ∈ zbw := zin 869 rfl rfl
set_option maxRecDepth 40000 in
theorem zcl_56 : zcl (zyM 56) (zbM 56) (zlM 56) (ztM 56) 1 := ⟨zin 48 rfl rfl, zin 874 rfl rfl, ⟨by decide +kernel, by decide +kernel, by decide +kernel⟩, by decide⟩
set_option maxRecDepth 40000 in
theorem zci_56 : Jvm.Cond.instanceMethod (zyM 56) ∈ zbw := zin 872 rfl rfl
set_option maxRecDepth 40000 in
theorem zcs_56 : Jvm.Cond.selects (zyM 56).cls (zyM 56) (zyM 56) ∈ zbw := zin 873 rfl rfl
set_option maxRecDepth 40000 in
theorem zcl_57 : zcl (zyM 57) (zbM 57) (zlM 57) (ztM 57) 0 := ⟨zin 48 rfl rfl, zin 878 rfl rfl, ⟨by decide +kernel, by decide +kernel, by decide +kernel⟩, by decide⟩
set_option maxRecDepth 40000 in
theorem zci_57 : Jvm.Cond.instanceMethod (zyM 57) ∈ zbw := zin 876 rfl rfl
set_option maxRecDepth 40000 in
theorem zcs_57 : Jvm.Cond.selects (zyM 57).cls (zyM 57) (zyM 57) ∈ zbw := zin 877 rfl rfl
set_option maxRecDepth 40000 in
theorem zcl_58 : zcl (zyM 58) (zbM 58) (zlM 58) (ztM 58) 2 := ⟨zin 48 rfl rfl, zin 882 rfl rfl, ⟨by decide +kernel, by decide +kernel, by decide +kernel⟩, by decide⟩
set_option maxRecDepth 40000 in
theorem zci_58 : Jvm.Cond.instanceMethod (zyM 58) ∈ zbw := zin 880 rfl rfl
set_option maxRecDepth 40000 in
theorem zcs_58 : Jvm.Cond.selects (zyM 58).cls (zyM 58) (zyM 58) ∈ zbw := zin 881 rfl rfl
set_option maxRecDepth 40000 in
theorem zcl_59 : zcl (zyM 59) (zbM 59) (zlM 59) (ztM 59) 0 := ⟨zin 48 rfl rfl, zin 890 rfl rfl, ⟨by decide +kernel, by decide +kernel, by decide +kernel⟩, by decide⟩
set_option maxRecDepth 40000 in
theorem zci_59 : Jvm.Cond.instanceMethod (zyM 59) ∈ zbw := zin 889 rfl rfl
set_option maxRecDepth 40000 in
theorem zcs_59 : Jvm.Cond.selects (zyM 59).cls (zyM 59) (zyM 59) ∈ zbw := zin 39 rfl rfl
set_option maxRecDepth 40000 in
theorem zcl_60 : zcl (zyM 60) (zbM 60) (zlM 60) (ztM 60) 0 := ⟨zin 48 rfl rfl, zin 894 rfl rfl, ⟨by decide +kernel, by decide +kernel, by decide +kernel⟩, by decide⟩
set_option maxRecDepth 40000 in
theorem zci_60 : Jvm.Cond.instanceMethod (zyM 60) ∈ zbw := zin 893 rfl rfl
set_option maxRecDepth 40000 in
theorem zcs_60 : Jvm.Cond.selects (zyM 60).cls (zyM 60) (zyM 60) ∈ zbw := zin 40 rfl rfl
set_option maxRecDepth 40000 in
theorem zcl_61 : zcl (zyM 61) (zbM 61) (zlM 61) (ztM 61) 1 := ⟨zin 48 rfl rfl, zin 886 rfl rfl, ⟨by decide +kernel, by decide +kernel, by decide +kernel⟩, by decide⟩
set_option maxRecDepth 40000 in
theorem zci_61 : Jvm.Cond.instanceMethod (zyM 61) ∈ zbw := zin 884 rfl rfl
set_option maxRecDepth 40000 in
theorem zcs_61 : Jvm.Cond.selects (zyM 61).cls (zyM 61) (zyM 61) ∈ zbw := zin 885 rfl rfl
set_option maxRecDepth 40000 in
theorem zcl_62 : zcl (zyM 62) (zbM 62) (zlM 62) (ztM 62) 1 := ⟨zin 42 rfl rfl, zin 239 rfl rfl, ⟨by decide +kernel, by decide +kernel, by decide +kernel⟩, by decide⟩
set_option maxRecDepth 40000 in
theorem zct_62 : Jvm.Cond.static (zyM 62) ∈ zbw := zin 238 rfl rfl
set_option maxRecDepth 40000 in
theorem zcl_63 : zcl (zyM 63) (zbM 63) (zlM 63) (ztM 63) 1 := ⟨zin 44 rfl rfl, zin 254 rfl rfl, ⟨by decide +kernel, by decide +kernel, by decide +kernel⟩, by decide⟩
set_option maxRecDepth 40000 in
theorem zci_63 : Jvm.Cond.instanceMethod (zyM 63) ∈ zbw := zin 252 rfl rfl
set_option maxRecDepth 40000 in
theorem zcs_63 : Jvm.Cond.selects (zyM 63).cls (zyM 63) (zyM 63) ∈ zbw := zin 253 rfl rfl
set_option maxRecDepth 40000 in
theorem zcl_64 : zcl (zyM 64) (zbM 64) (zlM 64) (ztM 64) 1 := ⟨zin 43 rfl rfl, zin 247 rfl rfl, ⟨by decide +kernel, by decide +kernel, by decide +kernel⟩, by decide⟩
set_option maxRecDepth 40000 in
theorem zci_64 : Jvm.Cond.instanceMethod (zyM 64) ∈ zbw := zin 245 rfl rfl
set_option maxRecDepth 40000 in
theorem zcs_64 : Jvm.Cond.selects (zyM 64).cls (zyM 64) (zyM 64) ∈ zbw := zin 246 rfl rfl
set_option maxRecDepth 40000 in
theorem zcl_65 : zcl (zyM 65) (zbM 65) (zlM 65) (ztM 65) 1 := ⟨zin 45 rfl rfl, zin 243 rfl rfl, ⟨by decide +kernel, by decide +kernel, by decide +kernel⟩, by decide⟩
set_option maxRecDepth 40000 in
theorem zci_65 : Jvm.Cond.instanceMethod (zyM 65) ∈ zbw := zin 241 rfl rfl
set_option maxRecDepth 40000 in
theorem zcs_65 : Jvm.Cond.selects (zyM 65).cls (zyM 65) (zyM 65) ∈ zbw := zin 242 rfl rfl
set_option maxRecDepth 40000 in
theorem zcl_66 : zcl (zyM 66) (zbM 66) (zlM 66) (ztM 66) 1 := ⟨zin 42 rfl rfl, zin 265 rfl rfl, ⟨by decide +kernel, by decide +kernel, by decide +kernel⟩, by decide⟩
set_option maxRecDepth 40000 in
theorem zct_66 : Jvm.Cond.static (zyM 66) ∈ zbw := zin 264 rfl rfl
set_option maxRecDepth 40000 in
theorem zcl_67 : zcl (zyM 67) (zbM 67) (zlM 67) (ztM 67) 2 := ⟨zin 43 rfl rfl, zin 262 rfl rfl, ⟨by decide +kernel, by decide +kernel, by decide +kernel⟩, by decide⟩
set_option maxRecDepth 40000 in
theorem zci_67 : Jvm.Cond.instanceMethod (zyM 67) ∈ zbw := zin 260 rfl rfl
set_option maxRecDepth 40000 in
theorem zcs_67 : Jvm.Cond.selects (zyM 67).cls (zyM 67) (zyM 67) ∈ zbw := zin 261 rfl rfl
set_option maxRecDepth 40000 in
theorem zcl_68 : zcl (zyM 68) (zbM 68) (zlM 68) (ztM 68) 2 := ⟨zin 42 rfl rfl, zin 236 rfl rfl, ⟨by decide +kernel, by decide +kernel, by decide +kernel⟩, by decide⟩
set_option maxRecDepth 40000 in
theorem zci_68 : Jvm.Cond.instanceMethod (zyM 68) ∈ zbw := zin 234 rfl rfl
set_option maxRecDepth 40000 in
theorem zcs_68 : Jvm.Cond.selects (zyM 68).cls (zyM 68) (zyM 68) ∈ zbw := zin 235 rfl rfl
set_option maxRecDepth 40000 in
theorem zcl_69 : zcl (zyM 69) (zbM 69) (zlM 69) (ztM 69) 2 := ⟨zin 42 rfl rfl, zin 276 rfl rfl, ⟨by decide +kernel, by decide +kernel, by decide +kernel⟩, by decide⟩
set_option maxRecDepth 40000 in
theorem zct_69 : Jvm.Cond.static (zyM 69) ∈ zbw := zin 275 rfl rfl
set_option maxRecDepth 40000 in
theorem zcl_70 : zcl (zyM 70) (zbM 70) (zlM 70) (ztM 70) 1 := ⟨zin 43 rfl rfl, zin 273 rfl rfl, ⟨by decide +kernel, by decide +kernel, by decide +kernel⟩, by decide⟩
set_option maxRecDepth 40000 in
theorem zci_70 : Jvm.Cond.instanceMethod (zyM 70) ∈ zbw := zin 271 rfl rfl
set_option maxRecDepth 40000 in
theorem zcs_70 : Jvm.Cond.selects (zyM 70).cls (zyM 70) (zyM 70) ∈ zbw := zin 272 rfl rfl
set_option maxRecDepth 40000 in
theorem zcl_71 : zcl (zyM 71) (zbM 71) (zlM 71) (ztM 71) 1 := ⟨zin 43 rfl rfl, zin 280 rfl rfl, ⟨by decide +kernel, by decide +kernel, by decide +kernel⟩, by decide⟩
set_option maxRecDepth 40000 in
theorem zci_71 : Jvm.Cond.instanceMethod (zyM 71) ∈ zbw := zin 278 rfl rfl
set_option maxRecDepth 40000 in
theorem zcs_71 : Jvm.Cond.selects (zyM 71).cls (zyM 71) (zyM 71) ∈ zbw := zin 279 rfl rfl
set_option maxRecDepth 40000 in
theorem zcl_72 : zcl (zyM 72) (zbM 72) (zlM 72) (ztM 72) 1 := ⟨zin 44 rfl rfl, zin 297 rfl rfl, ⟨by decide +kernel, by decide +kernel, by decide +kernel⟩, by decide⟩
set_option maxRecDepth 40000 in
theorem zci_72 : Jvm.Cond.instanceMethod (zyM 72) ∈ zbw := zin 295 rfl rfl
set_option maxRecDepth 40000 in
theorem zcs_72 : Jvm.Cond.selects (zyM 72).cls (zyM 72) (zyM 72) ∈ zbw := zin 296 rfl rfl
set_option maxRecDepth 40000 in
theorem zcl_73 : zcl (zyM 73) (zbM 73) (zlM 73) (ztM 73) 2 := ⟨zin 43 rfl rfl, zin 301 rfl rfl, ⟨by decide +kernel, by decide +kernel, by decide +kernel⟩, by decide⟩
set_option maxRecDepth 40000 in
theorem zci_73 : Jvm.Cond.instanceMethod (zyM 73) ∈ zbw := zin 299 rfl rfl
set_option maxRecDepth 40000 in
theorem zcs_73 : Jvm.Cond.selects (zyM 73).cls (zyM 73) (zyM 73) ∈ zbw := zin 300 rfl rfl
set_option maxRecDepth 40000 in
theorem zcl_74 : zcl (zyM 74) (zbM 74) (zlM 74) (ztM 74) 1 := ⟨zin 43 rfl rfl, zin 293 rfl rfl, ⟨by decide +kernel, by decide +kernel, by decide +kernel⟩, by decide⟩
set_option maxRecDepth 40000 in
theorem zci_74 : Jvm.Cond.instanceMethod (zyM 74) ∈ zbw := zin 291 rfl rfl
set_option maxRecDepth 40000 in
theorem zcs_74 : Jvm.Cond.selects (zyM 74).cls (zyM 74) (zyM 74) ∈ zbw := zin 292 rfl rfl
set_option maxRecDepth 40000 in
theorem zcl_75 : zcl (zyM 75) (zbM 75) (zlM 75) (ztM 75) 1 := ⟨zin 43 rfl rfl, zin 289 rfl rfl, ⟨by decide +kernel, by decide +kernel, by decide +kernel⟩, by decide⟩
set_option maxRecDepth 40000 in
theorem zci_75 : Jvm.Cond.instanceMethod (zyM 75) ∈ zbw := zin 287 rfl rfl
set_option maxRecDepth 40000 in
theorem zcs_75 : Jvm.Cond.selects (zyM 75).cls (zyM 75) (zyM 75) ∈ zbw := zin 288 rfl rfl
set_option maxRecDepth 40000 in
theorem zcl_76 : zcl (zyM 76) (zbM 76) (zlM 76) (ztM 76) 0 := ⟨zin 43 rfl rfl, zin 284 rfl rfl, ⟨by decide +kernel, by decide +kernel, by decide +kernel⟩, by decide⟩
set_option maxRecDepth 40000 in
theorem zci_76 : Jvm.Cond.instanceMethod (zyM 76) ∈ zbw := zin 282 rfl rfl
set_option maxRecDepth 40000 in
theorem zcs_76 : Jvm.Cond.selects (zyM 76).cls (zyM 76) (zyM 76) ∈ zbw := zin 283 rfl rfl
set_option maxRecDepth 40000 in
theorem zcl_77 : zcl (zyM 77) (zbM 77) (zlM 77) (ztM 77) 2 := ⟨zin 42 rfl rfl, zin 269 rfl rfl, ⟨by decide +kernel, by decide +kernel, by decide +kernel⟩, by decide⟩
set_option maxRecDepth 40000 in
theorem zci_77 : Jvm.Cond.instanceMethod (zyM 77) ∈ zbw := zin 267 rfl rfl
set_option maxRecDepth 40000 in
theorem zcs_77 : Jvm.Cond.selects (zyM 77).cls (zyM 77) (zyM 77) ∈ zbw := zin 268 rfl rfl
set_option maxRecDepth 40000 in
theorem zcl_78 : zcl (zyM 78) (zbM 78) (zlM 78) (ztM 78) 2 := ⟨zin 42 rfl rfl, zin 305 rfl rfl, ⟨by decide +kernel, by decide +kernel, by decide +kernel⟩, by decide⟩
set_option maxRecDepth 40000 in
theorem zci_78 : Jvm.Cond.instanceMethod (zyM 78) ∈ zbw := zin 303 rfl rfl
set_option maxRecDepth 40000 in
theorem zcs_78 : Jvm.Cond.selects (zyM 78).cls (zyM 78) (zyM 78) ∈ zbw := zin 304 rfl rfl
set_option maxRecDepth 40000 in
theorem zcl_79 : zcl (zyM 79) (zbM 79) (zlM 79) (ztM 79) 1 := ⟨zin 51 rfl rfl, zin 312 rfl rfl, ⟨by decide +kernel, by decide +kernel, by decide +kernel⟩, by decide⟩
set_option maxRecDepth 40000 in
theorem zct_79 : Jvm.Cond.static (zyM 79) ∈ zbw := zin 311 rfl rfl
set_option maxRecDepth 40000 in
theorem zcl_80 : zcl (zyM 80) (zbM 80) (zlM 80) (ztM 80) 2 := ⟨zin 42 rfl rfl, zin 309 rfl rfl, ⟨by decide +kernel, by decide +kernel, by decide +kernel⟩, by decide⟩
set_option maxRecDepth 40000 in
theorem zci_80 : Jvm.Cond.instanceMethod (zyM 80) ∈ zbw := zin 307 rfl rfl
set_option maxRecDepth 40000 in
theorem zcs_80 : Jvm.Cond.selects (zyM 80).cls (zyM 80) (zyM 80) ∈ zbw := zin 308 rfl rfl
set_option maxRecDepth 40000 in
theorem zcl_81 : zcl (zyM 81) (zbM 81) (zlM 81) (ztM 81) 3 := ⟨zin 43 rfl rfl, zin 324 rfl rfl, ⟨by decide +kernel, by decide +kernel, by decide +kernel⟩, by decide⟩
set_option maxRecDepth 40000 in
theorem zci_81 : Jvm.Cond.instanceMethod (zyM 81) ∈ zbw := zin 322 rfl rfl
set_option maxRecDepth 40000 in
theorem zcs_81 : Jvm.Cond.selects (zyM 81).cls (zyM 81) (zyM 81) ∈ zbw := zin 323 rfl rfl
set_option maxRecDepth 40000 in
theorem zcl_82 : zcl (zyM 82) (zbM 82) (zlM 82) (ztM 82) 1 := ⟨zin 43 rfl rfl, zin 332 rfl rfl, ⟨by decide +kernel, by decide +kernel, by decide +kernel⟩, by decide⟩
set_option maxRecDepth 40000 in
theorem zci_82 : Jvm.Cond.instanceMethod (zyM 82) ∈ zbw := zin 331 rfl rfl
set_option maxRecDepth 40000 in
theorem zcs_82 : Jvm.Cond.selects (zyM 82).cls (zyM 82) (zyM 82) ∈ zbw := zin 0 rfl rfl
set_option maxRecDepth 40000 in
theorem zcl_83 : zcl (zyM 83) (zbM 83) (zlM 83) (ztM 83) 0 := ⟨zin 43 rfl rfl, zin 328 rfl rfl, ⟨by decide +kernel, by decide +kernel, by decide +kernel⟩, by decide⟩
set_option maxRecDepth 40000 in
theorem zci_83 : Jvm.Cond.instanceMethod (zyM 83) ∈ zbw := zin 326 rfl rfl
set_option maxRecDepth 40000 in
theorem zcs_83 : Jvm.Cond.selects (zyM 83).cls (zyM 83) (zyM 83) ∈ zbw := zin 327 rfl rfl
set_option maxRecDepth 40000 in
theorem zcl_84 : zcl (zyM 84) (zbM 84) (zlM 84) (ztM 84) 3 := ⟨zin 42 rfl rfl, zin 319 rfl rfl, ⟨by decide +kernel, by decide +kernel, by decide +kernel⟩, by decide⟩
set_option maxRecDepth 40000 in
theorem zci_84 : Jvm.Cond.instanceMethod (zyM 84) ∈ zbw := zin 317 rfl rfl
set_option maxRecDepth 40000 in
theorem zcs_84 : Jvm.Cond.selects (zyM 84).cls (zyM 84) (zyM 84) ∈ zbw := zin 318 rfl rfl
set_option maxRecDepth 40000 in
theorem zcl_85 : zcl (zyM 85) (zbM 85) (zlM 85) (ztM 85) 2 := ⟨zin 44 rfl rfl, zin 344 rfl rfl, ⟨by decide +kernel, by decide +kernel, by decide +kernel⟩, by decide⟩
set_option maxRecDepth 40000 in
theorem zci_85 : Jvm.Cond.instanceMethod (zyM 85) ∈ zbw := zin 342 rfl rfl
set_option maxRecDepth 40000 in
theorem zcs_85 : Jvm.Cond.selects (zyM 85).cls (zyM 85) (zyM 85) ∈ zbw := zin 343 rfl rfl
set_option maxRecDepth 40000 in
theorem zcl_86 : zcl (zyM 86) (zbM 86) (zlM 86) (ztM 86) 2 := ⟨zin 44 rfl rfl, zin 340 rfl rfl, ⟨by decide +kernel, by decide +kernel, by decide +kernel⟩, by decide⟩
set_option maxRecDepth 40000 in
theorem zci_86 : Jvm.Cond.instanceMethod (zyM 86) ∈ zbw := zin 338 rfl rfl
set_option maxRecDepth 40000 in
theorem zcs_86 : Jvm.Cond.selects (zyM 86).cls (zyM 86) (zyM 86) ∈ zbw := zin 339 rfl rfl
set_option maxRecDepth 40000 in
theorem zcl_87 : zcl (zyM 87) (zbM 87) (zlM 87) (ztM 87) 1 := ⟨zin 44 rfl rfl, zin 356 rfl rfl, ⟨by decide +kernel, by decide +kernel, by decide +kernel⟩, by decide⟩
set_option maxRecDepth 40000 in
theorem zci_87 : Jvm.Cond.instanceMethod (zyM 87) ∈ zbw := zin 355 rfl rfl
set_option maxRecDepth 40000 in
theorem zcs_87 : Jvm.Cond.selects (zyM 87).cls (zyM 87) (zyM 87) ∈ zbw := zin 1 rfl rfl
set_option maxRecDepth 40000 in
theorem zcl_88 : zcl (zyM 88) (zbM 88) (zlM 88) (ztM 88) 3 := ⟨zin 44 rfl rfl, zin 352 rfl rfl, ⟨by decide +kernel, by decide +kernel, by decide +kernel⟩, by decide⟩
set_option maxRecDepth 40000 in
theorem zci_88 : Jvm.Cond.instanceMethod (zyM 88) ∈ zbw := zin 350 rfl rfl
set_option maxRecDepth 40000 in
theorem zcs_88 : Jvm.Cond.selects (zyM 88).cls (zyM 88) (zyM 88) ∈ zbw := zin 351 rfl rfl
set_option maxRecDepth 40000 in
theorem zcl_89 : zcl (zyM 89) (zbM 89) (zlM 89) (ztM 89) 3 := ⟨zin 42 rfl rfl, zin 336 rfl rfl, ⟨by decide +kernel, by decide +kernel, by decide +kernel⟩, by decide⟩
set_option maxRecDepth 40000 in
theorem zci_89 : Jvm.Cond.instanceMethod (zyM 89) ∈ zbw := zin 334 rfl rfl
set_option maxRecDepth 40000 in
theorem zcs_89 : Jvm.Cond.selects (zyM 89).cls (zyM 89) (zyM 89) ∈ zbw := zin 335 rfl rfl
set_option maxRecDepth 40000 in
theorem zcl_90 : zcl (zyM 90) (zbM 90) (zlM 90) (ztM 90) 1 := ⟨zin 46 rfl rfl, zin 372 rfl rfl, ⟨by decide +kernel, by decide +kernel, by decide +kernel⟩, by decide⟩
set_option maxRecDepth 40000 in
theorem zci_90 : Jvm.Cond.instanceMethod (zyM 90) ∈ zbw := zin 371 rfl rfl
set_option maxRecDepth 40000 in
theorem zcs_90 : Jvm.Cond.selects (zyM 90).cls (zyM 90) (zyM 90) ∈ zbw := zin 3 rfl rfl
set_option maxRecDepth 40000 in
theorem zcl_91 : zcl (zyM 91) (zbM 91) (zlM 91) (ztM 91) 2 := ⟨zin 46 rfl rfl, zin 376 rfl rfl, ⟨by decide +kernel, by decide +kernel, by decide +kernel⟩, by decide⟩
set_option maxRecDepth 40000 in
theorem zci_91 : Jvm.Cond.instanceMethod (zyM 91) ∈ zbw := zin 375 rfl rfl
set_option maxRecDepth 40000 in
theorem zcs_91 : Jvm.Cond.selects (zyM 91).cls (zyM 91) (zyM 91) ∈ zbw := zin 4 rfl rfl
set_option maxRecDepth 40000 in
theorem zcl_92 : zcl (zyM 92) (zbM 92) (zlM 92) (ztM 92) 1 := ⟨zin 46 rfl rfl, zin 380 rfl rfl, ⟨by decide +kernel, by decide +kernel, by decide +kernel⟩, by decide⟩
set_option maxRecDepth 40000 in
theorem zci_92 : Jvm.Cond.instanceMethod (zyM 92) ∈ zbw := zin 379 rfl rfl
set_option maxRecDepth 40000 in
theorem zcs_92 : Jvm.Cond.selects (zyM 92).cls (zyM 92) (zyM 92) ∈ zbw := zin 5 rfl rfl
set_option maxRecDepth 40000 in
theorem zcl_93 : zcl (zyM 93) (zbM 93) (zlM 93) (ztM 93) 1 := ⟨zin 46 rfl rfl, zin 368 rfl rfl, ⟨by decide +kernel, by decide +kernel, by decide +kernel⟩, by decide⟩
set_option maxRecDepth 40000 in
theorem zci_93 : Jvm.Cond.instanceMethod (zyM 93) ∈ zbw := zin 367 rfl rfl
set_option maxRecDepth 40000 in
theorem zcs_93 : Jvm.Cond.selects (zyM 93).cls (zyM 93) (zyM 93) ∈ zbw := zin 2 rfl rfl
set_option maxRecDepth 40000 in
theorem zcl_94 : zcl (zyM 94) (zbM 94) (zlM 94) (ztM 94) 2 := ⟨zin 46 rfl rfl, zin 384 rfl rfl, ⟨by decide +kernel, by decide +kernel, by decide +kernel⟩, by decide⟩
set_option maxRecDepth 40000 in
theorem zci_94 : Jvm.Cond.instanceMethod (zyM 94) ∈ zbw := zin 383 rfl rfl
set_option maxRecDepth 40000 in
theorem zcs_94 : Jvm.Cond.selects (zyM 94).cls (zyM 94) (zyM 94) ∈ zbw := zin 6 rfl rfl
set_option maxRecDepth 40000 in
theorem zcl_95 : zcl (zyM 95) (zbM 95) (zlM 95) (ztM 95) 0 := ⟨zin 46 rfl rfl, zin 364 rfl rfl, ⟨by decide +kernel, by decide +kernel, by decide +kernel⟩, by decide⟩
set_option maxRecDepth 40000 in
theorem zci_95 : Jvm.Cond.instanceMethod (zyM 95) ∈ zbw := zin 362 rfl rfl
set_option maxRecDepth 40000 in
theorem zcs_95 : Jvm.Cond.selects (zyM 95).cls (zyM 95) (zyM 95) ∈ zbw := zin 363 rfl rfl
set_option maxRecDepth 40000 in
theorem zcl_96 : zcl (zyM 96) (zbM 96) (zlM 96) (ztM 96) 0 := ⟨zin 42 rfl rfl, zin 360 rfl rfl, ⟨by decide +kernel, by decide +kernel, by decide +kernel⟩, by decide⟩
set_option maxRecDepth 40000 in
theorem zci_96 : Jvm.Cond.instanceMethod (zyM 96) ∈ zbw := zin 358 rfl rfl
set_option maxRecDepth 40000 in
theorem zcs_96 : Jvm.Cond.selects (zyM 96).cls (zyM 96) (zyM 96) ∈ zbw := zin 359 rfl rfl
set_option maxRecDepth 40000 in
theorem zcl_97 : zcl (zyM 97) (zbM 97) (zlM 97) (ztM 97) 2 := ⟨zin 42 rfl rfl, zin 392 rfl rfl, ⟨by decide +kernel, by decide +kernel, by decide +kernel⟩, by decide⟩
set_option maxRecDepth 40000 in
theorem zci_97 : Jvm.Cond.instanceMethod (zyM 97) ∈ zbw := zin 391 rfl rfl
set_option maxRecDepth 40000 in
theorem zcs_97 : Jvm.Cond.selects (zyM 97).cls (zyM 97) (zyM 97) ∈ zbw := zin 7 rfl rfl
set_option maxRecDepth 40000 in
theorem zcl_98 : zcl (zyM 98) (zbM 98) (zlM 98) (ztM 98) 1 := ⟨zin 44 rfl rfl, zin 400 rfl rfl, ⟨by decide +kernel, by decide +kernel, by decide +kernel⟩, by decide⟩
set_option maxRecDepth 40000 in
theorem zci_98 : Jvm.Cond.instanceMethod (zyM 98) ∈ zbw := zin 398 rfl rfl
set_option maxRecDepth 40000 in
theorem zcs_98 : Jvm.Cond.selects (zyM 98).cls (zyM 98) (zyM 98) ∈ zbw := zin 399 rfl rfl
set_option maxRecDepth 40000 in
theorem zcl_99 : zcl (zyM 99) (zbM 99) (zlM 99) (ztM 99) 2 := ⟨zin 43 rfl rfl, zin 396 rfl rfl, ⟨by decide +kernel, by decide +kernel, by decide +kernel⟩, by decide⟩
set_option maxRecDepth 40000 in
theorem zci_99 : Jvm.Cond.instanceMethod (zyM 99) ∈ zbw := zin 394 rfl rfl
set_option maxRecDepth 40000 in
theorem zcs_99 : Jvm.Cond.selects (zyM 99).cls (zyM 99) (zyM 99) ∈ zbw := zin 395 rfl rfl
set_option maxRecDepth 40000 in
theorem zcl_100 : zcl (zyM 100) (zbM 100) (zlM 100) (ztM 100) 2 := ⟨zin 42 rfl rfl, zin 388 rfl rfl, ⟨by decide +kernel, by decide +kernel, by decide +kernel⟩, by decide⟩
set_option maxRecDepth 40000 in
theorem zci_100 : Jvm.Cond.instanceMethod (zyM 100) ∈ zbw := zin 386 rfl rfl
set_option maxRecDepth 40000 in
theorem zcs_100 : Jvm.Cond.selects (zyM 100).cls (zyM 100) (zyM 100) ∈ zbw := zin 387 rfl rfl
set_option maxRecDepth 40000 in
theorem zcl_101 : zcl (zyM 101) (zbM 101) (zlM 101) (ztM 101) 4 := ⟨zin 42 rfl rfl, zin 408 rfl rfl, ⟨by decide +kernel, by decide +kernel, by decide +kernel⟩, by decide⟩
set_option maxRecDepth 40000 in
theorem zci_101 : Jvm.Cond.instanceMethod (zyM 101) ∈ zbw := zin 406 rfl rfl
set_option maxRecDepth 40000 in
theorem zcs_101 : Jvm.Cond.selects (zyM 101).cls (zyM 101) (zyM 101) ∈ zbw := zin 407 rfl rfl
set_option maxRecDepth 40000 in
theorem zcl_102 : zcl (zyM 102) (zbM 102) (zlM 102) (ztM 102) 1 := ⟨zin 47 rfl rfl, zin 417 rfl rfl, ⟨by decide +kernel, by decide +kernel, by decide +kernel⟩, by decide⟩
set_option maxRecDepth 40000 in
theorem zci_102 : Jvm.Cond.instanceMethod (zyM 102) ∈ zbw := zin 415 rfl rfl
set_option maxRecDepth 40000 in
theorem zcs_102 : Jvm.Cond.selects (zyM 102).cls (zyM 102) (zyM 102) ∈ zbw := zin 416 rfl rfl
set_option maxRecDepth 40000 in
theorem zcl_103 : zcl (zyM 103) (zbM 103) (zlM 103) (ztM 103) 1 := ⟨zin 47 rfl rfl, zin 433 rfl rfl, ⟨by decide +kernel, by decide +kernel, by decide +kernel⟩, by decide⟩
set_option maxRecDepth 40000 in
theorem zci_103 : Jvm.Cond.instanceMethod (zyM 103) ∈ zbw := zin 432 rfl rfl
set_option maxRecDepth 40000 in
theorem zcs_103 : Jvm.Cond.selects (zyM 103).cls (zyM 103) (zyM 103) ∈ zbw := zin 8 rfl rfl
set_option maxRecDepth 40000 in
theorem zcl_104 : zcl (zyM 104) (zbM 104) (zlM 104) (ztM 104) 3 := ⟨zin 47 rfl rfl, zin 427 rfl rfl, ⟨by decide +kernel, by decide +kernel, by decide +kernel⟩, by decide⟩
set_option maxRecDepth 40000 in
theorem zct_104 : Jvm.Cond.static (zyM 104) ∈ zbw := zin 426 rfl rfl
set_option maxRecDepth 40000 in
theorem zcl_105 : zcl (zyM 105) (zbM 105) (zlM 105) (ztM 105) 3 := ⟨zin 47 rfl rfl, zin 427 rfl rfl, ⟨by decide +kernel, by decide +kernel, by decide +kernel⟩, by decide⟩
set_option maxRecDepth 40000 in
theorem zct_105 : Jvm.Cond.static (zyM 105) ∈ zbw := zin 426 rfl rfl
set_option maxRecDepth 40000 in
theorem zcl_106 : zcl (zyM 106) (zbM 106) (zlM 106) (ztM 106) 3 := ⟨zin 47 rfl rfl, zin 427 rfl rfl, ⟨by decide +kernel, by decide +kernel, by decide +kernel⟩, by decide⟩
set_option maxRecDepth 40000 in
theorem zct_106 : Jvm.Cond.static (zyM 106) ∈ zbw := zin 426 rfl rfl
set_option maxRecDepth 40000 in
theorem zcl_107 : zcl (zyM 107) (zbM 107) (zlM 107) (ztM 107) 3 := ⟨zin 47 rfl rfl, zin 427 rfl rfl, ⟨by decide +kernel, by decide +kernel, by decide +kernel⟩, by decide⟩
set_option maxRecDepth 40000 in
theorem zct_107 : Jvm.Cond.static (zyM 107) ∈ zbw := zin 426 rfl rfl
set_option maxRecDepth 40000 in
theorem zcl_108 : zcl (zyM 108) (zbM 108) (zlM 108) (ztM 108) 3 := ⟨zin 47 rfl rfl, zin 427 rfl rfl, ⟨by decide +kernel, by decide +kernel, by decide +kernel⟩, by decide⟩
set_option maxRecDepth 40000 in
theorem zct_108 : Jvm.Cond.static (zyM 108) ∈ zbw := zin 426 rfl rfl
set_option maxRecDepth 40000 in
theorem zcl_109 : zcl (zyM 109) (zbM 109) (zlM 109) (ztM 109) 3 := ⟨zin 47 rfl rfl, zin 427 rfl rfl, ⟨by decide +kernel, by decide +kernel, by decide +kernel⟩, by decide⟩
set_option maxRecDepth 40000 in
theorem zct_109 : Jvm.Cond.static (zyM 109) ∈ zbw := zin 426 rfl rfl
set_option maxRecDepth 40000 in
theorem zcl_110 : zcl (zyM 110) (zbM 110) (zlM 110) (ztM 110) 3 := ⟨zin 47 rfl rfl, zin 427 rfl rfl, ⟨by decide +kernel, by decide +kernel, by decide +kernel⟩, by decide⟩
set_option maxRecDepth 40000 in
theorem zct_110 : Jvm.Cond.static (zyM 110) ∈ zbw := zin 426 rfl rfl
set_option maxRecDepth 40000 in
theorem zcl_111 : zcl (zyM 111) (zbM 111) (zlM 111) (ztM 111) 3 := ⟨zin 47 rfl rfl, zin 427 rfl rfl, ⟨by decide +kernel, by decide +kernel, by decide +kernel⟩, by decide⟩
set_option maxRecDepth 40000 in
theorem zct_111 : Jvm.Cond.static (zyM 111) ∈ zbw := zin 426 rfl rfl
set_option maxRecDepth 40000 in
theorem zcl_112 : zcl (zyM 112) (zbM 112) (zlM 112) (ztM 112) 3 := ⟨zin 47 rfl rfl, zin 427 rfl rfl, ⟨by decide +kernel, by decide +kernel, by decide +kernel⟩, by decide⟩
set_option maxRecDepth 40000 in
theorem zct_112 : Jvm.Cond.static (zyM 112) ∈ zbw := zin 426 rfl rfl
set_option maxRecDepth 40000 in
theorem zcl_113 : zcl (zyM 113) (zbM 113) (zlM 113) (ztM 113) 3 := ⟨zin 47 rfl rfl, zin 427 rfl rfl, ⟨by decide +kernel, by decide +kernel, by decide +kernel⟩, by decide⟩
set_option maxRecDepth 40000 in
theorem zct_113 : Jvm.Cond.static (zyM 113) ∈ zbw := zin 426 rfl rfl
set_option maxRecDepth 40000 in
theorem zcl_114 : zcl (zyM 114) (zbM 114) (zlM 114) (ztM 114) 0 := ⟨zin 47 rfl rfl, zin 424 rfl rfl, ⟨by decide +kernel, by decide +kernel, by decide +kernel⟩, by decide⟩
set_option maxRecDepth 40000 in
theorem zci_114 : Jvm.Cond.instanceMethod (zyM 114) ∈ zbw := zin 422 rfl rfl
set_option maxRecDepth 40000 in
theorem zcs_114 : Jvm.Cond.selects (zyM 114).cls (zyM 114) (zyM 114) ∈ zbw := zin 423 rfl rfl
set_option maxRecDepth 40000 in
theorem zcl_115 : zcl (zyM 115) (zbM 115) (zlM 115) (ztM 115) 0 := ⟨zin 42 rfl rfl, zin 413 rfl rfl, ⟨by decide +kernel, by decide +kernel, by decide +kernel⟩, by decide⟩
set_option maxRecDepth 40000 in
theorem zci_115 : Jvm.Cond.instanceMethod (zyM 115) ∈ zbw := zin 411 rfl rfl
set_option maxRecDepth 40000 in
theorem zcs_115 : Jvm.Cond.selects (zyM 115).cls (zyM 115) (zyM 115) ∈ zbw := zin 412 rfl rfl
set_option maxRecDepth 40000 in
theorem zcl_116 : zcl (zyM 116) (zbM 116) (zlM 116) (ztM 116) 2 := ⟨zin 43 rfl rfl, zin 446 rfl rfl, ⟨by decide +kernel, by decide +kernel, by decide +kernel⟩, by decide⟩
set_option maxRecDepth 40000 in
theorem zci_116 : Jvm.Cond.instanceMethod (zyM 116) ∈ zbw := zin 445 rfl rfl
set_option maxRecDepth 40000 in
theorem zcs_116 : Jvm.Cond.selects (zyM 116).cls (zyM 116) (zyM 116) ∈ zbw := zin 9 rfl rfl
set_option maxRecDepth 40000 in
theorem zcl_117 : zcl (zyM 117) (zbM 117) (zlM 117) (ztM 117) 2 := ⟨zin 43 rfl rfl, zin 442 rfl rfl, ⟨by decide +kernel, by decide +kernel, by decide +kernel⟩, by decide⟩
set_option maxRecDepth 40000 in
theorem zci_117 : Jvm.Cond.instanceMethod (zyM 117) ∈ zbw := zin 440 rfl rfl
set_option maxRecDepth 40000 in
theorem zcs_117 : Jvm.Cond.selects (zyM 117).cls (zyM 117) (zyM 117) ∈ zbw := zin 441 rfl rfl
set_option maxRecDepth 40000 in
theorem zcl_118 : zcl (zyM 118) (zbM 118) (zlM 118) (ztM 118) 3 := ⟨zin 43 rfl rfl, zin 450 rfl rfl, ⟨by decide +kernel, by decide +kernel, by decide +kernel⟩, by decide⟩
set_option maxRecDepth 40000 in
theorem zci_118 : Jvm.Cond.instanceMethod (zyM 118) ∈ zbw := zin 448 rfl rfl
set_option maxRecDepth 40000 in
theorem zcs_118 : Jvm.Cond.selects (zyM 118).cls (zyM 118) (zyM 118) ∈ zbw := zin 449 rfl rfl
set_option maxRecDepth 40000 in
theorem zcl_119 : zcl (zyM 119) (zbM 119) (zlM 119) (ztM 119) 3 := ⟨zin 43 rfl rfl, zin 455 rfl rfl, ⟨by decide +kernel, by decide +kernel, by decide +kernel⟩, by decide⟩
set_option maxRecDepth 40000 in
theorem zci_119 : Jvm.Cond.instanceMethod (zyM 119) ∈ zbw := zin 453 rfl rfl
set_option maxRecDepth 40000 in
theorem zcs_119 : Jvm.Cond.selects (zyM 119).cls (zyM 119) (zyM 119) ∈ zbw := zin 454 rfl rfl
set_option maxRecDepth 40000 in
theorem zcl_120 : zcl (zyM 120) (zbM 120) (zlM 120) (ztM 120) 2 := ⟨zin 42 rfl rfl, zin 438 rfl rfl, ⟨by decide +kernel, by decide +kernel, by decide +kernel⟩, by decide⟩
set_option maxRecDepth 40000 in
theorem zci_120 : Jvm.Cond.instanceMethod (zyM 120) ∈ zbw := zin 436 rfl rfl
set_option maxRecDepth 40000 in
theorem zcs_120 : Jvm.Cond.selects (zyM 120).cls (zyM 120) (zyM 120) ∈ zbw := zin 437 rfl rfl
set_option maxRecDepth 40000 in
theorem zcl_121 : zcl (zyM 121) (zbM 121) (zlM 121) (ztM 121) 1 := ⟨zin 46 rfl rfl, zin 463 rfl rfl, ⟨by decide +kernel, by decide +kernel, by decide +kernel⟩, by decide⟩
set_option maxRecDepth 40000 in
theorem zci_121 : Jvm.Cond.instanceMethod (zyM 121) ∈ zbw := zin 461 rfl rfl
set_option maxRecDepth 40000 in
theorem zcs_121 : Jvm.Cond.selects (zyM 121).cls (zyM 121) (zyM 121) ∈ zbw := zin 462 rfl rfl
set_option maxRecDepth 40000 in
theorem zcl_122 : zcl (zyM 122) (zbM 122) (zlM 122) (ztM 122) 1 := ⟨zin 42 rfl rfl, zin 459 rfl rfl, ⟨by decide +kernel, by decide +kernel, by decide +kernel⟩, by decide⟩
set_option maxRecDepth 40000 in
theorem zci_122 : Jvm.Cond.instanceMethod (zyM 122) ∈ zbw := zin 457 rfl rfl
set_option maxRecDepth 40000 in
theorem zcs_122 : Jvm.Cond.selects (zyM 122).cls (zyM 122) (zyM 122) ∈ zbw := zin 458 rfl rfl
set_option maxRecDepth 40000 in
theorem zcl_123 : zcl (zyM 123) (zbM 123) (zlM 123) (ztM 123) 0 := ⟨zin 42 rfl rfl, zin 467 rfl rfl, ⟨by decide +kernel, by decide +kernel, by decide +kernel⟩, by decide⟩
set_option maxRecDepth 40000 in
theorem zci_123 : Jvm.Cond.instanceMethod (zyM 123) ∈ zbw := zin 465 rfl rfl
set_option maxRecDepth 40000 in
theorem zcs_123 : Jvm.Cond.selects (zyM 123).cls (zyM 123) (zyM 123) ∈ zbw := zin 466 rfl rfl
set_option maxRecDepth 40000 in
theorem zcl_124 : zcl (zyM 124) (zbM 124) (zlM 124) (ztM 124) 1 := ⟨zin 45 rfl rfl, zin 475 rfl rfl, ⟨by decide +kernel, by decide +kernel, by decide +kernel⟩, by decide⟩
set_option maxRecDepth 40000 in
theorem zci_124 : Jvm.Cond.instanceMethod (zyM 124) ∈ zbw := zin 473 rfl rfl
set_option maxRecDepth 40000 in
theorem zcs_124 : Jvm.Cond.selects (zyM 124).cls (zyM 124) (zyM 124) ∈ zbw := zin 474 rfl rfl
set_option maxRecDepth 40000 in
theorem zcl_125 : zcl (zyM 125) (zbM 125) (zlM 125) (ztM 125) 0 := ⟨zin 42 rfl rfl, zin 471 rfl rfl, ⟨by decide +kernel, by decide +kernel, by decide +kernel⟩, by decide⟩
set_option maxRecDepth 40000 in
theorem zci_125 : Jvm.Cond.instanceMethod (zyM 125) ∈ zbw := zin 469 rfl rfl
set_option maxRecDepth 40000 in
theorem zcs_125 : Jvm.Cond.selects (zyM 125).cls (zyM 125) (zyM 125) ∈ zbw := zin 470 rfl rfl
set_option maxRecDepth 40000 in
theorem zcl_126 : zcl (zyM 126) (zbM 126) (zlM 126) (ztM 126) 0 := ⟨zin 42 rfl rfl, zin 479 rfl rfl, ⟨by decide +kernel, by decide +kernel, by decide +kernel⟩, by decide⟩
set_option maxRecDepth 40000 in
theorem zci_126 : Jvm.Cond.instanceMethod (zyM 126) ∈ zbw := zin 477 rfl rfl
set_option maxRecDepth 40000 in
theorem zcs_126 : Jvm.Cond.selects (zyM 126).cls (zyM 126) (zyM 126) ∈ zbw := zin 478 rfl rfl
set_option maxRecDepth 40000 in
theorem zcl_127 : zcl (zyM 127) (zbM 127) (zlM 127) (ztM 127) 0 := ⟨zin 42 rfl rfl, zin 484 rfl rfl, ⟨by decide +kernel, by decide +kernel, by decide +kernel⟩, by decide⟩
set_option maxRecDepth 40000 in
theorem zci_127 : Jvm.Cond.instanceMethod (zyM 127) ∈ zbw := zin 482 rfl rfl
set_option maxRecDepth 40000 in
theorem zcs_127 : Jvm.Cond.selects (zyM 127).cls (zyM 127) (zyM 127) ∈ zbw := zin 483 rfl rfl
set_option maxRecDepth 40000 in
theorem zcl_128 : zcl (zyM 128) (zbM 128) (zlM 128) (ztM 128) 1 := ⟨zin 44 rfl rfl, zin 492 rfl rfl, ⟨by decide +kernel, by decide +kernel, by decide +kernel⟩, by decide⟩
set_option maxRecDepth 40000 in
theorem zci_128 : Jvm.Cond.instanceMethod (zyM 128) ∈ zbw := zin 490 rfl rfl
set_option maxRecDepth 40000 in
theorem zcs_128 : Jvm.Cond.selects (zyM 128).cls (zyM 128) (zyM 128) ∈ zbw := zin 491 rfl rfl
set_option maxRecDepth 40000 in
theorem zcl_129 : zcl (zyM 129) (zbM 129) (zlM 129) (ztM 129) 1 := ⟨zin 43 rfl rfl, zin 498 rfl rfl, ⟨by decide +kernel, by decide +kernel, by decide +kernel⟩, by decide⟩
set_option maxRecDepth 40000 in
theorem zci_129 : Jvm.Cond.instanceMethod (zyM 129) ∈ zbw := zin 496 rfl rfl
set_option maxRecDepth 40000 in
theorem zcs_129 : Jvm.Cond.selects (zyM 129).cls (zyM 129) (zyM 129) ∈ zbw := zin 497 rfl rfl
set_option maxRecDepth 40000 in
theorem zcl_130 : zcl (zyM 130) (zbM 130) (zlM 130) (ztM 130) 2 := ⟨zin 42 rfl rfl, zin 488 rfl rfl, ⟨by decide +kernel, by decide +kernel, by decide +kernel⟩, by decide⟩
set_option maxRecDepth 40000 in
theorem zci_130 : Jvm.Cond.instanceMethod (zyM 130) ∈ zbw := zin 486 rfl rfl
set_option maxRecDepth 40000 in
theorem zcs_130 : Jvm.Cond.selects (zyM 130).cls (zyM 130) (zyM 130) ∈ zbw := zin 487 rfl rfl
set_option maxRecDepth 40000 in
theorem zcl_131 : zcl (zyM 131) (zbM 131) (zlM 131) (ztM 131) 2 := ⟨zin 42 rfl rfl, zin 502 rfl rfl, ⟨by decide +kernel, by decide +kernel, by decide +kernel⟩, by decide⟩
set_option maxRecDepth 40000 in
theorem zci_131 : Jvm.Cond.instanceMethod (zyM 131) ∈ zbw := zin 500 rfl rfl
set_option maxRecDepth 40000 in
theorem zcs_131 : Jvm.Cond.selects (zyM 131).cls (zyM 131) (zyM 131) ∈ zbw := zin 501 rfl rfl
set_option maxRecDepth 40000 in
theorem zcl_132 : zcl (zyM 132) (zbM 132) (zlM 132) (ztM 132) 1 := ⟨zin 42 rfl rfl, zin 506 rfl rfl, ⟨by decide +kernel, by decide +kernel, by decide +kernel⟩, by decide⟩
set_option maxRecDepth 40000 in
theorem zci_132 : Jvm.Cond.instanceMethod (zyM 132) ∈ zbw := zin 504 rfl rfl
set_option maxRecDepth 40000 in
theorem zcs_132 : Jvm.Cond.selects (zyM 132).cls (zyM 132) (zyM 132) ∈ zbw := zin 505 rfl rfl
set_option maxRecDepth 40000 in
theorem zcl_133 : zcl (zyM 133) (zbM 133) (zlM 133) (ztM 133) 2 := ⟨zin 42 rfl rfl, zin 510 rfl rfl, ⟨by decide +kernel, by decide +kernel, by decide +kernel⟩, by decide⟩
set_option maxRecDepth 40000 in
theorem zci_133 : Jvm.Cond.instanceMethod (zyM 133) ∈ zbw := zin 508 rfl rfl
set_option maxRecDepth 40000 in
theorem zcs_133 : Jvm.Cond.selects (zyM 133).cls (zyM 133) (zyM 133) ∈ zbw := zin 509 rfl rfl
set_option maxRecDepth 40000 in
theorem zcl_134 : zcl (zyM 134) (zbM 134) (zlM 134) (ztM 134) 0 := ⟨zin 47 rfl rfl, zin 518 rfl rfl, ⟨by decide +kernel, by decide +kernel, by decide +kernel⟩, by decide⟩
set_option maxRecDepth 40000 in
theorem zci_134 : Jvm.Cond.instanceMethod (zyM 134) ∈ zbw := zin 516 rfl rfl
set_option maxRecDepth 40000 in
theorem zcs_134 : Jvm.Cond.selects (zyM 134).cls (zyM 134) (zyM 134) ∈ zbw := zin 517 rfl rfl
set_option maxRecDepth 40000 in
theorem zcl_135 : zcl (zyM 135) (zbM 135) (zlM 135) (ztM 135) 1 := ⟨zin 42 rfl rfl, zin 514 rfl rfl, ⟨by decide +kernel, by decide +kernel, by decide +kernel⟩, by decide⟩
set_option maxRecDepth 40000 in
theorem zci_135 : Jvm.Cond.instanceMethod (zyM 135) ∈ zbw := zin 512 rfl rfl
set_option maxRecDepth 40000 in
theorem zcs_135 : Jvm.Cond.selects (zyM 135).cls (zyM 135) (zyM 135) ∈ zbw := zin 513 rfl rfl
set_option maxRecDepth 40000 in
theorem zcl_136 : zcl (zyM 136) (zbM 136) (zlM 136) (ztM 136) 1 := ⟨zin 42 rfl rfl, zin 522 rfl rfl, ⟨by decide +kernel, by decide +kernel, by decide +kernel⟩, by decide⟩
set_option maxRecDepth 40000 in
theorem zci_136 : Jvm.Cond.instanceMethod (zyM 136) ∈ zbw := zin 520 rfl rfl
set_option maxRecDepth 40000 in
theorem zcs_136 : Jvm.Cond.selects (zyM 136).cls (zyM 136) (zyM 136) ∈ zbw := zin 521 rfl rfl
set_option maxRecDepth 40000 in
theorem zcl_137 : zcl (zyM 137) (zbM 137) (zlM 137) (ztM 137) 2 := ⟨zin 47 rfl rfl, zin 530 rfl rfl, ⟨by decide +kernel, by decide +kernel, by decide +kernel⟩, by decide⟩
set_option maxRecDepth 40000 in
theorem zci_137 : Jvm.Cond.instanceMethod (zyM 137) ∈ zbw := zin 528 rfl rfl
set_option maxRecDepth 40000 in
theorem zcs_137 : Jvm.Cond.selects (zyM 137).cls (zyM 137) (zyM 137) ∈ zbw := zin 529 rfl rfl
set_option maxRecDepth 40000 in
theorem zcl_138 : zcl (zyM 138) (zbM 138) (zlM 138) (ztM 138) 2 := ⟨zin 42 rfl rfl, zin 526 rfl rfl, ⟨by decide +kernel, by decide +kernel, by decide +kernel⟩, by decide⟩
set_option maxRecDepth 40000 in
theorem zci_138 : Jvm.Cond.instanceMethod (zyM 138) ∈ zbw := zin 524 rfl rfl
set_option maxRecDepth 40000 in
theorem zcs_138 : Jvm.Cond.selects (zyM 138).cls (zyM 138) (zyM 138) ∈ zbw := zin 525 rfl rfl
set_option maxRecDepth 40000 in
theorem zcl_139 : zcl (zyM 139) (zbM 139) (zlM 139) (ztM 139) 1 := ⟨zin 47 rfl rfl, zin 545 rfl rfl, ⟨by decide +kernel, by decide +kernel, by decide +kernel⟩, by decide⟩
set_option maxRecDepth 40000 in
theorem zci_139 : Jvm.Cond.instanceMethod (zyM 139) ∈ zbw := zin 544 rfl rfl
set_option maxRecDepth 40000 in
theorem zcs_139 : Jvm.Cond.selects (zyM 139).cls (zyM 139) (zyM 139) ∈ zbw := zin 10 rfl rfl
set_option maxRecDepth 40000 in
theorem zcl_140 : zcl (zyM 140) (zbM 140) (zlM 140) (ztM 140) 2 := ⟨zin 47 rfl rfl, zin 541 rfl rfl, ⟨by decide +kernel, by decide +kernel, by decide +kernel⟩, by decide⟩
set_option maxRecDepth 40000 in
theorem zct_140 : Jvm.Cond.static (zyM 140) ∈ zbw := zin 540 rfl rfl
set_option maxRecDepth 40000 in
theorem zcl_141 : zcl (zyM 141) (zbM 141) (zlM 141) (ztM 141) 2 := ⟨zin 47 rfl rfl, zin 541 rfl rfl, ⟨by decide +kernel, by decide +kernel, by decide +kernel⟩, by decide⟩
set_option maxRecDepth 40000 in
theorem zct_141 : Jvm.Cond.static (zyM 141) ∈ zbw := zin 540 rfl rfl
set_option maxRecDepth 40000 in
theorem zcl_142 : zcl (zyM 142) (zbM 142) (zlM 142) (ztM 142) 2 := ⟨zin 47 rfl rfl, zin 541 rfl rfl, ⟨by decide +kernel, by decide +kernel, by decide +kernel⟩, by decide⟩
set_option maxRecDepth 40000 in
theorem zct_142 : Jvm.Cond.static (zyM 142) ∈ zbw := zin 540 rfl rfl
set_option maxRecDepth 40000 in
theorem zcl_143 : zcl (zyM 143) (zbM 143) (zlM 143) (ztM 143) 2 := ⟨zin 47 rfl rfl, zin 541 rfl rfl, ⟨by decide +kernel, by decide +kernel, by decide +kernel⟩, by decide⟩
set_option maxRecDepth 40000 in
theorem zct_143 : Jvm.Cond.static (zyM 143) ∈ zbw := zin 540 rfl rfl
set_option maxRecDepth 40000 in
theorem zcl_144 : zcl (zyM 144) (zbM 144) (zlM 144) (ztM 144) 2 := ⟨zin 47 rfl rfl, zin 541 rfl rfl, ⟨by decide +kernel, by decide +kernel, by decide +kernel⟩, by decide⟩
set_option maxRecDepth 40000 in
theorem zct_144 : Jvm.Cond.static (zyM 144) ∈ zbw := zin 540 rfl rfl
set_option maxRecDepth 40000 in
theorem zcl_145 : zcl (zyM 145) (zbM 145) (zlM 145) (ztM 145) 2 := ⟨zin 47 rfl rfl, zin 541 rfl rfl, ⟨by decide +kernel, by decide +kernel, by decide +kernel⟩, by decide⟩
set_option maxRecDepth 40000 in
theorem zct_145 : Jvm.Cond.static (zyM 145) ∈ zbw := zin 540 rfl rfl
set_option maxRecDepth 40000 in
theorem zcl_146 : zcl (zyM 146) (zbM 146) (zlM 146) (ztM 146) 2 := ⟨zin 47 rfl rfl, zin 541 rfl rfl, ⟨by decide +kernel, by decide +kernel, by decide +kernel⟩, by decide⟩
set_option maxRecDepth 40000 in
theorem zct_146 : Jvm.Cond.static (zyM 146) ∈ zbw := zin 540 rfl rfl
set_option maxRecDepth 40000 in
theorem zcl_147 : zcl (zyM 147) (zbM 147) (zlM 147) (ztM 147) 2 := ⟨zin 47 rfl rfl, zin 541 rfl rfl, ⟨by decide +kernel, by decide +kernel, by decide +kernel⟩, by decide⟩
set_option maxRecDepth 40000 in
theorem zct_147 : Jvm.Cond.static (zyM 147) ∈ zbw := zin 540 rfl rfl
set_option maxRecDepth 40000 in
theorem zcl_148 : zcl (zyM 148) (zbM 148) (zlM 148) (ztM 148) 2 := ⟨zin 47 rfl rfl, zin 541 rfl rfl, ⟨by decide +kernel, by decide +kernel, by decide +kernel⟩, by decide⟩
set_option maxRecDepth 40000 in
theorem zct_148 : Jvm.Cond.static (zyM 148) ∈ zbw := zin 540 rfl rfl
set_option maxRecDepth 40000 in
theorem zcl_149 : zcl (zyM 149) (zbM 149) (zlM 149) (ztM 149) 2 := ⟨zin 47 rfl rfl, zin 541 rfl rfl, ⟨by decide +kernel, by decide +kernel, by decide +kernel⟩, by decide⟩
set_option maxRecDepth 40000 in
theorem zct_149 : Jvm.Cond.static (zyM 149) ∈ zbw := zin 540 rfl rfl
set_option maxRecDepth 40000 in
theorem zcl_150 : zcl (zyM 150) (zbM 150) (zlM 150) (ztM 150) 0 := ⟨zin 47 rfl rfl, zin 538 rfl rfl, ⟨by decide +kernel, by decide +kernel, by decide +kernel⟩, by decide⟩
set_option maxRecDepth 40000 in
theorem zci_150 : Jvm.Cond.instanceMethod (zyM 150) ∈ zbw := zin 536 rfl rfl
set_option maxRecDepth 40000 in
theorem zcs_150 : Jvm.Cond.selects (zyM 150).cls (zyM 150) (zyM 150) ∈ zbw := zin 537 rfl rfl
set_option maxRecDepth 40000 in
theorem zcl_151 : zcl (zyM 151) (zbM 151) (zlM 151) (ztM 151) 0 := ⟨zin 42 rfl rfl, zin 534 rfl rfl, ⟨by decide +kernel, by decide +kernel, by decide +kernel⟩, by decide⟩
set_option maxRecDepth 40000 in
theorem zci_151 : Jvm.Cond.instanceMethod (zyM 151) ∈ zbw := zin 532 rfl rfl
set_option maxRecDepth 40000 in
theorem zcs_151 : Jvm.Cond.selects (zyM 151).cls (zyM 151) (zyM 151) ∈ zbw := zin 533 rfl rfl
set_option maxRecDepth 40000 in
theorem zcl_152 : zcl (zyM 152) (zbM 152) (zlM 152) (ztM 152) 2 := ⟨zin 47 rfl rfl, zin 557 rfl rfl, ⟨by decide +kernel, by decide +kernel, by decide +kernel⟩, by decide⟩
set_option maxRecDepth 40000 in
theorem zct_152 : Jvm.Cond.static (zyM 152) ∈ zbw := zin 556 rfl rfl
set_option maxRecDepth 40000 in
theorem zcl_153 : zcl (zyM 153) (zbM 153) (zlM 153) (ztM 153) 2 := ⟨zin 47 rfl rfl, zin 557 rfl rfl, ⟨by decide +kernel, by decide +kernel, by decide +kernel⟩, by decide⟩
set_option maxRecDepth 40000 in
theorem zct_153 : Jvm.Cond.static (zyM 153) ∈ zbw := zin 556 rfl rfl
set_option maxRecDepth 40000 in
theorem zcl_154 : zcl (zyM 154) (zbM 154) (zlM 154) (ztM 154) 2 := ⟨zin 47 rfl rfl, zin 557 rfl rfl, ⟨by decide +kernel, by decide +kernel, by decide +kernel⟩, by decide⟩
set_option maxRecDepth 40000 in
theorem zct_154 : Jvm.Cond.static (zyM 154) ∈ zbw := zin 556 rfl rfl
set_option maxRecDepth 40000 in
theorem zcl_155 : zcl (zyM 155) (zbM 155) (zlM 155) (ztM 155) 2 := ⟨zin 47 rfl rfl, zin 557 rfl rfl, ⟨by decide +kernel, by decide +kernel, by decide +kernel⟩, by decide⟩
set_option maxRecDepth 40000 in
theorem zct_155 : Jvm.Cond.static (zyM 155) ∈ zbw := zin 556 rfl rfl
set_option maxRecDepth 40000 in
theorem zcl_156 : zcl (zyM 156) (zbM 156) (zlM 156) (ztM 156) 2 := ⟨zin 47 rfl rfl, zin 557 rfl rfl, ⟨by decide +kernel, by decide +kernel, by decide +kernel⟩, by decide⟩
set_option maxRecDepth 40000 in
theorem zct_156 : Jvm.Cond.static (zyM 156) ∈ zbw := zin 556 rfl rfl
set_option maxRecDepth 40000 in
theorem zcl_157 : zcl (zyM 157) (zbM 157) (zlM 157) (ztM 157) 2 := ⟨zin 47 rfl rfl, zin 557 rfl rfl, ⟨by decide +kernel, by decide +kernel, by decide +kernel⟩, by decide⟩
set_option maxRecDepth 40000 in
theorem zct_157 : Jvm.Cond.static (zyM 157) ∈ zbw := zin 556 rfl rfl
set_option maxRecDepth 40000 in
theorem zcl_158 : zcl (zyM 158) (zbM 158) (zlM 158) (ztM 158) 2 := ⟨zin 47 rfl rfl, zin 557 rfl rfl, ⟨by decide +kernel, by decide +kernel, by decide +kernel⟩, by decide⟩
set_option maxRecDepth 40000 in
theorem zct_158 : Jvm.Cond.static (zyM 158) ∈ zbw := zin 556 rfl rfl
set_option maxRecDepth 40000 in
theorem zcl_159 : zcl (zyM 159) (zbM 159) (zlM 159) (ztM 159) 2 := ⟨zin 47 rfl rfl, zin 557 rfl rfl, ⟨by decide +kernel, by decide +kernel, by decide +kernel⟩, by decide⟩
set_option maxRecDepth 40000 in
theorem zct_159 : Jvm.Cond.static (zyM 159) ∈ zbw := zin 556 rfl rfl
set_option maxRecDepth 40000 in
theorem zcl_160 : zcl (zyM 160) (zbM 160) (zlM 160) (ztM 160) 2 := ⟨zin 47 rfl rfl, zin 557 rfl rfl, ⟨by decide +kernel, by decide +kernel, by decide +kernel⟩, by decide⟩
set_option maxRecDepth 40000 in
theorem zct_160 : Jvm.Cond.static (zyM 160) ∈ zbw := zin 556 rfl rfl
set_option maxRecDepth 40000 in
theorem zcl_161 : zcl (zyM 161) (zbM 161) (zlM 161) (ztM 161) 2 := ⟨zin 47 rfl rfl, zin 557 rfl rfl, ⟨by decide +kernel, by decide +kernel, by decide +kernel⟩, by decide⟩
set_option maxRecDepth 40000 in
theorem zct_161 : Jvm.Cond.static (zyM 161) ∈ zbw := zin 556 rfl rfl
set_option maxRecDepth 40000 in
theorem zcl_162 : zcl (zyM 162) (zbM 162) (zlM 162) (ztM 162) 0 := ⟨zin 47 rfl rfl, zin 554 rfl rfl, ⟨by decide +kernel, by decide +kernel, by decide +kernel⟩, by decide⟩
set_option maxRecDepth 40000 in
theorem zci_162 : Jvm.Cond.instanceMethod (zyM 162) ∈ zbw := zin 552 rfl rfl
set_option maxRecDepth 40000 in
theorem zcs_162 : Jvm.Cond.selects (zyM 162).cls (zyM 162) (zyM 162) ∈ zbw := zin 553 rfl rfl
set_option maxRecDepth 40000 in
theorem zcl_163 : zcl (zyM 163) (zbM 163) (zlM 163) (ztM 163) 1 := ⟨zin 42 rfl rfl, zin 550 rfl rfl, ⟨by decide +kernel, by decide +kernel, by decide +kernel⟩, by decide⟩
set_option maxRecDepth 40000 in
theorem zci_163 : Jvm.Cond.instanceMethod (zyM 163) ∈ zbw := zin 548 rfl rfl
set_option maxRecDepth 40000 in
theorem zcs_163 : Jvm.Cond.selects (zyM 163).cls (zyM 163) (zyM 163) ∈ zbw := zin 549 rfl rfl
set_option maxRecDepth 40000 in
theorem zcl_164 : zcl (zyM 164) (zbM 164) (zlM 164) (ztM 164) 1 := ⟨zin 47 rfl rfl, zin 565 rfl rfl, ⟨by decide +kernel, by decide +kernel, by decide +kernel⟩, by decide⟩
set_option maxRecDepth 40000 in
theorem zci_164 : Jvm.Cond.instanceMethod (zyM 164) ∈ zbw := zin 563 rfl rfl
set_option maxRecDepth 40000 in
theorem zcs_164 : Jvm.Cond.selects (zyM 164).cls (zyM 164) (zyM 164) ∈ zbw := zin 564 rfl rfl
set_option maxRecDepth 40000 in
theorem zcl_165 : zcl (zyM 165) (zbM 165) (zlM 165) (ztM 165) 0 := ⟨zin 42 rfl rfl, zin 561 rfl rfl, ⟨by decide +kernel, by decide +kernel, by decide +kernel⟩, by decide⟩
set_option maxRecDepth 40000 in
theorem zci_165 : Jvm.Cond.instanceMethod (zyM 165) ∈ zbw := zin 559 rfl rfl
set_option maxRecDepth 40000 in
theorem zcs_165 : Jvm.Cond.selects (zyM 165).cls (zyM 165) (zyM 165) ∈ zbw := zin 560 rfl rfl
set_option maxRecDepth 40000 in
theorem zcl_166 : zcl (zyM 166) (zbM 166) (zlM 166) (ztM 166) 2 := ⟨zin 42 rfl rfl, zin 569 rfl rfl, ⟨by decide +kernel, by decide +kernel, by decide +kernel⟩, by decide⟩
set_option maxRecDepth 40000 in
theorem zci_166 : Jvm.Cond.instanceMethod (zyM 166) ∈ zbw := zin 567 rfl rfl
set_option maxRecDepth 40000 in
theorem zcs_166 : Jvm.Cond.selects (zyM 166).cls (zyM 166) (zyM 166) ∈ zbw := zin 568 rfl rfl
set_option maxRecDepth 40000 in
theorem zcl_167 : zcl (zyM 167) (zbM 167) (zlM 167) (ztM 167) 1 := ⟨zin 43 rfl rfl, zin 577 rfl rfl, ⟨by decide +kernel, by decide +kernel, by decide +kernel⟩, by decide⟩
set_option maxRecDepth 40000 in
theorem zci_167 : Jvm.Cond.instanceMethod (zyM 167) ∈ zbw := zin 575 rfl rfl
set_option maxRecDepth 40000 in
theorem zcs_167 : Jvm.Cond.selects (zyM 167).cls (zyM 167) (zyM 167) ∈ zbw := zin 576 rfl rfl
set_option maxRecDepth 40000 in
theorem zcl_168 : zcl (zyM 168) (zbM 168) (zlM 168) (ztM 168) 0 := ⟨zin 43 rfl rfl, zin 581 rfl rfl, ⟨by decide +kernel, by decide +kernel, by decide +kernel⟩, by decide⟩
set_option maxRecDepth 40000 in
theorem zci_168 : Jvm.Cond.instanceMethod (zyM 168) ∈ zbw := zin 579 rfl rfl
set_option maxRecDepth 40000 in
theorem zcs_168 : Jvm.Cond.selects (zyM 168).cls (zyM 168) (zyM 168) ∈ zbw := zin 580 rfl rfl
set_option maxRecDepth 40000 in
theorem zcl_169 : zcl (zyM 169) (zbM 169) (zlM 169) (ztM 169) 0 := ⟨zin 43 rfl rfl, zin 586 rfl rfl, ⟨by decide +kernel, by decide +kernel, by decide +kernel⟩, by decide⟩
set_option maxRecDepth 40000 in
theorem zci_169 : Jvm.Cond.instanceMethod (zyM 169) ∈ zbw := zin 584 rfl rfl
set_option maxRecDepth 40000 in
theorem zcs_169 : Jvm.Cond.selects (zyM 169).cls (zyM 169) (zyM 169) ∈ zbw := zin 585 rfl rfl
set_option maxRecDepth 40000 in
theorem zcl_170 : zcl (zyM 170) (zbM 170) (zlM 170) (ztM 170) 1 := ⟨zin 42 rfl rfl, zin 573 rfl rfl, ⟨by decide +kernel, by decide +kernel, by decide +kernel⟩, by decide⟩
set_option maxRecDepth 40000 in
theorem zci_170 : Jvm.Cond.instanceMethod (zyM 170) ∈ zbw := zin 571 rfl rfl
set_option maxRecDepth 40000 in
theorem zcs_170 : Jvm.Cond.selects (zyM 170).cls (zyM 170) (zyM 170) ∈ zbw := zin 572 rfl rfl
