def RX0 : String := "ShadowWall$CommandText"
def TX0 : u_T := fun k => match k with
  | 0 => ("ShadowWall$CommandText", "text", "[C", true)
  | 1 => ("ShadowWall$CommandText", "length", "I", false)
  | 2 => ("ShadowWall$CommandText", "place", "I", false)
  | 3 => ("ShadowWall$CommandText", "kind", "I", false)
  | 4 => ("ShadowWall$CommandText", "numbers", "[I", true)
  | _ => ("ShadowWall$CommandText", "numberCount", "I", false)
def tyX0 : Nat → FieldType := fun k => match k with
  | 0 => .array .char
  | 1 => .int
  | 2 => .int
  | 3 => .int
  | 4 => .array .int
  | _ => .int
theorem nmX0 : ∀ a, a < 6 → ∀ b, b < 6 → a ≠ b → (TX0 a).2.1 ≠ (TX0 b).2.1 := by decide +kernel
theorem tyX0_ok : ∀ k, k < 6 → parseFieldDescriptor (TX0 k).2.2.1 = some (tyX0 k) := by decide +kernel
abbrev cX0_init : ByteArray := prog_2_method_1_code
def yX0_init : MethodName := ⟨RX0, "<init>", "()V"⟩
abbrev cX0_formOf : ByteArray := prog_2_method_2_code
def yX0_formOf : MethodName := ⟨RX0, "formOf", "(I)Ljava/lang/String;"⟩
abbrev cX0_isFull : ByteArray := prog_2_method_3_code
def yX0_isFull : MethodName := ⟨RX0, "isFull", "()Z"⟩
abbrev cX0_append : ByteArray := prog_2_method_4_code
def yX0_append : MethodName := ⟨RX0, "append", "(C)I"⟩
abbrev cX0_clear : ByteArray := prog_2_method_5_code
def yX0_clear : MethodName := ⟨RX0, "clear", "()V"⟩
abbrev cX0_rewind : ByteArray := prog_2_method_6_code
def yX0_rewind : MethodName := ⟨RX0, "rewind", "()V"⟩
abbrev cX0_countCommands : ByteArray := prog_2_method_7_code
def yX0_countCommands : MethodName := ⟨RX0, "countCommands", "()I"⟩
abbrev cX0_skipSeparator : ByteArray := prog_2_method_8_code
def yX0_skipSeparator : MethodName := ⟨RX0, "skipSeparator", "()Z"⟩
abbrev cX0_readCommand : ByteArray := prog_2_method_9_code
def yX0_readCommand : MethodName := ⟨RX0, "readCommand", "()Z"⟩
abbrev cX0_readForm : ByteArray := prog_2_method_10_code
def yX0_readForm : MethodName := ⟨RX0, "readForm", "(Ljava/lang/String;)Z"⟩
abbrev cX0_isNext : ByteArray := prog_2_method_11_code
def yX0_isNext : MethodName := ⟨RX0, "isNext", "(C)Z"⟩
abbrev cX0_take : ByteArray := prog_2_method_12_code
def yX0_take : MethodName := ⟨RX0, "take", "(C)V"⟩
abbrev cX0_addNumber : ByteArray := prog_2_method_13_code
def yX0_addNumber : MethodName := ⟨RX0, "addNumber", "(I)V"⟩
abbrev cX0_number : ByteArray := prog_2_method_14_code
def yX0_number : MethodName := ⟨RX0, "number", "(I)I"⟩
def RX1 : String := "ShadowWall$FlatWall"
def TX1 : u_T := fun k => match k with
  | 0 => ("ShadowWall$FlatWall", "tones", "[I", true)
  | 1 => ("ShadowWall$FlatWall", "table", "[I", true)
  | 2 => ("ShadowWall$FlatWall", "reached", "[Z", true)
  | 3 => ("ShadowWall$FlatWall", "queue", "[I", true)
  | 4 => ("ShadowWall$FlatWall", "queued", "I", false)
  | _ => ("ShadowWall$FlatWall", "parents", "[I", true)
def tyX1 : Nat → FieldType := fun k => match k with
  | 0 => .array .int
  | 1 => .array .int
  | 2 => .array .boolean
  | 3 => .array .int
  | 4 => .int
  | _ => .array .int
theorem nmX1 : ∀ a, a < 6 → ∀ b, b < 6 → a ≠ b → (TX1 a).2.1 ≠ (TX1 b).2.1 := by decide +kernel
theorem tyX1_ok : ∀ k, k < 6 → parseFieldDescriptor (TX1 k).2.2.1 = some (tyX1 k) := by decide +kernel
abbrev cX1_init : ByteArray := prog_3_method_1_code
def yX1_init : MethodName := ⟨RX1, "<init>", "()V"⟩
abbrev cX1_flatten : ByteArray := prog_3_method_2_code
def yX1_flatten : MethodName := ⟨RX1, "flatten", "(LShadowWall$Layers;)V"⟩
abbrev cX1_countCellsUnlike : ByteArray := prog_3_method_3_code
def yX1_countCellsUnlike : MethodName := ⟨RX1, "countCellsUnlike", "(LShadowWall$Layers;)I"⟩
abbrev cX1_countCellsUnlikeFromTop : ByteArray := prog_3_method_4_code
def yX1_countCellsUnlikeFromTop : MethodName := ⟨RX1, "countCellsUnlikeFromTop", "(LShadowWall$Layers;)I"⟩
abbrev cX1_toneAt : ByteArray := prog_3_method_5_code
def yX1_toneAt : MethodName := ⟨RX1, "toneAt", "(I)I"⟩
abbrev cX1_countTone : ByteArray := prog_3_method_6_code
def yX1_countTone : MethodName := ⟨RX1, "countTone", "(I)I"⟩
abbrev cX1_mostFrequentTone : ByteArray := prog_3_method_7_code
def yX1_mostFrequentTone : MethodName := ⟨RX1, "mostFrequentTone", "()I"⟩
abbrev cX1_sumCellByCell : ByteArray := prog_3_method_8_code
def yX1_sumCellByCell : MethodName := ⟨RX1, "sumCellByCell", "(IIII)I"⟩
abbrev cX1_sumOfAllCells : ByteArray := prog_3_method_9_code
def yX1_sumOfAllCells : MethodName := ⟨RX1, "sumOfAllCells", "()I"⟩
abbrev cX1_sumFromTable : ByteArray := prog_3_method_10_code
def yX1_sumFromTable : MethodName := ⟨RX1, "sumFromTable", "(IIII)I"⟩
abbrev cX1_fillTable : ByteArray := prog_3_method_11_code
def yX1_fillTable : MethodName := ⟨RX1, "fillTable", "()V"⟩
abbrev cX1_sumBefore : ByteArray := prog_3_method_12_code
def yX1_sumBefore : MethodName := ⟨RX1, "sumBefore", "(II)I"⟩
abbrev cX1_rowWithLeastSum : ByteArray := prog_3_method_13_code
def yX1_rowWithLeastSum : MethodName := ⟨RX1, "rowWithLeastSum", "()I"⟩
abbrev cX1_equalsItsMirrorImage : ByteArray := prog_3_method_14_code
def yX1_equalsItsMirrorImage : MethodName := ⟨RX1, "equalsItsMirrorImage", "()Z"⟩
abbrev cX1_sizeOfAreaAt : ByteArray := prog_3_method_15_code
def yX1_sizeOfAreaAt : MethodName := ⟨RX1, "sizeOfAreaAt", "(I)I"⟩
abbrev cX1_countAreasByFilling : ByteArray := prog_3_method_16_code
def yX1_countAreasByFilling : MethodName := ⟨RX1, "countAreasByFilling", "()I"⟩
abbrev cX1_sizeOfLargestArea : ByteArray := prog_3_method_17_code
def yX1_sizeOfLargestArea : MethodName := ⟨RX1, "sizeOfLargestArea", "()I"⟩
abbrev cX1_reachNothing : ByteArray := prog_3_method_18_code
def yX1_reachNothing : MethodName := ⟨RX1, "reachNothing", "()V"⟩
abbrev cX1_fillAreaAt : ByteArray := prog_3_method_19_code
def yX1_fillAreaAt : MethodName := ⟨RX1, "fillAreaAt", "(I)I"⟩
abbrev cX1_reach : ByteArray := prog_3_method_20_code
def yX1_reach : MethodName := ⟨RX1, "reach", "(II)V"⟩
abbrev cX1_countAreasByJoining : ByteArray := prog_3_method_21_code
def yX1_countAreasByJoining : MethodName := ⟨RX1, "countAreasByJoining", "()I"⟩
abbrev cX1_joins : ByteArray := prog_3_method_22_code
def yX1_joins : MethodName := ⟨RX1, "joins", "(II)Z"⟩
abbrev cX1_rootOf : ByteArray := prog_3_method_23_code
def yX1_rootOf : MethodName := ⟨RX1, "rootOf", "(I)I"⟩
def RX2 : String := "ShadowWall$History"
def TX2 : u_T := fun k => match k with
  | 0 => ("ShadowWall$History", "ring", "[LShadowWall$Layers;", true)
  | 1 => ("ShadowWall$History", "next", "I", false)
  | _ => ("ShadowWall$History", "size", "I", false)
def tyX2 : Nat → FieldType := fun k => match k with
  | 0 => .array (.object "ShadowWall$Layers")
  | 1 => .int
  | _ => .int
theorem nmX2 : ∀ a, a < 3 → ∀ b, b < 3 → a ≠ b → (TX2 a).2.1 ≠ (TX2 b).2.1 := by decide +kernel
theorem tyX2_ok : ∀ k, k < 3 → parseFieldDescriptor (TX2 k).2.2.1 = some (tyX2 k) := by decide +kernel
abbrev cX2_init : ByteArray := prog_4_method_1_code
def yX2_init : MethodName := ⟨RX2, "<init>", "()V"⟩
abbrev cX2_nextSlot : ByteArray := prog_4_method_2_code
def yX2_nextSlot : MethodName := ⟨RX2, "nextSlot", "()LShadowWall$Layers;"⟩
abbrev cX2_prepare : ByteArray := prog_4_method_3_code
def yX2_prepare : MethodName := ⟨RX2, "prepare", "(LShadowWall$Layers;)V"⟩
abbrev cX2_commit : ByteArray := prog_4_method_4_code
def yX2_commit : MethodName := ⟨RX2, "commit", "()V"⟩
abbrev cX2_fetchPrepared : ByteArray := prog_4_method_5_code
def yX2_fetchPrepared : MethodName := ⟨RX2, "fetchPrepared", "(LShadowWall$Layers;)V"⟩
abbrev cX2_stepBack : ByteArray := prog_4_method_6_code
def yX2_stepBack : MethodName := ⟨RX2, "stepBack", "(LShadowWall$Layers;)V"⟩
abbrev cX2_forgetAll : ByteArray := prog_4_method_7_code
def yX2_forgetAll : MethodName := ⟨RX2, "forgetAll", "()V"⟩
def RX3 : String := "ShadowWall$Layer"
def TX3 : u_T := fun k => match k with
  | 0 => ("ShadowWall$Layer", "blendMode", "C", false)
  | 1 => ("ShadowWall$Layer", "visible", "Z", false)
  | _ => ("ShadowWall$Layer", "tones", "[I", true)
def tyX3 : Nat → FieldType := fun k => match k with
  | 0 => .char
  | 1 => .boolean
  | _ => .array .int
theorem nmX3 : ∀ a, a < 3 → ∀ b, b < 3 → a ≠ b → (TX3 a).2.1 ≠ (TX3 b).2.1 := by decide +kernel
theorem tyX3_ok : ∀ k, k < 3 → parseFieldDescriptor (TX3 k).2.2.1 = some (tyX3 k) := by decide +kernel
abbrev cX3_init : ByteArray := prog_5_method_1_code
def yX3_init : MethodName := ⟨RX3, "<init>", "()V"⟩
abbrev cX3_begin : ByteArray := prog_5_method_2_code
def yX3_begin : MethodName := ⟨RX3, "begin", "(C)V"⟩
abbrev cX3_copyFrom : ByteArray := prog_5_method_3_code
def yX3_copyFrom : MethodName := ⟨RX3, "copyFrom", "(LShadowWall$Layer;)V"⟩
abbrev cX3_toneAt : ByteArray := prog_5_method_4_code
def yX3_toneAt : MethodName := ⟨RX3, "toneAt", "(I)I"⟩
abbrev cX3_setTone : ByteArray := prog_5_method_5_code
def yX3_setTone : MethodName := ⟨RX3, "setTone", "(II)V"⟩
abbrev cX3_covers : ByteArray := prog_5_method_6_code
def yX3_covers : MethodName := ⟨RX3, "covers", "(I)Z"⟩
abbrev cX3_hides : ByteArray := prog_5_method_7_code
def yX3_hides : MethodName := ⟨RX3, "hides", "(I)Z"⟩
abbrev cX3_canBeMerged : ByteArray := prog_5_method_8_code
def yX3_canBeMerged : MethodName := ⟨RX3, "canBeMerged", "()Z"⟩
abbrev cX3_toneOver : ByteArray := prog_5_method_9_code
def yX3_toneOver : MethodName := ⟨RX3, "toneOver", "(II)I"⟩
abbrev cX3_countTones : ByteArray := prog_5_method_10_code
def yX3_countTones : MethodName := ⟨RX3, "countTones", "()I"⟩
abbrev cX3_countCellsUnlike : ByteArray := prog_5_method_11_code
def yX3_countCellsUnlike : MethodName := ⟨RX3, "countCellsUnlike", "(LShadowWall$Layer;)I"⟩
abbrev cX3_fillRectangle : ByteArray := prog_5_method_12_code
def yX3_fillRectangle : MethodName := ⟨RX3, "fillRectangle", "(IIIII)I"⟩
abbrev cX3_clearCircle : ByteArray := prog_5_method_13_code
def yX3_clearCircle : MethodName := ⟨RX3, "clearCircle", "(III)I"⟩
abbrev cX3_coverWith : ByteArray := prog_5_method_14_code
def yX3_coverWith : MethodName := ⟨RX3, "coverWith", "(LShadowWall$Layer;)V"⟩
abbrev cX3_takeShadowOf : ByteArray := prog_5_method_15_code
def yX3_takeShadowOf : MethodName := ⟨RX3, "takeShadowOf", "(LShadowWall$Layer;I)V"⟩
def RX4 : String := "ShadowWall$Layers"
def TX4 : u_T := fun k => match k with
  | 0 => ("ShadowWall$Layers", "stack", "[LShadowWall$Layer;", true)
  | 1 => ("ShadowWall$Layers", "count", "I", false)
  | 2 => ("ShadowWall$Layers", "paintedSum", "I", false)
  | _ => ("ShadowWall$Layers", "erasedSum", "I", false)
def tyX4 : Nat → FieldType := fun k => match k with
  | 0 => .array (.object "ShadowWall$Layer")
  | 1 => .int
  | 2 => .int
  | _ => .int
theorem nmX4 : ∀ a, a < 4 → ∀ b, b < 4 → a ≠ b → (TX4 a).2.1 ≠ (TX4 b).2.1 := by decide +kernel
theorem tyX4_ok : ∀ k, k < 4 → parseFieldDescriptor (TX4 k).2.2.1 = some (tyX4 k) := by decide +kernel
abbrev cX4_init : ByteArray := prog_6_method_1_code
def yX4_init : MethodName := ⟨RX4, "<init>", "()V"⟩
abbrev cX4_at : ByteArray := prog_6_method_2_code
def yX4_at : MethodName := ⟨RX4, "at", "(I)LShadowWall$Layer;"⟩
abbrev cX4_copyFrom : ByteArray := prog_6_method_3_code
def yX4_copyFrom : MethodName := ⟨RX4, "copyFrom", "(LShadowWall$Layers;)V"⟩
abbrev cX4_addOnTop : ByteArray := prog_6_method_4_code
def yX4_addOnTop : MethodName := ⟨RX4, "addOnTop", "(C)I"⟩
abbrev cX4_beginLayer : ByteArray := prog_6_method_5_code
def yX4_beginLayer : MethodName := ⟨RX4, "beginLayer", "(C)LShadowWall$Layer;"⟩
abbrev cX4_takeAway : ByteArray := prog_6_method_6_code
def yX4_takeAway : MethodName := ⟨RX4, "takeAway", "(I)I"⟩
abbrev cX4_paintRectangle : ByteArray := prog_6_method_7_code
def yX4_paintRectangle : MethodName := ⟨RX4, "paintRectangle", "(IIIIII)I"⟩
abbrev cX4_eraseCircle : ByteArray := prog_6_method_8_code
def yX4_eraseCircle : MethodName := ⟨RX4, "eraseCircle", "(IIII)I"⟩
abbrev cX4_turnVisible : ByteArray := prog_6_method_9_code
def yX4_turnVisible : MethodName := ⟨RX4, "turnVisible", "(IZ)I"⟩
abbrev cX4_shift : ByteArray := prog_6_method_10_code
def yX4_shift : MethodName := ⟨RX4, "shift", "(II)V"⟩
abbrev cX4_mergeWithLower : ByteArray := prog_6_method_11_code
def yX4_mergeWithLower : MethodName := ⟨RX4, "mergeWithLower", "(I)I"⟩
abbrev cX4_addShadow : ByteArray := prog_6_method_12_code
def yX4_addShadow : MethodName := ⟨RX4, "addShadow", "(II)I"⟩
abbrev cX4_countVisible : ByteArray := prog_6_method_13_code
def yX4_countVisible : MethodName := ⟨RX4, "countVisible", "()I"⟩
abbrev cX4_countCovering : ByteArray := prog_6_method_14_code
def yX4_countCovering : MethodName := ⟨RX4, "countCovering", "(I)I"⟩
abbrev cX4_countCoveredCells : ByteArray := prog_6_method_15_code
def yX4_countCoveredCells : MethodName := ⟨RX4, "countCoveredCells", "()I"⟩
abbrev cX4_uppermostCovering : ByteArray := prog_6_method_16_code
def yX4_uppermostCovering : MethodName := ⟨RX4, "uppermostCovering", "(I)I"⟩
abbrev cX4_toneFromTop : ByteArray := prog_6_method_17_code
def yX4_toneFromTop : MethodName := ⟨RX4, "toneFromTop", "(I)I"⟩
abbrev cX4_toneFrom : ByteArray := prog_6_method_18_code
def yX4_toneFrom : MethodName := ⟨RX4, "toneFrom", "(II)I"⟩
abbrev cX4_positionOfRank : ByteArray := prog_6_method_19_code
def yX4_positionOfRank : MethodName := ⟨RX4, "positionOfRank", "(I)I"⟩
abbrev cX4_countAhead : ByteArray := prog_6_method_20_code
def yX4_countAhead : MethodName := ⟨RX4, "countAhead", "(I)I"⟩
abbrev cX4_tonesOf : ByteArray := prog_6_method_21_code
def yX4_tonesOf : MethodName := ⟨RX4, "tonesOf", "(I)I"⟩
def RX5 : String := "ShadowWall$Output"
def TX5 : u_T := fun k => match k with
  | 0 => ("ShadowWall$Output", "text", "[C", true)
  | _ => ("ShadowWall$Output", "length", "I", false)
def tyX5 : Nat → FieldType := fun k => match k with
  | 0 => .array .char
  | _ => .int
theorem nmX5 : ∀ a, a < 2 → ∀ b, b < 2 → a ≠ b → (TX5 a).2.1 ≠ (TX5 b).2.1 := by decide +kernel
theorem tyX5_ok : ∀ k, k < 2 → parseFieldDescriptor (TX5 k).2.2.1 = some (tyX5 k) := by decide +kernel
abbrev cX5_init : ByteArray := prog_7_method_1_code
def yX5_init : MethodName := ⟨RX5, "<init>", "()V"⟩
abbrev cX5_clear : ByteArray := prog_7_method_2_code
def yX5_clear : MethodName := ⟨RX5, "clear", "()V"⟩
abbrev cX5_put : ByteArray := prog_7_method_3_code
def yX5_put : MethodName := ⟨RX5, "put", "(C)V"⟩
abbrev cX5_putHexDigit : ByteArray := prog_7_method_4_code
def yX5_putHexDigit : MethodName := ⟨RX5, "putHexDigit", "(I)V"⟩
abbrev cX5_putNumber : ByteArray := prog_7_method_5_code
def yX5_putNumber : MethodName := ⟨RX5, "putNumber", "(I)V"⟩
abbrev cX5_charAt : ByteArray := prog_7_method_6_code
def yX5_charAt : MethodName := ⟨RX5, "charAt", "(I)C"⟩
def RX6 : String := "ShadowWall"
def TX6 : u_T := fun k => match k with
  | 0 => ("ShadowWall", "layers", "LShadowWall$Layers;", true)
  | 1 => ("ShadowWall", "history", "LShadowWall$History;", true)
  | 2 => ("ShadowWall", "savedLayers", "LShadowWall$Layers;", true)
  | 3 => ("ShadowWall", "isSaved", "Z", false)
  | 4 => ("ShadowWall", "flatWall", "LShadowWall$FlatWall;", true)
  | 5 => ("ShadowWall", "input", "LShadowWall$CommandText;", true)
  | 6 => ("ShadowWall", "output", "LShadowWall$Output;", true)
  | 7 => ("ShadowWall", "latestErrorPosition", "I", false)
  | _ => ("ShadowWall", "latestFailedCommand", "I", false)
def tyX6 : Nat → FieldType := fun k => match k with
  | 0 => .object "ShadowWall$Layers"
  | 1 => .object "ShadowWall$History"
  | 2 => .object "ShadowWall$Layers"
  | 3 => .boolean
  | 4 => .object "ShadowWall$FlatWall"
  | 5 => .object "ShadowWall$CommandText"
  | 6 => .object "ShadowWall$Output"
  | 7 => .int
  | _ => .int
theorem nmX6 : ∀ a, a < 9 → ∀ b, b < 9 → a ≠ b → (TX6 a).2.1 ≠ (TX6 b).2.1 := by decide +kernel
theorem tyX6_ok : ∀ k, k < 9 → parseFieldDescriptor (TX6 k).2.2.1 = some (tyX6 k) := by decide +kernel
abbrev cX6_init : ByteArray := prog_1_method_1_code
def yX6_init : MethodName := ⟨RX6, "<init>", "()V"⟩
abbrev cX6_addLayer : ByteArray := prog_1_method_2_code
def yX6_addLayer : MethodName := ⟨RX6, "addLayer", "(C)I"⟩
abbrev cX6_removeLayer : ByteArray := prog_1_method_3_code
def yX6_removeLayer : MethodName := ⟨RX6, "removeLayer", "(I)I"⟩
abbrev cX6_paint : ByteArray := prog_1_method_4_code
def yX6_paint : MethodName := ⟨RX6, "paint", "(IIIIII)I"⟩
abbrev cX6_erase : ByteArray := prog_1_method_5_code
def yX6_erase : MethodName := ⟨RX6, "erase", "(IIII)I"⟩
abbrev cX6_hide : ByteArray := prog_1_method_6_code
def yX6_hide : MethodName := ⟨RX6, "hide", "(I)I"⟩
abbrev cX6_show : ByteArray := prog_1_method_7_code
def yX6_show : MethodName := ⟨RX6, "show", "(I)I"⟩
abbrev cX6_moveLayer : ByteArray := prog_1_method_8_code
def yX6_moveLayer : MethodName := ⟨RX6, "moveLayer", "(II)I"⟩
abbrev cX6_mergeDown : ByteArray := prog_1_method_9_code
def yX6_mergeDown : MethodName := ⟨RX6, "mergeDown", "(I)I"⟩
abbrev cX6_castShadow : ByteArray := prog_1_method_10_code
def yX6_castShadow : MethodName := ⟨RX6, "castShadow", "(II)I"⟩
abbrev cX6_moveAndCompare : ByteArray := prog_1_method_11_code
def yX6_moveAndCompare : MethodName := ⟨RX6, "moveAndCompare", "(II)I"⟩
abbrev cX6_layerCount : ByteArray := prog_1_method_12_code
def yX6_layerCount : MethodName := ⟨RX6, "layerCount", "()I"⟩
abbrev cX6_mode : ByteArray := prog_1_method_13_code
def yX6_mode : MethodName := ⟨RX6, "mode", "(I)C"⟩
abbrev cX6_isVisible : ByteArray := prog_1_method_14_code
def yX6_isVisible : MethodName := ⟨RX6, "isVisible", "(I)Z"⟩
abbrev cX6_hasTone : ByteArray := prog_1_method_15_code
def yX6_hasTone : MethodName := ⟨RX6, "hasTone", "(III)Z"⟩
abbrev cX6_tone : ByteArray := prog_1_method_16_code
def yX6_tone : MethodName := ⟨RX6, "tone", "(III)I"⟩
abbrev cX6_painted : ByteArray := prog_1_method_17_code
def yX6_painted : MethodName := ⟨RX6, "painted", "(I)I"⟩
abbrev cX6_visibleCount : ByteArray := prog_1_method_18_code
def yX6_visibleCount : MethodName := ⟨RX6, "visibleCount", "()I"⟩
abbrev cX6_differentCells : ByteArray := prog_1_method_19_code
def yX6_differentCells : MethodName := ⟨RX6, "differentCells", "(II)I"⟩
abbrev cX6_layerByPaint : ByteArray := prog_1_method_20_code
def yX6_layerByPaint : MethodName := ⟨RX6, "layerByPaint", "(I)I"⟩
abbrev cX6_paintedCells : ByteArray := prog_1_method_21_code
def yX6_paintedCells : MethodName := ⟨RX6, "paintedCells", "()I"⟩
abbrev cX6_erasedCells : ByteArray := prog_1_method_22_code
def yX6_erasedCells : MethodName := ⟨RX6, "erasedCells", "()I"⟩
abbrev cX6_existingLayer : ByteArray := prog_1_method_23_code
def yX6_existingLayer : MethodName := ⟨RX6, "existingLayer", "(I)LShadowWall$Layer;"⟩
abbrev cX6_existingCell : ByteArray := prog_1_method_24_code
def yX6_existingCell : MethodName := ⟨RX6, "existingCell", "(II)I"⟩
abbrev cX6_seen : ByteArray := prog_1_method_25_code
def yX6_seen : MethodName := ⟨RX6, "seen", "(II)I"⟩
abbrev cX6_seenFromTop : ByteArray := prog_1_method_26_code
def yX6_seenFromTop : MethodName := ⟨RX6, "seenFromTop", "(II)I"⟩
abbrev cX6_topLayer : ByteArray := prog_1_method_27_code
def yX6_topLayer : MethodName := ⟨RX6, "topLayer", "(II)I"⟩
abbrev cX6_coveringLayers : ByteArray := prog_1_method_28_code
def yX6_coveringLayers : MethodName := ⟨RX6, "coveringLayers", "(II)I"⟩
abbrev cX6_cellsWithTone : ByteArray := prog_1_method_29_code
def yX6_cellsWithTone : MethodName := ⟨RX6, "cellsWithTone", "(I)I"⟩
abbrev cX6_commonestTone : ByteArray := prog_1_method_30_code
def yX6_commonestTone : MethodName := ⟨RX6, "commonestTone", "()I"⟩
abbrev cX6_sumOfTones : ByteArray := prog_1_method_31_code
def yX6_sumOfTones : MethodName := ⟨RX6, "sumOfTones", "(IIII)I"⟩
abbrev cX6_sumOfTonesByTable : ByteArray := prog_1_method_32_code
def yX6_sumOfTonesByTable : MethodName := ⟨RX6, "sumOfTonesByTable", "(IIII)I"⟩
abbrev cX6_areaSize : ByteArray := prog_1_method_33_code
def yX6_areaSize : MethodName := ⟨RX6, "areaSize", "(II)I"⟩
abbrev cX6_areaCount : ByteArray := prog_1_method_34_code
def yX6_areaCount : MethodName := ⟨RX6, "areaCount", "()I"⟩
abbrev cX6_areaCountByJoining : ByteArray := prog_1_method_35_code
def yX6_areaCountByJoining : MethodName := ⟨RX6, "areaCountByJoining", "()I"⟩
abbrev cX6_largestArea : ByteArray := prog_1_method_36_code
def yX6_largestArea : MethodName := ⟨RX6, "largestArea", "()I"⟩
abbrev cX6_darkestRow : ByteArray := prog_1_method_37_code
def yX6_darkestRow : MethodName := ⟨RX6, "darkestRow", "()I"⟩
abbrev cX6_isMirrored : ByteArray := prog_1_method_38_code
def yX6_isMirrored : MethodName := ⟨RX6, "isMirrored", "()Z"⟩
abbrev cX6_meanTone : ByteArray := prog_1_method_39_code
def yX6_meanTone : MethodName := ⟨RX6, "meanTone", "()D"⟩
abbrev cX6_coveredShare : ByteArray := prog_1_method_40_code
def yX6_coveredShare : MethodName := ⟨RX6, "coveredShare", "()F"⟩
abbrev cX6_isConsistent : ByteArray := prog_1_method_41_code
def yX6_isConsistent : MethodName := ⟨RX6, "isConsistent", "()Z"⟩
abbrev cX6_flattened : ByteArray := prog_1_method_42_code
def yX6_flattened : MethodName := ⟨RX6, "flattened", "()LShadowWall$FlatWall;"⟩
abbrev cX6_requireRectangle : ByteArray := prog_1_method_43_code
def yX6_requireRectangle : MethodName := ⟨RX6, "requireRectangle", "(IIII)V"⟩
abbrev cX6_feed : ByteArray := prog_1_method_44_code
def yX6_feed : MethodName := ⟨RX6, "feed", "(C)I"⟩
abbrev cX6_runCommands : ByteArray := prog_1_method_45_code
def yX6_runCommands : MethodName := ⟨RX6, "runCommands", "()I"⟩
abbrev cX6_errorPosition : ByteArray := prog_1_method_46_code
def yX6_errorPosition : MethodName := ⟨RX6, "errorPosition", "()I"⟩
abbrev cX6_failedCommand : ByteArray := prog_1_method_47_code
def yX6_failedCommand : MethodName := ⟨RX6, "failedCommand", "()I"⟩
abbrev cX6_carryOutUntilFailure : ByteArray := prog_1_method_48_code
def yX6_carryOutUntilFailure : MethodName := ⟨RX6, "carryOutUntilFailure", "(I)I"⟩
abbrev cX6_carryOut : ByteArray := prog_1_method_49_code
def yX6_carryOut : MethodName := ⟨RX6, "carryOut", "(LShadowWall$CommandText;)I"⟩
abbrev cX6_writeRow : ByteArray := prog_1_method_50_code
def yX6_writeRow : MethodName := ⟨RX6, "writeRow", "(I)I"⟩
abbrev cX6_writeLayers : ByteArray := prog_1_method_51_code
def yX6_writeLayers : MethodName := ⟨RX6, "writeLayers", "()I"⟩
abbrev cX6_outputChar : ByteArray := prog_1_method_52_code
def yX6_outputChar : MethodName := ⟨RX6, "outputChar", "(I)C"⟩
abbrev cX6_describe : ByteArray := prog_1_method_53_code
def yX6_describe : MethodName := ⟨RX6, "describe", "(LShadowWall$Layer;)V"⟩
abbrev cX6_undoCount : ByteArray := prog_1_method_54_code
def yX6_undoCount : MethodName := ⟨RX6, "undoCount", "()I"⟩
abbrev cX6_undo : ByteArray := prog_1_method_55_code
def yX6_undo : MethodName := ⟨RX6, "undo", "()I"⟩
abbrev cX6_save : ByteArray := prog_1_method_56_code
def yX6_save : MethodName := ⟨RX6, "save", "()I"⟩
abbrev cX6_restore : ByteArray := prog_1_method_57_code
def yX6_restore : MethodName := ⟨RX6, "restore", "()I"⟩
abbrev cX6_isCell : ByteArray := prog_1_method_58_code
def yX6_isCell : MethodName := ⟨RX6, "isCell", "(II)Z"⟩
abbrev cX6_cellNumber : ByteArray := prog_1_method_59_code
def yX6_cellNumber : MethodName := ⟨RX6, "cellNumber", "(II)I"⟩
abbrev cX6_isTone : ByteArray := prog_1_method_60_code
def yX6_isTone : MethodName := ⟨RX6, "isTone", "(I)Z"⟩
abbrev cX6_isMode : ByteArray := prog_1_method_61_code
def yX6_isMode : MethodName := ⟨RX6, "isMode", "(C)Z"⟩
abbrev cX6_blend : ByteArray := prog_1_method_62_code
def yX6_blend : MethodName := ⟨RX6, "blend", "(CII)I"⟩
def RX7 : String := "ShadowWallModel"
def TX7 : u_T := fun k => match k with
  | 0 => ("ShadowWallModel", "thrown", "I", false)
  | 1 => ("ShadowWallModel", "s", "[I", true)
  | 2 => ("ShadowWallModel", "frame", "[I", true)
  | 3 => ("ShadowWallModel", "saved", "[I", true)
  | 4 => ("ShadowWallModel", "history", "[I", true)
  | 5 => ("ShadowWallModel", "kept", "I", false)
  | 6 => ("ShadowWallModel", "hasSaved", "Z", false)
  | 7 => ("ShadowWallModel", "text", "[I", true)
  | 8 => ("ShadowWallModel", "told", "[I", true)
  | 9 => ("ShadowWallModel", "out", "[I", true)
  | 10 => ("ShadowWallModel", "before", "[I", true)
  | 11 => ("ShadowWallModel", "label", "[I", true)
  | 12 => ("ShadowWallModel", "one", "[I", true)
  | 13 => ("ShadowWallModel", "fed", "I", false)
  | 14 => ("ShadowWallModel", "outLength", "I", false)
  | 15 => ("ShadowWallModel", "faultAt", "I", false)
  | 16 => ("ShadowWallModel", "failedAt", "I", false)
  | 17 => ("ShadowWallModel", "answer", "I", false)
  | 18 => ("ShadowWallModel", "spot", "I", false)
  | 19 => ("ShadowWallModel", "end", "I", false)
  | 20 => ("ShadowWallModel", "commands", "I", false)
  | _ => ("ShadowWallModel", "isWrong", "Z", false)
def tyX7 : Nat → FieldType := fun k => match k with
  | 0 => .int
  | 1 => .array .int
  | 2 => .array .int
  | 3 => .array .int
  | 4 => .array .int
  | 5 => .int
  | 6 => .boolean
  | 7 => .array .int
  | 8 => .array .int
  | 9 => .array .int
  | 10 => .array .int
  | 11 => .array .int
  | 12 => .array .int
  | 13 => .int
  | 14 => .int
  | 15 => .int
  | 16 => .int
  | 17 => .int
  | 18 => .int
  | 19 => .int
  | 20 => .int
  | _ => .boolean
theorem nmX7 : ∀ a, a < 22 → ∀ b, b < 22 → a ≠ b → (TX7 a).2.1 ≠ (TX7 b).2.1 := by decide +kernel
theorem tyX7_ok : ∀ k, k < 22 → parseFieldDescriptor (TX7 k).2.2.1 = some (tyX7 k) := by decide +kernel
abbrev cX7_init : ByteArray := prog_9_method_1_code
def yX7_init : MethodName := ⟨RX7, "<init>", "()V"⟩
abbrev cX7_thrown : ByteArray := prog_9_method_2_code
def yX7_thrown : MethodName := ⟨RX7, "thrown", "()I"⟩
abbrev cX7_fails : ByteArray := prog_9_method_3_code
def yX7_fails : MethodName := ⟨RX7, "fails", "(I)I"⟩
abbrev cX7_in : ByteArray := prog_9_method_4_code
def yX7_in : MethodName := ⟨RX7, "in", "(III)Z"⟩
abbrev cX7_remembers : ByteArray := prog_9_method_5_code
def yX7_remembers : MethodName := ⟨RX7, "remembers", "()V"⟩
abbrev cX7_changed : ByteArray := prog_9_method_6_code
def yX7_changed : MethodName := ⟨RX7, "changed", "(I)I"⟩
abbrev cX7_done : ByteArray := prog_9_method_7_code
def yX7_done : MethodName := ⟨RX7, "done", "(I)I"⟩
abbrev cX7_ends : ByteArray := prog_9_method_8_code
def yX7_ends : MethodName := ⟨RX7, "ends", "(I)I"⟩
abbrev cX7_isLayer : ByteArray := prog_9_method_9_code
def yX7_isLayer : MethodName := ⟨RX7, "isLayer", "(I)Z"⟩
abbrev cX7_isCell : ByteArray := prog_9_method_10_code
def yX7_isCell : MethodName := ⟨RX7, "isCell", "(II)Z"⟩
abbrev cX7_isMode : ByteArray := prog_9_method_11_code
def yX7_isMode : MethodName := ⟨RX7, "isMode", "(I)Z"⟩
abbrev cX7_mode0 : ByteArray := prog_9_method_12_code
def yX7_mode0 : MethodName := ⟨RX7, "mode0", "(I)I"⟩
abbrev cX7_shown : ByteArray := prog_9_method_13_code
def yX7_shown : MethodName := ⟨RX7, "shown", "(I)Z"⟩
abbrev cX7_at : ByteArray := prog_9_method_14_code
def yX7_at : MethodName := ⟨RX7, "at", "(II)I"⟩
abbrev cX7_sets : ByteArray := prog_9_method_15_code
def yX7_sets : MethodName := ⟨RX7, "sets", "(III)V"⟩
abbrev cX7_full : ByteArray := prog_9_method_16_code
def yX7_full : MethodName := ⟨RX7, "full", "(I)I"⟩
abbrev cX7_showing : ByteArray := prog_9_method_17_code
def yX7_showing : MethodName := ⟨RX7, "showing", "()I"⟩
abbrev cX7_blended : ByteArray := prog_9_method_18_code
def yX7_blended : MethodName := ⟨RX7, "blended", "(III)I"⟩
abbrev cX7_look : ByteArray := prog_9_method_19_code
def yX7_look : MethodName := ⟨RX7, "look", "(I)I"⟩
abbrev cX7_begins : ByteArray := prog_9_method_20_code
def yX7_begins : MethodName := ⟨RX7, "begins", "(II)V"⟩
abbrev cX7_adds : ByteArray := prog_9_method_21_code
def yX7_adds : MethodName := ⟨RX7, "adds", "(I)I"⟩
abbrev cX7_takes : ByteArray := prog_9_method_22_code
def yX7_takes : MethodName := ⟨RX7, "takes", "(I)V"⟩
abbrev cX7_drops : ByteArray := prog_9_method_23_code
def yX7_drops : MethodName := ⟨RX7, "drops", "(I)I"⟩
abbrev cX7_paints : ByteArray := prog_9_method_24_code
def yX7_paints : MethodName := ⟨RX7, "paints", "(IIIIII)I"⟩
abbrev cX7_erases : ByteArray := prog_9_method_25_code
def yX7_erases : MethodName := ⟨RX7, "erases", "(IIII)I"⟩
abbrev cX7_turns : ByteArray := prog_9_method_26_code
def yX7_turns : MethodName := ⟨RX7, "turns", "(II)I"⟩
abbrev cX7_moves : ByteArray := prog_9_method_27_code
def yX7_moves : MethodName := ⟨RX7, "moves", "(II)I"⟩
abbrev cX7_merges : ByteArray := prog_9_method_28_code
def yX7_merges : MethodName := ⟨RX7, "merges", "(I)I"⟩
abbrev cX7_casts : ByteArray := prog_9_method_29_code
def yX7_casts : MethodName := ⟨RX7, "casts", "(II)I"⟩
abbrev cX7_addLayer : ByteArray := prog_9_method_30_code
def yX7_addLayer : MethodName := ⟨RX7, "addLayer", "(C)I"⟩
abbrev cX7_removeLayer : ByteArray := prog_9_method_31_code
def yX7_removeLayer : MethodName := ⟨RX7, "removeLayer", "(I)I"⟩
abbrev cX7_paint : ByteArray := prog_9_method_32_code
def yX7_paint : MethodName := ⟨RX7, "paint", "(IIIIII)I"⟩
abbrev cX7_erase : ByteArray := prog_9_method_33_code
def yX7_erase : MethodName := ⟨RX7, "erase", "(IIII)I"⟩
abbrev cX7_hide : ByteArray := prog_9_method_34_code
def yX7_hide : MethodName := ⟨RX7, "hide", "(I)I"⟩
abbrev cX7_show : ByteArray := prog_9_method_35_code
def yX7_show : MethodName := ⟨RX7, "show", "(I)I"⟩
abbrev cX7_moveLayer : ByteArray := prog_9_method_36_code
def yX7_moveLayer : MethodName := ⟨RX7, "moveLayer", "(II)I"⟩
abbrev cX7_mergeDown : ByteArray := prog_9_method_37_code
def yX7_mergeDown : MethodName := ⟨RX7, "mergeDown", "(I)I"⟩
abbrev cX7_castShadow : ByteArray := prog_9_method_38_code
def yX7_castShadow : MethodName := ⟨RX7, "castShadow", "(II)I"⟩
abbrev cX7_layerCount : ByteArray := prog_9_method_39_code
def yX7_layerCount : MethodName := ⟨RX7, "layerCount", "()I"⟩
abbrev cX7_mode : ByteArray := prog_9_method_40_code
def yX7_mode : MethodName := ⟨RX7, "mode", "(I)C"⟩
abbrev cX7_isVisible : ByteArray := prog_9_method_41_code
def yX7_isVisible : MethodName := ⟨RX7, "isVisible", "(I)Z"⟩
abbrev cX7_hasTone : ByteArray := prog_9_method_42_code
def yX7_hasTone : MethodName := ⟨RX7, "hasTone", "(III)Z"⟩
abbrev cX7_tone : ByteArray := prog_9_method_43_code
def yX7_tone : MethodName := ⟨RX7, "tone", "(III)I"⟩
abbrev cX7_painted : ByteArray := prog_9_method_44_code
def yX7_painted : MethodName := ⟨RX7, "painted", "(I)I"⟩
abbrev cX7_visibleCount : ByteArray := prog_9_method_45_code
def yX7_visibleCount : MethodName := ⟨RX7, "visibleCount", "()I"⟩
abbrev cX7_seen : ByteArray := prog_9_method_46_code
def yX7_seen : MethodName := ⟨RX7, "seen", "(II)I"⟩
abbrev cX7_seenFromTop : ByteArray := prog_9_method_47_code
def yX7_seenFromTop : MethodName := ⟨RX7, "seenFromTop", "(II)I"⟩
abbrev cX7_top : ByteArray := prog_9_method_48_code
def yX7_top : MethodName := ⟨RX7, "top", "(I)I"⟩
abbrev cX7_topLayer : ByteArray := prog_9_method_49_code
def yX7_topLayer : MethodName := ⟨RX7, "topLayer", "(II)I"⟩
abbrev cX7_coveringLayers : ByteArray := prog_9_method_50_code
def yX7_coveringLayers : MethodName := ⟨RX7, "coveringLayers", "(II)I"⟩
abbrev cX7_cellsOf : ByteArray := prog_9_method_51_code
def yX7_cellsOf : MethodName := ⟨RX7, "cellsOf", "(I)I"⟩
abbrev cX7_cellsWithTone : ByteArray := prog_9_method_52_code
def yX7_cellsWithTone : MethodName := ⟨RX7, "cellsWithTone", "(I)I"⟩
abbrev cX7_commonestTone : ByteArray := prog_9_method_53_code
def yX7_commonestTone : MethodName := ⟨RX7, "commonestTone", "()I"⟩
abbrev cX7_sum : ByteArray := prog_9_method_54_code
def yX7_sum : MethodName := ⟨RX7, "sum", "(IIII)I"⟩
abbrev cX7_sumOfTones : ByteArray := prog_9_method_55_code
def yX7_sumOfTones : MethodName := ⟨RX7, "sumOfTones", "(IIII)I"⟩
abbrev cX7_sumOfTonesByTable : ByteArray := prog_9_method_56_code
def yX7_sumOfTonesByTable : MethodName := ⟨RX7, "sumOfTonesByTable", "(IIII)I"⟩
abbrev cX7_labels : ByteArray := prog_9_method_57_code
def yX7_labels : MethodName := ⟨RX7, "labels", "()V"⟩
abbrev cX7_joins : ByteArray := prog_9_method_58_code
def yX7_joins : MethodName := ⟨RX7, "joins", "(II)Z"⟩
abbrev cX7_labelled : ByteArray := prog_9_method_59_code
def yX7_labelled : MethodName := ⟨RX7, "labelled", "(I)I"⟩
abbrev cX7_areaSize : ByteArray := prog_9_method_60_code
def yX7_areaSize : MethodName := ⟨RX7, "areaSize", "(II)I"⟩
abbrev cX7_areaCount : ByteArray := prog_9_method_61_code
def yX7_areaCount : MethodName := ⟨RX7, "areaCount", "()I"⟩
abbrev cX7_areaCountByJoining : ByteArray := prog_9_method_62_code
def yX7_areaCountByJoining : MethodName := ⟨RX7, "areaCountByJoining", "()I"⟩
abbrev cX7_largestArea : ByteArray := prog_9_method_63_code
def yX7_largestArea : MethodName := ⟨RX7, "largestArea", "()I"⟩
abbrev cX7_darkestRow : ByteArray := prog_9_method_64_code
def yX7_darkestRow : MethodName := ⟨RX7, "darkestRow", "()I"⟩
abbrev cX7_isMirrored : ByteArray := prog_9_method_65_code
def yX7_isMirrored : MethodName := ⟨RX7, "isMirrored", "()Z"⟩
abbrev cX7_differentCells : ByteArray := prog_9_method_66_code
def yX7_differentCells : MethodName := ⟨RX7, "differentCells", "(II)I"⟩
abbrev cX7_layerByPaint : ByteArray := prog_9_method_67_code
def yX7_layerByPaint : MethodName := ⟨RX7, "layerByPaint", "(I)I"⟩
abbrev cX7_paintedCells : ByteArray := prog_9_method_68_code
def yX7_paintedCells : MethodName := ⟨RX7, "paintedCells", "()I"⟩
abbrev cX7_erasedCells : ByteArray := prog_9_method_69_code
def yX7_erasedCells : MethodName := ⟨RX7, "erasedCells", "()I"⟩
abbrev cX7_meanTone : ByteArray := prog_9_method_70_code
def yX7_meanTone : MethodName := ⟨RX7, "meanTone", "()D"⟩
abbrev cX7_coveredShare : ByteArray := prog_9_method_71_code
def yX7_coveredShare : MethodName := ⟨RX7, "coveredShare", "()F"⟩
abbrev cX7_isConsistent : ByteArray := prog_9_method_72_code
def yX7_isConsistent : MethodName := ⟨RX7, "isConsistent", "()Z"⟩
abbrev cX7_feed : ByteArray := prog_9_method_73_code
def yX7_feed : MethodName := ⟨RX7, "feed", "(C)I"⟩
abbrev cX7_here : ByteArray := prog_9_method_74_code
def yX7_here : MethodName := ⟨RX7, "here", "(I)I"⟩
abbrev cX7_says : ByteArray := prog_9_method_75_code
def yX7_says : MethodName := ⟨RX7, "says", "(Ljava/lang/String;)V"⟩
abbrev cX7_number : ByteArray := prog_9_method_76_code
def yX7_number : MethodName := ⟨RX7, "number", "(II)V"⟩
abbrev cX7_begun : ByteArray := prog_9_method_77_code
def yX7_begun : MethodName := ⟨RX7, "begun", "(ILjava/lang/String;)V"⟩
abbrev cX7_readsLayer : ByteArray := prog_9_method_78_code
def yX7_readsLayer : MethodName := ⟨RX7, "readsLayer", "()V"⟩
abbrev cX7_readsOne : ByteArray := prog_9_method_79_code
def yX7_readsOne : MethodName := ⟨RX7, "readsOne", "()V"⟩
abbrev cX7_does : ByteArray := prog_9_method_80_code
def yX7_does : MethodName := ⟨RX7, "does", "(I)I"⟩
abbrev cX7_runCommands : ByteArray := prog_9_method_81_code
def yX7_runCommands : MethodName := ⟨RX7, "runCommands", "()I"⟩
abbrev cX7_errorPosition : ByteArray := prog_9_method_82_code
def yX7_errorPosition : MethodName := ⟨RX7, "errorPosition", "()I"⟩
abbrev cX7_failedCommand : ByteArray := prog_9_method_83_code
def yX7_failedCommand : MethodName := ⟨RX7, "failedCommand", "()I"⟩
abbrev cX7_writes : ByteArray := prog_9_method_84_code
def yX7_writes : MethodName := ⟨RX7, "writes", "(I)V"⟩
abbrev cX7_writeRow : ByteArray := prog_9_method_85_code
def yX7_writeRow : MethodName := ⟨RX7, "writeRow", "(I)I"⟩
abbrev cX7_writeLayers : ByteArray := prog_9_method_86_code
def yX7_writeLayers : MethodName := ⟨RX7, "writeLayers", "()I"⟩
abbrev cX7_outputChar : ByteArray := prog_9_method_87_code
def yX7_outputChar : MethodName := ⟨RX7, "outputChar", "(I)C"⟩
abbrev cX7_undoCount : ByteArray := prog_9_method_88_code
def yX7_undoCount : MethodName := ⟨RX7, "undoCount", "()I"⟩
abbrev cX7_undo : ByteArray := prog_9_method_89_code
def yX7_undo : MethodName := ⟨RX7, "undo", "()I"⟩
abbrev cX7_save : ByteArray := prog_9_method_90_code
def yX7_save : MethodName := ⟨RX7, "save", "()I"⟩
abbrev cX7_restore : ByteArray := prog_9_method_91_code
def yX7_restore : MethodName := ⟨RX7, "restore", "()I"⟩
def RJx145de : String := "java/io/Serializable"
def TJx145de : u_T := fun k => match k with
  | _ => ("", "", "", false)
def tyJx145de : Nat → FieldType := fun k => match k with
  | _ => .int
theorem nmJx145de : ∀ a, a < 0 → ∀ b, b < 0 → a ≠ b → (TJx145de a).2.1 ≠ (TJx145de b).2.1 := by decide +kernel
theorem tyJx145de_ok : ∀ k, k < 0 → parseFieldDescriptor (TJx145de k).2.2.1 = some (tyJx145de k) := by decide +kernel
def RJx9f9b0 : String := "java/lang/CharSequence"
def TJx9f9b0 : u_T := fun k => match k with
  | _ => ("", "", "", false)
def tyJx9f9b0 : Nat → FieldType := fun k => match k with
  | _ => .int
theorem nmJx9f9b0 : ∀ a, a < 0 → ∀ b, b < 0 → a ≠ b → (TJx9f9b0 a).2.1 ≠ (TJx9f9b0 b).2.1 := by decide +kernel
theorem tyJx9f9b0_ok : ∀ k, k < 0 → parseFieldDescriptor (TJx9f9b0 k).2.2.1 = some (tyJx9f9b0 k) := by decide +kernel
def RJxb160c : String := "java/lang/Comparable"
def TJxb160c : u_T := fun k => match k with
  | _ => ("", "", "", false)
def tyJxb160c : Nat → FieldType := fun k => match k with
  | _ => .int
theorem nmJxb160c : ∀ a, a < 0 → ∀ b, b < 0 → a ≠ b → (TJxb160c a).2.1 ≠ (TJxb160c b).2.1 := by decide +kernel
theorem tyJxb160c_ok : ∀ k, k < 0 → parseFieldDescriptor (TJxb160c k).2.2.1 = some (tyJxb160c k) := by decide +kernel
def RJ9 : String := "java/lang/Math"
def TJ9 : u_T := fun k => match k with
  | _ => ("", "", "", false)
def tyJ9 : Nat → FieldType := fun k => match k with
  | _ => .int
theorem nmJ9 : ∀ a, a < 0 → ∀ b, b < 0 → a ≠ b → (TJ9 a).2.1 ≠ (TJ9 b).2.1 := by decide +kernel
theorem tyJ9_ok : ∀ k, k < 0 → parseFieldDescriptor (TJ9 k).2.2.1 = some (tyJ9 k) := by decide +kernel
abbrev cJ9_max_7cf53 : ByteArray := prog_17_method_65_code
def yJ9_max_7cf53 : MethodName := ⟨RJ9, "max", "(II)I"⟩
abbrev cJ9_min_7cf53 : ByteArray := prog_17_method_69_code
def yJ9_min_7cf53 : MethodName := ⟨RJ9, "min", "(II)I"⟩
def RJ0 : String := "java/lang/String"
def TJ0 : u_T := fun k => match k with
  | _ => ("", "", "", false)
def tyJ0 : Nat → FieldType := fun k => match k with
  | _ => .int
theorem nmJ0 : ∀ a, a < 0 → ∀ b, b < 0 → a ≠ b → (TJ0 a).2.1 ≠ (TJ0 b).2.1 := by decide +kernel
theorem tyJ0_ok : ∀ k, k < 0 → parseFieldDescriptor (TJ0 k).2.2.1 = some (tyJ0 k) := by decide +kernel
abbrev cJ0_length_8abf5 : ByteArray := prog_19_method_54_code
def yJ0_length_8abf5 : MethodName := ⟨RJ0, "length", "()I"⟩
abbrev cJ0_charAt_5068e : ByteArray := prog_19_method_56_code
def yJ0_charAt_5068e : MethodName := ⟨RJ0, "charAt", "(I)C"⟩
abbrev cJ0_coder_7d493 : ByteArray := prog_19_method_152_code
def yJ0_coder_7d493 : MethodName := ⟨RJ0, "coder", "()B"⟩
abbrev cJ0_isLatin1_aae02 : ByteArray := prog_19_method_154_code
def yJ0_isLatin1_aae02 : MethodName := ⟨RJ0, "isLatin1", "()Z"⟩
abbrev cJ0_checkIndex_df160 : ByteArray := prog_19_method_155_code
def yJ0_checkIndex_df160 : MethodName := ⟨RJ0, "checkIndex", "(II)V"⟩
def RJ1 : String := "java/lang/StringLatin1"
def TJ1 : u_T := fun k => match k with
  | _ => ("", "", "", false)
def tyJ1 : Nat → FieldType := fun k => match k with
  | _ => .int
theorem nmJ1 : ∀ a, a < 0 → ∀ b, b < 0 → a ≠ b → (TJ1 a).2.1 ≠ (TJ1 b).2.1 := by decide +kernel
theorem tyJ1_ok : ∀ k, k < 0 → parseFieldDescriptor (TJ1 k).2.2.1 = some (tyJ1 k) := by decide +kernel
abbrev cJ1_charAt_3b067 : ByteArray := prog_20_method_2_code
def yJ1_charAt_3b067 : MethodName := ⟨RJ1, "charAt", "([BI)C"⟩
def RJ2 : String := "java/lang/StringUTF16"
def TJ2 : u_T := fun k => match k with
  | _ => ("", "", "", false)
def tyJ2 : Nat → FieldType := fun k => match k with
  | _ => .int
theorem nmJ2 : ∀ a, a < 0 → ∀ b, b < 0 → a ≠ b → (TJ2 a).2.1 ≠ (TJ2 b).2.1 := by decide +kernel
theorem tyJ2_ok : ∀ k, k < 0 → parseFieldDescriptor (TJ2 k).2.2.1 = some (tyJ2 k) := by decide +kernel
abbrev cJ2_getChar_3b067 : ByteArray := prog_21_method_5_code
def yJ2_getChar_3b067 : MethodName := ⟨RJ2, "getChar", "([BI)C"⟩
abbrev cJ2_length_9d52b : ByteArray := prog_21_method_6_code
def yJ2_length_9d52b : MethodName := ⟨RJ2, "length", "([B)I"⟩
abbrev cJ2_charAt_3b067 : ByteArray := prog_21_method_83_code
def yJ2_charAt_3b067 : MethodName := ⟨RJ2, "charAt", "([BI)C"⟩
abbrev cJ2_checkIndex_2214a : ByteArray := prog_21_method_91_code
def yJ2_checkIndex_2214a : MethodName := ⟨RJ2, "checkIndex", "(I[B)V"⟩
def RJ10 : String := "java/lang/System"
def TJ10 : u_T := fun k => match k with
  | _ => ("", "", "", false)
def tyJ10 : Nat → FieldType := fun k => match k with
  | _ => .int
theorem nmJ10 : ∀ a, a < 0 → ∀ b, b < 0 → a ≠ b → (TJ10 a).2.1 ≠ (TJ10 b).2.1 := by decide +kernel
theorem tyJ10_ok : ∀ k, k < 0 → parseFieldDescriptor (TJ10 k).2.2.1 = some (tyJ10 k) := by decide +kernel
def RJxfd54e : String := "java/lang/constant/Constable"
def TJxfd54e : u_T := fun k => match k with
  | _ => ("", "", "", false)
def tyJxfd54e : Nat → FieldType := fun k => match k with
  | _ => .int
theorem nmJxfd54e : ∀ a, a < 0 → ∀ b, b < 0 → a ≠ b → (TJxfd54e a).2.1 ≠ (TJxfd54e b).2.1 := by decide +kernel
theorem tyJxfd54e_ok : ∀ k, k < 0 → parseFieldDescriptor (TJxfd54e k).2.2.1 = some (tyJxfd54e k) := by decide +kernel
def RJx3cf43 : String := "java/lang/constant/ConstantDesc"
def TJx3cf43 : u_T := fun k => match k with
  | _ => ("", "", "", false)
def tyJx3cf43 : Nat → FieldType := fun k => match k with
  | _ => .int
theorem nmJx3cf43 : ∀ a, a < 0 → ∀ b, b < 0 → a ≠ b → (TJx3cf43 a).2.1 ≠ (TJx3cf43 b).2.1 := by decide +kernel
theorem tyJx3cf43_ok : ∀ k, k < 0 → parseFieldDescriptor (TJx3cf43 k).2.2.1 = some (tyJx3cf43 k) := by decide +kernel
def RJ7 : String := "java/util/Arrays"
def TJ7 : u_T := fun k => match k with
  | _ => ("", "", "", false)
def tyJ7 : Nat → FieldType := fun k => match k with
  | _ => .int
theorem nmJ7 : ∀ a, a < 0 → ∀ b, b < 0 → a ≠ b → (TJ7 a).2.1 ≠ (TJ7 b).2.1 := by decide +kernel
theorem tyJ7_ok : ∀ k, k < 0 → parseFieldDescriptor (TJ7 k).2.2.1 = some (tyJ7 k) := by decide +kernel
abbrev cJ7_fill_53178 : ByteArray := prog_27_method_103_code
def yJ7_fill_53178 : MethodName := ⟨RJ7, "fill", "([II)V"⟩
def RJ3 : String := "jdk/internal/util/Preconditions"
def TJ3 : u_T := fun k => match k with
  | _ => ("", "", "", false)
def tyJ3 : Nat → FieldType := fun k => match k with
  | _ => .int
theorem nmJ3 : ∀ a, a < 0 → ∀ b, b < 0 → a ≠ b → (TJ3 a).2.1 ≠ (TJ3 b).2.1 := by decide +kernel
theorem tyJ3_ok : ∀ k, k < 0 → parseFieldDescriptor (TJ3 k).2.2.1 = some (tyJ3 k) := by decide +kernel
abbrev cJ3_checkIndex_8e157 : ByteArray := prog_29_method_11_code
def yJ3_checkIndex_8e157 : MethodName := ⟨RJ3, "checkIndex", "(IILjava/util/function/BiFunction;)I"⟩
def RL : String := "ShadowWallLaw"
abbrev cL_addLayer : ByteArray := method_3_code
def yL_addLayer : MethodName := ⟨RL, "addLayer", "(LShadowWall;C[J)I"⟩
abbrev cL_removeLayer : ByteArray := method_4_code
def yL_removeLayer : MethodName := ⟨RL, "removeLayer", "(LShadowWall;I[J)I"⟩
abbrev cL_paint : ByteArray := method_5_code
def yL_paint : MethodName := ⟨RL, "paint", "(LShadowWall;IIIIII[J)I"⟩
abbrev cL_erase : ByteArray := method_6_code
def yL_erase : MethodName := ⟨RL, "erase", "(LShadowWall;IIII[J)I"⟩
abbrev cL_hide : ByteArray := method_7_code
def yL_hide : MethodName := ⟨RL, "hide", "(LShadowWall;I[J)I"⟩
abbrev cL_show : ByteArray := method_8_code
def yL_show : MethodName := ⟨RL, "show", "(LShadowWall;I[J)I"⟩
abbrev cL_moveLayer : ByteArray := method_9_code
def yL_moveLayer : MethodName := ⟨RL, "moveLayer", "(LShadowWall;II[J)I"⟩
abbrev cL_mergeDown : ByteArray := method_10_code
def yL_mergeDown : MethodName := ⟨RL, "mergeDown", "(LShadowWall;I[J)I"⟩
abbrev cL_castShadow : ByteArray := method_11_code
def yL_castShadow : MethodName := ⟨RL, "castShadow", "(LShadowWall;II[J)I"⟩
abbrev cL_mode : ByteArray := method_12_code
def yL_mode : MethodName := ⟨RL, "mode", "(LShadowWall;I[J)I"⟩
abbrev cL_isVisible : ByteArray := method_13_code
def yL_isVisible : MethodName := ⟨RL, "isVisible", "(LShadowWall;I[J)I"⟩
abbrev cL_hasTone : ByteArray := method_14_code
def yL_hasTone : MethodName := ⟨RL, "hasTone", "(LShadowWall;III[J)I"⟩
abbrev cL_tone : ByteArray := method_15_code
def yL_tone : MethodName := ⟨RL, "tone", "(LShadowWall;III[J)I"⟩
abbrev cL_painted : ByteArray := method_16_code
def yL_painted : MethodName := ⟨RL, "painted", "(LShadowWall;I[J)I"⟩
abbrev cL_seen : ByteArray := method_17_code
def yL_seen : MethodName := ⟨RL, "seen", "(LShadowWall;II[J)I"⟩
abbrev cL_seenFromTop : ByteArray := method_18_code
def yL_seenFromTop : MethodName := ⟨RL, "seenFromTop", "(LShadowWall;II[J)I"⟩
abbrev cL_topLayer : ByteArray := method_19_code
def yL_topLayer : MethodName := ⟨RL, "topLayer", "(LShadowWall;II[J)I"⟩
abbrev cL_coveringLayers : ByteArray := method_20_code
def yL_coveringLayers : MethodName := ⟨RL, "coveringLayers", "(LShadowWall;II[J)I"⟩
abbrev cL_cellsWithTone : ByteArray := method_21_code
def yL_cellsWithTone : MethodName := ⟨RL, "cellsWithTone", "(LShadowWall;I[J)I"⟩
abbrev cL_sumOfTones : ByteArray := method_22_code
def yL_sumOfTones : MethodName := ⟨RL, "sumOfTones", "(LShadowWall;IIII[J)I"⟩
abbrev cL_sumOfTonesByTable : ByteArray := method_23_code
def yL_sumOfTonesByTable : MethodName := ⟨RL, "sumOfTonesByTable", "(LShadowWall;IIII[J)I"⟩
abbrev cL_areaSize : ByteArray := method_24_code
def yL_areaSize : MethodName := ⟨RL, "areaSize", "(LShadowWall;II[J)I"⟩
abbrev cL_differentCells : ByteArray := method_25_code
def yL_differentCells : MethodName := ⟨RL, "differentCells", "(LShadowWall;II[J)I"⟩
abbrev cL_layerByPaint : ByteArray := method_26_code
def yL_layerByPaint : MethodName := ⟨RL, "layerByPaint", "(LShadowWall;I[J)I"⟩
abbrev cL_feed : ByteArray := method_27_code
def yL_feed : MethodName := ⟨RL, "feed", "(LShadowWall;C[J)I"⟩
abbrev cL_runCommands : ByteArray := method_28_code
def yL_runCommands : MethodName := ⟨RL, "runCommands", "(LShadowWall;[J)I"⟩
abbrev cL_errorPosition : ByteArray := method_29_code
def yL_errorPosition : MethodName := ⟨RL, "errorPosition", "(LShadowWall;[J)I"⟩
abbrev cL_failedCommand : ByteArray := method_30_code
def yL_failedCommand : MethodName := ⟨RL, "failedCommand", "(LShadowWall;[J)I"⟩
abbrev cL_writeRow : ByteArray := method_31_code
def yL_writeRow : MethodName := ⟨RL, "writeRow", "(LShadowWall;I[J)I"⟩
abbrev cL_outputChar : ByteArray := method_32_code
def yL_outputChar : MethodName := ⟨RL, "outputChar", "(LShadowWall;I[J)I"⟩
abbrev cL_undo : ByteArray := method_33_code
def yL_undo : MethodName := ⟨RL, "undo", "(LShadowWall;[J)I"⟩
abbrev cL_restore : ByteArray := method_34_code
def yL_restore : MethodName := ⟨RL, "restore", "(LShadowWall;[J)I"⟩
abbrev cL_law : ByteArray := code
def yL_law : MethodName := ⟨RL, "law", "([I)Z"⟩
theorem dX0_init_0 : decode cX0_init 0 = .ok (.aload_n 0, 1) := by decide +kernel
theorem dX0_init_1 : decode cX0_init 1 = .ok (.invokespecial 3, 3) := by decide +kernel
theorem dX0_init_4 : decode cX0_init 4 = .ok (.aload_n 0, 1) := by decide +kernel
theorem dX0_init_5 : decode cX0_init 5 = .ok (.bipush 60, 2) := by decide +kernel
theorem dX0_init_7 : decode cX0_init 7 = .ok (.newarray .char, 2) := by decide +kernel
theorem dX0_init_9 : decode cX0_init 9 = .ok (.putfield 9, 3) := by decide +kernel
theorem dX0_init_12 : decode cX0_init 12 = .ok (.aload_n 0, 1) := by decide +kernel
theorem dX0_init_13 : decode cX0_init 13 = .ok (.iconst 0, 1) := by decide +kernel
theorem dX0_init_14 : decode cX0_init 14 = .ok (.putfield 15, 3) := by decide +kernel
theorem dX0_init_17 : decode cX0_init 17 = .ok (.aload_n 0, 1) := by decide +kernel
theorem dX0_init_18 : decode cX0_init 18 = .ok (.iconst 0, 1) := by decide +kernel
theorem dX0_init_19 : decode cX0_init 19 = .ok (.putfield 19, 3) := by decide +kernel
theorem dX0_init_22 : decode cX0_init 22 = .ok (.aload_n 0, 1) := by decide +kernel
theorem dX0_init_23 : decode cX0_init 23 = .ok (.iconst 0, 1) := by decide +kernel
theorem dX0_init_24 : decode cX0_init 24 = .ok (.putfield 22, 3) := by decide +kernel
theorem dX0_init_27 : decode cX0_init 27 = .ok (.aload_n 0, 1) := by decide +kernel
theorem dX0_init_28 : decode cX0_init 28 = .ok (.bipush 6, 2) := by decide +kernel
theorem dX0_init_30 : decode cX0_init 30 = .ok (.newarray .int, 2) := by decide +kernel
theorem dX0_init_32 : decode cX0_init 32 = .ok (.putfield 25, 3) := by decide +kernel
theorem dX0_init_35 : decode cX0_init 35 = .ok (.aload_n 0, 1) := by decide +kernel
theorem dX0_init_36 : decode cX0_init 36 = .ok (.iconst 0, 1) := by decide +kernel
theorem dX0_init_37 : decode cX0_init 37 = .ok (.putfield 29, 3) := by decide +kernel
theorem dX0_init_40 : decode cX0_init 40 = .ok (.return_, 1) := by decide +kernel
theorem dX0_formOf_0 : decode cX0_formOf 0 = .ok (.iload_n 0, 1) := by decide +kernel
theorem dX0_formOf_1 : decode cX0_formOf 1 = .ok (.tableswitch 64 0 6 #[43, 46, 49, 52, 55, 58, 61], 43) := by decide +kernel
theorem dX0_formOf_44 : decode cX0_formOf 44 = .ok (.ldc 32, 2) := by decide +kernel
theorem dX0_formOf_46 : decode cX0_formOf 46 = .ok (.areturn, 1) := by decide +kernel
theorem dX0_formOf_47 : decode cX0_formOf 47 = .ok (.ldc 34, 2) := by decide +kernel
theorem dX0_formOf_49 : decode cX0_formOf 49 = .ok (.areturn, 1) := by decide +kernel
theorem dX0_formOf_50 : decode cX0_formOf 50 = .ok (.ldc 36, 2) := by decide +kernel
theorem dX0_formOf_52 : decode cX0_formOf 52 = .ok (.areturn, 1) := by decide +kernel
theorem dX0_formOf_53 : decode cX0_formOf 53 = .ok (.ldc 38, 2) := by decide +kernel
theorem dX0_formOf_55 : decode cX0_formOf 55 = .ok (.areturn, 1) := by decide +kernel
theorem dX0_formOf_56 : decode cX0_formOf 56 = .ok (.ldc 40, 2) := by decide +kernel
theorem dX0_formOf_58 : decode cX0_formOf 58 = .ok (.areturn, 1) := by decide +kernel
theorem dX0_formOf_59 : decode cX0_formOf 59 = .ok (.ldc 42, 2) := by decide +kernel
theorem dX0_formOf_61 : decode cX0_formOf 61 = .ok (.areturn, 1) := by decide +kernel
theorem dX0_formOf_62 : decode cX0_formOf 62 = .ok (.ldc 44, 2) := by decide +kernel
theorem dX0_formOf_64 : decode cX0_formOf 64 = .ok (.areturn, 1) := by decide +kernel
theorem dX0_formOf_65 : decode cX0_formOf 65 = .ok (.ldc 46, 2) := by decide +kernel
theorem dX0_formOf_67 : decode cX0_formOf 67 = .ok (.areturn, 1) := by decide +kernel
theorem dX0_isFull_0 : decode cX0_isFull 0 = .ok (.aload_n 0, 1) := by decide +kernel
theorem dX0_isFull_1 : decode cX0_isFull 1 = .ok (.getfield 15, 3) := by decide +kernel
theorem dX0_isFull_4 : decode cX0_isFull 4 = .ok (.bipush 60, 2) := by decide +kernel
theorem dX0_isFull_6 : decode cX0_isFull 6 = .ok (.if_icmp .lt 7, 3) := by decide +kernel
theorem dX0_isFull_9 : decode cX0_isFull 9 = .ok (.iconst 1, 1) := by decide +kernel
theorem dX0_isFull_10 : decode cX0_isFull 10 = .ok (.goto 4, 3) := by decide +kernel
theorem dX0_isFull_13 : decode cX0_isFull 13 = .ok (.iconst 0, 1) := by decide +kernel
theorem dX0_isFull_14 : decode cX0_isFull 14 = .ok (.ireturn, 1) := by decide +kernel
theorem dX0_append_0 : decode cX0_append 0 = .ok (.aload_n 0, 1) := by decide +kernel
theorem dX0_append_1 : decode cX0_append 1 = .ok (.getfield 15, 3) := by decide +kernel
theorem dX0_append_4 : decode cX0_append 4 = .ok (.ifCond .lt 35, 3) := by decide +kernel
theorem dX0_append_7 : decode cX0_append 7 = .ok (.aload_n 0, 1) := by decide +kernel
theorem dX0_append_8 : decode cX0_append 8 = .ok (.getfield 15, 3) := by decide +kernel
theorem dX0_append_11 : decode cX0_append 11 = .ok (.aload_n 0, 1) := by decide +kernel
theorem dX0_append_12 : decode cX0_append 12 = .ok (.getfield 9, 3) := by decide +kernel
theorem dX0_append_15 : decode cX0_append 15 = .ok (.arraylength, 1) := by decide +kernel
theorem dX0_append_16 : decode cX0_append 16 = .ok (.if_icmp .ge 23, 3) := by decide +kernel
theorem dX0_append_19 : decode cX0_append 19 = .ok (.aload_n 0, 1) := by decide +kernel
theorem dX0_append_20 : decode cX0_append 20 = .ok (.getfield 9, 3) := by decide +kernel
theorem dX0_append_23 : decode cX0_append 23 = .ok (.aload_n 0, 1) := by decide +kernel
theorem dX0_append_24 : decode cX0_append 24 = .ok (.getfield 15, 3) := by decide +kernel
theorem dX0_append_27 : decode cX0_append 27 = .ok (.iload_n 1, 1) := by decide +kernel
theorem dX0_append_28 : decode cX0_append 28 = .ok (.castore, 1) := by decide +kernel
theorem dX0_append_29 : decode cX0_append 29 = .ok (.aload_n 0, 1) := by decide +kernel
theorem dX0_append_30 : decode cX0_append 30 = .ok (.dup, 1) := by decide +kernel
theorem dX0_append_31 : decode cX0_append 31 = .ok (.getfield 15, 3) := by decide +kernel
theorem dX0_append_34 : decode cX0_append 34 = .ok (.iconst 1, 1) := by decide +kernel
theorem dX0_append_35 : decode cX0_append 35 = .ok (.iadd, 1) := by decide +kernel
theorem dX0_append_36 : decode cX0_append 36 = .ok (.putfield 15, 3) := by decide +kernel
theorem dX0_append_39 : decode cX0_append 39 = .ok (.aload_n 0, 1) := by decide +kernel
theorem dX0_append_40 : decode cX0_append 40 = .ok (.getfield 15, 3) := by decide +kernel
theorem dX0_append_43 : decode cX0_append 43 = .ok (.ireturn, 1) := by decide +kernel
theorem dX0_clear_0 : decode cX0_clear 0 = .ok (.aload_n 0, 1) := by decide +kernel
theorem dX0_clear_1 : decode cX0_clear 1 = .ok (.iconst 0, 1) := by decide +kernel
theorem dX0_clear_2 : decode cX0_clear 2 = .ok (.putfield 15, 3) := by decide +kernel
theorem dX0_clear_5 : decode cX0_clear 5 = .ok (.return_, 1) := by decide +kernel
theorem dX0_rewind_0 : decode cX0_rewind 0 = .ok (.aload_n 0, 1) := by decide +kernel
theorem dX0_rewind_1 : decode cX0_rewind 1 = .ok (.iconst 0, 1) := by decide +kernel
theorem dX0_rewind_2 : decode cX0_rewind 2 = .ok (.putfield 19, 3) := by decide +kernel
theorem dX0_rewind_5 : decode cX0_rewind 5 = .ok (.return_, 1) := by decide +kernel
theorem dX0_countCommands_0 : decode cX0_countCommands 0 = .ok (.aload_n 0, 1) := by decide +kernel
theorem dX0_countCommands_1 : decode cX0_countCommands 1 = .ok (.invokevirtual 48, 3) := by decide +kernel
theorem dX0_countCommands_4 : decode cX0_countCommands 4 = .ok (.iconst 1, 1) := by decide +kernel
theorem dX0_countCommands_5 : decode cX0_countCommands 5 = .ok (.istore_n 1, 1) := by decide +kernel
theorem dX0_countCommands_6 : decode cX0_countCommands 6 = .ok (.iload_n 1, 1) := by decide +kernel
theorem dX0_countCommands_7 : decode cX0_countCommands 7 = .ok (.bipush 60, 2) := by decide +kernel
theorem dX0_countCommands_9 : decode cX0_countCommands 9 = .ok (.if_icmp .gt 40, 3) := by decide +kernel
theorem dX0_countCommands_12 : decode cX0_countCommands 12 = .ok (.aload_n 0, 1) := by decide +kernel
theorem dX0_countCommands_13 : decode cX0_countCommands 13 = .ok (.invokevirtual 51, 3) := by decide +kernel
theorem dX0_countCommands_16 : decode cX0_countCommands 16 = .ok (.ifCond .ne 5, 3) := by decide +kernel
theorem dX0_countCommands_19 : decode cX0_countCommands 19 = .ok (.iconst (-1), 1) := by decide +kernel
theorem dX0_countCommands_20 : decode cX0_countCommands 20 = .ok (.ireturn, 1) := by decide +kernel
theorem dX0_countCommands_21 : decode cX0_countCommands 21 = .ok (.aload_n 0, 1) := by decide +kernel
theorem dX0_countCommands_22 : decode cX0_countCommands 22 = .ok (.getfield 19, 3) := by decide +kernel
theorem dX0_countCommands_25 : decode cX0_countCommands 25 = .ok (.aload_n 0, 1) := by decide +kernel
theorem dX0_countCommands_26 : decode cX0_countCommands 26 = .ok (.getfield 15, 3) := by decide +kernel
theorem dX0_countCommands_29 : decode cX0_countCommands 29 = .ok (.if_icmp .lt 5, 3) := by decide +kernel
theorem dX0_countCommands_32 : decode cX0_countCommands 32 = .ok (.iload_n 1, 1) := by decide +kernel
theorem dX0_countCommands_33 : decode cX0_countCommands 33 = .ok (.ireturn, 1) := by decide +kernel
theorem dX0_countCommands_34 : decode cX0_countCommands 34 = .ok (.aload_n 0, 1) := by decide +kernel
theorem dX0_countCommands_35 : decode cX0_countCommands 35 = .ok (.invokevirtual 55, 3) := by decide +kernel
theorem dX0_countCommands_38 : decode cX0_countCommands 38 = .ok (.ifCond .ne 5, 3) := by decide +kernel
theorem dX0_countCommands_41 : decode cX0_countCommands 41 = .ok (.iconst (-1), 1) := by decide +kernel
theorem dX0_countCommands_42 : decode cX0_countCommands 42 = .ok (.ireturn, 1) := by decide +kernel
theorem dX0_countCommands_43 : decode cX0_countCommands 43 = .ok (.iinc 1 1, 3) := by decide +kernel
theorem dX0_countCommands_46 : decode cX0_countCommands 46 = .ok (.goto (-40), 3) := by decide +kernel
theorem dX0_countCommands_49 : decode cX0_countCommands 49 = .ok (.iconst (-1), 1) := by decide +kernel
theorem dX0_countCommands_50 : decode cX0_countCommands 50 = .ok (.ireturn, 1) := by decide +kernel
theorem dX0_skipSeparator_0 : decode cX0_skipSeparator 0 = .ok (.aload_n 0, 1) := by decide +kernel
theorem dX0_skipSeparator_1 : decode cX0_skipSeparator 1 = .ok (.bipush 59, 2) := by decide +kernel
theorem dX0_skipSeparator_3 : decode cX0_skipSeparator 3 = .ok (.invokevirtual 58, 3) := by decide +kernel
theorem dX0_skipSeparator_6 : decode cX0_skipSeparator 6 = .ok (.istore_n 1, 1) := by decide +kernel
theorem dX0_skipSeparator_7 : decode cX0_skipSeparator 7 = .ok (.iload_n 1, 1) := by decide +kernel
theorem dX0_skipSeparator_8 : decode cX0_skipSeparator 8 = .ok (.ifCond .eq 13, 3) := by decide +kernel
theorem dX0_skipSeparator_11 : decode cX0_skipSeparator 11 = .ok (.aload_n 0, 1) := by decide +kernel
theorem dX0_skipSeparator_12 : decode cX0_skipSeparator 12 = .ok (.dup, 1) := by decide +kernel
theorem dX0_skipSeparator_13 : decode cX0_skipSeparator 13 = .ok (.getfield 19, 3) := by decide +kernel
theorem dX0_skipSeparator_16 : decode cX0_skipSeparator 16 = .ok (.iconst 1, 1) := by decide +kernel
theorem dX0_skipSeparator_17 : decode cX0_skipSeparator 17 = .ok (.iadd, 1) := by decide +kernel
theorem dX0_skipSeparator_18 : decode cX0_skipSeparator 18 = .ok (.putfield 19, 3) := by decide +kernel
theorem dX0_skipSeparator_21 : decode cX0_skipSeparator 21 = .ok (.iload_n 1, 1) := by decide +kernel
theorem dX0_skipSeparator_22 : decode cX0_skipSeparator 22 = .ok (.ireturn, 1) := by decide +kernel
theorem dX0_readCommand_0 : decode cX0_readCommand 0 = .ok (.aload_n 0, 1) := by decide +kernel
theorem dX0_readCommand_1 : decode cX0_readCommand 1 = .ok (.getfield 19, 3) := by decide +kernel
theorem dX0_readCommand_4 : decode cX0_readCommand 4 = .ok (.istore_n 1, 1) := by decide +kernel
theorem dX0_readCommand_5 : decode cX0_readCommand 5 = .ok (.iload_n 1, 1) := by decide +kernel
theorem dX0_readCommand_6 : decode cX0_readCommand 6 = .ok (.istore_n 2, 1) := by decide +kernel
theorem dX0_readCommand_7 : decode cX0_readCommand 7 = .ok (.iconst 0, 1) := by decide +kernel
theorem dX0_readCommand_8 : decode cX0_readCommand 8 = .ok (.istore_n 3, 1) := by decide +kernel
theorem dX0_readCommand_9 : decode cX0_readCommand 9 = .ok (.iload_n 3, 1) := by decide +kernel
theorem dX0_readCommand_10 : decode cX0_readCommand 10 = .ok (.bipush 8, 2) := by decide +kernel
theorem dX0_readCommand_12 : decode cX0_readCommand 12 = .ok (.if_icmp .ge 41, 3) := by decide +kernel
theorem dX0_readCommand_15 : decode cX0_readCommand 15 = .ok (.aload_n 0, 1) := by decide +kernel
theorem dX0_readCommand_16 : decode cX0_readCommand 16 = .ok (.iload_n 1, 1) := by decide +kernel
theorem dX0_readCommand_17 : decode cX0_readCommand 17 = .ok (.putfield 19, 3) := by decide +kernel
theorem dX0_readCommand_20 : decode cX0_readCommand 20 = .ok (.aload_n 0, 1) := by decide +kernel
theorem dX0_readCommand_21 : decode cX0_readCommand 21 = .ok (.iload_n 3, 1) := by decide +kernel
theorem dX0_readCommand_22 : decode cX0_readCommand 22 = .ok (.putfield 22, 3) := by decide +kernel
theorem dX0_readCommand_25 : decode cX0_readCommand 25 = .ok (.aload_n 0, 1) := by decide +kernel
theorem dX0_readCommand_26 : decode cX0_readCommand 26 = .ok (.iload_n 3, 1) := by decide +kernel
theorem dX0_readCommand_27 : decode cX0_readCommand 27 = .ok (.invokestatic 62, 3) := by decide +kernel
theorem dX0_readCommand_30 : decode cX0_readCommand 30 = .ok (.invokevirtual 66, 3) := by decide +kernel
theorem dX0_readCommand_33 : decode cX0_readCommand 33 = .ok (.ifCond .eq 5, 3) := by decide +kernel
theorem dX0_readCommand_36 : decode cX0_readCommand 36 = .ok (.iconst 1, 1) := by decide +kernel
theorem dX0_readCommand_37 : decode cX0_readCommand 37 = .ok (.ireturn, 1) := by decide +kernel
theorem dX0_readCommand_38 : decode cX0_readCommand 38 = .ok (.iload_n 2, 1) := by decide +kernel
theorem dX0_readCommand_39 : decode cX0_readCommand 39 = .ok (.aload_n 0, 1) := by decide +kernel
theorem dX0_readCommand_40 : decode cX0_readCommand 40 = .ok (.getfield 19, 3) := by decide +kernel
theorem dX0_readCommand_43 : decode cX0_readCommand 43 = .ok (.invokestatic 70, 3) := by decide +kernel
theorem dX0_readCommand_46 : decode cX0_readCommand 46 = .ok (.istore_n 2, 1) := by decide +kernel
theorem dX0_readCommand_47 : decode cX0_readCommand 47 = .ok (.iinc 3 1, 3) := by decide +kernel
theorem dX0_readCommand_50 : decode cX0_readCommand 50 = .ok (.goto (-41), 3) := by decide +kernel
theorem dX0_readCommand_53 : decode cX0_readCommand 53 = .ok (.aload_n 0, 1) := by decide +kernel
theorem dX0_readCommand_54 : decode cX0_readCommand 54 = .ok (.iload_n 2, 1) := by decide +kernel
theorem dX0_readCommand_55 : decode cX0_readCommand 55 = .ok (.putfield 19, 3) := by decide +kernel
theorem dX0_readCommand_58 : decode cX0_readCommand 58 = .ok (.iconst 0, 1) := by decide +kernel
theorem dX0_readCommand_59 : decode cX0_readCommand 59 = .ok (.ireturn, 1) := by decide +kernel
theorem dX0_readForm_0 : decode cX0_readForm 0 = .ok (.aload_n 0, 1) := by decide +kernel
theorem dX0_readForm_1 : decode cX0_readForm 1 = .ok (.iconst 0, 1) := by decide +kernel
theorem dX0_readForm_2 : decode cX0_readForm 2 = .ok (.putfield 29, 3) := by decide +kernel
theorem dX0_readForm_5 : decode cX0_readForm 5 = .ok (.iconst 0, 1) := by decide +kernel
theorem dX0_readForm_6 : decode cX0_readForm 6 = .ok (.istore_n 2, 1) := by decide +kernel
theorem dX0_readForm_7 : decode cX0_readForm 7 = .ok (.iload_n 2, 1) := by decide +kernel
theorem dX0_readForm_8 : decode cX0_readForm 8 = .ok (.aload_n 1, 1) := by decide +kernel
theorem dX0_readForm_9 : decode cX0_readForm 9 = .ok (.invokevirtual 76, 3) := by decide +kernel
theorem dX0_readForm_12 : decode cX0_readForm 12 = .ok (.if_icmp .ge 39, 3) := by decide +kernel
theorem dX0_readForm_15 : decode cX0_readForm 15 = .ok (.aload_n 1, 1) := by decide +kernel
theorem dX0_readForm_16 : decode cX0_readForm 16 = .ok (.iload_n 2, 1) := by decide +kernel
theorem dX0_readForm_17 : decode cX0_readForm 17 = .ok (.invokevirtual 81, 3) := by decide +kernel
theorem dX0_readForm_20 : decode cX0_readForm 20 = .ok (.istore_n 3, 1) := by decide +kernel
theorem dX0_readForm_21 : decode cX0_readForm 21 = .ok (.aload_n 0, 1) := by decide +kernel
theorem dX0_readForm_22 : decode cX0_readForm 22 = .ok (.iload_n 3, 1) := by decide +kernel
theorem dX0_readForm_23 : decode cX0_readForm 23 = .ok (.invokevirtual 58, 3) := by decide +kernel
theorem dX0_readForm_26 : decode cX0_readForm 26 = .ok (.ifCond .eq 11, 3) := by decide +kernel
theorem dX0_readForm_29 : decode cX0_readForm 29 = .ok (.aload_n 0, 1) := by decide +kernel
theorem dX0_readForm_30 : decode cX0_readForm 30 = .ok (.iload_n 3, 1) := by decide +kernel
theorem dX0_readForm_31 : decode cX0_readForm 31 = .ok (.invokevirtual 85, 3) := by decide +kernel
theorem dX0_readForm_34 : decode cX0_readForm 34 = .ok (.goto 11, 3) := by decide +kernel
theorem dX0_readForm_37 : decode cX0_readForm 37 = .ok (.iload_n 3, 1) := by decide +kernel
theorem dX0_readForm_38 : decode cX0_readForm 38 = .ok (.bipush 43, 2) := by decide +kernel
theorem dX0_readForm_40 : decode cX0_readForm 40 = .ok (.if_icmp .eq 5, 3) := by decide +kernel
theorem dX0_readForm_43 : decode cX0_readForm 43 = .ok (.iconst 0, 1) := by decide +kernel
theorem dX0_readForm_44 : decode cX0_readForm 44 = .ok (.ireturn, 1) := by decide +kernel
theorem dX0_readForm_45 : decode cX0_readForm 45 = .ok (.iinc 2 1, 3) := by decide +kernel
theorem dX0_readForm_48 : decode cX0_readForm 48 = .ok (.goto (-41), 3) := by decide +kernel
theorem dX0_readForm_51 : decode cX0_readForm 51 = .ok (.iconst 1, 1) := by decide +kernel
theorem dX0_readForm_52 : decode cX0_readForm 52 = .ok (.ireturn, 1) := by decide +kernel
theorem dX0_isNext_0 : decode cX0_isNext 0 = .ok (.aload_n 0, 1) := by decide +kernel
theorem dX0_isNext_1 : decode cX0_isNext 1 = .ok (.getfield 19, 3) := by decide +kernel
theorem dX0_isNext_4 : decode cX0_isNext 4 = .ok (.ifCond .lt 26, 3) := by decide +kernel
theorem dX0_isNext_7 : decode cX0_isNext 7 = .ok (.aload_n 0, 1) := by decide +kernel
theorem dX0_isNext_8 : decode cX0_isNext 8 = .ok (.getfield 19, 3) := by decide +kernel
theorem dX0_isNext_11 : decode cX0_isNext 11 = .ok (.aload_n 0, 1) := by decide +kernel
theorem dX0_isNext_12 : decode cX0_isNext 12 = .ok (.getfield 15, 3) := by decide +kernel
theorem dX0_isNext_15 : decode cX0_isNext 15 = .ok (.if_icmp .ge 15, 3) := by decide +kernel
theorem dX0_isNext_18 : decode cX0_isNext 18 = .ok (.aload_n 0, 1) := by decide +kernel
theorem dX0_isNext_19 : decode cX0_isNext 19 = .ok (.getfield 19, 3) := by decide +kernel
theorem dX0_isNext_22 : decode cX0_isNext 22 = .ok (.aload_n 0, 1) := by decide +kernel
theorem dX0_isNext_23 : decode cX0_isNext 23 = .ok (.getfield 9, 3) := by decide +kernel
theorem dX0_isNext_26 : decode cX0_isNext 26 = .ok (.arraylength, 1) := by decide +kernel
theorem dX0_isNext_27 : decode cX0_isNext 27 = .ok (.if_icmp .lt 5, 3) := by decide +kernel
theorem dX0_isNext_30 : decode cX0_isNext 30 = .ok (.iconst 0, 1) := by decide +kernel
theorem dX0_isNext_31 : decode cX0_isNext 31 = .ok (.ireturn, 1) := by decide +kernel
theorem dX0_isNext_32 : decode cX0_isNext 32 = .ok (.aload_n 0, 1) := by decide +kernel
theorem dX0_isNext_33 : decode cX0_isNext 33 = .ok (.getfield 9, 3) := by decide +kernel
theorem dX0_isNext_36 : decode cX0_isNext 36 = .ok (.aload_n 0, 1) := by decide +kernel
theorem dX0_isNext_37 : decode cX0_isNext 37 = .ok (.getfield 19, 3) := by decide +kernel
theorem dX0_isNext_40 : decode cX0_isNext 40 = .ok (.caload, 1) := by decide +kernel
theorem dX0_isNext_41 : decode cX0_isNext 41 = .ok (.istore_n 2, 1) := by decide +kernel
theorem dX0_isNext_42 : decode cX0_isNext 42 = .ok (.iload_n 1, 1) := by decide +kernel
theorem dX0_isNext_43 : decode cX0_isNext 43 = .ok (.bipush 42, 2) := by decide +kernel
theorem dX0_isNext_45 : decode cX0_isNext 45 = .ok (.if_icmp .ne 8, 3) := by decide +kernel
theorem dX0_isNext_48 : decode cX0_isNext 48 = .ok (.iload_n 2, 1) := by decide +kernel
theorem dX0_isNext_49 : decode cX0_isNext 49 = .ok (.invokestatic 89, 3) := by decide +kernel
theorem dX0_isNext_52 : decode cX0_isNext 52 = .ok (.ireturn, 1) := by decide +kernel
theorem dX0_isNext_53 : decode cX0_isNext 53 = .ok (.iload_n 1, 1) := by decide +kernel
theorem dX0_isNext_54 : decode cX0_isNext 54 = .ok (.bipush 35, 2) := by decide +kernel
theorem dX0_isNext_56 : decode cX0_isNext 56 = .ok (.if_icmp .eq 9, 3) := by decide +kernel
theorem dX0_isNext_59 : decode cX0_isNext 59 = .ok (.iload_n 1, 1) := by decide +kernel
theorem dX0_isNext_60 : decode cX0_isNext 60 = .ok (.bipush 43, 2) := by decide +kernel
theorem dX0_isNext_62 : decode cX0_isNext 62 = .ok (.if_icmp .ne 21, 3) := by decide +kernel
theorem dX0_isNext_65 : decode cX0_isNext 65 = .ok (.iload_n 2, 1) := by decide +kernel
theorem dX0_isNext_66 : decode cX0_isNext 66 = .ok (.bipush 48, 2) := by decide +kernel
theorem dX0_isNext_68 : decode cX0_isNext 68 = .ok (.if_icmp .lt 13, 3) := by decide +kernel
theorem dX0_isNext_71 : decode cX0_isNext 71 = .ok (.iload_n 2, 1) := by decide +kernel
theorem dX0_isNext_72 : decode cX0_isNext 72 = .ok (.bipush 57, 2) := by decide +kernel
theorem dX0_isNext_74 : decode cX0_isNext 74 = .ok (.if_icmp .gt 7, 3) := by decide +kernel
theorem dX0_isNext_77 : decode cX0_isNext 77 = .ok (.iconst 1, 1) := by decide +kernel
theorem dX0_isNext_78 : decode cX0_isNext 78 = .ok (.goto 4, 3) := by decide +kernel
theorem dX0_isNext_81 : decode cX0_isNext 81 = .ok (.iconst 0, 1) := by decide +kernel
theorem dX0_isNext_82 : decode cX0_isNext 82 = .ok (.ireturn, 1) := by decide +kernel
theorem dX0_isNext_83 : decode cX0_isNext 83 = .ok (.iload_n 2, 1) := by decide +kernel
theorem dX0_isNext_84 : decode cX0_isNext 84 = .ok (.iload_n 1, 1) := by decide +kernel
theorem dX0_isNext_85 : decode cX0_isNext 85 = .ok (.if_icmp .ne 7, 3) := by decide +kernel
theorem dX0_isNext_88 : decode cX0_isNext 88 = .ok (.iconst 1, 1) := by decide +kernel
theorem dX0_isNext_89 : decode cX0_isNext 89 = .ok (.goto 4, 3) := by decide +kernel
theorem dX0_isNext_92 : decode cX0_isNext 92 = .ok (.iconst 0, 1) := by decide +kernel
theorem dX0_isNext_93 : decode cX0_isNext 93 = .ok (.ireturn, 1) := by decide +kernel
theorem dX0_take_0 : decode cX0_take 0 = .ok (.aload_n 0, 1) := by decide +kernel
theorem dX0_take_1 : decode cX0_take 1 = .ok (.getfield 19, 3) := by decide +kernel
theorem dX0_take_4 : decode cX0_take 4 = .ok (.ifCond .lt 15, 3) := by decide +kernel
theorem dX0_take_7 : decode cX0_take 7 = .ok (.aload_n 0, 1) := by decide +kernel
theorem dX0_take_8 : decode cX0_take 8 = .ok (.getfield 19, 3) := by decide +kernel
theorem dX0_take_11 : decode cX0_take 11 = .ok (.aload_n 0, 1) := by decide +kernel
theorem dX0_take_12 : decode cX0_take 12 = .ok (.getfield 9, 3) := by decide +kernel
theorem dX0_take_15 : decode cX0_take 15 = .ok (.arraylength, 1) := by decide +kernel
theorem dX0_take_16 : decode cX0_take 16 = .ok (.if_icmp .lt 4, 3) := by decide +kernel
theorem dX0_take_19 : decode cX0_take 19 = .ok (.return_, 1) := by decide +kernel
theorem dX0_take_20 : decode cX0_take 20 = .ok (.aload_n 0, 1) := by decide +kernel
theorem dX0_take_21 : decode cX0_take 21 = .ok (.getfield 9, 3) := by decide +kernel
theorem dX0_take_24 : decode cX0_take 24 = .ok (.aload_n 0, 1) := by decide +kernel
theorem dX0_take_25 : decode cX0_take 25 = .ok (.getfield 19, 3) := by decide +kernel
theorem dX0_take_28 : decode cX0_take 28 = .ok (.caload, 1) := by decide +kernel
theorem dX0_take_29 : decode cX0_take 29 = .ok (.istore_n 2, 1) := by decide +kernel
theorem dX0_take_30 : decode cX0_take 30 = .ok (.aload_n 0, 1) := by decide +kernel
theorem dX0_take_31 : decode cX0_take 31 = .ok (.dup, 1) := by decide +kernel
theorem dX0_take_32 : decode cX0_take 32 = .ok (.getfield 19, 3) := by decide +kernel
theorem dX0_take_35 : decode cX0_take 35 = .ok (.iconst 1, 1) := by decide +kernel
theorem dX0_take_36 : decode cX0_take 36 = .ok (.iadd, 1) := by decide +kernel
theorem dX0_take_37 : decode cX0_take 37 = .ok (.putfield 19, 3) := by decide +kernel
theorem dX0_take_40 : decode cX0_take 40 = .ok (.iload_n 1, 1) := by decide +kernel
theorem dX0_take_41 : decode cX0_take 41 = .ok (.bipush 42, 2) := by decide +kernel
theorem dX0_take_43 : decode cX0_take 43 = .ok (.if_icmp .ne 11, 3) := by decide +kernel
theorem dX0_take_46 : decode cX0_take 46 = .ok (.aload_n 0, 1) := by decide +kernel
theorem dX0_take_47 : decode cX0_take 47 = .ok (.iload_n 2, 1) := by decide +kernel
theorem dX0_take_48 : decode cX0_take 48 = .ok (.invokevirtual 92, 3) := by decide +kernel
theorem dX0_take_51 : decode cX0_take 51 = .ok (.goto 56, 3) := by decide +kernel
theorem dX0_take_54 : decode cX0_take 54 = .ok (.iload_n 1, 1) := by decide +kernel
theorem dX0_take_55 : decode cX0_take 55 = .ok (.bipush 35, 2) := by decide +kernel
theorem dX0_take_57 : decode cX0_take 57 = .ok (.if_icmp .ne 14, 3) := by decide +kernel
theorem dX0_take_60 : decode cX0_take 60 = .ok (.aload_n 0, 1) := by decide +kernel
theorem dX0_take_61 : decode cX0_take 61 = .ok (.iload_n 2, 1) := by decide +kernel
theorem dX0_take_62 : decode cX0_take 62 = .ok (.bipush 48, 2) := by decide +kernel
theorem dX0_take_64 : decode cX0_take 64 = .ok (.isub, 1) := by decide +kernel
theorem dX0_take_65 : decode cX0_take 65 = .ok (.invokevirtual 92, 3) := by decide +kernel
theorem dX0_take_68 : decode cX0_take 68 = .ok (.goto 39, 3) := by decide +kernel
theorem dX0_take_71 : decode cX0_take 71 = .ok (.iload_n 1, 1) := by decide +kernel
theorem dX0_take_72 : decode cX0_take 72 = .ok (.bipush 43, 2) := by decide +kernel
theorem dX0_take_74 : decode cX0_take 74 = .ok (.if_icmp .ne 33, 3) := by decide +kernel
theorem dX0_take_77 : decode cX0_take 77 = .ok (.aload_n 0, 1) := by decide +kernel
theorem dX0_take_78 : decode cX0_take 78 = .ok (.dup, 1) := by decide +kernel
theorem dX0_take_79 : decode cX0_take 79 = .ok (.getfield 29, 3) := by decide +kernel
theorem dX0_take_82 : decode cX0_take 82 = .ok (.iconst 1, 1) := by decide +kernel
theorem dX0_take_83 : decode cX0_take 83 = .ok (.isub, 1) := by decide +kernel
theorem dX0_take_84 : decode cX0_take 84 = .ok (.putfield 29, 3) := by decide +kernel
theorem dX0_take_87 : decode cX0_take 87 = .ok (.aload_n 0, 1) := by decide +kernel
theorem dX0_take_88 : decode cX0_take 88 = .ok (.aload_n 0, 1) := by decide +kernel
theorem dX0_take_89 : decode cX0_take 89 = .ok (.aload_n 0, 1) := by decide +kernel
theorem dX0_take_90 : decode cX0_take 90 = .ok (.getfield 29, 3) := by decide +kernel
theorem dX0_take_93 : decode cX0_take 93 = .ok (.invokevirtual 96, 3) := by decide +kernel
theorem dX0_take_96 : decode cX0_take 96 = .ok (.bipush 10, 2) := by decide +kernel
theorem dX0_take_98 : decode cX0_take 98 = .ok (.imul, 1) := by decide +kernel
theorem dX0_take_99 : decode cX0_take 99 = .ok (.iload_n 2, 1) := by decide +kernel
theorem dX0_take_100 : decode cX0_take 100 = .ok (.iadd, 1) := by decide +kernel
theorem dX0_take_101 : decode cX0_take 101 = .ok (.bipush 48, 2) := by decide +kernel
theorem dX0_take_103 : decode cX0_take 103 = .ok (.isub, 1) := by decide +kernel
theorem dX0_take_104 : decode cX0_take 104 = .ok (.invokevirtual 92, 3) := by decide +kernel
theorem dX0_take_107 : decode cX0_take 107 = .ok (.return_, 1) := by decide +kernel
theorem dX0_addNumber_0 : decode cX0_addNumber 0 = .ok (.aload_n 0, 1) := by decide +kernel
theorem dX0_addNumber_1 : decode cX0_addNumber 1 = .ok (.getfield 29, 3) := by decide +kernel
theorem dX0_addNumber_4 : decode cX0_addNumber 4 = .ok (.ifCond .lt 35, 3) := by decide +kernel
theorem dX0_addNumber_7 : decode cX0_addNumber 7 = .ok (.aload_n 0, 1) := by decide +kernel
theorem dX0_addNumber_8 : decode cX0_addNumber 8 = .ok (.getfield 29, 3) := by decide +kernel
theorem dX0_addNumber_11 : decode cX0_addNumber 11 = .ok (.aload_n 0, 1) := by decide +kernel
theorem dX0_addNumber_12 : decode cX0_addNumber 12 = .ok (.getfield 25, 3) := by decide +kernel
theorem dX0_addNumber_15 : decode cX0_addNumber 15 = .ok (.arraylength, 1) := by decide +kernel
theorem dX0_addNumber_16 : decode cX0_addNumber 16 = .ok (.if_icmp .ge 23, 3) := by decide +kernel
theorem dX0_addNumber_19 : decode cX0_addNumber 19 = .ok (.aload_n 0, 1) := by decide +kernel
theorem dX0_addNumber_20 : decode cX0_addNumber 20 = .ok (.getfield 25, 3) := by decide +kernel
theorem dX0_addNumber_23 : decode cX0_addNumber 23 = .ok (.aload_n 0, 1) := by decide +kernel
theorem dX0_addNumber_24 : decode cX0_addNumber 24 = .ok (.getfield 29, 3) := by decide +kernel
theorem dX0_addNumber_27 : decode cX0_addNumber 27 = .ok (.iload_n 1, 1) := by decide +kernel
theorem dX0_addNumber_28 : decode cX0_addNumber 28 = .ok (.iastore, 1) := by decide +kernel
theorem dX0_addNumber_29 : decode cX0_addNumber 29 = .ok (.aload_n 0, 1) := by decide +kernel
theorem dX0_addNumber_30 : decode cX0_addNumber 30 = .ok (.dup, 1) := by decide +kernel
theorem dX0_addNumber_31 : decode cX0_addNumber 31 = .ok (.getfield 29, 3) := by decide +kernel
theorem dX0_addNumber_34 : decode cX0_addNumber 34 = .ok (.iconst 1, 1) := by decide +kernel
theorem dX0_addNumber_35 : decode cX0_addNumber 35 = .ok (.iadd, 1) := by decide +kernel
theorem dX0_addNumber_36 : decode cX0_addNumber 36 = .ok (.putfield 29, 3) := by decide +kernel
theorem dX0_addNumber_39 : decode cX0_addNumber 39 = .ok (.return_, 1) := by decide +kernel
theorem dX0_number_0 : decode cX0_number 0 = .ok (.iload_n 1, 1) := by decide +kernel
theorem dX0_number_1 : decode cX0_number 1 = .ok (.ifCond .lt 21, 3) := by decide +kernel
theorem dX0_number_4 : decode cX0_number 4 = .ok (.iload_n 1, 1) := by decide +kernel
theorem dX0_number_5 : decode cX0_number 5 = .ok (.aload_n 0, 1) := by decide +kernel
theorem dX0_number_6 : decode cX0_number 6 = .ok (.getfield 25, 3) := by decide +kernel
theorem dX0_number_9 : decode cX0_number 9 = .ok (.arraylength, 1) := by decide +kernel
theorem dX0_number_10 : decode cX0_number 10 = .ok (.if_icmp .ge 12, 3) := by decide +kernel
theorem dX0_number_13 : decode cX0_number 13 = .ok (.aload_n 0, 1) := by decide +kernel
theorem dX0_number_14 : decode cX0_number 14 = .ok (.getfield 25, 3) := by decide +kernel
theorem dX0_number_17 : decode cX0_number 17 = .ok (.iload_n 1, 1) := by decide +kernel
theorem dX0_number_18 : decode cX0_number 18 = .ok (.iaload, 1) := by decide +kernel
theorem dX0_number_19 : decode cX0_number 19 = .ok (.goto 4, 3) := by decide +kernel
theorem dX0_number_22 : decode cX0_number 22 = .ok (.iconst 0, 1) := by decide +kernel
theorem dX0_number_23 : decode cX0_number 23 = .ok (.ireturn, 1) := by decide +kernel
theorem dX1_init_0 : decode cX1_init 0 = .ok (.aload_n 0, 1) := by decide +kernel
theorem dX1_init_1 : decode cX1_init 1 = .ok (.invokespecial 3, 3) := by decide +kernel
theorem dX1_init_4 : decode cX1_init 4 = .ok (.aload_n 0, 1) := by decide +kernel
theorem dX1_init_5 : decode cX1_init 5 = .ok (.bipush 48, 2) := by decide +kernel
theorem dX1_init_7 : decode cX1_init 7 = .ok (.newarray .int, 2) := by decide +kernel
theorem dX1_init_9 : decode cX1_init 9 = .ok (.putfield 9, 3) := by decide +kernel
theorem dX1_init_12 : decode cX1_init 12 = .ok (.aload_n 0, 1) := by decide +kernel
theorem dX1_init_13 : decode cX1_init 13 = .ok (.bipush 63, 2) := by decide +kernel
theorem dX1_init_15 : decode cX1_init 15 = .ok (.newarray .int, 2) := by decide +kernel
theorem dX1_init_17 : decode cX1_init 17 = .ok (.putfield 15, 3) := by decide +kernel
theorem dX1_init_20 : decode cX1_init 20 = .ok (.aload_n 0, 1) := by decide +kernel
theorem dX1_init_21 : decode cX1_init 21 = .ok (.bipush 48, 2) := by decide +kernel
theorem dX1_init_23 : decode cX1_init 23 = .ok (.newarray .boolean, 2) := by decide +kernel
theorem dX1_init_25 : decode cX1_init 25 = .ok (.putfield 18, 3) := by decide +kernel
theorem dX1_init_28 : decode cX1_init 28 = .ok (.aload_n 0, 1) := by decide +kernel
theorem dX1_init_29 : decode cX1_init 29 = .ok (.bipush 48, 2) := by decide +kernel
theorem dX1_init_31 : decode cX1_init 31 = .ok (.newarray .int, 2) := by decide +kernel
theorem dX1_init_33 : decode cX1_init 33 = .ok (.putfield 22, 3) := by decide +kernel
theorem dX1_init_36 : decode cX1_init 36 = .ok (.aload_n 0, 1) := by decide +kernel
theorem dX1_init_37 : decode cX1_init 37 = .ok (.iconst 0, 1) := by decide +kernel
theorem dX1_init_38 : decode cX1_init 38 = .ok (.putfield 25, 3) := by decide +kernel
theorem dX1_init_41 : decode cX1_init 41 = .ok (.aload_n 0, 1) := by decide +kernel
theorem dX1_init_42 : decode cX1_init 42 = .ok (.bipush 48, 2) := by decide +kernel
theorem dX1_init_44 : decode cX1_init 44 = .ok (.newarray .int, 2) := by decide +kernel
theorem dX1_init_46 : decode cX1_init 46 = .ok (.putfield 29, 3) := by decide +kernel
theorem dX1_init_49 : decode cX1_init 49 = .ok (.return_, 1) := by decide +kernel
theorem dX1_flatten_0 : decode cX1_flatten 0 = .ok (.iconst 0, 1) := by decide +kernel
theorem dX1_flatten_1 : decode cX1_flatten 1 = .ok (.istore_n 2, 1) := by decide +kernel
theorem dX1_flatten_2 : decode cX1_flatten 2 = .ok (.iload_n 2, 1) := by decide +kernel
theorem dX1_flatten_3 : decode cX1_flatten 3 = .ok (.aload_n 0, 1) := by decide +kernel
theorem dX1_flatten_4 : decode cX1_flatten 4 = .ok (.getfield 9, 3) := by decide +kernel
theorem dX1_flatten_7 : decode cX1_flatten 7 = .ok (.arraylength, 1) := by decide +kernel
theorem dX1_flatten_8 : decode cX1_flatten 8 = .ok (.if_icmp .ge 21, 3) := by decide +kernel
theorem dX1_flatten_11 : decode cX1_flatten 11 = .ok (.aload_n 0, 1) := by decide +kernel
theorem dX1_flatten_12 : decode cX1_flatten 12 = .ok (.getfield 9, 3) := by decide +kernel
theorem dX1_flatten_15 : decode cX1_flatten 15 = .ok (.iload_n 2, 1) := by decide +kernel
theorem dX1_flatten_16 : decode cX1_flatten 16 = .ok (.aload_n 1, 1) := by decide +kernel
theorem dX1_flatten_17 : decode cX1_flatten 17 = .ok (.iconst 0, 1) := by decide +kernel
theorem dX1_flatten_18 : decode cX1_flatten 18 = .ok (.iload_n 2, 1) := by decide +kernel
theorem dX1_flatten_19 : decode cX1_flatten 19 = .ok (.invokevirtual 32, 3) := by decide +kernel
theorem dX1_flatten_22 : decode cX1_flatten 22 = .ok (.iastore, 1) := by decide +kernel
theorem dX1_flatten_23 : decode cX1_flatten 23 = .ok (.iinc 2 1, 3) := by decide +kernel
theorem dX1_flatten_26 : decode cX1_flatten 26 = .ok (.goto (-24), 3) := by decide +kernel
theorem dX1_flatten_29 : decode cX1_flatten 29 = .ok (.return_, 1) := by decide +kernel
theorem dX1_countCellsUnlike_0 : decode cX1_countCellsUnlike 0 = .ok (.iconst 0, 1) := by decide +kernel
theorem dX1_countCellsUnlike_1 : decode cX1_countCellsUnlike 1 = .ok (.istore_n 2, 1) := by decide +kernel
theorem dX1_countCellsUnlike_2 : decode cX1_countCellsUnlike 2 = .ok (.iconst 0, 1) := by decide +kernel
theorem dX1_countCellsUnlike_3 : decode cX1_countCellsUnlike 3 = .ok (.istore_n 3, 1) := by decide +kernel
theorem dX1_countCellsUnlike_4 : decode cX1_countCellsUnlike 4 = .ok (.iload_n 3, 1) := by decide +kernel
theorem dX1_countCellsUnlike_5 : decode cX1_countCellsUnlike 5 = .ok (.aload_n 0, 1) := by decide +kernel
theorem dX1_countCellsUnlike_6 : decode cX1_countCellsUnlike 6 = .ok (.getfield 9, 3) := by decide +kernel
theorem dX1_countCellsUnlike_9 : decode cX1_countCellsUnlike 9 = .ok (.arraylength, 1) := by decide +kernel
theorem dX1_countCellsUnlike_10 : decode cX1_countCellsUnlike 10 = .ok (.if_icmp .ge 27, 3) := by decide +kernel
theorem dX1_countCellsUnlike_13 : decode cX1_countCellsUnlike 13 = .ok (.aload_n 0, 1) := by decide +kernel
theorem dX1_countCellsUnlike_14 : decode cX1_countCellsUnlike 14 = .ok (.getfield 9, 3) := by decide +kernel
theorem dX1_countCellsUnlike_17 : decode cX1_countCellsUnlike 17 = .ok (.iload_n 3, 1) := by decide +kernel
theorem dX1_countCellsUnlike_18 : decode cX1_countCellsUnlike 18 = .ok (.iaload, 1) := by decide +kernel
theorem dX1_countCellsUnlike_19 : decode cX1_countCellsUnlike 19 = .ok (.aload_n 1, 1) := by decide +kernel
theorem dX1_countCellsUnlike_20 : decode cX1_countCellsUnlike 20 = .ok (.iconst 0, 1) := by decide +kernel
theorem dX1_countCellsUnlike_21 : decode cX1_countCellsUnlike 21 = .ok (.iload_n 3, 1) := by decide +kernel
theorem dX1_countCellsUnlike_22 : decode cX1_countCellsUnlike 22 = .ok (.invokevirtual 32, 3) := by decide +kernel
theorem dX1_countCellsUnlike_25 : decode cX1_countCellsUnlike 25 = .ok (.if_icmp .eq 6, 3) := by decide +kernel
theorem dX1_countCellsUnlike_28 : decode cX1_countCellsUnlike 28 = .ok (.iinc 2 1, 3) := by decide +kernel
theorem dX1_countCellsUnlike_31 : decode cX1_countCellsUnlike 31 = .ok (.iinc 3 1, 3) := by decide +kernel
theorem dX1_countCellsUnlike_34 : decode cX1_countCellsUnlike 34 = .ok (.goto (-30), 3) := by decide +kernel
theorem dX1_countCellsUnlike_37 : decode cX1_countCellsUnlike 37 = .ok (.iload_n 2, 1) := by decide +kernel
theorem dX1_countCellsUnlike_38 : decode cX1_countCellsUnlike 38 = .ok (.ireturn, 1) := by decide +kernel
theorem dX1_countCellsUnlikeFromTop_0 : decode cX1_countCellsUnlikeFromTop 0 = .ok (.iconst 0, 1) := by decide +kernel
theorem dX1_countCellsUnlikeFromTop_1 : decode cX1_countCellsUnlikeFromTop 1 = .ok (.istore_n 2, 1) := by decide +kernel
theorem dX1_countCellsUnlikeFromTop_2 : decode cX1_countCellsUnlikeFromTop 2 = .ok (.iconst 0, 1) := by decide +kernel
theorem dX1_countCellsUnlikeFromTop_3 : decode cX1_countCellsUnlikeFromTop 3 = .ok (.istore_n 3, 1) := by decide +kernel
theorem dX1_countCellsUnlikeFromTop_4 : decode cX1_countCellsUnlikeFromTop 4 = .ok (.iload_n 3, 1) := by decide +kernel
theorem dX1_countCellsUnlikeFromTop_5 : decode cX1_countCellsUnlikeFromTop 5 = .ok (.aload_n 0, 1) := by decide +kernel
theorem dX1_countCellsUnlikeFromTop_6 : decode cX1_countCellsUnlikeFromTop 6 = .ok (.getfield 9, 3) := by decide +kernel
theorem dX1_countCellsUnlikeFromTop_9 : decode cX1_countCellsUnlikeFromTop 9 = .ok (.arraylength, 1) := by decide +kernel
theorem dX1_countCellsUnlikeFromTop_10 : decode cX1_countCellsUnlikeFromTop 10 = .ok (.if_icmp .ge 26, 3) := by decide +kernel
theorem dX1_countCellsUnlikeFromTop_13 : decode cX1_countCellsUnlikeFromTop 13 = .ok (.aload_n 0, 1) := by decide +kernel
theorem dX1_countCellsUnlikeFromTop_14 : decode cX1_countCellsUnlikeFromTop 14 = .ok (.getfield 9, 3) := by decide +kernel
theorem dX1_countCellsUnlikeFromTop_17 : decode cX1_countCellsUnlikeFromTop 17 = .ok (.iload_n 3, 1) := by decide +kernel
theorem dX1_countCellsUnlikeFromTop_18 : decode cX1_countCellsUnlikeFromTop 18 = .ok (.iaload, 1) := by decide +kernel
theorem dX1_countCellsUnlikeFromTop_19 : decode cX1_countCellsUnlikeFromTop 19 = .ok (.aload_n 1, 1) := by decide +kernel
theorem dX1_countCellsUnlikeFromTop_20 : decode cX1_countCellsUnlikeFromTop 20 = .ok (.iload_n 3, 1) := by decide +kernel
theorem dX1_countCellsUnlikeFromTop_21 : decode cX1_countCellsUnlikeFromTop 21 = .ok (.invokevirtual 38, 3) := by decide +kernel
theorem dX1_countCellsUnlikeFromTop_24 : decode cX1_countCellsUnlikeFromTop 24 = .ok (.if_icmp .eq 6, 3) := by decide +kernel
theorem dX1_countCellsUnlikeFromTop_27 : decode cX1_countCellsUnlikeFromTop 27 = .ok (.iinc 2 1, 3) := by decide +kernel
theorem dX1_countCellsUnlikeFromTop_30 : decode cX1_countCellsUnlikeFromTop 30 = .ok (.iinc 3 1, 3) := by decide +kernel
theorem dX1_countCellsUnlikeFromTop_33 : decode cX1_countCellsUnlikeFromTop 33 = .ok (.goto (-29), 3) := by decide +kernel
theorem dX1_countCellsUnlikeFromTop_36 : decode cX1_countCellsUnlikeFromTop 36 = .ok (.iload_n 2, 1) := by decide +kernel
theorem dX1_countCellsUnlikeFromTop_37 : decode cX1_countCellsUnlikeFromTop 37 = .ok (.ireturn, 1) := by decide +kernel
theorem dX1_toneAt_0 : decode cX1_toneAt 0 = .ok (.iload_n 1, 1) := by decide +kernel
theorem dX1_toneAt_1 : decode cX1_toneAt 1 = .ok (.ifCond .lt 21, 3) := by decide +kernel
theorem dX1_toneAt_4 : decode cX1_toneAt 4 = .ok (.iload_n 1, 1) := by decide +kernel
theorem dX1_toneAt_5 : decode cX1_toneAt 5 = .ok (.aload_n 0, 1) := by decide +kernel
theorem dX1_toneAt_6 : decode cX1_toneAt 6 = .ok (.getfield 9, 3) := by decide +kernel
theorem dX1_toneAt_9 : decode cX1_toneAt 9 = .ok (.arraylength, 1) := by decide +kernel
theorem dX1_toneAt_10 : decode cX1_toneAt 10 = .ok (.if_icmp .ge 12, 3) := by decide +kernel
theorem dX1_toneAt_13 : decode cX1_toneAt 13 = .ok (.aload_n 0, 1) := by decide +kernel
theorem dX1_toneAt_14 : decode cX1_toneAt 14 = .ok (.getfield 9, 3) := by decide +kernel
theorem dX1_toneAt_17 : decode cX1_toneAt 17 = .ok (.iload_n 1, 1) := by decide +kernel
theorem dX1_toneAt_18 : decode cX1_toneAt 18 = .ok (.iaload, 1) := by decide +kernel
theorem dX1_toneAt_19 : decode cX1_toneAt 19 = .ok (.goto 4, 3) := by decide +kernel
theorem dX1_toneAt_22 : decode cX1_toneAt 22 = .ok (.iconst (-1), 1) := by decide +kernel
theorem dX1_toneAt_23 : decode cX1_toneAt 23 = .ok (.ireturn, 1) := by decide +kernel
theorem dX1_countTone_0 : decode cX1_countTone 0 = .ok (.iconst 0, 1) := by decide +kernel
theorem dX1_countTone_1 : decode cX1_countTone 1 = .ok (.istore_n 2, 1) := by decide +kernel
theorem dX1_countTone_2 : decode cX1_countTone 2 = .ok (.iconst 0, 1) := by decide +kernel
theorem dX1_countTone_3 : decode cX1_countTone 3 = .ok (.istore_n 3, 1) := by decide +kernel
theorem dX1_countTone_4 : decode cX1_countTone 4 = .ok (.iload_n 3, 1) := by decide +kernel
theorem dX1_countTone_5 : decode cX1_countTone 5 = .ok (.aload_n 0, 1) := by decide +kernel
theorem dX1_countTone_6 : decode cX1_countTone 6 = .ok (.getfield 9, 3) := by decide +kernel
theorem dX1_countTone_9 : decode cX1_countTone 9 = .ok (.arraylength, 1) := by decide +kernel
theorem dX1_countTone_10 : decode cX1_countTone 10 = .ok (.if_icmp .ge 22, 3) := by decide +kernel
theorem dX1_countTone_13 : decode cX1_countTone 13 = .ok (.aload_n 0, 1) := by decide +kernel
theorem dX1_countTone_14 : decode cX1_countTone 14 = .ok (.getfield 9, 3) := by decide +kernel
theorem dX1_countTone_17 : decode cX1_countTone 17 = .ok (.iload_n 3, 1) := by decide +kernel
theorem dX1_countTone_18 : decode cX1_countTone 18 = .ok (.iaload, 1) := by decide +kernel
theorem dX1_countTone_19 : decode cX1_countTone 19 = .ok (.iload_n 1, 1) := by decide +kernel
theorem dX1_countTone_20 : decode cX1_countTone 20 = .ok (.if_icmp .ne 6, 3) := by decide +kernel
theorem dX1_countTone_23 : decode cX1_countTone 23 = .ok (.iinc 2 1, 3) := by decide +kernel
theorem dX1_countTone_26 : decode cX1_countTone 26 = .ok (.iinc 3 1, 3) := by decide +kernel
theorem dX1_countTone_29 : decode cX1_countTone 29 = .ok (.goto (-25), 3) := by decide +kernel
theorem dX1_countTone_32 : decode cX1_countTone 32 = .ok (.iload_n 2, 1) := by decide +kernel
theorem dX1_countTone_33 : decode cX1_countTone 33 = .ok (.ireturn, 1) := by decide +kernel
theorem dX1_mostFrequentTone_0 : decode cX1_mostFrequentTone 0 = .ok (.iconst 0, 1) := by decide +kernel
theorem dX1_mostFrequentTone_1 : decode cX1_mostFrequentTone 1 = .ok (.istore_n 1, 1) := by decide +kernel
theorem dX1_mostFrequentTone_2 : decode cX1_mostFrequentTone 2 = .ok (.iconst 0, 1) := by decide +kernel
theorem dX1_mostFrequentTone_3 : decode cX1_mostFrequentTone 3 = .ok (.istore_n 2, 1) := by decide +kernel
theorem dX1_mostFrequentTone_4 : decode cX1_mostFrequentTone 4 = .ok (.iconst 0, 1) := by decide +kernel
theorem dX1_mostFrequentTone_5 : decode cX1_mostFrequentTone 5 = .ok (.istore_n 3, 1) := by decide +kernel
theorem dX1_mostFrequentTone_6 : decode cX1_mostFrequentTone 6 = .ok (.iload_n 3, 1) := by decide +kernel
theorem dX1_mostFrequentTone_7 : decode cX1_mostFrequentTone 7 = .ok (.bipush 15, 2) := by decide +kernel
theorem dX1_mostFrequentTone_9 : decode cX1_mostFrequentTone 9 = .ok (.if_icmp .gt 27, 3) := by decide +kernel
theorem dX1_mostFrequentTone_12 : decode cX1_mostFrequentTone 12 = .ok (.aload_n 0, 1) := by decide +kernel
theorem dX1_mostFrequentTone_13 : decode cX1_mostFrequentTone 13 = .ok (.iload_n 3, 1) := by decide +kernel
theorem dX1_mostFrequentTone_14 : decode cX1_mostFrequentTone 14 = .ok (.invokevirtual 42, 3) := by decide +kernel
theorem dX1_mostFrequentTone_17 : decode cX1_mostFrequentTone 17 = .ok (.istore 4, 2) := by decide +kernel
theorem dX1_mostFrequentTone_19 : decode cX1_mostFrequentTone 19 = .ok (.iload 4, 2) := by decide +kernel
theorem dX1_mostFrequentTone_21 : decode cX1_mostFrequentTone 21 = .ok (.iload_n 2, 1) := by decide +kernel
theorem dX1_mostFrequentTone_22 : decode cX1_mostFrequentTone 22 = .ok (.if_icmp .le 8, 3) := by decide +kernel
theorem dX1_mostFrequentTone_25 : decode cX1_mostFrequentTone 25 = .ok (.iload_n 3, 1) := by decide +kernel
theorem dX1_mostFrequentTone_26 : decode cX1_mostFrequentTone 26 = .ok (.istore_n 1, 1) := by decide +kernel
theorem dX1_mostFrequentTone_27 : decode cX1_mostFrequentTone 27 = .ok (.iload 4, 2) := by decide +kernel
theorem dX1_mostFrequentTone_29 : decode cX1_mostFrequentTone 29 = .ok (.istore_n 2, 1) := by decide +kernel
theorem dX1_mostFrequentTone_30 : decode cX1_mostFrequentTone 30 = .ok (.iinc 3 1, 3) := by decide +kernel
theorem dX1_mostFrequentTone_33 : decode cX1_mostFrequentTone 33 = .ok (.goto (-27), 3) := by decide +kernel
theorem dX1_mostFrequentTone_36 : decode cX1_mostFrequentTone 36 = .ok (.iload_n 1, 1) := by decide +kernel
theorem dX1_mostFrequentTone_37 : decode cX1_mostFrequentTone 37 = .ok (.ireturn, 1) := by decide +kernel
theorem dX1_sumCellByCell_0 : decode cX1_sumCellByCell 0 = .ok (.iconst 0, 1) := by decide +kernel
theorem dX1_sumCellByCell_1 : decode cX1_sumCellByCell 1 = .ok (.istore 5, 2) := by decide +kernel
theorem dX1_sumCellByCell_3 : decode cX1_sumCellByCell 3 = .ok (.iload_n 2, 1) := by decide +kernel
theorem dX1_sumCellByCell_4 : decode cX1_sumCellByCell 4 = .ok (.istore 6, 2) := by decide +kernel
theorem dX1_sumCellByCell_6 : decode cX1_sumCellByCell 6 = .ok (.iload 6, 2) := by decide +kernel
theorem dX1_sumCellByCell_8 : decode cX1_sumCellByCell 8 = .ok (.iload 4, 2) := by decide +kernel
theorem dX1_sumCellByCell_10 : decode cX1_sumCellByCell 10 = .ok (.if_icmp .gt 40, 3) := by decide +kernel
theorem dX1_sumCellByCell_13 : decode cX1_sumCellByCell 13 = .ok (.iload_n 1, 1) := by decide +kernel
theorem dX1_sumCellByCell_14 : decode cX1_sumCellByCell 14 = .ok (.istore 7, 2) := by decide +kernel
theorem dX1_sumCellByCell_16 : decode cX1_sumCellByCell 16 = .ok (.iload 7, 2) := by decide +kernel
theorem dX1_sumCellByCell_18 : decode cX1_sumCellByCell 18 = .ok (.iload_n 3, 1) := by decide +kernel
theorem dX1_sumCellByCell_19 : decode cX1_sumCellByCell 19 = .ok (.if_icmp .gt 25, 3) := by decide +kernel
theorem dX1_sumCellByCell_22 : decode cX1_sumCellByCell 22 = .ok (.iload 5, 2) := by decide +kernel
theorem dX1_sumCellByCell_24 : decode cX1_sumCellByCell 24 = .ok (.aload_n 0, 1) := by decide +kernel
theorem dX1_sumCellByCell_25 : decode cX1_sumCellByCell 25 = .ok (.iload 7, 2) := by decide +kernel
theorem dX1_sumCellByCell_27 : decode cX1_sumCellByCell 27 = .ok (.iload 6, 2) := by decide +kernel
theorem dX1_sumCellByCell_29 : decode cX1_sumCellByCell 29 = .ok (.invokestatic 45, 3) := by decide +kernel
theorem dX1_sumCellByCell_32 : decode cX1_sumCellByCell 32 = .ok (.invokevirtual 48, 3) := by decide +kernel
theorem dX1_sumCellByCell_35 : decode cX1_sumCellByCell 35 = .ok (.iadd, 1) := by decide +kernel
theorem dX1_sumCellByCell_36 : decode cX1_sumCellByCell 36 = .ok (.istore 5, 2) := by decide +kernel
theorem dX1_sumCellByCell_38 : decode cX1_sumCellByCell 38 = .ok (.iinc 7 1, 3) := by decide +kernel
theorem dX1_sumCellByCell_41 : decode cX1_sumCellByCell 41 = .ok (.goto (-25), 3) := by decide +kernel
theorem dX1_sumCellByCell_44 : decode cX1_sumCellByCell 44 = .ok (.iinc 6 1, 3) := by decide +kernel
theorem dX1_sumCellByCell_47 : decode cX1_sumCellByCell 47 = .ok (.goto (-41), 3) := by decide +kernel
theorem dX1_sumCellByCell_50 : decode cX1_sumCellByCell 50 = .ok (.iload 5, 2) := by decide +kernel
theorem dX1_sumCellByCell_52 : decode cX1_sumCellByCell 52 = .ok (.ireturn, 1) := by decide +kernel
theorem dX1_sumOfAllCells_0 : decode cX1_sumOfAllCells 0 = .ok (.aload_n 0, 1) := by decide +kernel
theorem dX1_sumOfAllCells_1 : decode cX1_sumOfAllCells 1 = .ok (.iconst 0, 1) := by decide +kernel
theorem dX1_sumOfAllCells_2 : decode cX1_sumOfAllCells 2 = .ok (.iconst 0, 1) := by decide +kernel
theorem dX1_sumOfAllCells_3 : decode cX1_sumOfAllCells 3 = .ok (.bipush 7, 2) := by decide +kernel
theorem dX1_sumOfAllCells_5 : decode cX1_sumOfAllCells 5 = .ok (.iconst 5, 1) := by decide +kernel
theorem dX1_sumOfAllCells_6 : decode cX1_sumOfAllCells 6 = .ok (.invokevirtual 51, 3) := by decide +kernel
theorem dX1_sumOfAllCells_9 : decode cX1_sumOfAllCells 9 = .ok (.ireturn, 1) := by decide +kernel
theorem dX1_sumFromTable_0 : decode cX1_sumFromTable 0 = .ok (.aload_n 0, 1) := by decide +kernel
theorem dX1_sumFromTable_1 : decode cX1_sumFromTable 1 = .ok (.invokevirtual 55, 3) := by decide +kernel
theorem dX1_sumFromTable_4 : decode cX1_sumFromTable 4 = .ok (.aload_n 0, 1) := by decide +kernel
theorem dX1_sumFromTable_5 : decode cX1_sumFromTable 5 = .ok (.iload_n 3, 1) := by decide +kernel
theorem dX1_sumFromTable_6 : decode cX1_sumFromTable 6 = .ok (.iconst 1, 1) := by decide +kernel
theorem dX1_sumFromTable_7 : decode cX1_sumFromTable 7 = .ok (.iadd, 1) := by decide +kernel
theorem dX1_sumFromTable_8 : decode cX1_sumFromTable 8 = .ok (.iload 4, 2) := by decide +kernel
theorem dX1_sumFromTable_10 : decode cX1_sumFromTable 10 = .ok (.iconst 1, 1) := by decide +kernel
theorem dX1_sumFromTable_11 : decode cX1_sumFromTable 11 = .ok (.iadd, 1) := by decide +kernel
theorem dX1_sumFromTable_12 : decode cX1_sumFromTable 12 = .ok (.invokevirtual 58, 3) := by decide +kernel
theorem dX1_sumFromTable_15 : decode cX1_sumFromTable 15 = .ok (.aload_n 0, 1) := by decide +kernel
theorem dX1_sumFromTable_16 : decode cX1_sumFromTable 16 = .ok (.iload_n 1, 1) := by decide +kernel
theorem dX1_sumFromTable_17 : decode cX1_sumFromTable 17 = .ok (.iload 4, 2) := by decide +kernel
theorem dX1_sumFromTable_19 : decode cX1_sumFromTable 19 = .ok (.iconst 1, 1) := by decide +kernel
theorem dX1_sumFromTable_20 : decode cX1_sumFromTable 20 = .ok (.iadd, 1) := by decide +kernel
theorem dX1_sumFromTable_21 : decode cX1_sumFromTable 21 = .ok (.invokevirtual 58, 3) := by decide +kernel
theorem dX1_sumFromTable_24 : decode cX1_sumFromTable 24 = .ok (.isub, 1) := by decide +kernel
theorem dX1_sumFromTable_25 : decode cX1_sumFromTable 25 = .ok (.aload_n 0, 1) := by decide +kernel
theorem dX1_sumFromTable_26 : decode cX1_sumFromTable 26 = .ok (.iload_n 3, 1) := by decide +kernel
theorem dX1_sumFromTable_27 : decode cX1_sumFromTable 27 = .ok (.iconst 1, 1) := by decide +kernel
theorem dX1_sumFromTable_28 : decode cX1_sumFromTable 28 = .ok (.iadd, 1) := by decide +kernel
theorem dX1_sumFromTable_29 : decode cX1_sumFromTable 29 = .ok (.iload_n 2, 1) := by decide +kernel
theorem dX1_sumFromTable_30 : decode cX1_sumFromTable 30 = .ok (.invokevirtual 58, 3) := by decide +kernel
theorem dX1_sumFromTable_33 : decode cX1_sumFromTable 33 = .ok (.isub, 1) := by decide +kernel
theorem dX1_sumFromTable_34 : decode cX1_sumFromTable 34 = .ok (.aload_n 0, 1) := by decide +kernel
theorem dX1_sumFromTable_35 : decode cX1_sumFromTable 35 = .ok (.iload_n 1, 1) := by decide +kernel
theorem dX1_sumFromTable_36 : decode cX1_sumFromTable 36 = .ok (.iload_n 2, 1) := by decide +kernel
theorem dX1_sumFromTable_37 : decode cX1_sumFromTable 37 = .ok (.invokevirtual 58, 3) := by decide +kernel
theorem dX1_sumFromTable_40 : decode cX1_sumFromTable 40 = .ok (.iadd, 1) := by decide +kernel
theorem dX1_sumFromTable_41 : decode cX1_sumFromTable 41 = .ok (.ireturn, 1) := by decide +kernel
theorem dX1_fillTable_0 : decode cX1_fillTable 0 = .ok (.iconst 0, 1) := by decide +kernel
theorem dX1_fillTable_1 : decode cX1_fillTable 1 = .ok (.istore_n 1, 1) := by decide +kernel
theorem dX1_fillTable_2 : decode cX1_fillTable 2 = .ok (.iload_n 1, 1) := by decide +kernel
theorem dX1_fillTable_3 : decode cX1_fillTable 3 = .ok (.bipush 6, 2) := by decide +kernel
theorem dX1_fillTable_5 : decode cX1_fillTable 5 = .ok (.if_icmp .ge 83, 3) := by decide +kernel
theorem dX1_fillTable_8 : decode cX1_fillTable 8 = .ok (.iconst 0, 1) := by decide +kernel
theorem dX1_fillTable_9 : decode cX1_fillTable 9 = .ok (.istore_n 2, 1) := by decide +kernel
theorem dX1_fillTable_10 : decode cX1_fillTable 10 = .ok (.iload_n 2, 1) := by decide +kernel
theorem dX1_fillTable_11 : decode cX1_fillTable 11 = .ok (.bipush 8, 2) := by decide +kernel
theorem dX1_fillTable_13 : decode cX1_fillTable 13 = .ok (.if_icmp .ge 69, 3) := by decide +kernel
theorem dX1_fillTable_16 : decode cX1_fillTable 16 = .ok (.iload_n 1, 1) := by decide +kernel
theorem dX1_fillTable_17 : decode cX1_fillTable 17 = .ok (.iconst 1, 1) := by decide +kernel
theorem dX1_fillTable_18 : decode cX1_fillTable 18 = .ok (.iadd, 1) := by decide +kernel
theorem dX1_fillTable_19 : decode cX1_fillTable 19 = .ok (.bipush 9, 2) := by decide +kernel
theorem dX1_fillTable_21 : decode cX1_fillTable 21 = .ok (.imul, 1) := by decide +kernel
theorem dX1_fillTable_22 : decode cX1_fillTable 22 = .ok (.iload_n 2, 1) := by decide +kernel
theorem dX1_fillTable_23 : decode cX1_fillTable 23 = .ok (.iadd, 1) := by decide +kernel
theorem dX1_fillTable_24 : decode cX1_fillTable 24 = .ok (.iconst 1, 1) := by decide +kernel
theorem dX1_fillTable_25 : decode cX1_fillTable 25 = .ok (.iadd, 1) := by decide +kernel
theorem dX1_fillTable_26 : decode cX1_fillTable 26 = .ok (.istore_n 3, 1) := by decide +kernel
theorem dX1_fillTable_27 : decode cX1_fillTable 27 = .ok (.iload_n 3, 1) := by decide +kernel
theorem dX1_fillTable_28 : decode cX1_fillTable 28 = .ok (.aload_n 0, 1) := by decide +kernel
theorem dX1_fillTable_29 : decode cX1_fillTable 29 = .ok (.getfield 15, 3) := by decide +kernel
theorem dX1_fillTable_32 : decode cX1_fillTable 32 = .ok (.arraylength, 1) := by decide +kernel
theorem dX1_fillTable_33 : decode cX1_fillTable 33 = .ok (.if_icmp .ge 43, 3) := by decide +kernel
theorem dX1_fillTable_36 : decode cX1_fillTable 36 = .ok (.aload_n 0, 1) := by decide +kernel
theorem dX1_fillTable_37 : decode cX1_fillTable 37 = .ok (.getfield 15, 3) := by decide +kernel
theorem dX1_fillTable_40 : decode cX1_fillTable 40 = .ok (.iload_n 3, 1) := by decide +kernel
theorem dX1_fillTable_41 : decode cX1_fillTable 41 = .ok (.aload_n 0, 1) := by decide +kernel
theorem dX1_fillTable_42 : decode cX1_fillTable 42 = .ok (.iload_n 2, 1) := by decide +kernel
theorem dX1_fillTable_43 : decode cX1_fillTable 43 = .ok (.iload_n 1, 1) := by decide +kernel
theorem dX1_fillTable_44 : decode cX1_fillTable 44 = .ok (.invokestatic 45, 3) := by decide +kernel
theorem dX1_fillTable_47 : decode cX1_fillTable 47 = .ok (.invokevirtual 48, 3) := by decide +kernel
theorem dX1_fillTable_50 : decode cX1_fillTable 50 = .ok (.aload_n 0, 1) := by decide +kernel
theorem dX1_fillTable_51 : decode cX1_fillTable 51 = .ok (.iload_n 2, 1) := by decide +kernel
theorem dX1_fillTable_52 : decode cX1_fillTable 52 = .ok (.iload_n 1, 1) := by decide +kernel
theorem dX1_fillTable_53 : decode cX1_fillTable 53 = .ok (.iconst 1, 1) := by decide +kernel
theorem dX1_fillTable_54 : decode cX1_fillTable 54 = .ok (.iadd, 1) := by decide +kernel
theorem dX1_fillTable_55 : decode cX1_fillTable 55 = .ok (.invokevirtual 58, 3) := by decide +kernel
theorem dX1_fillTable_58 : decode cX1_fillTable 58 = .ok (.iadd, 1) := by decide +kernel
theorem dX1_fillTable_59 : decode cX1_fillTable 59 = .ok (.aload_n 0, 1) := by decide +kernel
theorem dX1_fillTable_60 : decode cX1_fillTable 60 = .ok (.iload_n 2, 1) := by decide +kernel
theorem dX1_fillTable_61 : decode cX1_fillTable 61 = .ok (.iconst 1, 1) := by decide +kernel
theorem dX1_fillTable_62 : decode cX1_fillTable 62 = .ok (.iadd, 1) := by decide +kernel
theorem dX1_fillTable_63 : decode cX1_fillTable 63 = .ok (.iload_n 1, 1) := by decide +kernel
theorem dX1_fillTable_64 : decode cX1_fillTable 64 = .ok (.invokevirtual 58, 3) := by decide +kernel
theorem dX1_fillTable_67 : decode cX1_fillTable 67 = .ok (.iadd, 1) := by decide +kernel
theorem dX1_fillTable_68 : decode cX1_fillTable 68 = .ok (.aload_n 0, 1) := by decide +kernel
theorem dX1_fillTable_69 : decode cX1_fillTable 69 = .ok (.iload_n 2, 1) := by decide +kernel
theorem dX1_fillTable_70 : decode cX1_fillTable 70 = .ok (.iload_n 1, 1) := by decide +kernel
theorem dX1_fillTable_71 : decode cX1_fillTable 71 = .ok (.invokevirtual 58, 3) := by decide +kernel
theorem dX1_fillTable_74 : decode cX1_fillTable 74 = .ok (.isub, 1) := by decide +kernel
theorem dX1_fillTable_75 : decode cX1_fillTable 75 = .ok (.iastore, 1) := by decide +kernel
theorem dX1_fillTable_76 : decode cX1_fillTable 76 = .ok (.iinc 2 1, 3) := by decide +kernel
theorem dX1_fillTable_79 : decode cX1_fillTable 79 = .ok (.goto (-69), 3) := by decide +kernel
theorem dX1_fillTable_82 : decode cX1_fillTable 82 = .ok (.iinc 1 1, 3) := by decide +kernel
theorem dX1_fillTable_85 : decode cX1_fillTable 85 = .ok (.goto (-83), 3) := by decide +kernel
theorem dX1_fillTable_88 : decode cX1_fillTable 88 = .ok (.return_, 1) := by decide +kernel
theorem dX1_sumBefore_0 : decode cX1_sumBefore 0 = .ok (.iload_n 2, 1) := by decide +kernel
theorem dX1_sumBefore_1 : decode cX1_sumBefore 1 = .ok (.bipush 9, 2) := by decide +kernel
theorem dX1_sumBefore_3 : decode cX1_sumBefore 3 = .ok (.imul, 1) := by decide +kernel
theorem dX1_sumBefore_4 : decode cX1_sumBefore 4 = .ok (.iload_n 1, 1) := by decide +kernel
theorem dX1_sumBefore_5 : decode cX1_sumBefore 5 = .ok (.iadd, 1) := by decide +kernel
theorem dX1_sumBefore_6 : decode cX1_sumBefore 6 = .ok (.istore_n 3, 1) := by decide +kernel
theorem dX1_sumBefore_7 : decode cX1_sumBefore 7 = .ok (.iload_n 3, 1) := by decide +kernel
theorem dX1_sumBefore_8 : decode cX1_sumBefore 8 = .ok (.ifCond .lt 21, 3) := by decide +kernel
theorem dX1_sumBefore_11 : decode cX1_sumBefore 11 = .ok (.iload_n 3, 1) := by decide +kernel
theorem dX1_sumBefore_12 : decode cX1_sumBefore 12 = .ok (.aload_n 0, 1) := by decide +kernel
theorem dX1_sumBefore_13 : decode cX1_sumBefore 13 = .ok (.getfield 15, 3) := by decide +kernel
theorem dX1_sumBefore_16 : decode cX1_sumBefore 16 = .ok (.arraylength, 1) := by decide +kernel
theorem dX1_sumBefore_17 : decode cX1_sumBefore 17 = .ok (.if_icmp .ge 12, 3) := by decide +kernel
theorem dX1_sumBefore_20 : decode cX1_sumBefore 20 = .ok (.aload_n 0, 1) := by decide +kernel
theorem dX1_sumBefore_21 : decode cX1_sumBefore 21 = .ok (.getfield 15, 3) := by decide +kernel
theorem dX1_sumBefore_24 : decode cX1_sumBefore 24 = .ok (.iload_n 3, 1) := by decide +kernel
theorem dX1_sumBefore_25 : decode cX1_sumBefore 25 = .ok (.iaload, 1) := by decide +kernel
theorem dX1_sumBefore_26 : decode cX1_sumBefore 26 = .ok (.goto 4, 3) := by decide +kernel
theorem dX1_sumBefore_29 : decode cX1_sumBefore 29 = .ok (.iconst 0, 1) := by decide +kernel
theorem dX1_sumBefore_30 : decode cX1_sumBefore 30 = .ok (.ireturn, 1) := by decide +kernel
theorem dX1_rowWithLeastSum_0 : decode cX1_rowWithLeastSum 0 = .ok (.iconst 0, 1) := by decide +kernel
theorem dX1_rowWithLeastSum_1 : decode cX1_rowWithLeastSum 1 = .ok (.istore_n 1, 1) := by decide +kernel
theorem dX1_rowWithLeastSum_2 : decode cX1_rowWithLeastSum 2 = .ok (.aload_n 0, 1) := by decide +kernel
theorem dX1_rowWithLeastSum_3 : decode cX1_rowWithLeastSum 3 = .ok (.iconst 0, 1) := by decide +kernel
theorem dX1_rowWithLeastSum_4 : decode cX1_rowWithLeastSum 4 = .ok (.iconst 0, 1) := by decide +kernel
theorem dX1_rowWithLeastSum_5 : decode cX1_rowWithLeastSum 5 = .ok (.bipush 7, 2) := by decide +kernel
theorem dX1_rowWithLeastSum_7 : decode cX1_rowWithLeastSum 7 = .ok (.iconst 0, 1) := by decide +kernel
theorem dX1_rowWithLeastSum_8 : decode cX1_rowWithLeastSum 8 = .ok (.invokevirtual 51, 3) := by decide +kernel
theorem dX1_rowWithLeastSum_11 : decode cX1_rowWithLeastSum 11 = .ok (.istore_n 2, 1) := by decide +kernel
theorem dX1_rowWithLeastSum_12 : decode cX1_rowWithLeastSum 12 = .ok (.iconst 1, 1) := by decide +kernel
theorem dX1_rowWithLeastSum_13 : decode cX1_rowWithLeastSum 13 = .ok (.istore_n 3, 1) := by decide +kernel
theorem dX1_rowWithLeastSum_14 : decode cX1_rowWithLeastSum 14 = .ok (.iload_n 3, 1) := by decide +kernel
theorem dX1_rowWithLeastSum_15 : decode cX1_rowWithLeastSum 15 = .ok (.bipush 6, 2) := by decide +kernel
theorem dX1_rowWithLeastSum_17 : decode cX1_rowWithLeastSum 17 = .ok (.if_icmp .ge 31, 3) := by decide +kernel
theorem dX1_rowWithLeastSum_20 : decode cX1_rowWithLeastSum 20 = .ok (.aload_n 0, 1) := by decide +kernel
theorem dX1_rowWithLeastSum_21 : decode cX1_rowWithLeastSum 21 = .ok (.iconst 0, 1) := by decide +kernel
theorem dX1_rowWithLeastSum_22 : decode cX1_rowWithLeastSum 22 = .ok (.iload_n 3, 1) := by decide +kernel
theorem dX1_rowWithLeastSum_23 : decode cX1_rowWithLeastSum 23 = .ok (.bipush 7, 2) := by decide +kernel
theorem dX1_rowWithLeastSum_25 : decode cX1_rowWithLeastSum 25 = .ok (.iload_n 3, 1) := by decide +kernel
theorem dX1_rowWithLeastSum_26 : decode cX1_rowWithLeastSum 26 = .ok (.invokevirtual 51, 3) := by decide +kernel
theorem dX1_rowWithLeastSum_29 : decode cX1_rowWithLeastSum 29 = .ok (.istore 4, 2) := by decide +kernel
theorem dX1_rowWithLeastSum_31 : decode cX1_rowWithLeastSum 31 = .ok (.iload 4, 2) := by decide +kernel
theorem dX1_rowWithLeastSum_33 : decode cX1_rowWithLeastSum 33 = .ok (.iload_n 2, 1) := by decide +kernel
theorem dX1_rowWithLeastSum_34 : decode cX1_rowWithLeastSum 34 = .ok (.if_icmp .ge 8, 3) := by decide +kernel
theorem dX1_rowWithLeastSum_37 : decode cX1_rowWithLeastSum 37 = .ok (.iload_n 3, 1) := by decide +kernel
theorem dX1_rowWithLeastSum_38 : decode cX1_rowWithLeastSum 38 = .ok (.istore_n 1, 1) := by decide +kernel
theorem dX1_rowWithLeastSum_39 : decode cX1_rowWithLeastSum 39 = .ok (.iload 4, 2) := by decide +kernel
theorem dX1_rowWithLeastSum_41 : decode cX1_rowWithLeastSum 41 = .ok (.istore_n 2, 1) := by decide +kernel
theorem dX1_rowWithLeastSum_42 : decode cX1_rowWithLeastSum 42 = .ok (.iinc 3 1, 3) := by decide +kernel
theorem dX1_rowWithLeastSum_45 : decode cX1_rowWithLeastSum 45 = .ok (.goto (-31), 3) := by decide +kernel
theorem dX1_rowWithLeastSum_48 : decode cX1_rowWithLeastSum 48 = .ok (.iload_n 1, 1) := by decide +kernel
theorem dX1_rowWithLeastSum_49 : decode cX1_rowWithLeastSum 49 = .ok (.ireturn, 1) := by decide +kernel
theorem dX1_equalsItsMirrorImage_0 : decode cX1_equalsItsMirrorImage 0 = .ok (.iconst 0, 1) := by decide +kernel
theorem dX1_equalsItsMirrorImage_1 : decode cX1_equalsItsMirrorImage 1 = .ok (.istore_n 1, 1) := by decide +kernel
theorem dX1_equalsItsMirrorImage_2 : decode cX1_equalsItsMirrorImage 2 = .ok (.iload_n 1, 1) := by decide +kernel
theorem dX1_equalsItsMirrorImage_3 : decode cX1_equalsItsMirrorImage 3 = .ok (.bipush 6, 2) := by decide +kernel
theorem dX1_equalsItsMirrorImage_5 : decode cX1_equalsItsMirrorImage 5 = .ok (.if_icmp .ge 48, 3) := by decide +kernel
theorem dX1_equalsItsMirrorImage_8 : decode cX1_equalsItsMirrorImage 8 = .ok (.iconst 0, 1) := by decide +kernel
theorem dX1_equalsItsMirrorImage_9 : decode cX1_equalsItsMirrorImage 9 = .ok (.istore_n 2, 1) := by decide +kernel
theorem dX1_equalsItsMirrorImage_10 : decode cX1_equalsItsMirrorImage 10 = .ok (.iload_n 2, 1) := by decide +kernel
theorem dX1_equalsItsMirrorImage_11 : decode cX1_equalsItsMirrorImage 11 = .ok (.iconst 4, 1) := by decide +kernel
theorem dX1_equalsItsMirrorImage_12 : decode cX1_equalsItsMirrorImage 12 = .ok (.if_icmp .ge 35, 3) := by decide +kernel
theorem dX1_equalsItsMirrorImage_15 : decode cX1_equalsItsMirrorImage 15 = .ok (.aload_n 0, 1) := by decide +kernel
theorem dX1_equalsItsMirrorImage_16 : decode cX1_equalsItsMirrorImage 16 = .ok (.iload_n 2, 1) := by decide +kernel
theorem dX1_equalsItsMirrorImage_17 : decode cX1_equalsItsMirrorImage 17 = .ok (.iload_n 1, 1) := by decide +kernel
theorem dX1_equalsItsMirrorImage_18 : decode cX1_equalsItsMirrorImage 18 = .ok (.invokestatic 45, 3) := by decide +kernel
theorem dX1_equalsItsMirrorImage_21 : decode cX1_equalsItsMirrorImage 21 = .ok (.invokevirtual 48, 3) := by decide +kernel
theorem dX1_equalsItsMirrorImage_24 : decode cX1_equalsItsMirrorImage 24 = .ok (.aload_n 0, 1) := by decide +kernel
theorem dX1_equalsItsMirrorImage_25 : decode cX1_equalsItsMirrorImage 25 = .ok (.bipush 7, 2) := by decide +kernel
theorem dX1_equalsItsMirrorImage_27 : decode cX1_equalsItsMirrorImage 27 = .ok (.iload_n 2, 1) := by decide +kernel
theorem dX1_equalsItsMirrorImage_28 : decode cX1_equalsItsMirrorImage 28 = .ok (.isub, 1) := by decide +kernel
theorem dX1_equalsItsMirrorImage_29 : decode cX1_equalsItsMirrorImage 29 = .ok (.iload_n 1, 1) := by decide +kernel
theorem dX1_equalsItsMirrorImage_30 : decode cX1_equalsItsMirrorImage 30 = .ok (.invokestatic 45, 3) := by decide +kernel
theorem dX1_equalsItsMirrorImage_33 : decode cX1_equalsItsMirrorImage 33 = .ok (.invokevirtual 48, 3) := by decide +kernel
theorem dX1_equalsItsMirrorImage_36 : decode cX1_equalsItsMirrorImage 36 = .ok (.if_icmp .eq 5, 3) := by decide +kernel
theorem dX1_equalsItsMirrorImage_39 : decode cX1_equalsItsMirrorImage 39 = .ok (.iconst 0, 1) := by decide +kernel
theorem dX1_equalsItsMirrorImage_40 : decode cX1_equalsItsMirrorImage 40 = .ok (.ireturn, 1) := by decide +kernel
theorem dX1_equalsItsMirrorImage_41 : decode cX1_equalsItsMirrorImage 41 = .ok (.iinc 2 1, 3) := by decide +kernel
theorem dX1_equalsItsMirrorImage_44 : decode cX1_equalsItsMirrorImage 44 = .ok (.goto (-34), 3) := by decide +kernel
theorem dX1_equalsItsMirrorImage_47 : decode cX1_equalsItsMirrorImage 47 = .ok (.iinc 1 1, 3) := by decide +kernel
theorem dX1_equalsItsMirrorImage_50 : decode cX1_equalsItsMirrorImage 50 = .ok (.goto (-48), 3) := by decide +kernel
theorem dX1_equalsItsMirrorImage_53 : decode cX1_equalsItsMirrorImage 53 = .ok (.iconst 1, 1) := by decide +kernel
theorem dX1_equalsItsMirrorImage_54 : decode cX1_equalsItsMirrorImage 54 = .ok (.ireturn, 1) := by decide +kernel
theorem dX1_sizeOfAreaAt_0 : decode cX1_sizeOfAreaAt 0 = .ok (.aload_n 0, 1) := by decide +kernel
theorem dX1_sizeOfAreaAt_1 : decode cX1_sizeOfAreaAt 1 = .ok (.invokevirtual 61, 3) := by decide +kernel
theorem dX1_sizeOfAreaAt_4 : decode cX1_sizeOfAreaAt 4 = .ok (.aload_n 0, 1) := by decide +kernel
theorem dX1_sizeOfAreaAt_5 : decode cX1_sizeOfAreaAt 5 = .ok (.iload_n 1, 1) := by decide +kernel
theorem dX1_sizeOfAreaAt_6 : decode cX1_sizeOfAreaAt 6 = .ok (.invokevirtual 64, 3) := by decide +kernel
theorem dX1_sizeOfAreaAt_9 : decode cX1_sizeOfAreaAt 9 = .ok (.ireturn, 1) := by decide +kernel
theorem dX1_countAreasByFilling_0 : decode cX1_countAreasByFilling 0 = .ok (.aload_n 0, 1) := by decide +kernel
theorem dX1_countAreasByFilling_1 : decode cX1_countAreasByFilling 1 = .ok (.invokevirtual 61, 3) := by decide +kernel
theorem dX1_countAreasByFilling_4 : decode cX1_countAreasByFilling 4 = .ok (.iconst 0, 1) := by decide +kernel
theorem dX1_countAreasByFilling_5 : decode cX1_countAreasByFilling 5 = .ok (.istore_n 1, 1) := by decide +kernel
theorem dX1_countAreasByFilling_6 : decode cX1_countAreasByFilling 6 = .ok (.iconst 0, 1) := by decide +kernel
theorem dX1_countAreasByFilling_7 : decode cX1_countAreasByFilling 7 = .ok (.istore_n 2, 1) := by decide +kernel
theorem dX1_countAreasByFilling_8 : decode cX1_countAreasByFilling 8 = .ok (.iload_n 2, 1) := by decide +kernel
theorem dX1_countAreasByFilling_9 : decode cX1_countAreasByFilling 9 = .ok (.bipush 48, 2) := by decide +kernel
theorem dX1_countAreasByFilling_11 : decode cX1_countAreasByFilling 11 = .ok (.if_icmp .ge 20, 3) := by decide +kernel
theorem dX1_countAreasByFilling_14 : decode cX1_countAreasByFilling 14 = .ok (.aload_n 0, 1) := by decide +kernel
theorem dX1_countAreasByFilling_15 : decode cX1_countAreasByFilling 15 = .ok (.iload_n 2, 1) := by decide +kernel
theorem dX1_countAreasByFilling_16 : decode cX1_countAreasByFilling 16 = .ok (.invokevirtual 64, 3) := by decide +kernel
theorem dX1_countAreasByFilling_19 : decode cX1_countAreasByFilling 19 = .ok (.ifCond .le 6, 3) := by decide +kernel
theorem dX1_countAreasByFilling_22 : decode cX1_countAreasByFilling 22 = .ok (.iinc 1 1, 3) := by decide +kernel
theorem dX1_countAreasByFilling_25 : decode cX1_countAreasByFilling 25 = .ok (.iinc 2 1, 3) := by decide +kernel
theorem dX1_countAreasByFilling_28 : decode cX1_countAreasByFilling 28 = .ok (.goto (-20), 3) := by decide +kernel
theorem dX1_countAreasByFilling_31 : decode cX1_countAreasByFilling 31 = .ok (.iload_n 1, 1) := by decide +kernel
theorem dX1_countAreasByFilling_32 : decode cX1_countAreasByFilling 32 = .ok (.ireturn, 1) := by decide +kernel
theorem dX1_sizeOfLargestArea_0 : decode cX1_sizeOfLargestArea 0 = .ok (.aload_n 0, 1) := by decide +kernel
theorem dX1_sizeOfLargestArea_1 : decode cX1_sizeOfLargestArea 1 = .ok (.invokevirtual 61, 3) := by decide +kernel
theorem dX1_sizeOfLargestArea_4 : decode cX1_sizeOfLargestArea 4 = .ok (.iconst 0, 1) := by decide +kernel
theorem dX1_sizeOfLargestArea_5 : decode cX1_sizeOfLargestArea 5 = .ok (.istore_n 1, 1) := by decide +kernel
theorem dX1_sizeOfLargestArea_6 : decode cX1_sizeOfLargestArea 6 = .ok (.iconst 0, 1) := by decide +kernel
theorem dX1_sizeOfLargestArea_7 : decode cX1_sizeOfLargestArea 7 = .ok (.istore_n 2, 1) := by decide +kernel
theorem dX1_sizeOfLargestArea_8 : decode cX1_sizeOfLargestArea 8 = .ok (.iload_n 2, 1) := by decide +kernel
theorem dX1_sizeOfLargestArea_9 : decode cX1_sizeOfLargestArea 9 = .ok (.bipush 48, 2) := by decide +kernel
theorem dX1_sizeOfLargestArea_11 : decode cX1_sizeOfLargestArea 11 = .ok (.if_icmp .ge 19, 3) := by decide +kernel
theorem dX1_sizeOfLargestArea_14 : decode cX1_sizeOfLargestArea 14 = .ok (.iload_n 1, 1) := by decide +kernel
theorem dX1_sizeOfLargestArea_15 : decode cX1_sizeOfLargestArea 15 = .ok (.aload_n 0, 1) := by decide +kernel
theorem dX1_sizeOfLargestArea_16 : decode cX1_sizeOfLargestArea 16 = .ok (.iload_n 2, 1) := by decide +kernel
theorem dX1_sizeOfLargestArea_17 : decode cX1_sizeOfLargestArea 17 = .ok (.invokevirtual 64, 3) := by decide +kernel
theorem dX1_sizeOfLargestArea_20 : decode cX1_sizeOfLargestArea 20 = .ok (.invokestatic 67, 3) := by decide +kernel
theorem dX1_sizeOfLargestArea_23 : decode cX1_sizeOfLargestArea 23 = .ok (.istore_n 1, 1) := by decide +kernel
theorem dX1_sizeOfLargestArea_24 : decode cX1_sizeOfLargestArea 24 = .ok (.iinc 2 1, 3) := by decide +kernel
theorem dX1_sizeOfLargestArea_27 : decode cX1_sizeOfLargestArea 27 = .ok (.goto (-19), 3) := by decide +kernel
theorem dX1_sizeOfLargestArea_30 : decode cX1_sizeOfLargestArea 30 = .ok (.iload_n 1, 1) := by decide +kernel
theorem dX1_sizeOfLargestArea_31 : decode cX1_sizeOfLargestArea 31 = .ok (.ireturn, 1) := by decide +kernel
theorem dX1_reachNothing_0 : decode cX1_reachNothing 0 = .ok (.iconst 0, 1) := by decide +kernel
theorem dX1_reachNothing_1 : decode cX1_reachNothing 1 = .ok (.istore_n 1, 1) := by decide +kernel
theorem dX1_reachNothing_2 : decode cX1_reachNothing 2 = .ok (.iload_n 1, 1) := by decide +kernel
theorem dX1_reachNothing_3 : decode cX1_reachNothing 3 = .ok (.aload_n 0, 1) := by decide +kernel
theorem dX1_reachNothing_4 : decode cX1_reachNothing 4 = .ok (.getfield 18, 3) := by decide +kernel
theorem dX1_reachNothing_7 : decode cX1_reachNothing 7 = .ok (.arraylength, 1) := by decide +kernel
theorem dX1_reachNothing_8 : decode cX1_reachNothing 8 = .ok (.if_icmp .ge 16, 3) := by decide +kernel
theorem dX1_reachNothing_11 : decode cX1_reachNothing 11 = .ok (.aload_n 0, 1) := by decide +kernel
theorem dX1_reachNothing_12 : decode cX1_reachNothing 12 = .ok (.getfield 18, 3) := by decide +kernel
theorem dX1_reachNothing_15 : decode cX1_reachNothing 15 = .ok (.iload_n 1, 1) := by decide +kernel
theorem dX1_reachNothing_16 : decode cX1_reachNothing 16 = .ok (.iconst 0, 1) := by decide +kernel
theorem dX1_reachNothing_17 : decode cX1_reachNothing 17 = .ok (.bastore, 1) := by decide +kernel
theorem dX1_reachNothing_18 : decode cX1_reachNothing 18 = .ok (.iinc 1 1, 3) := by decide +kernel
theorem dX1_reachNothing_21 : decode cX1_reachNothing 21 = .ok (.goto (-19), 3) := by decide +kernel
theorem dX1_reachNothing_24 : decode cX1_reachNothing 24 = .ok (.return_, 1) := by decide +kernel
theorem dX1_fillAreaAt_0 : decode cX1_fillAreaAt 0 = .ok (.aload_n 0, 1) := by decide +kernel
theorem dX1_fillAreaAt_1 : decode cX1_fillAreaAt 1 = .ok (.iload_n 1, 1) := by decide +kernel
theorem dX1_fillAreaAt_2 : decode cX1_fillAreaAt 2 = .ok (.invokevirtual 48, 3) := by decide +kernel
theorem dX1_fillAreaAt_5 : decode cX1_fillAreaAt 5 = .ok (.istore_n 2, 1) := by decide +kernel
theorem dX1_fillAreaAt_6 : decode cX1_fillAreaAt 6 = .ok (.aload_n 0, 1) := by decide +kernel
theorem dX1_fillAreaAt_7 : decode cX1_fillAreaAt 7 = .ok (.iconst 0, 1) := by decide +kernel
theorem dX1_fillAreaAt_8 : decode cX1_fillAreaAt 8 = .ok (.putfield 25, 3) := by decide +kernel
theorem dX1_fillAreaAt_11 : decode cX1_fillAreaAt 11 = .ok (.aload_n 0, 1) := by decide +kernel
theorem dX1_fillAreaAt_12 : decode cX1_fillAreaAt 12 = .ok (.iload_n 1, 1) := by decide +kernel
theorem dX1_fillAreaAt_13 : decode cX1_fillAreaAt 13 = .ok (.iload_n 2, 1) := by decide +kernel
theorem dX1_fillAreaAt_14 : decode cX1_fillAreaAt 14 = .ok (.invokevirtual 72, 3) := by decide +kernel
theorem dX1_fillAreaAt_17 : decode cX1_fillAreaAt 17 = .ok (.iconst 0, 1) := by decide +kernel
theorem dX1_fillAreaAt_18 : decode cX1_fillAreaAt 18 = .ok (.istore_n 3, 1) := by decide +kernel
theorem dX1_fillAreaAt_19 : decode cX1_fillAreaAt 19 = .ok (.iload_n 3, 1) := by decide +kernel
theorem dX1_fillAreaAt_20 : decode cX1_fillAreaAt 20 = .ok (.aload_n 0, 1) := by decide +kernel
theorem dX1_fillAreaAt_21 : decode cX1_fillAreaAt 21 = .ok (.getfield 25, 3) := by decide +kernel
theorem dX1_fillAreaAt_24 : decode cX1_fillAreaAt 24 = .ok (.if_icmp .ge 83, 3) := by decide +kernel
theorem dX1_fillAreaAt_27 : decode cX1_fillAreaAt 27 = .ok (.iload_n 3, 1) := by decide +kernel
theorem dX1_fillAreaAt_28 : decode cX1_fillAreaAt 28 = .ok (.aload_n 0, 1) := by decide +kernel
theorem dX1_fillAreaAt_29 : decode cX1_fillAreaAt 29 = .ok (.getfield 22, 3) := by decide +kernel
theorem dX1_fillAreaAt_32 : decode cX1_fillAreaAt 32 = .ok (.arraylength, 1) := by decide +kernel
theorem dX1_fillAreaAt_33 : decode cX1_fillAreaAt 33 = .ok (.if_icmp .ge 74, 3) := by decide +kernel
theorem dX1_fillAreaAt_36 : decode cX1_fillAreaAt 36 = .ok (.aload_n 0, 1) := by decide +kernel
theorem dX1_fillAreaAt_37 : decode cX1_fillAreaAt 37 = .ok (.getfield 22, 3) := by decide +kernel
theorem dX1_fillAreaAt_40 : decode cX1_fillAreaAt 40 = .ok (.iload_n 3, 1) := by decide +kernel
theorem dX1_fillAreaAt_41 : decode cX1_fillAreaAt 41 = .ok (.iaload, 1) := by decide +kernel
theorem dX1_fillAreaAt_42 : decode cX1_fillAreaAt 42 = .ok (.istore 4, 2) := by decide +kernel
theorem dX1_fillAreaAt_44 : decode cX1_fillAreaAt 44 = .ok (.iload 4, 2) := by decide +kernel
theorem dX1_fillAreaAt_46 : decode cX1_fillAreaAt 46 = .ok (.bipush 8, 2) := by decide +kernel
theorem dX1_fillAreaAt_48 : decode cX1_fillAreaAt 48 = .ok (.irem, 1) := by decide +kernel
theorem dX1_fillAreaAt_49 : decode cX1_fillAreaAt 49 = .ok (.istore 5, 2) := by decide +kernel
theorem dX1_fillAreaAt_51 : decode cX1_fillAreaAt 51 = .ok (.iload 5, 2) := by decide +kernel
theorem dX1_fillAreaAt_53 : decode cX1_fillAreaAt 53 = .ok (.ifCond .le 12, 3) := by decide +kernel
theorem dX1_fillAreaAt_56 : decode cX1_fillAreaAt 56 = .ok (.aload_n 0, 1) := by decide +kernel
theorem dX1_fillAreaAt_57 : decode cX1_fillAreaAt 57 = .ok (.iload 4, 2) := by decide +kernel
theorem dX1_fillAreaAt_59 : decode cX1_fillAreaAt 59 = .ok (.iconst 1, 1) := by decide +kernel
theorem dX1_fillAreaAt_60 : decode cX1_fillAreaAt 60 = .ok (.isub, 1) := by decide +kernel
theorem dX1_fillAreaAt_61 : decode cX1_fillAreaAt 61 = .ok (.iload_n 2, 1) := by decide +kernel
theorem dX1_fillAreaAt_62 : decode cX1_fillAreaAt 62 = .ok (.invokevirtual 72, 3) := by decide +kernel
theorem dX1_fillAreaAt_65 : decode cX1_fillAreaAt 65 = .ok (.iload 5, 2) := by decide +kernel
theorem dX1_fillAreaAt_67 : decode cX1_fillAreaAt 67 = .ok (.bipush 7, 2) := by decide +kernel
theorem dX1_fillAreaAt_69 : decode cX1_fillAreaAt 69 = .ok (.if_icmp .ge 12, 3) := by decide +kernel
theorem dX1_fillAreaAt_72 : decode cX1_fillAreaAt 72 = .ok (.aload_n 0, 1) := by decide +kernel
theorem dX1_fillAreaAt_73 : decode cX1_fillAreaAt 73 = .ok (.iload 4, 2) := by decide +kernel
theorem dX1_fillAreaAt_75 : decode cX1_fillAreaAt 75 = .ok (.iconst 1, 1) := by decide +kernel
theorem dX1_fillAreaAt_76 : decode cX1_fillAreaAt 76 = .ok (.iadd, 1) := by decide +kernel
theorem dX1_fillAreaAt_77 : decode cX1_fillAreaAt 77 = .ok (.iload_n 2, 1) := by decide +kernel
theorem dX1_fillAreaAt_78 : decode cX1_fillAreaAt 78 = .ok (.invokevirtual 72, 3) := by decide +kernel
theorem dX1_fillAreaAt_81 : decode cX1_fillAreaAt 81 = .ok (.aload_n 0, 1) := by decide +kernel
theorem dX1_fillAreaAt_82 : decode cX1_fillAreaAt 82 = .ok (.iload 4, 2) := by decide +kernel
theorem dX1_fillAreaAt_84 : decode cX1_fillAreaAt 84 = .ok (.bipush 8, 2) := by decide +kernel
theorem dX1_fillAreaAt_86 : decode cX1_fillAreaAt 86 = .ok (.isub, 1) := by decide +kernel
theorem dX1_fillAreaAt_87 : decode cX1_fillAreaAt 87 = .ok (.iload_n 2, 1) := by decide +kernel
theorem dX1_fillAreaAt_88 : decode cX1_fillAreaAt 88 = .ok (.invokevirtual 72, 3) := by decide +kernel
theorem dX1_fillAreaAt_91 : decode cX1_fillAreaAt 91 = .ok (.aload_n 0, 1) := by decide +kernel
theorem dX1_fillAreaAt_92 : decode cX1_fillAreaAt 92 = .ok (.iload 4, 2) := by decide +kernel
theorem dX1_fillAreaAt_94 : decode cX1_fillAreaAt 94 = .ok (.bipush 8, 2) := by decide +kernel
theorem dX1_fillAreaAt_96 : decode cX1_fillAreaAt 96 = .ok (.iadd, 1) := by decide +kernel
theorem dX1_fillAreaAt_97 : decode cX1_fillAreaAt 97 = .ok (.iload_n 2, 1) := by decide +kernel
theorem dX1_fillAreaAt_98 : decode cX1_fillAreaAt 98 = .ok (.invokevirtual 72, 3) := by decide +kernel
theorem dX1_fillAreaAt_101 : decode cX1_fillAreaAt 101 = .ok (.iinc 3 1, 3) := by decide +kernel
theorem dX1_fillAreaAt_104 : decode cX1_fillAreaAt 104 = .ok (.goto (-85), 3) := by decide +kernel
theorem dX1_fillAreaAt_107 : decode cX1_fillAreaAt 107 = .ok (.aload_n 0, 1) := by decide +kernel
theorem dX1_fillAreaAt_108 : decode cX1_fillAreaAt 108 = .ok (.getfield 25, 3) := by decide +kernel
theorem dX1_fillAreaAt_111 : decode cX1_fillAreaAt 111 = .ok (.ireturn, 1) := by decide +kernel
theorem dX1_reach_0 : decode cX1_reach 0 = .ok (.iload_n 1, 1) := by decide +kernel
theorem dX1_reach_1 : decode cX1_reach 1 = .ok (.ifCond .lt 31, 3) := by decide +kernel
theorem dX1_reach_4 : decode cX1_reach 4 = .ok (.iload_n 1, 1) := by decide +kernel
theorem dX1_reach_5 : decode cX1_reach 5 = .ok (.aload_n 0, 1) := by decide +kernel
theorem dX1_reach_6 : decode cX1_reach 6 = .ok (.getfield 18, 3) := by decide +kernel
theorem dX1_reach_9 : decode cX1_reach 9 = .ok (.arraylength, 1) := by decide +kernel
theorem dX1_reach_10 : decode cX1_reach 10 = .ok (.if_icmp .ge 22, 3) := by decide +kernel
theorem dX1_reach_13 : decode cX1_reach 13 = .ok (.aload_n 0, 1) := by decide +kernel
theorem dX1_reach_14 : decode cX1_reach 14 = .ok (.getfield 25, 3) := by decide +kernel
theorem dX1_reach_17 : decode cX1_reach 17 = .ok (.ifCond .lt 15, 3) := by decide +kernel
theorem dX1_reach_20 : decode cX1_reach 20 = .ok (.aload_n 0, 1) := by decide +kernel
theorem dX1_reach_21 : decode cX1_reach 21 = .ok (.getfield 25, 3) := by decide +kernel
theorem dX1_reach_24 : decode cX1_reach 24 = .ok (.aload_n 0, 1) := by decide +kernel
theorem dX1_reach_25 : decode cX1_reach 25 = .ok (.getfield 22, 3) := by decide +kernel
theorem dX1_reach_28 : decode cX1_reach 28 = .ok (.arraylength, 1) := by decide +kernel
theorem dX1_reach_29 : decode cX1_reach 29 = .ok (.if_icmp .lt 4, 3) := by decide +kernel
theorem dX1_reach_32 : decode cX1_reach 32 = .ok (.return_, 1) := by decide +kernel
theorem dX1_reach_33 : decode cX1_reach 33 = .ok (.aload_n 0, 1) := by decide +kernel
theorem dX1_reach_34 : decode cX1_reach 34 = .ok (.getfield 18, 3) := by decide +kernel
theorem dX1_reach_37 : decode cX1_reach 37 = .ok (.iload_n 1, 1) := by decide +kernel
theorem dX1_reach_38 : decode cX1_reach 38 = .ok (.baload, 1) := by decide +kernel
theorem dX1_reach_39 : decode cX1_reach 39 = .ok (.ifCond .ne 39, 3) := by decide +kernel
theorem dX1_reach_42 : decode cX1_reach 42 = .ok (.aload_n 0, 1) := by decide +kernel
theorem dX1_reach_43 : decode cX1_reach 43 = .ok (.iload_n 1, 1) := by decide +kernel
theorem dX1_reach_44 : decode cX1_reach 44 = .ok (.invokevirtual 48, 3) := by decide +kernel
theorem dX1_reach_47 : decode cX1_reach 47 = .ok (.iload_n 2, 1) := by decide +kernel
theorem dX1_reach_48 : decode cX1_reach 48 = .ok (.if_icmp .ne 30, 3) := by decide +kernel
theorem dX1_reach_51 : decode cX1_reach 51 = .ok (.aload_n 0, 1) := by decide +kernel
theorem dX1_reach_52 : decode cX1_reach 52 = .ok (.getfield 18, 3) := by decide +kernel
theorem dX1_reach_55 : decode cX1_reach 55 = .ok (.iload_n 1, 1) := by decide +kernel
theorem dX1_reach_56 : decode cX1_reach 56 = .ok (.iconst 1, 1) := by decide +kernel
theorem dX1_reach_57 : decode cX1_reach 57 = .ok (.bastore, 1) := by decide +kernel
theorem dX1_reach_58 : decode cX1_reach 58 = .ok (.aload_n 0, 1) := by decide +kernel
theorem dX1_reach_59 : decode cX1_reach 59 = .ok (.getfield 22, 3) := by decide +kernel
theorem dX1_reach_62 : decode cX1_reach 62 = .ok (.aload_n 0, 1) := by decide +kernel
theorem dX1_reach_63 : decode cX1_reach 63 = .ok (.getfield 25, 3) := by decide +kernel
theorem dX1_reach_66 : decode cX1_reach 66 = .ok (.iload_n 1, 1) := by decide +kernel
theorem dX1_reach_67 : decode cX1_reach 67 = .ok (.iastore, 1) := by decide +kernel
theorem dX1_reach_68 : decode cX1_reach 68 = .ok (.aload_n 0, 1) := by decide +kernel
theorem dX1_reach_69 : decode cX1_reach 69 = .ok (.dup, 1) := by decide +kernel
theorem dX1_reach_70 : decode cX1_reach 70 = .ok (.getfield 25, 3) := by decide +kernel
theorem dX1_reach_73 : decode cX1_reach 73 = .ok (.iconst 1, 1) := by decide +kernel
theorem dX1_reach_74 : decode cX1_reach 74 = .ok (.iadd, 1) := by decide +kernel
theorem dX1_reach_75 : decode cX1_reach 75 = .ok (.putfield 25, 3) := by decide +kernel
theorem dX1_reach_78 : decode cX1_reach 78 = .ok (.return_, 1) := by decide +kernel
theorem dX1_countAreasByJoining_0 : decode cX1_countAreasByJoining 0 = .ok (.iconst 0, 1) := by decide +kernel
theorem dX1_countAreasByJoining_1 : decode cX1_countAreasByJoining 1 = .ok (.istore_n 1, 1) := by decide +kernel
theorem dX1_countAreasByJoining_2 : decode cX1_countAreasByJoining 2 = .ok (.iload_n 1, 1) := by decide +kernel
theorem dX1_countAreasByJoining_3 : decode cX1_countAreasByJoining 3 = .ok (.aload_n 0, 1) := by decide +kernel
theorem dX1_countAreasByJoining_4 : decode cX1_countAreasByJoining 4 = .ok (.getfield 29, 3) := by decide +kernel
theorem dX1_countAreasByJoining_7 : decode cX1_countAreasByJoining 7 = .ok (.arraylength, 1) := by decide +kernel
theorem dX1_countAreasByJoining_8 : decode cX1_countAreasByJoining 8 = .ok (.if_icmp .ge 16, 3) := by decide +kernel
theorem dX1_countAreasByJoining_11 : decode cX1_countAreasByJoining 11 = .ok (.aload_n 0, 1) := by decide +kernel
theorem dX1_countAreasByJoining_12 : decode cX1_countAreasByJoining 12 = .ok (.getfield 29, 3) := by decide +kernel
theorem dX1_countAreasByJoining_15 : decode cX1_countAreasByJoining 15 = .ok (.iload_n 1, 1) := by decide +kernel
theorem dX1_countAreasByJoining_16 : decode cX1_countAreasByJoining 16 = .ok (.iload_n 1, 1) := by decide +kernel
theorem dX1_countAreasByJoining_17 : decode cX1_countAreasByJoining 17 = .ok (.iastore, 1) := by decide +kernel
theorem dX1_countAreasByJoining_18 : decode cX1_countAreasByJoining 18 = .ok (.iinc 1 1, 3) := by decide +kernel
theorem dX1_countAreasByJoining_21 : decode cX1_countAreasByJoining 21 = .ok (.goto (-19), 3) := by decide +kernel
theorem dX1_countAreasByJoining_24 : decode cX1_countAreasByJoining 24 = .ok (.bipush 48, 2) := by decide +kernel
theorem dX1_countAreasByJoining_26 : decode cX1_countAreasByJoining 26 = .ok (.istore_n 1, 1) := by decide +kernel
theorem dX1_countAreasByJoining_27 : decode cX1_countAreasByJoining 27 = .ok (.iconst 0, 1) := by decide +kernel
theorem dX1_countAreasByJoining_28 : decode cX1_countAreasByJoining 28 = .ok (.istore_n 2, 1) := by decide +kernel
theorem dX1_countAreasByJoining_29 : decode cX1_countAreasByJoining 29 = .ok (.iload_n 2, 1) := by decide +kernel
theorem dX1_countAreasByJoining_30 : decode cX1_countAreasByJoining 30 = .ok (.bipush 48, 2) := by decide +kernel
theorem dX1_countAreasByJoining_32 : decode cX1_countAreasByJoining 32 = .ok (.if_icmp .ge 51, 3) := by decide +kernel
theorem dX1_countAreasByJoining_35 : decode cX1_countAreasByJoining 35 = .ok (.iload_n 2, 1) := by decide +kernel
theorem dX1_countAreasByJoining_36 : decode cX1_countAreasByJoining 36 = .ok (.bipush 8, 2) := by decide +kernel
theorem dX1_countAreasByJoining_38 : decode cX1_countAreasByJoining 38 = .ok (.irem, 1) := by decide +kernel
theorem dX1_countAreasByJoining_39 : decode cX1_countAreasByJoining 39 = .ok (.ifCond .le 17, 3) := by decide +kernel
theorem dX1_countAreasByJoining_42 : decode cX1_countAreasByJoining 42 = .ok (.aload_n 0, 1) := by decide +kernel
theorem dX1_countAreasByJoining_43 : decode cX1_countAreasByJoining 43 = .ok (.iload_n 2, 1) := by decide +kernel
theorem dX1_countAreasByJoining_44 : decode cX1_countAreasByJoining 44 = .ok (.iload_n 2, 1) := by decide +kernel
theorem dX1_countAreasByJoining_45 : decode cX1_countAreasByJoining 45 = .ok (.iconst 1, 1) := by decide +kernel
theorem dX1_countAreasByJoining_46 : decode cX1_countAreasByJoining 46 = .ok (.isub, 1) := by decide +kernel
theorem dX1_countAreasByJoining_47 : decode cX1_countAreasByJoining 47 = .ok (.invokevirtual 76, 3) := by decide +kernel
theorem dX1_countAreasByJoining_50 : decode cX1_countAreasByJoining 50 = .ok (.ifCond .eq 6, 3) := by decide +kernel
theorem dX1_countAreasByJoining_53 : decode cX1_countAreasByJoining 53 = .ok (.iinc 1 (-1), 3) := by decide +kernel
theorem dX1_countAreasByJoining_56 : decode cX1_countAreasByJoining 56 = .ok (.iload_n 2, 1) := by decide +kernel
theorem dX1_countAreasByJoining_57 : decode cX1_countAreasByJoining 57 = .ok (.bipush 8, 2) := by decide +kernel
theorem dX1_countAreasByJoining_59 : decode cX1_countAreasByJoining 59 = .ok (.if_icmp .lt 18, 3) := by decide +kernel
theorem dX1_countAreasByJoining_62 : decode cX1_countAreasByJoining 62 = .ok (.aload_n 0, 1) := by decide +kernel
theorem dX1_countAreasByJoining_63 : decode cX1_countAreasByJoining 63 = .ok (.iload_n 2, 1) := by decide +kernel
theorem dX1_countAreasByJoining_64 : decode cX1_countAreasByJoining 64 = .ok (.iload_n 2, 1) := by decide +kernel
theorem dX1_countAreasByJoining_65 : decode cX1_countAreasByJoining 65 = .ok (.bipush 8, 2) := by decide +kernel
theorem dX1_countAreasByJoining_67 : decode cX1_countAreasByJoining 67 = .ok (.isub, 1) := by decide +kernel
theorem dX1_countAreasByJoining_68 : decode cX1_countAreasByJoining 68 = .ok (.invokevirtual 76, 3) := by decide +kernel
theorem dX1_countAreasByJoining_71 : decode cX1_countAreasByJoining 71 = .ok (.ifCond .eq 6, 3) := by decide +kernel
theorem dX1_countAreasByJoining_74 : decode cX1_countAreasByJoining 74 = .ok (.iinc 1 (-1), 3) := by decide +kernel
theorem dX1_countAreasByJoining_77 : decode cX1_countAreasByJoining 77 = .ok (.iinc 2 1, 3) := by decide +kernel
theorem dX1_countAreasByJoining_80 : decode cX1_countAreasByJoining 80 = .ok (.goto (-51), 3) := by decide +kernel
theorem dX1_countAreasByJoining_83 : decode cX1_countAreasByJoining 83 = .ok (.iload_n 1, 1) := by decide +kernel
theorem dX1_countAreasByJoining_84 : decode cX1_countAreasByJoining 84 = .ok (.ireturn, 1) := by decide +kernel
theorem dX1_joins_0 : decode cX1_joins 0 = .ok (.aload_n 0, 1) := by decide +kernel
theorem dX1_joins_1 : decode cX1_joins 1 = .ok (.iload_n 1, 1) := by decide +kernel
theorem dX1_joins_2 : decode cX1_joins 2 = .ok (.invokevirtual 48, 3) := by decide +kernel
theorem dX1_joins_5 : decode cX1_joins 5 = .ok (.aload_n 0, 1) := by decide +kernel
theorem dX1_joins_6 : decode cX1_joins 6 = .ok (.iload_n 2, 1) := by decide +kernel
theorem dX1_joins_7 : decode cX1_joins 7 = .ok (.invokevirtual 48, 3) := by decide +kernel
theorem dX1_joins_10 : decode cX1_joins 10 = .ok (.if_icmp .eq 5, 3) := by decide +kernel
theorem dX1_joins_13 : decode cX1_joins 13 = .ok (.iconst 0, 1) := by decide +kernel
theorem dX1_joins_14 : decode cX1_joins 14 = .ok (.ireturn, 1) := by decide +kernel
theorem dX1_joins_15 : decode cX1_joins 15 = .ok (.aload_n 0, 1) := by decide +kernel
theorem dX1_joins_16 : decode cX1_joins 16 = .ok (.iload_n 1, 1) := by decide +kernel
theorem dX1_joins_17 : decode cX1_joins 17 = .ok (.invokevirtual 80, 3) := by decide +kernel
theorem dX1_joins_20 : decode cX1_joins 20 = .ok (.istore_n 3, 1) := by decide +kernel
theorem dX1_joins_21 : decode cX1_joins 21 = .ok (.aload_n 0, 1) := by decide +kernel
theorem dX1_joins_22 : decode cX1_joins 22 = .ok (.iload_n 2, 1) := by decide +kernel
theorem dX1_joins_23 : decode cX1_joins 23 = .ok (.invokevirtual 80, 3) := by decide +kernel
theorem dX1_joins_26 : decode cX1_joins 26 = .ok (.istore 4, 2) := by decide +kernel
theorem dX1_joins_28 : decode cX1_joins 28 = .ok (.iload_n 3, 1) := by decide +kernel
theorem dX1_joins_29 : decode cX1_joins 29 = .ok (.iload 4, 2) := by decide +kernel
theorem dX1_joins_31 : decode cX1_joins 31 = .ok (.if_icmp .eq 16, 3) := by decide +kernel
theorem dX1_joins_34 : decode cX1_joins 34 = .ok (.iload_n 3, 1) := by decide +kernel
theorem dX1_joins_35 : decode cX1_joins 35 = .ok (.ifCond .lt 12, 3) := by decide +kernel
theorem dX1_joins_38 : decode cX1_joins 38 = .ok (.iload_n 3, 1) := by decide +kernel
theorem dX1_joins_39 : decode cX1_joins 39 = .ok (.aload_n 0, 1) := by decide +kernel
theorem dX1_joins_40 : decode cX1_joins 40 = .ok (.getfield 29, 3) := by decide +kernel
theorem dX1_joins_43 : decode cX1_joins 43 = .ok (.arraylength, 1) := by decide +kernel
theorem dX1_joins_44 : decode cX1_joins 44 = .ok (.if_icmp .lt 5, 3) := by decide +kernel
theorem dX1_joins_47 : decode cX1_joins 47 = .ok (.iconst 0, 1) := by decide +kernel
theorem dX1_joins_48 : decode cX1_joins 48 = .ok (.ireturn, 1) := by decide +kernel
theorem dX1_joins_49 : decode cX1_joins 49 = .ok (.aload_n 0, 1) := by decide +kernel
theorem dX1_joins_50 : decode cX1_joins 50 = .ok (.getfield 29, 3) := by decide +kernel
theorem dX1_joins_53 : decode cX1_joins 53 = .ok (.iload_n 3, 1) := by decide +kernel
theorem dX1_joins_54 : decode cX1_joins 54 = .ok (.iload 4, 2) := by decide +kernel
theorem dX1_joins_56 : decode cX1_joins 56 = .ok (.iastore, 1) := by decide +kernel
theorem dX1_joins_57 : decode cX1_joins 57 = .ok (.iconst 1, 1) := by decide +kernel
theorem dX1_joins_58 : decode cX1_joins 58 = .ok (.ireturn, 1) := by decide +kernel
theorem dX1_rootOf_0 : decode cX1_rootOf 0 = .ok (.iload_n 1, 1) := by decide +kernel
theorem dX1_rootOf_1 : decode cX1_rootOf 1 = .ok (.istore_n 2, 1) := by decide +kernel
theorem dX1_rootOf_2 : decode cX1_rootOf 2 = .ok (.iconst 0, 1) := by decide +kernel
theorem dX1_rootOf_3 : decode cX1_rootOf 3 = .ok (.istore_n 3, 1) := by decide +kernel
theorem dX1_rootOf_4 : decode cX1_rootOf 4 = .ok (.iload_n 3, 1) := by decide +kernel
theorem dX1_rootOf_5 : decode cX1_rootOf 5 = .ok (.bipush 48, 2) := by decide +kernel
theorem dX1_rootOf_7 : decode cX1_rootOf 7 = .ok (.if_icmp .ge 41, 3) := by decide +kernel
theorem dX1_rootOf_10 : decode cX1_rootOf 10 = .ok (.iload_n 2, 1) := by decide +kernel
theorem dX1_rootOf_11 : decode cX1_rootOf 11 = .ok (.ifCond .lt 37, 3) := by decide +kernel
theorem dX1_rootOf_14 : decode cX1_rootOf 14 = .ok (.iload_n 2, 1) := by decide +kernel
theorem dX1_rootOf_15 : decode cX1_rootOf 15 = .ok (.aload_n 0, 1) := by decide +kernel
theorem dX1_rootOf_16 : decode cX1_rootOf 16 = .ok (.getfield 29, 3) := by decide +kernel
theorem dX1_rootOf_19 : decode cX1_rootOf 19 = .ok (.arraylength, 1) := by decide +kernel
theorem dX1_rootOf_20 : decode cX1_rootOf 20 = .ok (.if_icmp .ge 28, 3) := by decide +kernel
theorem dX1_rootOf_23 : decode cX1_rootOf 23 = .ok (.aload_n 0, 1) := by decide +kernel
theorem dX1_rootOf_24 : decode cX1_rootOf 24 = .ok (.getfield 29, 3) := by decide +kernel
theorem dX1_rootOf_27 : decode cX1_rootOf 27 = .ok (.iload_n 2, 1) := by decide +kernel
theorem dX1_rootOf_28 : decode cX1_rootOf 28 = .ok (.iaload, 1) := by decide +kernel
theorem dX1_rootOf_29 : decode cX1_rootOf 29 = .ok (.iload_n 2, 1) := by decide +kernel
theorem dX1_rootOf_30 : decode cX1_rootOf 30 = .ok (.if_icmp .ne 5, 3) := by decide +kernel
theorem dX1_rootOf_33 : decode cX1_rootOf 33 = .ok (.iload_n 2, 1) := by decide +kernel
theorem dX1_rootOf_34 : decode cX1_rootOf 34 = .ok (.ireturn, 1) := by decide +kernel
theorem dX1_rootOf_35 : decode cX1_rootOf 35 = .ok (.aload_n 0, 1) := by decide +kernel
theorem dX1_rootOf_36 : decode cX1_rootOf 36 = .ok (.getfield 29, 3) := by decide +kernel
theorem dX1_rootOf_39 : decode cX1_rootOf 39 = .ok (.iload_n 2, 1) := by decide +kernel
theorem dX1_rootOf_40 : decode cX1_rootOf 40 = .ok (.iaload, 1) := by decide +kernel
theorem dX1_rootOf_41 : decode cX1_rootOf 41 = .ok (.istore_n 2, 1) := by decide +kernel
theorem dX1_rootOf_42 : decode cX1_rootOf 42 = .ok (.iinc 3 1, 3) := by decide +kernel
theorem dX1_rootOf_45 : decode cX1_rootOf 45 = .ok (.goto (-41), 3) := by decide +kernel
theorem dX1_rootOf_48 : decode cX1_rootOf 48 = .ok (.iload_n 2, 1) := by decide +kernel
theorem dX1_rootOf_49 : decode cX1_rootOf 49 = .ok (.ireturn, 1) := by decide +kernel
theorem dX2_init_0 : decode cX2_init 0 = .ok (.aload_n 0, 1) := by decide +kernel
theorem dX2_init_1 : decode cX2_init 1 = .ok (.invokespecial 3, 3) := by decide +kernel
theorem dX2_init_4 : decode cX2_init 4 = .ok (.aload_n 0, 1) := by decide +kernel
theorem dX2_init_5 : decode cX2_init 5 = .ok (.bipush 9, 2) := by decide +kernel
theorem dX2_init_7 : decode cX2_init 7 = .ok (.anewarray 9, 3) := by decide +kernel
theorem dX2_init_10 : decode cX2_init 10 = .ok (.putfield 11, 3) := by decide +kernel
theorem dX2_init_13 : decode cX2_init 13 = .ok (.aload_n 0, 1) := by decide +kernel
theorem dX2_init_14 : decode cX2_init 14 = .ok (.iconst 0, 1) := by decide +kernel
theorem dX2_init_15 : decode cX2_init 15 = .ok (.putfield 17, 3) := by decide +kernel
theorem dX2_init_18 : decode cX2_init 18 = .ok (.aload_n 0, 1) := by decide +kernel
theorem dX2_init_19 : decode cX2_init 19 = .ok (.iconst 0, 1) := by decide +kernel
theorem dX2_init_20 : decode cX2_init 20 = .ok (.putfield 21, 3) := by decide +kernel
theorem dX2_init_23 : decode cX2_init 23 = .ok (.iconst 0, 1) := by decide +kernel
theorem dX2_init_24 : decode cX2_init 24 = .ok (.istore_n 1, 1) := by decide +kernel
theorem dX2_init_25 : decode cX2_init 25 = .ok (.iload_n 1, 1) := by decide +kernel
theorem dX2_init_26 : decode cX2_init 26 = .ok (.aload_n 0, 1) := by decide +kernel
theorem dX2_init_27 : decode cX2_init 27 = .ok (.getfield 11, 3) := by decide +kernel
theorem dX2_init_30 : decode cX2_init 30 = .ok (.arraylength, 1) := by decide +kernel
theorem dX2_init_31 : decode cX2_init 31 = .ok (.if_icmp .ge 22, 3) := by decide +kernel
theorem dX2_init_34 : decode cX2_init 34 = .ok (.aload_n 0, 1) := by decide +kernel
theorem dX2_init_35 : decode cX2_init 35 = .ok (.getfield 11, 3) := by decide +kernel
theorem dX2_init_38 : decode cX2_init 38 = .ok (.iload_n 1, 1) := by decide +kernel
theorem dX2_init_39 : decode cX2_init 39 = .ok (.new 9, 3) := by decide +kernel
theorem dX2_init_42 : decode cX2_init 42 = .ok (.dup, 1) := by decide +kernel
theorem dX2_init_43 : decode cX2_init 43 = .ok (.invokespecial 24, 3) := by decide +kernel
theorem dX2_init_46 : decode cX2_init 46 = .ok (.aastore, 1) := by decide +kernel
theorem dX2_init_47 : decode cX2_init 47 = .ok (.iinc 1 1, 3) := by decide +kernel
theorem dX2_init_50 : decode cX2_init 50 = .ok (.goto (-25), 3) := by decide +kernel
theorem dX2_init_53 : decode cX2_init 53 = .ok (.return_, 1) := by decide +kernel
theorem dX2_nextSlot_0 : decode cX2_nextSlot 0 = .ok (.aload_n 0, 1) := by decide +kernel
theorem dX2_nextSlot_1 : decode cX2_nextSlot 1 = .ok (.getfield 17, 3) := by decide +kernel
theorem dX2_nextSlot_4 : decode cX2_nextSlot 4 = .ok (.ifCond .lt 27, 3) := by decide +kernel
theorem dX2_nextSlot_7 : decode cX2_nextSlot 7 = .ok (.aload_n 0, 1) := by decide +kernel
theorem dX2_nextSlot_8 : decode cX2_nextSlot 8 = .ok (.getfield 17, 3) := by decide +kernel
theorem dX2_nextSlot_11 : decode cX2_nextSlot 11 = .ok (.aload_n 0, 1) := by decide +kernel
theorem dX2_nextSlot_12 : decode cX2_nextSlot 12 = .ok (.getfield 11, 3) := by decide +kernel
theorem dX2_nextSlot_15 : decode cX2_nextSlot 15 = .ok (.arraylength, 1) := by decide +kernel
theorem dX2_nextSlot_16 : decode cX2_nextSlot 16 = .ok (.if_icmp .ge 15, 3) := by decide +kernel
theorem dX2_nextSlot_19 : decode cX2_nextSlot 19 = .ok (.aload_n 0, 1) := by decide +kernel
theorem dX2_nextSlot_20 : decode cX2_nextSlot 20 = .ok (.getfield 11, 3) := by decide +kernel
theorem dX2_nextSlot_23 : decode cX2_nextSlot 23 = .ok (.aload_n 0, 1) := by decide +kernel
theorem dX2_nextSlot_24 : decode cX2_nextSlot 24 = .ok (.getfield 17, 3) := by decide +kernel
theorem dX2_nextSlot_27 : decode cX2_nextSlot 27 = .ok (.aaload, 1) := by decide +kernel
theorem dX2_nextSlot_28 : decode cX2_nextSlot 28 = .ok (.goto 4, 3) := by decide +kernel
theorem dX2_nextSlot_31 : decode cX2_nextSlot 31 = .ok (.aconst_null, 1) := by decide +kernel
theorem dX2_nextSlot_32 : decode cX2_nextSlot 32 = .ok (.areturn, 1) := by decide +kernel
theorem dX2_prepare_0 : decode cX2_prepare 0 = .ok (.aload_n 0, 1) := by decide +kernel
theorem dX2_prepare_1 : decode cX2_prepare 1 = .ok (.invokevirtual 25, 3) := by decide +kernel
theorem dX2_prepare_4 : decode cX2_prepare 4 = .ok (.astore_n 2, 1) := by decide +kernel
theorem dX2_prepare_5 : decode cX2_prepare 5 = .ok (.aload_n 2, 1) := by decide +kernel
theorem dX2_prepare_6 : decode cX2_prepare 6 = .ok (.ifnull 8, 3) := by decide +kernel
theorem dX2_prepare_9 : decode cX2_prepare 9 = .ok (.aload_n 2, 1) := by decide +kernel
theorem dX2_prepare_10 : decode cX2_prepare 10 = .ok (.aload_n 1, 1) := by decide +kernel
theorem dX2_prepare_11 : decode cX2_prepare 11 = .ok (.invokevirtual 29, 3) := by decide +kernel
theorem dX2_prepare_14 : decode cX2_prepare 14 = .ok (.return_, 1) := by decide +kernel
theorem dX2_commit_0 : decode cX2_commit 0 = .ok (.aload_n 0, 1) := by decide +kernel
theorem dX2_commit_1 : decode cX2_commit 1 = .ok (.aload_n 0, 1) := by decide +kernel
theorem dX2_commit_2 : decode cX2_commit 2 = .ok (.getfield 17, 3) := by decide +kernel
theorem dX2_commit_5 : decode cX2_commit 5 = .ok (.iconst 1, 1) := by decide +kernel
theorem dX2_commit_6 : decode cX2_commit 6 = .ok (.iadd, 1) := by decide +kernel
theorem dX2_commit_7 : decode cX2_commit 7 = .ok (.aload_n 0, 1) := by decide +kernel
theorem dX2_commit_8 : decode cX2_commit 8 = .ok (.getfield 11, 3) := by decide +kernel
theorem dX2_commit_11 : decode cX2_commit 11 = .ok (.arraylength, 1) := by decide +kernel
theorem dX2_commit_12 : decode cX2_commit 12 = .ok (.if_icmp .ge 12, 3) := by decide +kernel
theorem dX2_commit_15 : decode cX2_commit 15 = .ok (.aload_n 0, 1) := by decide +kernel
theorem dX2_commit_16 : decode cX2_commit 16 = .ok (.getfield 17, 3) := by decide +kernel
theorem dX2_commit_19 : decode cX2_commit 19 = .ok (.iconst 1, 1) := by decide +kernel
theorem dX2_commit_20 : decode cX2_commit 20 = .ok (.iadd, 1) := by decide +kernel
theorem dX2_commit_21 : decode cX2_commit 21 = .ok (.goto 4, 3) := by decide +kernel
theorem dX2_commit_24 : decode cX2_commit 24 = .ok (.iconst 0, 1) := by decide +kernel
theorem dX2_commit_25 : decode cX2_commit 25 = .ok (.putfield 17, 3) := by decide +kernel
theorem dX2_commit_28 : decode cX2_commit 28 = .ok (.aload_n 0, 1) := by decide +kernel
theorem dX2_commit_29 : decode cX2_commit 29 = .ok (.aload_n 0, 1) := by decide +kernel
theorem dX2_commit_30 : decode cX2_commit 30 = .ok (.getfield 21, 3) := by decide +kernel
theorem dX2_commit_33 : decode cX2_commit 33 = .ok (.iconst 1, 1) := by decide +kernel
theorem dX2_commit_34 : decode cX2_commit 34 = .ok (.iadd, 1) := by decide +kernel
theorem dX2_commit_35 : decode cX2_commit 35 = .ok (.bipush 8, 2) := by decide +kernel
theorem dX2_commit_37 : decode cX2_commit 37 = .ok (.invokestatic 33, 3) := by decide +kernel
theorem dX2_commit_40 : decode cX2_commit 40 = .ok (.putfield 21, 3) := by decide +kernel
theorem dX2_commit_43 : decode cX2_commit 43 = .ok (.return_, 1) := by decide +kernel
theorem dX2_fetchPrepared_0 : decode cX2_fetchPrepared 0 = .ok (.aload_n 0, 1) := by decide +kernel
theorem dX2_fetchPrepared_1 : decode cX2_fetchPrepared 1 = .ok (.invokevirtual 25, 3) := by decide +kernel
theorem dX2_fetchPrepared_4 : decode cX2_fetchPrepared 4 = .ok (.astore_n 2, 1) := by decide +kernel
theorem dX2_fetchPrepared_5 : decode cX2_fetchPrepared 5 = .ok (.aload_n 2, 1) := by decide +kernel
theorem dX2_fetchPrepared_6 : decode cX2_fetchPrepared 6 = .ok (.ifnull 8, 3) := by decide +kernel
theorem dX2_fetchPrepared_9 : decode cX2_fetchPrepared 9 = .ok (.aload_n 1, 1) := by decide +kernel
theorem dX2_fetchPrepared_10 : decode cX2_fetchPrepared 10 = .ok (.aload_n 2, 1) := by decide +kernel
theorem dX2_fetchPrepared_11 : decode cX2_fetchPrepared 11 = .ok (.invokevirtual 29, 3) := by decide +kernel
theorem dX2_fetchPrepared_14 : decode cX2_fetchPrepared 14 = .ok (.return_, 1) := by decide +kernel
theorem dX2_stepBack_0 : decode cX2_stepBack 0 = .ok (.aload_n 0, 1) := by decide +kernel
theorem dX2_stepBack_1 : decode cX2_stepBack 1 = .ok (.aload_n 0, 1) := by decide +kernel
theorem dX2_stepBack_2 : decode cX2_stepBack 2 = .ok (.getfield 17, 3) := by decide +kernel
theorem dX2_stepBack_5 : decode cX2_stepBack 5 = .ok (.ifCond .le 12, 3) := by decide +kernel
theorem dX2_stepBack_8 : decode cX2_stepBack 8 = .ok (.aload_n 0, 1) := by decide +kernel
theorem dX2_stepBack_9 : decode cX2_stepBack 9 = .ok (.getfield 17, 3) := by decide +kernel
theorem dX2_stepBack_12 : decode cX2_stepBack 12 = .ok (.iconst 1, 1) := by decide +kernel
theorem dX2_stepBack_13 : decode cX2_stepBack 13 = .ok (.isub, 1) := by decide +kernel
theorem dX2_stepBack_14 : decode cX2_stepBack 14 = .ok (.goto 10, 3) := by decide +kernel
theorem dX2_stepBack_17 : decode cX2_stepBack 17 = .ok (.aload_n 0, 1) := by decide +kernel
theorem dX2_stepBack_18 : decode cX2_stepBack 18 = .ok (.getfield 11, 3) := by decide +kernel
theorem dX2_stepBack_21 : decode cX2_stepBack 21 = .ok (.arraylength, 1) := by decide +kernel
theorem dX2_stepBack_22 : decode cX2_stepBack 22 = .ok (.iconst 1, 1) := by decide +kernel
theorem dX2_stepBack_23 : decode cX2_stepBack 23 = .ok (.isub, 1) := by decide +kernel
theorem dX2_stepBack_24 : decode cX2_stepBack 24 = .ok (.putfield 17, 3) := by decide +kernel
theorem dX2_stepBack_27 : decode cX2_stepBack 27 = .ok (.aload_n 0, 1) := by decide +kernel
theorem dX2_stepBack_28 : decode cX2_stepBack 28 = .ok (.dup, 1) := by decide +kernel
theorem dX2_stepBack_29 : decode cX2_stepBack 29 = .ok (.getfield 21, 3) := by decide +kernel
theorem dX2_stepBack_32 : decode cX2_stepBack 32 = .ok (.iconst 1, 1) := by decide +kernel
theorem dX2_stepBack_33 : decode cX2_stepBack 33 = .ok (.isub, 1) := by decide +kernel
theorem dX2_stepBack_34 : decode cX2_stepBack 34 = .ok (.putfield 21, 3) := by decide +kernel
theorem dX2_stepBack_37 : decode cX2_stepBack 37 = .ok (.aload_n 0, 1) := by decide +kernel
theorem dX2_stepBack_38 : decode cX2_stepBack 38 = .ok (.aload_n 1, 1) := by decide +kernel
theorem dX2_stepBack_39 : decode cX2_stepBack 39 = .ok (.invokevirtual 39, 3) := by decide +kernel
theorem dX2_stepBack_42 : decode cX2_stepBack 42 = .ok (.return_, 1) := by decide +kernel
theorem dX2_forgetAll_0 : decode cX2_forgetAll 0 = .ok (.aload_n 0, 1) := by decide +kernel
theorem dX2_forgetAll_1 : decode cX2_forgetAll 1 = .ok (.iconst 0, 1) := by decide +kernel
theorem dX2_forgetAll_2 : decode cX2_forgetAll 2 = .ok (.putfield 21, 3) := by decide +kernel
theorem dX2_forgetAll_5 : decode cX2_forgetAll 5 = .ok (.return_, 1) := by decide +kernel
theorem dX3_init_0 : decode cX3_init 0 = .ok (.aload_n 0, 1) := by decide +kernel
theorem dX3_init_1 : decode cX3_init 1 = .ok (.invokespecial 3, 3) := by decide +kernel
theorem dX3_init_4 : decode cX3_init 4 = .ok (.aload_n 0, 1) := by decide +kernel
theorem dX3_init_5 : decode cX3_init 5 = .ok (.bipush 110, 2) := by decide +kernel
theorem dX3_init_7 : decode cX3_init 7 = .ok (.putfield 9, 3) := by decide +kernel
theorem dX3_init_10 : decode cX3_init 10 = .ok (.aload_n 0, 1) := by decide +kernel
theorem dX3_init_11 : decode cX3_init 11 = .ok (.iconst 1, 1) := by decide +kernel
theorem dX3_init_12 : decode cX3_init 12 = .ok (.putfield 15, 3) := by decide +kernel
theorem dX3_init_15 : decode cX3_init 15 = .ok (.aload_n 0, 1) := by decide +kernel
theorem dX3_init_16 : decode cX3_init 16 = .ok (.bipush 48, 2) := by decide +kernel
theorem dX3_init_18 : decode cX3_init 18 = .ok (.newarray .int, 2) := by decide +kernel
theorem dX3_init_20 : decode cX3_init 20 = .ok (.putfield 19, 3) := by decide +kernel
theorem dX3_init_23 : decode cX3_init 23 = .ok (.return_, 1) := by decide +kernel
theorem dX3_begin_0 : decode cX3_begin 0 = .ok (.aload_n 0, 1) := by decide +kernel
theorem dX3_begin_1 : decode cX3_begin 1 = .ok (.iload_n 1, 1) := by decide +kernel
theorem dX3_begin_2 : decode cX3_begin 2 = .ok (.putfield 9, 3) := by decide +kernel
theorem dX3_begin_5 : decode cX3_begin 5 = .ok (.aload_n 0, 1) := by decide +kernel
theorem dX3_begin_6 : decode cX3_begin 6 = .ok (.iconst 1, 1) := by decide +kernel
theorem dX3_begin_7 : decode cX3_begin 7 = .ok (.putfield 15, 3) := by decide +kernel
theorem dX3_begin_10 : decode cX3_begin 10 = .ok (.aload_n 0, 1) := by decide +kernel
theorem dX3_begin_11 : decode cX3_begin 11 = .ok (.getfield 19, 3) := by decide +kernel
theorem dX3_begin_14 : decode cX3_begin 14 = .ok (.iconst (-1), 1) := by decide +kernel
theorem dX3_begin_15 : decode cX3_begin 15 = .ok (.invokestatic 23, 3) := by decide +kernel
theorem dX3_begin_18 : decode cX3_begin 18 = .ok (.return_, 1) := by decide +kernel
theorem dX3_copyFrom_0 : decode cX3_copyFrom 0 = .ok (.aload_n 0, 1) := by decide +kernel
theorem dX3_copyFrom_1 : decode cX3_copyFrom 1 = .ok (.aload_n 1, 1) := by decide +kernel
theorem dX3_copyFrom_2 : decode cX3_copyFrom 2 = .ok (.getfield 9, 3) := by decide +kernel
theorem dX3_copyFrom_5 : decode cX3_copyFrom 5 = .ok (.putfield 9, 3) := by decide +kernel
theorem dX3_copyFrom_8 : decode cX3_copyFrom 8 = .ok (.aload_n 0, 1) := by decide +kernel
theorem dX3_copyFrom_9 : decode cX3_copyFrom 9 = .ok (.aload_n 1, 1) := by decide +kernel
theorem dX3_copyFrom_10 : decode cX3_copyFrom 10 = .ok (.getfield 15, 3) := by decide +kernel
theorem dX3_copyFrom_13 : decode cX3_copyFrom 13 = .ok (.putfield 15, 3) := by decide +kernel
theorem dX3_copyFrom_16 : decode cX3_copyFrom 16 = .ok (.aload_n 1, 1) := by decide +kernel
theorem dX3_copyFrom_17 : decode cX3_copyFrom 17 = .ok (.getfield 19, 3) := by decide +kernel
theorem dX3_copyFrom_20 : decode cX3_copyFrom 20 = .ok (.iconst 0, 1) := by decide +kernel
theorem dX3_copyFrom_21 : decode cX3_copyFrom 21 = .ok (.aload_n 0, 1) := by decide +kernel
theorem dX3_copyFrom_22 : decode cX3_copyFrom 22 = .ok (.getfield 19, 3) := by decide +kernel
theorem dX3_copyFrom_25 : decode cX3_copyFrom 25 = .ok (.iconst 0, 1) := by decide +kernel
theorem dX3_copyFrom_26 : decode cX3_copyFrom 26 = .ok (.bipush 48, 2) := by decide +kernel
theorem dX3_copyFrom_28 : decode cX3_copyFrom 28 = .ok (.invokestatic 29, 3) := by decide +kernel
theorem dX3_copyFrom_31 : decode cX3_copyFrom 31 = .ok (.return_, 1) := by decide +kernel
theorem dX3_toneAt_0 : decode cX3_toneAt 0 = .ok (.iload_n 1, 1) := by decide +kernel
theorem dX3_toneAt_1 : decode cX3_toneAt 1 = .ok (.ifCond .lt 21, 3) := by decide +kernel
theorem dX3_toneAt_4 : decode cX3_toneAt 4 = .ok (.iload_n 1, 1) := by decide +kernel
theorem dX3_toneAt_5 : decode cX3_toneAt 5 = .ok (.aload_n 0, 1) := by decide +kernel
theorem dX3_toneAt_6 : decode cX3_toneAt 6 = .ok (.getfield 19, 3) := by decide +kernel
theorem dX3_toneAt_9 : decode cX3_toneAt 9 = .ok (.arraylength, 1) := by decide +kernel
theorem dX3_toneAt_10 : decode cX3_toneAt 10 = .ok (.if_icmp .ge 12, 3) := by decide +kernel
theorem dX3_toneAt_13 : decode cX3_toneAt 13 = .ok (.aload_n 0, 1) := by decide +kernel
theorem dX3_toneAt_14 : decode cX3_toneAt 14 = .ok (.getfield 19, 3) := by decide +kernel
theorem dX3_toneAt_17 : decode cX3_toneAt 17 = .ok (.iload_n 1, 1) := by decide +kernel
theorem dX3_toneAt_18 : decode cX3_toneAt 18 = .ok (.iaload, 1) := by decide +kernel
theorem dX3_toneAt_19 : decode cX3_toneAt 19 = .ok (.goto 4, 3) := by decide +kernel
theorem dX3_toneAt_22 : decode cX3_toneAt 22 = .ok (.iconst (-1), 1) := by decide +kernel
theorem dX3_toneAt_23 : decode cX3_toneAt 23 = .ok (.ireturn, 1) := by decide +kernel
theorem dX3_setTone_0 : decode cX3_setTone 0 = .ok (.iload_n 1, 1) := by decide +kernel
theorem dX3_setTone_1 : decode cX3_setTone 1 = .ok (.ifCond .lt 19, 3) := by decide +kernel
theorem dX3_setTone_4 : decode cX3_setTone 4 = .ok (.iload_n 1, 1) := by decide +kernel
theorem dX3_setTone_5 : decode cX3_setTone 5 = .ok (.aload_n 0, 1) := by decide +kernel
theorem dX3_setTone_6 : decode cX3_setTone 6 = .ok (.getfield 19, 3) := by decide +kernel
theorem dX3_setTone_9 : decode cX3_setTone 9 = .ok (.arraylength, 1) := by decide +kernel
theorem dX3_setTone_10 : decode cX3_setTone 10 = .ok (.if_icmp .ge 10, 3) := by decide +kernel
theorem dX3_setTone_13 : decode cX3_setTone 13 = .ok (.aload_n 0, 1) := by decide +kernel
theorem dX3_setTone_14 : decode cX3_setTone 14 = .ok (.getfield 19, 3) := by decide +kernel
theorem dX3_setTone_17 : decode cX3_setTone 17 = .ok (.iload_n 1, 1) := by decide +kernel
theorem dX3_setTone_18 : decode cX3_setTone 18 = .ok (.iload_n 2, 1) := by decide +kernel
theorem dX3_setTone_19 : decode cX3_setTone 19 = .ok (.iastore, 1) := by decide +kernel
theorem dX3_setTone_20 : decode cX3_setTone 20 = .ok (.return_, 1) := by decide +kernel
theorem dX3_covers_0 : decode cX3_covers 0 = .ok (.aload_n 0, 1) := by decide +kernel
theorem dX3_covers_1 : decode cX3_covers 1 = .ok (.getfield 15, 3) := by decide +kernel
theorem dX3_covers_4 : decode cX3_covers 4 = .ok (.ifCond .eq 16, 3) := by decide +kernel
theorem dX3_covers_7 : decode cX3_covers 7 = .ok (.aload_n 0, 1) := by decide +kernel
theorem dX3_covers_8 : decode cX3_covers 8 = .ok (.iload_n 1, 1) := by decide +kernel
theorem dX3_covers_9 : decode cX3_covers 9 = .ok (.invokevirtual 35, 3) := by decide +kernel
theorem dX3_covers_12 : decode cX3_covers 12 = .ok (.iconst (-1), 1) := by decide +kernel
theorem dX3_covers_13 : decode cX3_covers 13 = .ok (.if_icmp .eq 7, 3) := by decide +kernel
theorem dX3_covers_16 : decode cX3_covers 16 = .ok (.iconst 1, 1) := by decide +kernel
theorem dX3_covers_17 : decode cX3_covers 17 = .ok (.goto 4, 3) := by decide +kernel
theorem dX3_covers_20 : decode cX3_covers 20 = .ok (.iconst 0, 1) := by decide +kernel
theorem dX3_covers_21 : decode cX3_covers 21 = .ok (.ireturn, 1) := by decide +kernel
theorem dX3_hides_0 : decode cX3_hides 0 = .ok (.aload_n 0, 1) := by decide +kernel
theorem dX3_hides_1 : decode cX3_hides 1 = .ok (.getfield 9, 3) := by decide +kernel
theorem dX3_hides_4 : decode cX3_hides 4 = .ok (.bipush 110, 2) := by decide +kernel
theorem dX3_hides_6 : decode cX3_hides 6 = .ok (.if_icmp .ne 15, 3) := by decide +kernel
theorem dX3_hides_9 : decode cX3_hides 9 = .ok (.aload_n 0, 1) := by decide +kernel
theorem dX3_hides_10 : decode cX3_hides 10 = .ok (.iload_n 1, 1) := by decide +kernel
theorem dX3_hides_11 : decode cX3_hides 11 = .ok (.invokevirtual 39, 3) := by decide +kernel
theorem dX3_hides_14 : decode cX3_hides 14 = .ok (.ifCond .eq 7, 3) := by decide +kernel
theorem dX3_hides_17 : decode cX3_hides 17 = .ok (.iconst 1, 1) := by decide +kernel
theorem dX3_hides_18 : decode cX3_hides 18 = .ok (.goto 4, 3) := by decide +kernel
theorem dX3_hides_21 : decode cX3_hides 21 = .ok (.iconst 0, 1) := by decide +kernel
theorem dX3_hides_22 : decode cX3_hides 22 = .ok (.ireturn, 1) := by decide +kernel
theorem dX3_canBeMerged_0 : decode cX3_canBeMerged 0 = .ok (.aload_n 0, 1) := by decide +kernel
theorem dX3_canBeMerged_1 : decode cX3_canBeMerged 1 = .ok (.getfield 9, 3) := by decide +kernel
theorem dX3_canBeMerged_4 : decode cX3_canBeMerged 4 = .ok (.bipush 110, 2) := by decide +kernel
theorem dX3_canBeMerged_6 : decode cX3_canBeMerged 6 = .ok (.if_icmp .ne 14, 3) := by decide +kernel
theorem dX3_canBeMerged_9 : decode cX3_canBeMerged 9 = .ok (.aload_n 0, 1) := by decide +kernel
theorem dX3_canBeMerged_10 : decode cX3_canBeMerged 10 = .ok (.getfield 15, 3) := by decide +kernel
theorem dX3_canBeMerged_13 : decode cX3_canBeMerged 13 = .ok (.ifCond .eq 7, 3) := by decide +kernel
theorem dX3_canBeMerged_16 : decode cX3_canBeMerged 16 = .ok (.iconst 1, 1) := by decide +kernel
theorem dX3_canBeMerged_17 : decode cX3_canBeMerged 17 = .ok (.goto 4, 3) := by decide +kernel
theorem dX3_canBeMerged_20 : decode cX3_canBeMerged 20 = .ok (.iconst 0, 1) := by decide +kernel
theorem dX3_canBeMerged_21 : decode cX3_canBeMerged 21 = .ok (.ireturn, 1) := by decide +kernel
theorem dX3_toneOver_0 : decode cX3_toneOver 0 = .ok (.aload_n 0, 1) := by decide +kernel
theorem dX3_toneOver_1 : decode cX3_toneOver 1 = .ok (.getfield 15, 3) := by decide +kernel
theorem dX3_toneOver_4 : decode cX3_toneOver 4 = .ok (.ifCond .eq 11, 3) := by decide +kernel
theorem dX3_toneOver_7 : decode cX3_toneOver 7 = .ok (.aload_n 0, 1) := by decide +kernel
theorem dX3_toneOver_8 : decode cX3_toneOver 8 = .ok (.iload_n 2, 1) := by decide +kernel
theorem dX3_toneOver_9 : decode cX3_toneOver 9 = .ok (.invokevirtual 35, 3) := by decide +kernel
theorem dX3_toneOver_12 : decode cX3_toneOver 12 = .ok (.goto 4, 3) := by decide +kernel
theorem dX3_toneOver_15 : decode cX3_toneOver 15 = .ok (.iconst (-1), 1) := by decide +kernel
theorem dX3_toneOver_16 : decode cX3_toneOver 16 = .ok (.istore_n 3, 1) := by decide +kernel
theorem dX3_toneOver_17 : decode cX3_toneOver 17 = .ok (.iload_n 3, 1) := by decide +kernel
theorem dX3_toneOver_18 : decode cX3_toneOver 18 = .ok (.iconst (-1), 1) := by decide +kernel
theorem dX3_toneOver_19 : decode cX3_toneOver 19 = .ok (.if_icmp .ne 7, 3) := by decide +kernel
theorem dX3_toneOver_22 : decode cX3_toneOver 22 = .ok (.iload_n 1, 1) := by decide +kernel
theorem dX3_toneOver_23 : decode cX3_toneOver 23 = .ok (.goto 12, 3) := by decide +kernel
theorem dX3_toneOver_26 : decode cX3_toneOver 26 = .ok (.aload_n 0, 1) := by decide +kernel
theorem dX3_toneOver_27 : decode cX3_toneOver 27 = .ok (.getfield 9, 3) := by decide +kernel
theorem dX3_toneOver_30 : decode cX3_toneOver 30 = .ok (.iload_n 1, 1) := by decide +kernel
theorem dX3_toneOver_31 : decode cX3_toneOver 31 = .ok (.iload_n 3, 1) := by decide +kernel
theorem dX3_toneOver_32 : decode cX3_toneOver 32 = .ok (.invokestatic 43, 3) := by decide +kernel
theorem dX3_toneOver_35 : decode cX3_toneOver 35 = .ok (.ireturn, 1) := by decide +kernel
theorem dX3_countTones_0 : decode cX3_countTones 0 = .ok (.iconst 0, 1) := by decide +kernel
theorem dX3_countTones_1 : decode cX3_countTones 1 = .ok (.istore_n 1, 1) := by decide +kernel
theorem dX3_countTones_2 : decode cX3_countTones 2 = .ok (.iconst 0, 1) := by decide +kernel
theorem dX3_countTones_3 : decode cX3_countTones 3 = .ok (.istore_n 2, 1) := by decide +kernel
theorem dX3_countTones_4 : decode cX3_countTones 4 = .ok (.iload_n 2, 1) := by decide +kernel
theorem dX3_countTones_5 : decode cX3_countTones 5 = .ok (.aload_n 0, 1) := by decide +kernel
theorem dX3_countTones_6 : decode cX3_countTones 6 = .ok (.getfield 19, 3) := by decide +kernel
theorem dX3_countTones_9 : decode cX3_countTones 9 = .ok (.arraylength, 1) := by decide +kernel
theorem dX3_countTones_10 : decode cX3_countTones 10 = .ok (.if_icmp .ge 22, 3) := by decide +kernel
theorem dX3_countTones_13 : decode cX3_countTones 13 = .ok (.aload_n 0, 1) := by decide +kernel
theorem dX3_countTones_14 : decode cX3_countTones 14 = .ok (.getfield 19, 3) := by decide +kernel
theorem dX3_countTones_17 : decode cX3_countTones 17 = .ok (.iload_n 2, 1) := by decide +kernel
theorem dX3_countTones_18 : decode cX3_countTones 18 = .ok (.iaload, 1) := by decide +kernel
theorem dX3_countTones_19 : decode cX3_countTones 19 = .ok (.iconst (-1), 1) := by decide +kernel
theorem dX3_countTones_20 : decode cX3_countTones 20 = .ok (.if_icmp .eq 6, 3) := by decide +kernel
theorem dX3_countTones_23 : decode cX3_countTones 23 = .ok (.iinc 1 1, 3) := by decide +kernel
theorem dX3_countTones_26 : decode cX3_countTones 26 = .ok (.iinc 2 1, 3) := by decide +kernel
theorem dX3_countTones_29 : decode cX3_countTones 29 = .ok (.goto (-25), 3) := by decide +kernel
theorem dX3_countTones_32 : decode cX3_countTones 32 = .ok (.iload_n 1, 1) := by decide +kernel
theorem dX3_countTones_33 : decode cX3_countTones 33 = .ok (.ireturn, 1) := by decide +kernel
theorem dX3_countCellsUnlike_0 : decode cX3_countCellsUnlike 0 = .ok (.iconst 0, 1) := by decide +kernel
theorem dX3_countCellsUnlike_1 : decode cX3_countCellsUnlike 1 = .ok (.istore_n 2, 1) := by decide +kernel
theorem dX3_countCellsUnlike_2 : decode cX3_countCellsUnlike 2 = .ok (.iconst 0, 1) := by decide +kernel
theorem dX3_countCellsUnlike_3 : decode cX3_countCellsUnlike 3 = .ok (.istore_n 3, 1) := by decide +kernel
theorem dX3_countCellsUnlike_4 : decode cX3_countCellsUnlike 4 = .ok (.iload_n 3, 1) := by decide +kernel
theorem dX3_countCellsUnlike_5 : decode cX3_countCellsUnlike 5 = .ok (.aload_n 0, 1) := by decide +kernel
theorem dX3_countCellsUnlike_6 : decode cX3_countCellsUnlike 6 = .ok (.getfield 19, 3) := by decide +kernel
theorem dX3_countCellsUnlike_9 : decode cX3_countCellsUnlike 9 = .ok (.arraylength, 1) := by decide +kernel
theorem dX3_countCellsUnlike_10 : decode cX3_countCellsUnlike 10 = .ok (.if_icmp .ge 26, 3) := by decide +kernel
theorem dX3_countCellsUnlike_13 : decode cX3_countCellsUnlike 13 = .ok (.aload_n 0, 1) := by decide +kernel
theorem dX3_countCellsUnlike_14 : decode cX3_countCellsUnlike 14 = .ok (.getfield 19, 3) := by decide +kernel
theorem dX3_countCellsUnlike_17 : decode cX3_countCellsUnlike 17 = .ok (.iload_n 3, 1) := by decide +kernel
theorem dX3_countCellsUnlike_18 : decode cX3_countCellsUnlike 18 = .ok (.iaload, 1) := by decide +kernel
theorem dX3_countCellsUnlike_19 : decode cX3_countCellsUnlike 19 = .ok (.aload_n 1, 1) := by decide +kernel
theorem dX3_countCellsUnlike_20 : decode cX3_countCellsUnlike 20 = .ok (.iload_n 3, 1) := by decide +kernel
theorem dX3_countCellsUnlike_21 : decode cX3_countCellsUnlike 21 = .ok (.invokevirtual 35, 3) := by decide +kernel
theorem dX3_countCellsUnlike_24 : decode cX3_countCellsUnlike 24 = .ok (.if_icmp .eq 6, 3) := by decide +kernel
theorem dX3_countCellsUnlike_27 : decode cX3_countCellsUnlike 27 = .ok (.iinc 2 1, 3) := by decide +kernel
theorem dX3_countCellsUnlike_30 : decode cX3_countCellsUnlike 30 = .ok (.iinc 3 1, 3) := by decide +kernel
theorem dX3_countCellsUnlike_33 : decode cX3_countCellsUnlike 33 = .ok (.goto (-29), 3) := by decide +kernel
theorem dX3_countCellsUnlike_36 : decode cX3_countCellsUnlike 36 = .ok (.iload_n 2, 1) := by decide +kernel
theorem dX3_countCellsUnlike_37 : decode cX3_countCellsUnlike 37 = .ok (.ireturn, 1) := by decide +kernel
theorem dX3_fillRectangle_0 : decode cX3_fillRectangle 0 = .ok (.aload_n 0, 1) := by decide +kernel
theorem dX3_fillRectangle_1 : decode cX3_fillRectangle 1 = .ok (.invokevirtual 47, 3) := by decide +kernel
theorem dX3_fillRectangle_4 : decode cX3_fillRectangle 4 = .ok (.istore 6, 2) := by decide +kernel
theorem dX3_fillRectangle_6 : decode cX3_fillRectangle 6 = .ok (.iload_n 2, 1) := by decide +kernel
theorem dX3_fillRectangle_7 : decode cX3_fillRectangle 7 = .ok (.istore 7, 2) := by decide +kernel
theorem dX3_fillRectangle_9 : decode cX3_fillRectangle 9 = .ok (.iload 7, 2) := by decide +kernel
theorem dX3_fillRectangle_11 : decode cX3_fillRectangle 11 = .ok (.iload 4, 2) := by decide +kernel
theorem dX3_fillRectangle_13 : decode cX3_fillRectangle 13 = .ok (.if_icmp .gt 37, 3) := by decide +kernel
theorem dX3_fillRectangle_16 : decode cX3_fillRectangle 16 = .ok (.iload_n 1, 1) := by decide +kernel
theorem dX3_fillRectangle_17 : decode cX3_fillRectangle 17 = .ok (.istore 8, 2) := by decide +kernel
theorem dX3_fillRectangle_19 : decode cX3_fillRectangle 19 = .ok (.iload 8, 2) := by decide +kernel
theorem dX3_fillRectangle_21 : decode cX3_fillRectangle 21 = .ok (.iload_n 3, 1) := by decide +kernel
theorem dX3_fillRectangle_22 : decode cX3_fillRectangle 22 = .ok (.if_icmp .gt 22, 3) := by decide +kernel
theorem dX3_fillRectangle_25 : decode cX3_fillRectangle 25 = .ok (.aload_n 0, 1) := by decide +kernel
theorem dX3_fillRectangle_26 : decode cX3_fillRectangle 26 = .ok (.iload 8, 2) := by decide +kernel
theorem dX3_fillRectangle_28 : decode cX3_fillRectangle 28 = .ok (.iload 7, 2) := by decide +kernel
theorem dX3_fillRectangle_30 : decode cX3_fillRectangle 30 = .ok (.invokestatic 51, 3) := by decide +kernel
theorem dX3_fillRectangle_33 : decode cX3_fillRectangle 33 = .ok (.iload 5, 2) := by decide +kernel
theorem dX3_fillRectangle_35 : decode cX3_fillRectangle 35 = .ok (.invokevirtual 55, 3) := by decide +kernel
theorem dX3_fillRectangle_38 : decode cX3_fillRectangle 38 = .ok (.iinc 8 1, 3) := by decide +kernel
theorem dX3_fillRectangle_41 : decode cX3_fillRectangle 41 = .ok (.goto (-22), 3) := by decide +kernel
theorem dX3_fillRectangle_44 : decode cX3_fillRectangle 44 = .ok (.iinc 7 1, 3) := by decide +kernel
theorem dX3_fillRectangle_47 : decode cX3_fillRectangle 47 = .ok (.goto (-38), 3) := by decide +kernel
theorem dX3_fillRectangle_50 : decode cX3_fillRectangle 50 = .ok (.aload_n 0, 1) := by decide +kernel
theorem dX3_fillRectangle_51 : decode cX3_fillRectangle 51 = .ok (.invokevirtual 47, 3) := by decide +kernel
theorem dX3_fillRectangle_54 : decode cX3_fillRectangle 54 = .ok (.iload 6, 2) := by decide +kernel
theorem dX3_fillRectangle_56 : decode cX3_fillRectangle 56 = .ok (.isub, 1) := by decide +kernel
theorem dX3_fillRectangle_57 : decode cX3_fillRectangle 57 = .ok (.ireturn, 1) := by decide +kernel
theorem dX3_clearCircle_0 : decode cX3_clearCircle 0 = .ok (.aload_n 0, 1) := by decide +kernel
theorem dX3_clearCircle_1 : decode cX3_clearCircle 1 = .ok (.invokevirtual 47, 3) := by decide +kernel
theorem dX3_clearCircle_4 : decode cX3_clearCircle 4 = .ok (.istore 4, 2) := by decide +kernel
theorem dX3_clearCircle_6 : decode cX3_clearCircle 6 = .ok (.iconst 0, 1) := by decide +kernel
theorem dX3_clearCircle_7 : decode cX3_clearCircle 7 = .ok (.istore 5, 2) := by decide +kernel
theorem dX3_clearCircle_9 : decode cX3_clearCircle 9 = .ok (.iload 5, 2) := by decide +kernel
theorem dX3_clearCircle_11 : decode cX3_clearCircle 11 = .ok (.aload_n 0, 1) := by decide +kernel
theorem dX3_clearCircle_12 : decode cX3_clearCircle 12 = .ok (.getfield 19, 3) := by decide +kernel
theorem dX3_clearCircle_15 : decode cX3_clearCircle 15 = .ok (.arraylength, 1) := by decide +kernel
theorem dX3_clearCircle_16 : decode cX3_clearCircle 16 = .ok (.if_icmp .ge 52, 3) := by decide +kernel
theorem dX3_clearCircle_19 : decode cX3_clearCircle 19 = .ok (.iload 5, 2) := by decide +kernel
theorem dX3_clearCircle_21 : decode cX3_clearCircle 21 = .ok (.bipush 8, 2) := by decide +kernel
theorem dX3_clearCircle_23 : decode cX3_clearCircle 23 = .ok (.irem, 1) := by decide +kernel
theorem dX3_clearCircle_24 : decode cX3_clearCircle 24 = .ok (.iload_n 1, 1) := by decide +kernel
theorem dX3_clearCircle_25 : decode cX3_clearCircle 25 = .ok (.isub, 1) := by decide +kernel
theorem dX3_clearCircle_26 : decode cX3_clearCircle 26 = .ok (.istore 6, 2) := by decide +kernel
theorem dX3_clearCircle_28 : decode cX3_clearCircle 28 = .ok (.iload 5, 2) := by decide +kernel
theorem dX3_clearCircle_30 : decode cX3_clearCircle 30 = .ok (.bipush 8, 2) := by decide +kernel
theorem dX3_clearCircle_32 : decode cX3_clearCircle 32 = .ok (.idiv, 1) := by decide +kernel
theorem dX3_clearCircle_33 : decode cX3_clearCircle 33 = .ok (.iload_n 2, 1) := by decide +kernel
theorem dX3_clearCircle_34 : decode cX3_clearCircle 34 = .ok (.isub, 1) := by decide +kernel
theorem dX3_clearCircle_35 : decode cX3_clearCircle 35 = .ok (.istore 7, 2) := by decide +kernel
theorem dX3_clearCircle_37 : decode cX3_clearCircle 37 = .ok (.iload 6, 2) := by decide +kernel
theorem dX3_clearCircle_39 : decode cX3_clearCircle 39 = .ok (.iload 6, 2) := by decide +kernel
theorem dX3_clearCircle_41 : decode cX3_clearCircle 41 = .ok (.imul, 1) := by decide +kernel
theorem dX3_clearCircle_42 : decode cX3_clearCircle 42 = .ok (.iload 7, 2) := by decide +kernel
theorem dX3_clearCircle_44 : decode cX3_clearCircle 44 = .ok (.iload 7, 2) := by decide +kernel
theorem dX3_clearCircle_46 : decode cX3_clearCircle 46 = .ok (.imul, 1) := by decide +kernel
theorem dX3_clearCircle_47 : decode cX3_clearCircle 47 = .ok (.iadd, 1) := by decide +kernel
theorem dX3_clearCircle_48 : decode cX3_clearCircle 48 = .ok (.iload_n 3, 1) := by decide +kernel
theorem dX3_clearCircle_49 : decode cX3_clearCircle 49 = .ok (.iload_n 3, 1) := by decide +kernel
theorem dX3_clearCircle_50 : decode cX3_clearCircle 50 = .ok (.imul, 1) := by decide +kernel
theorem dX3_clearCircle_51 : decode cX3_clearCircle 51 = .ok (.if_icmp .gt 11, 3) := by decide +kernel
theorem dX3_clearCircle_54 : decode cX3_clearCircle 54 = .ok (.aload_n 0, 1) := by decide +kernel
theorem dX3_clearCircle_55 : decode cX3_clearCircle 55 = .ok (.getfield 19, 3) := by decide +kernel
theorem dX3_clearCircle_58 : decode cX3_clearCircle 58 = .ok (.iload 5, 2) := by decide +kernel
theorem dX3_clearCircle_60 : decode cX3_clearCircle 60 = .ok (.iconst (-1), 1) := by decide +kernel
theorem dX3_clearCircle_61 : decode cX3_clearCircle 61 = .ok (.iastore, 1) := by decide +kernel
theorem dX3_clearCircle_62 : decode cX3_clearCircle 62 = .ok (.iinc 5 1, 3) := by decide +kernel
theorem dX3_clearCircle_65 : decode cX3_clearCircle 65 = .ok (.goto (-56), 3) := by decide +kernel
theorem dX3_clearCircle_68 : decode cX3_clearCircle 68 = .ok (.iload 4, 2) := by decide +kernel
theorem dX3_clearCircle_70 : decode cX3_clearCircle 70 = .ok (.aload_n 0, 1) := by decide +kernel
theorem dX3_clearCircle_71 : decode cX3_clearCircle 71 = .ok (.invokevirtual 47, 3) := by decide +kernel
theorem dX3_clearCircle_74 : decode cX3_clearCircle 74 = .ok (.isub, 1) := by decide +kernel
theorem dX3_clearCircle_75 : decode cX3_clearCircle 75 = .ok (.ireturn, 1) := by decide +kernel
theorem dX3_coverWith_0 : decode cX3_coverWith 0 = .ok (.iconst 0, 1) := by decide +kernel
theorem dX3_coverWith_1 : decode cX3_coverWith 1 = .ok (.istore_n 2, 1) := by decide +kernel
theorem dX3_coverWith_2 : decode cX3_coverWith 2 = .ok (.iload_n 2, 1) := by decide +kernel
theorem dX3_coverWith_3 : decode cX3_coverWith 3 = .ok (.aload_n 0, 1) := by decide +kernel
theorem dX3_coverWith_4 : decode cX3_coverWith 4 = .ok (.getfield 19, 3) := by decide +kernel
theorem dX3_coverWith_7 : decode cX3_coverWith 7 = .ok (.arraylength, 1) := by decide +kernel
theorem dX3_coverWith_8 : decode cX3_coverWith 8 = .ok (.if_icmp .ge 27, 3) := by decide +kernel
theorem dX3_coverWith_11 : decode cX3_coverWith 11 = .ok (.aload_n 1, 1) := by decide +kernel
theorem dX3_coverWith_12 : decode cX3_coverWith 12 = .ok (.iload_n 2, 1) := by decide +kernel
theorem dX3_coverWith_13 : decode cX3_coverWith 13 = .ok (.invokevirtual 35, 3) := by decide +kernel
theorem dX3_coverWith_16 : decode cX3_coverWith 16 = .ok (.istore_n 3, 1) := by decide +kernel
theorem dX3_coverWith_17 : decode cX3_coverWith 17 = .ok (.iload_n 3, 1) := by decide +kernel
theorem dX3_coverWith_18 : decode cX3_coverWith 18 = .ok (.iconst (-1), 1) := by decide +kernel
theorem dX3_coverWith_19 : decode cX3_coverWith 19 = .ok (.if_icmp .eq 10, 3) := by decide +kernel
theorem dX3_coverWith_22 : decode cX3_coverWith 22 = .ok (.aload_n 0, 1) := by decide +kernel
theorem dX3_coverWith_23 : decode cX3_coverWith 23 = .ok (.getfield 19, 3) := by decide +kernel
theorem dX3_coverWith_26 : decode cX3_coverWith 26 = .ok (.iload_n 2, 1) := by decide +kernel
theorem dX3_coverWith_27 : decode cX3_coverWith 27 = .ok (.iload_n 3, 1) := by decide +kernel
theorem dX3_coverWith_28 : decode cX3_coverWith 28 = .ok (.iastore, 1) := by decide +kernel
theorem dX3_coverWith_29 : decode cX3_coverWith 29 = .ok (.iinc 2 1, 3) := by decide +kernel
theorem dX3_coverWith_32 : decode cX3_coverWith 32 = .ok (.goto (-30), 3) := by decide +kernel
theorem dX3_coverWith_35 : decode cX3_coverWith 35 = .ok (.return_, 1) := by decide +kernel
theorem dX3_takeShadowOf_0 : decode cX3_takeShadowOf 0 = .ok (.iconst 0, 1) := by decide +kernel
theorem dX3_takeShadowOf_1 : decode cX3_takeShadowOf 1 = .ok (.istore_n 3, 1) := by decide +kernel
theorem dX3_takeShadowOf_2 : decode cX3_takeShadowOf 2 = .ok (.iload_n 3, 1) := by decide +kernel
theorem dX3_takeShadowOf_3 : decode cX3_takeShadowOf 3 = .ok (.bipush 48, 2) := by decide +kernel
theorem dX3_takeShadowOf_5 : decode cX3_takeShadowOf 5 = .ok (.if_icmp .ge 57, 3) := by decide +kernel
theorem dX3_takeShadowOf_8 : decode cX3_takeShadowOf 8 = .ok (.iload_n 3, 1) := by decide +kernel
theorem dX3_takeShadowOf_9 : decode cX3_takeShadowOf 9 = .ok (.bipush 8, 2) := by decide +kernel
theorem dX3_takeShadowOf_11 : decode cX3_takeShadowOf 11 = .ok (.irem, 1) := by decide +kernel
theorem dX3_takeShadowOf_12 : decode cX3_takeShadowOf 12 = .ok (.iload_n 2, 1) := by decide +kernel
theorem dX3_takeShadowOf_13 : decode cX3_takeShadowOf 13 = .ok (.iadd, 1) := by decide +kernel
theorem dX3_takeShadowOf_14 : decode cX3_takeShadowOf 14 = .ok (.istore 4, 2) := by decide +kernel
theorem dX3_takeShadowOf_16 : decode cX3_takeShadowOf 16 = .ok (.iload_n 3, 1) := by decide +kernel
theorem dX3_takeShadowOf_17 : decode cX3_takeShadowOf 17 = .ok (.bipush 8, 2) := by decide +kernel
theorem dX3_takeShadowOf_19 : decode cX3_takeShadowOf 19 = .ok (.idiv, 1) := by decide +kernel
theorem dX3_takeShadowOf_20 : decode cX3_takeShadowOf 20 = .ok (.iconst 1, 1) := by decide +kernel
theorem dX3_takeShadowOf_21 : decode cX3_takeShadowOf 21 = .ok (.iadd, 1) := by decide +kernel
theorem dX3_takeShadowOf_22 : decode cX3_takeShadowOf 22 = .ok (.istore 5, 2) := by decide +kernel
theorem dX3_takeShadowOf_24 : decode cX3_takeShadowOf 24 = .ok (.aload_n 1, 1) := by decide +kernel
theorem dX3_takeShadowOf_25 : decode cX3_takeShadowOf 25 = .ok (.iload_n 3, 1) := by decide +kernel
theorem dX3_takeShadowOf_26 : decode cX3_takeShadowOf 26 = .ok (.invokevirtual 35, 3) := by decide +kernel
theorem dX3_takeShadowOf_29 : decode cX3_takeShadowOf 29 = .ok (.iconst (-1), 1) := by decide +kernel
theorem dX3_takeShadowOf_30 : decode cX3_takeShadowOf 30 = .ok (.if_icmp .eq 26, 3) := by decide +kernel
theorem dX3_takeShadowOf_33 : decode cX3_takeShadowOf 33 = .ok (.iload 4, 2) := by decide +kernel
theorem dX3_takeShadowOf_35 : decode cX3_takeShadowOf 35 = .ok (.iload 5, 2) := by decide +kernel
theorem dX3_takeShadowOf_37 : decode cX3_takeShadowOf 37 = .ok (.invokestatic 59, 3) := by decide +kernel
theorem dX3_takeShadowOf_40 : decode cX3_takeShadowOf 40 = .ok (.ifCond .eq 16, 3) := by decide +kernel
theorem dX3_takeShadowOf_43 : decode cX3_takeShadowOf 43 = .ok (.aload_n 0, 1) := by decide +kernel
theorem dX3_takeShadowOf_44 : decode cX3_takeShadowOf 44 = .ok (.iload 4, 2) := by decide +kernel
theorem dX3_takeShadowOf_46 : decode cX3_takeShadowOf 46 = .ok (.iload 5, 2) := by decide +kernel
theorem dX3_takeShadowOf_48 : decode cX3_takeShadowOf 48 = .ok (.invokestatic 51, 3) := by decide +kernel
theorem dX3_takeShadowOf_51 : decode cX3_takeShadowOf 51 = .ok (.bipush 8, 2) := by decide +kernel
theorem dX3_takeShadowOf_53 : decode cX3_takeShadowOf 53 = .ok (.invokevirtual 55, 3) := by decide +kernel
theorem dX3_takeShadowOf_56 : decode cX3_takeShadowOf 56 = .ok (.iinc 3 1, 3) := by decide +kernel
theorem dX3_takeShadowOf_59 : decode cX3_takeShadowOf 59 = .ok (.goto (-57), 3) := by decide +kernel
theorem dX3_takeShadowOf_62 : decode cX3_takeShadowOf 62 = .ok (.return_, 1) := by decide +kernel
theorem dX4_init_0 : decode cX4_init 0 = .ok (.aload_n 0, 1) := by decide +kernel
theorem dX4_init_1 : decode cX4_init 1 = .ok (.invokespecial 3, 3) := by decide +kernel
theorem dX4_init_4 : decode cX4_init 4 = .ok (.aload_n 0, 1) := by decide +kernel
theorem dX4_init_5 : decode cX4_init 5 = .ok (.bipush 6, 2) := by decide +kernel
theorem dX4_init_7 : decode cX4_init 7 = .ok (.anewarray 9, 3) := by decide +kernel
theorem dX4_init_10 : decode cX4_init 10 = .ok (.putfield 11, 3) := by decide +kernel
theorem dX4_init_13 : decode cX4_init 13 = .ok (.aload_n 0, 1) := by decide +kernel
theorem dX4_init_14 : decode cX4_init 14 = .ok (.iconst 0, 1) := by decide +kernel
theorem dX4_init_15 : decode cX4_init 15 = .ok (.putfield 17, 3) := by decide +kernel
theorem dX4_init_18 : decode cX4_init 18 = .ok (.aload_n 0, 1) := by decide +kernel
theorem dX4_init_19 : decode cX4_init 19 = .ok (.iconst 0, 1) := by decide +kernel
theorem dX4_init_20 : decode cX4_init 20 = .ok (.putfield 21, 3) := by decide +kernel
theorem dX4_init_23 : decode cX4_init 23 = .ok (.aload_n 0, 1) := by decide +kernel
theorem dX4_init_24 : decode cX4_init 24 = .ok (.iconst 0, 1) := by decide +kernel
theorem dX4_init_25 : decode cX4_init 25 = .ok (.putfield 24, 3) := by decide +kernel
theorem dX4_init_28 : decode cX4_init 28 = .ok (.iconst 0, 1) := by decide +kernel
theorem dX4_init_29 : decode cX4_init 29 = .ok (.istore_n 1, 1) := by decide +kernel
theorem dX4_init_30 : decode cX4_init 30 = .ok (.iload_n 1, 1) := by decide +kernel
theorem dX4_init_31 : decode cX4_init 31 = .ok (.aload_n 0, 1) := by decide +kernel
theorem dX4_init_32 : decode cX4_init 32 = .ok (.getfield 11, 3) := by decide +kernel
theorem dX4_init_35 : decode cX4_init 35 = .ok (.arraylength, 1) := by decide +kernel
theorem dX4_init_36 : decode cX4_init 36 = .ok (.if_icmp .ge 22, 3) := by decide +kernel
theorem dX4_init_39 : decode cX4_init 39 = .ok (.aload_n 0, 1) := by decide +kernel
theorem dX4_init_40 : decode cX4_init 40 = .ok (.getfield 11, 3) := by decide +kernel
theorem dX4_init_43 : decode cX4_init 43 = .ok (.iload_n 1, 1) := by decide +kernel
theorem dX4_init_44 : decode cX4_init 44 = .ok (.new 9, 3) := by decide +kernel
theorem dX4_init_47 : decode cX4_init 47 = .ok (.dup, 1) := by decide +kernel
theorem dX4_init_48 : decode cX4_init 48 = .ok (.invokespecial 27, 3) := by decide +kernel
theorem dX4_init_51 : decode cX4_init 51 = .ok (.aastore, 1) := by decide +kernel
theorem dX4_init_52 : decode cX4_init 52 = .ok (.iinc 1 1, 3) := by decide +kernel
theorem dX4_init_55 : decode cX4_init 55 = .ok (.goto (-25), 3) := by decide +kernel
theorem dX4_init_58 : decode cX4_init 58 = .ok (.return_, 1) := by decide +kernel
theorem dX4_at_0 : decode cX4_at 0 = .ok (.iload_n 1, 1) := by decide +kernel
theorem dX4_at_1 : decode cX4_at 1 = .ok (.ifCond .lt 29, 3) := by decide +kernel
theorem dX4_at_4 : decode cX4_at 4 = .ok (.iload_n 1, 1) := by decide +kernel
theorem dX4_at_5 : decode cX4_at 5 = .ok (.aload_n 0, 1) := by decide +kernel
theorem dX4_at_6 : decode cX4_at 6 = .ok (.getfield 17, 3) := by decide +kernel
theorem dX4_at_9 : decode cX4_at 9 = .ok (.if_icmp .ge 21, 3) := by decide +kernel
theorem dX4_at_12 : decode cX4_at 12 = .ok (.iload_n 1, 1) := by decide +kernel
theorem dX4_at_13 : decode cX4_at 13 = .ok (.aload_n 0, 1) := by decide +kernel
theorem dX4_at_14 : decode cX4_at 14 = .ok (.getfield 11, 3) := by decide +kernel
theorem dX4_at_17 : decode cX4_at 17 = .ok (.arraylength, 1) := by decide +kernel
theorem dX4_at_18 : decode cX4_at 18 = .ok (.if_icmp .ge 12, 3) := by decide +kernel
theorem dX4_at_21 : decode cX4_at 21 = .ok (.aload_n 0, 1) := by decide +kernel
theorem dX4_at_22 : decode cX4_at 22 = .ok (.getfield 11, 3) := by decide +kernel
theorem dX4_at_25 : decode cX4_at 25 = .ok (.iload_n 1, 1) := by decide +kernel
theorem dX4_at_26 : decode cX4_at 26 = .ok (.aaload, 1) := by decide +kernel
theorem dX4_at_27 : decode cX4_at 27 = .ok (.goto 4, 3) := by decide +kernel
theorem dX4_at_30 : decode cX4_at 30 = .ok (.aconst_null, 1) := by decide +kernel
theorem dX4_at_31 : decode cX4_at 31 = .ok (.areturn, 1) := by decide +kernel
theorem dX4_copyFrom_0 : decode cX4_copyFrom 0 = .ok (.aload_n 0, 1) := by decide +kernel
theorem dX4_copyFrom_1 : decode cX4_copyFrom 1 = .ok (.aload_n 1, 1) := by decide +kernel
theorem dX4_copyFrom_2 : decode cX4_copyFrom 2 = .ok (.getfield 17, 3) := by decide +kernel
theorem dX4_copyFrom_5 : decode cX4_copyFrom 5 = .ok (.putfield 17, 3) := by decide +kernel
theorem dX4_copyFrom_8 : decode cX4_copyFrom 8 = .ok (.aload_n 0, 1) := by decide +kernel
theorem dX4_copyFrom_9 : decode cX4_copyFrom 9 = .ok (.aload_n 1, 1) := by decide +kernel
theorem dX4_copyFrom_10 : decode cX4_copyFrom 10 = .ok (.getfield 21, 3) := by decide +kernel
theorem dX4_copyFrom_13 : decode cX4_copyFrom 13 = .ok (.putfield 21, 3) := by decide +kernel
theorem dX4_copyFrom_16 : decode cX4_copyFrom 16 = .ok (.aload_n 0, 1) := by decide +kernel
theorem dX4_copyFrom_17 : decode cX4_copyFrom 17 = .ok (.aload_n 1, 1) := by decide +kernel
theorem dX4_copyFrom_18 : decode cX4_copyFrom 18 = .ok (.getfield 24, 3) := by decide +kernel
theorem dX4_copyFrom_21 : decode cX4_copyFrom 21 = .ok (.putfield 24, 3) := by decide +kernel
theorem dX4_copyFrom_24 : decode cX4_copyFrom 24 = .ok (.iconst 0, 1) := by decide +kernel
theorem dX4_copyFrom_25 : decode cX4_copyFrom 25 = .ok (.istore_n 2, 1) := by decide +kernel
theorem dX4_copyFrom_26 : decode cX4_copyFrom 26 = .ok (.iload_n 2, 1) := by decide +kernel
theorem dX4_copyFrom_27 : decode cX4_copyFrom 27 = .ok (.aload_n 0, 1) := by decide +kernel
theorem dX4_copyFrom_28 : decode cX4_copyFrom 28 = .ok (.getfield 17, 3) := by decide +kernel
theorem dX4_copyFrom_31 : decode cX4_copyFrom 31 = .ok (.if_icmp .ge 37, 3) := by decide +kernel
theorem dX4_copyFrom_34 : decode cX4_copyFrom 34 = .ok (.aload_n 0, 1) := by decide +kernel
theorem dX4_copyFrom_35 : decode cX4_copyFrom 35 = .ok (.iload_n 2, 1) := by decide +kernel
theorem dX4_copyFrom_36 : decode cX4_copyFrom 36 = .ok (.invokevirtual 28, 3) := by decide +kernel
theorem dX4_copyFrom_39 : decode cX4_copyFrom 39 = .ok (.astore_n 3, 1) := by decide +kernel
theorem dX4_copyFrom_40 : decode cX4_copyFrom 40 = .ok (.aload_n 1, 1) := by decide +kernel
theorem dX4_copyFrom_41 : decode cX4_copyFrom 41 = .ok (.iload_n 2, 1) := by decide +kernel
theorem dX4_copyFrom_42 : decode cX4_copyFrom 42 = .ok (.invokevirtual 28, 3) := by decide +kernel
theorem dX4_copyFrom_45 : decode cX4_copyFrom 45 = .ok (.astore 4, 2) := by decide +kernel
theorem dX4_copyFrom_47 : decode cX4_copyFrom 47 = .ok (.aload_n 3, 1) := by decide +kernel
theorem dX4_copyFrom_48 : decode cX4_copyFrom 48 = .ok (.ifnull 14, 3) := by decide +kernel
theorem dX4_copyFrom_51 : decode cX4_copyFrom 51 = .ok (.aload 4, 2) := by decide +kernel
theorem dX4_copyFrom_53 : decode cX4_copyFrom 53 = .ok (.ifnull 9, 3) := by decide +kernel
theorem dX4_copyFrom_56 : decode cX4_copyFrom 56 = .ok (.aload_n 3, 1) := by decide +kernel
theorem dX4_copyFrom_57 : decode cX4_copyFrom 57 = .ok (.aload 4, 2) := by decide +kernel
theorem dX4_copyFrom_59 : decode cX4_copyFrom 59 = .ok (.invokevirtual 32, 3) := by decide +kernel
theorem dX4_copyFrom_62 : decode cX4_copyFrom 62 = .ok (.iinc 2 1, 3) := by decide +kernel
theorem dX4_copyFrom_65 : decode cX4_copyFrom 65 = .ok (.goto (-39), 3) := by decide +kernel
theorem dX4_copyFrom_68 : decode cX4_copyFrom 68 = .ok (.return_, 1) := by decide +kernel
theorem dX4_addOnTop_0 : decode cX4_addOnTop 0 = .ok (.iload_n 1, 1) := by decide +kernel
theorem dX4_addOnTop_1 : decode cX4_addOnTop 1 = .ok (.invokestatic 36, 3) := by decide +kernel
theorem dX4_addOnTop_4 : decode cX4_addOnTop 4 = .ok (.ifCond .ne 6, 3) := by decide +kernel
theorem dX4_addOnTop_7 : decode cX4_addOnTop 7 = .ok (.bipush (-3), 2) := by decide +kernel
theorem dX4_addOnTop_9 : decode cX4_addOnTop 9 = .ok (.ireturn, 1) := by decide +kernel
theorem dX4_addOnTop_10 : decode cX4_addOnTop 10 = .ok (.aload_n 0, 1) := by decide +kernel
theorem dX4_addOnTop_11 : decode cX4_addOnTop 11 = .ok (.iload_n 1, 1) := by decide +kernel
theorem dX4_addOnTop_12 : decode cX4_addOnTop 12 = .ok (.invokevirtual 40, 3) := by decide +kernel
theorem dX4_addOnTop_15 : decode cX4_addOnTop 15 = .ok (.ifnonnull 8, 3) := by decide +kernel
theorem dX4_addOnTop_18 : decode cX4_addOnTop 18 = .ok (.bipush (-4), 2) := by decide +kernel
theorem dX4_addOnTop_20 : decode cX4_addOnTop 20 = .ok (.goto 9, 3) := by decide +kernel
theorem dX4_addOnTop_23 : decode cX4_addOnTop 23 = .ok (.aload_n 0, 1) := by decide +kernel
theorem dX4_addOnTop_24 : decode cX4_addOnTop 24 = .ok (.getfield 17, 3) := by decide +kernel
theorem dX4_addOnTop_27 : decode cX4_addOnTop 27 = .ok (.iconst 1, 1) := by decide +kernel
theorem dX4_addOnTop_28 : decode cX4_addOnTop 28 = .ok (.isub, 1) := by decide +kernel
theorem dX4_addOnTop_29 : decode cX4_addOnTop 29 = .ok (.ireturn, 1) := by decide +kernel
theorem dX4_beginLayer_0 : decode cX4_beginLayer 0 = .ok (.aload_n 0, 1) := by decide +kernel
theorem dX4_beginLayer_1 : decode cX4_beginLayer 1 = .ok (.getfield 17, 3) := by decide +kernel
theorem dX4_beginLayer_4 : decode cX4_beginLayer 4 = .ok (.bipush 6, 2) := by decide +kernel
theorem dX4_beginLayer_6 : decode cX4_beginLayer 6 = .ok (.if_icmp .lt 5, 3) := by decide +kernel
theorem dX4_beginLayer_9 : decode cX4_beginLayer 9 = .ok (.aconst_null, 1) := by decide +kernel
theorem dX4_beginLayer_10 : decode cX4_beginLayer 10 = .ok (.areturn, 1) := by decide +kernel
theorem dX4_beginLayer_11 : decode cX4_beginLayer 11 = .ok (.aload_n 0, 1) := by decide +kernel
theorem dX4_beginLayer_12 : decode cX4_beginLayer 12 = .ok (.dup, 1) := by decide +kernel
theorem dX4_beginLayer_13 : decode cX4_beginLayer 13 = .ok (.getfield 17, 3) := by decide +kernel
theorem dX4_beginLayer_16 : decode cX4_beginLayer 16 = .ok (.iconst 1, 1) := by decide +kernel
theorem dX4_beginLayer_17 : decode cX4_beginLayer 17 = .ok (.iadd, 1) := by decide +kernel
theorem dX4_beginLayer_18 : decode cX4_beginLayer 18 = .ok (.putfield 17, 3) := by decide +kernel
theorem dX4_beginLayer_21 : decode cX4_beginLayer 21 = .ok (.aload_n 0, 1) := by decide +kernel
theorem dX4_beginLayer_22 : decode cX4_beginLayer 22 = .ok (.aload_n 0, 1) := by decide +kernel
theorem dX4_beginLayer_23 : decode cX4_beginLayer 23 = .ok (.getfield 17, 3) := by decide +kernel
theorem dX4_beginLayer_26 : decode cX4_beginLayer 26 = .ok (.iconst 1, 1) := by decide +kernel
theorem dX4_beginLayer_27 : decode cX4_beginLayer 27 = .ok (.isub, 1) := by decide +kernel
theorem dX4_beginLayer_28 : decode cX4_beginLayer 28 = .ok (.invokevirtual 28, 3) := by decide +kernel
theorem dX4_beginLayer_31 : decode cX4_beginLayer 31 = .ok (.astore_n 2, 1) := by decide +kernel
theorem dX4_beginLayer_32 : decode cX4_beginLayer 32 = .ok (.aload_n 2, 1) := by decide +kernel
theorem dX4_beginLayer_33 : decode cX4_beginLayer 33 = .ok (.ifnull 8, 3) := by decide +kernel
theorem dX4_beginLayer_36 : decode cX4_beginLayer 36 = .ok (.aload_n 2, 1) := by decide +kernel
theorem dX4_beginLayer_37 : decode cX4_beginLayer 37 = .ok (.iload_n 1, 1) := by decide +kernel
theorem dX4_beginLayer_38 : decode cX4_beginLayer 38 = .ok (.invokevirtual 44, 3) := by decide +kernel
theorem dX4_beginLayer_41 : decode cX4_beginLayer 41 = .ok (.aload_n 2, 1) := by decide +kernel
theorem dX4_beginLayer_42 : decode cX4_beginLayer 42 = .ok (.areturn, 1) := by decide +kernel
theorem dX4_takeAway_0 : decode cX4_takeAway 0 = .ok (.aload_n 0, 1) := by decide +kernel
theorem dX4_takeAway_1 : decode cX4_takeAway 1 = .ok (.iload_n 1, 1) := by decide +kernel
theorem dX4_takeAway_2 : decode cX4_takeAway 2 = .ok (.invokevirtual 28, 3) := by decide +kernel
theorem dX4_takeAway_5 : decode cX4_takeAway 5 = .ok (.ifnonnull 6, 3) := by decide +kernel
theorem dX4_takeAway_8 : decode cX4_takeAway 8 = .ok (.bipush (-2), 2) := by decide +kernel
theorem dX4_takeAway_10 : decode cX4_takeAway 10 = .ok (.ireturn, 1) := by decide +kernel
theorem dX4_takeAway_11 : decode cX4_takeAway 11 = .ok (.aload_n 0, 1) := by decide +kernel
theorem dX4_takeAway_12 : decode cX4_takeAway 12 = .ok (.iload_n 1, 1) := by decide +kernel
theorem dX4_takeAway_13 : decode cX4_takeAway 13 = .ok (.aload_n 0, 1) := by decide +kernel
theorem dX4_takeAway_14 : decode cX4_takeAway 14 = .ok (.getfield 17, 3) := by decide +kernel
theorem dX4_takeAway_17 : decode cX4_takeAway 17 = .ok (.iconst 1, 1) := by decide +kernel
theorem dX4_takeAway_18 : decode cX4_takeAway 18 = .ok (.isub, 1) := by decide +kernel
theorem dX4_takeAway_19 : decode cX4_takeAway 19 = .ok (.invokevirtual 48, 3) := by decide +kernel
theorem dX4_takeAway_22 : decode cX4_takeAway 22 = .ok (.aload_n 0, 1) := by decide +kernel
theorem dX4_takeAway_23 : decode cX4_takeAway 23 = .ok (.dup, 1) := by decide +kernel
theorem dX4_takeAway_24 : decode cX4_takeAway 24 = .ok (.getfield 17, 3) := by decide +kernel
theorem dX4_takeAway_27 : decode cX4_takeAway 27 = .ok (.iconst 1, 1) := by decide +kernel
theorem dX4_takeAway_28 : decode cX4_takeAway 28 = .ok (.isub, 1) := by decide +kernel
theorem dX4_takeAway_29 : decode cX4_takeAway 29 = .ok (.putfield 17, 3) := by decide +kernel
theorem dX4_takeAway_32 : decode cX4_takeAway 32 = .ok (.aload_n 0, 1) := by decide +kernel
theorem dX4_takeAway_33 : decode cX4_takeAway 33 = .ok (.getfield 17, 3) := by decide +kernel
theorem dX4_takeAway_36 : decode cX4_takeAway 36 = .ok (.ireturn, 1) := by decide +kernel
theorem dX4_paintRectangle_0 : decode cX4_paintRectangle 0 = .ok (.aload_n 0, 1) := by decide +kernel
theorem dX4_paintRectangle_1 : decode cX4_paintRectangle 1 = .ok (.iload_n 1, 1) := by decide +kernel
theorem dX4_paintRectangle_2 : decode cX4_paintRectangle 2 = .ok (.invokevirtual 28, 3) := by decide +kernel
theorem dX4_paintRectangle_5 : decode cX4_paintRectangle 5 = .ok (.astore 7, 2) := by decide +kernel
theorem dX4_paintRectangle_7 : decode cX4_paintRectangle 7 = .ok (.aload 7, 2) := by decide +kernel
theorem dX4_paintRectangle_9 : decode cX4_paintRectangle 9 = .ok (.ifnull 21, 3) := by decide +kernel
theorem dX4_paintRectangle_12 : decode cX4_paintRectangle 12 = .ok (.iload_n 2, 1) := by decide +kernel
theorem dX4_paintRectangle_13 : decode cX4_paintRectangle 13 = .ok (.iload_n 3, 1) := by decide +kernel
theorem dX4_paintRectangle_14 : decode cX4_paintRectangle 14 = .ok (.invokestatic 52, 3) := by decide +kernel
theorem dX4_paintRectangle_17 : decode cX4_paintRectangle 17 = .ok (.ifCond .eq 13, 3) := by decide +kernel
theorem dX4_paintRectangle_20 : decode cX4_paintRectangle 20 = .ok (.iload 4, 2) := by decide +kernel
theorem dX4_paintRectangle_22 : decode cX4_paintRectangle 22 = .ok (.iload 5, 2) := by decide +kernel
theorem dX4_paintRectangle_24 : decode cX4_paintRectangle 24 = .ok (.invokestatic 52, 3) := by decide +kernel
theorem dX4_paintRectangle_27 : decode cX4_paintRectangle 27 = .ok (.ifCond .ne 6, 3) := by decide +kernel
theorem dX4_paintRectangle_30 : decode cX4_paintRectangle 30 = .ok (.bipush (-2), 2) := by decide +kernel
theorem dX4_paintRectangle_32 : decode cX4_paintRectangle 32 = .ok (.ireturn, 1) := by decide +kernel
theorem dX4_paintRectangle_33 : decode cX4_paintRectangle 33 = .ok (.iload_n 2, 1) := by decide +kernel
theorem dX4_paintRectangle_34 : decode cX4_paintRectangle 34 = .ok (.iload 4, 2) := by decide +kernel
theorem dX4_paintRectangle_36 : decode cX4_paintRectangle 36 = .ok (.if_icmp .gt 17, 3) := by decide +kernel
theorem dX4_paintRectangle_39 : decode cX4_paintRectangle 39 = .ok (.iload_n 3, 1) := by decide +kernel
theorem dX4_paintRectangle_40 : decode cX4_paintRectangle 40 = .ok (.iload 5, 2) := by decide +kernel
theorem dX4_paintRectangle_42 : decode cX4_paintRectangle 42 = .ok (.if_icmp .gt 11, 3) := by decide +kernel
theorem dX4_paintRectangle_45 : decode cX4_paintRectangle 45 = .ok (.iload 6, 2) := by decide +kernel
theorem dX4_paintRectangle_47 : decode cX4_paintRectangle 47 = .ok (.invokestatic 56, 3) := by decide +kernel
theorem dX4_paintRectangle_50 : decode cX4_paintRectangle 50 = .ok (.ifCond .ne 6, 3) := by decide +kernel
theorem dX4_paintRectangle_53 : decode cX4_paintRectangle 53 = .ok (.bipush (-3), 2) := by decide +kernel
theorem dX4_paintRectangle_55 : decode cX4_paintRectangle 55 = .ok (.ireturn, 1) := by decide +kernel
theorem dX4_paintRectangle_56 : decode cX4_paintRectangle 56 = .ok (.aload_n 0, 1) := by decide +kernel
theorem dX4_paintRectangle_57 : decode cX4_paintRectangle 57 = .ok (.dup, 1) := by decide +kernel
theorem dX4_paintRectangle_58 : decode cX4_paintRectangle 58 = .ok (.getfield 21, 3) := by decide +kernel
theorem dX4_paintRectangle_61 : decode cX4_paintRectangle 61 = .ok (.iload 4, 2) := by decide +kernel
theorem dX4_paintRectangle_63 : decode cX4_paintRectangle 63 = .ok (.iload_n 2, 1) := by decide +kernel
theorem dX4_paintRectangle_64 : decode cX4_paintRectangle 64 = .ok (.isub, 1) := by decide +kernel
theorem dX4_paintRectangle_65 : decode cX4_paintRectangle 65 = .ok (.iconst 1, 1) := by decide +kernel
theorem dX4_paintRectangle_66 : decode cX4_paintRectangle 66 = .ok (.iadd, 1) := by decide +kernel
theorem dX4_paintRectangle_67 : decode cX4_paintRectangle 67 = .ok (.iload 5, 2) := by decide +kernel
theorem dX4_paintRectangle_69 : decode cX4_paintRectangle 69 = .ok (.iload_n 3, 1) := by decide +kernel
theorem dX4_paintRectangle_70 : decode cX4_paintRectangle 70 = .ok (.isub, 1) := by decide +kernel
theorem dX4_paintRectangle_71 : decode cX4_paintRectangle 71 = .ok (.iconst 1, 1) := by decide +kernel
theorem dX4_paintRectangle_72 : decode cX4_paintRectangle 72 = .ok (.iadd, 1) := by decide +kernel
theorem dX4_paintRectangle_73 : decode cX4_paintRectangle 73 = .ok (.imul, 1) := by decide +kernel
theorem dX4_paintRectangle_74 : decode cX4_paintRectangle 74 = .ok (.iadd, 1) := by decide +kernel
theorem dX4_paintRectangle_75 : decode cX4_paintRectangle 75 = .ok (.putfield 21, 3) := by decide +kernel
theorem dX4_paintRectangle_78 : decode cX4_paintRectangle 78 = .ok (.aload 7, 2) := by decide +kernel
theorem dX4_paintRectangle_80 : decode cX4_paintRectangle 80 = .ok (.iload_n 2, 1) := by decide +kernel
theorem dX4_paintRectangle_81 : decode cX4_paintRectangle 81 = .ok (.iload_n 3, 1) := by decide +kernel
theorem dX4_paintRectangle_82 : decode cX4_paintRectangle 82 = .ok (.iload 4, 2) := by decide +kernel
theorem dX4_paintRectangle_84 : decode cX4_paintRectangle 84 = .ok (.iload 5, 2) := by decide +kernel
theorem dX4_paintRectangle_86 : decode cX4_paintRectangle 86 = .ok (.iload 6, 2) := by decide +kernel
theorem dX4_paintRectangle_88 : decode cX4_paintRectangle 88 = .ok (.invokevirtual 60, 3) := by decide +kernel
theorem dX4_paintRectangle_91 : decode cX4_paintRectangle 91 = .ok (.ireturn, 1) := by decide +kernel
theorem dX4_eraseCircle_0 : decode cX4_eraseCircle 0 = .ok (.aload_n 0, 1) := by decide +kernel
theorem dX4_eraseCircle_1 : decode cX4_eraseCircle 1 = .ok (.iload_n 1, 1) := by decide +kernel
theorem dX4_eraseCircle_2 : decode cX4_eraseCircle 2 = .ok (.invokevirtual 28, 3) := by decide +kernel
theorem dX4_eraseCircle_5 : decode cX4_eraseCircle 5 = .ok (.astore 5, 2) := by decide +kernel
theorem dX4_eraseCircle_7 : decode cX4_eraseCircle 7 = .ok (.aload 5, 2) := by decide +kernel
theorem dX4_eraseCircle_9 : decode cX4_eraseCircle 9 = .ok (.ifnull 11, 3) := by decide +kernel
theorem dX4_eraseCircle_12 : decode cX4_eraseCircle 12 = .ok (.iload_n 2, 1) := by decide +kernel
theorem dX4_eraseCircle_13 : decode cX4_eraseCircle 13 = .ok (.iload_n 3, 1) := by decide +kernel
theorem dX4_eraseCircle_14 : decode cX4_eraseCircle 14 = .ok (.invokestatic 52, 3) := by decide +kernel
theorem dX4_eraseCircle_17 : decode cX4_eraseCircle 17 = .ok (.ifCond .ne 6, 3) := by decide +kernel
theorem dX4_eraseCircle_20 : decode cX4_eraseCircle 20 = .ok (.bipush (-2), 2) := by decide +kernel
theorem dX4_eraseCircle_22 : decode cX4_eraseCircle 22 = .ok (.ireturn, 1) := by decide +kernel
theorem dX4_eraseCircle_23 : decode cX4_eraseCircle 23 = .ok (.iload 4, 2) := by decide +kernel
theorem dX4_eraseCircle_25 : decode cX4_eraseCircle 25 = .ok (.ifCond .lt 10, 3) := by decide +kernel
theorem dX4_eraseCircle_28 : decode cX4_eraseCircle 28 = .ok (.iload 4, 2) := by decide +kernel
theorem dX4_eraseCircle_30 : decode cX4_eraseCircle 30 = .ok (.bipush 9, 2) := by decide +kernel
theorem dX4_eraseCircle_32 : decode cX4_eraseCircle 32 = .ok (.if_icmp .le 6, 3) := by decide +kernel
theorem dX4_eraseCircle_35 : decode cX4_eraseCircle 35 = .ok (.bipush (-3), 2) := by decide +kernel
theorem dX4_eraseCircle_37 : decode cX4_eraseCircle 37 = .ok (.ireturn, 1) := by decide +kernel
theorem dX4_eraseCircle_38 : decode cX4_eraseCircle 38 = .ok (.aload 5, 2) := by decide +kernel
theorem dX4_eraseCircle_40 : decode cX4_eraseCircle 40 = .ok (.iload_n 2, 1) := by decide +kernel
theorem dX4_eraseCircle_41 : decode cX4_eraseCircle 41 = .ok (.iload_n 3, 1) := by decide +kernel
theorem dX4_eraseCircle_42 : decode cX4_eraseCircle 42 = .ok (.iload 4, 2) := by decide +kernel
theorem dX4_eraseCircle_44 : decode cX4_eraseCircle 44 = .ok (.invokevirtual 64, 3) := by decide +kernel
theorem dX4_eraseCircle_47 : decode cX4_eraseCircle 47 = .ok (.istore 6, 2) := by decide +kernel
theorem dX4_eraseCircle_49 : decode cX4_eraseCircle 49 = .ok (.aload_n 0, 1) := by decide +kernel
theorem dX4_eraseCircle_50 : decode cX4_eraseCircle 50 = .ok (.dup, 1) := by decide +kernel
theorem dX4_eraseCircle_51 : decode cX4_eraseCircle 51 = .ok (.getfield 24, 3) := by decide +kernel
theorem dX4_eraseCircle_54 : decode cX4_eraseCircle 54 = .ok (.iload 6, 2) := by decide +kernel
theorem dX4_eraseCircle_56 : decode cX4_eraseCircle 56 = .ok (.iadd, 1) := by decide +kernel
theorem dX4_eraseCircle_57 : decode cX4_eraseCircle 57 = .ok (.putfield 24, 3) := by decide +kernel
theorem dX4_eraseCircle_60 : decode cX4_eraseCircle 60 = .ok (.iload 6, 2) := by decide +kernel
theorem dX4_eraseCircle_62 : decode cX4_eraseCircle 62 = .ok (.ireturn, 1) := by decide +kernel
theorem dX4_turnVisible_0 : decode cX4_turnVisible 0 = .ok (.aload_n 0, 1) := by decide +kernel
theorem dX4_turnVisible_1 : decode cX4_turnVisible 1 = .ok (.iload_n 1, 1) := by decide +kernel
theorem dX4_turnVisible_2 : decode cX4_turnVisible 2 = .ok (.invokevirtual 28, 3) := by decide +kernel
theorem dX4_turnVisible_5 : decode cX4_turnVisible 5 = .ok (.astore_n 3, 1) := by decide +kernel
theorem dX4_turnVisible_6 : decode cX4_turnVisible 6 = .ok (.aload_n 3, 1) := by decide +kernel
theorem dX4_turnVisible_7 : decode cX4_turnVisible 7 = .ok (.ifnonnull 6, 3) := by decide +kernel
theorem dX4_turnVisible_10 : decode cX4_turnVisible 10 = .ok (.bipush (-2), 2) := by decide +kernel
theorem dX4_turnVisible_12 : decode cX4_turnVisible 12 = .ok (.ireturn, 1) := by decide +kernel
theorem dX4_turnVisible_13 : decode cX4_turnVisible 13 = .ok (.aload_n 3, 1) := by decide +kernel
theorem dX4_turnVisible_14 : decode cX4_turnVisible 14 = .ok (.getfield 68, 3) := by decide +kernel
theorem dX4_turnVisible_17 : decode cX4_turnVisible 17 = .ok (.iload_n 2, 1) := by decide +kernel
theorem dX4_turnVisible_18 : decode cX4_turnVisible 18 = .ok (.if_icmp .ne 6, 3) := by decide +kernel
theorem dX4_turnVisible_21 : decode cX4_turnVisible 21 = .ok (.bipush (-4), 2) := by decide +kernel
theorem dX4_turnVisible_23 : decode cX4_turnVisible 23 = .ok (.ireturn, 1) := by decide +kernel
theorem dX4_turnVisible_24 : decode cX4_turnVisible 24 = .ok (.aload_n 3, 1) := by decide +kernel
theorem dX4_turnVisible_25 : decode cX4_turnVisible 25 = .ok (.iload_n 2, 1) := by decide +kernel
theorem dX4_turnVisible_26 : decode cX4_turnVisible 26 = .ok (.putfield 68, 3) := by decide +kernel
theorem dX4_turnVisible_29 : decode cX4_turnVisible 29 = .ok (.aload_n 0, 1) := by decide +kernel
theorem dX4_turnVisible_30 : decode cX4_turnVisible 30 = .ok (.invokevirtual 72, 3) := by decide +kernel
theorem dX4_turnVisible_33 : decode cX4_turnVisible 33 = .ok (.ireturn, 1) := by decide +kernel
theorem dX4_shift_0 : decode cX4_shift 0 = .ok (.aload_n 0, 1) := by decide +kernel
theorem dX4_shift_1 : decode cX4_shift 1 = .ok (.iload_n 1, 1) := by decide +kernel
theorem dX4_shift_2 : decode cX4_shift 2 = .ok (.invokevirtual 28, 3) := by decide +kernel
theorem dX4_shift_5 : decode cX4_shift 5 = .ok (.astore_n 3, 1) := by decide +kernel
theorem dX4_shift_6 : decode cX4_shift 6 = .ok (.aload_n 3, 1) := by decide +kernel
theorem dX4_shift_7 : decode cX4_shift 7 = .ok (.ifnull 11, 3) := by decide +kernel
theorem dX4_shift_10 : decode cX4_shift 10 = .ok (.aload_n 0, 1) := by decide +kernel
theorem dX4_shift_11 : decode cX4_shift 11 = .ok (.iload_n 2, 1) := by decide +kernel
theorem dX4_shift_12 : decode cX4_shift 12 = .ok (.invokevirtual 28, 3) := by decide +kernel
theorem dX4_shift_15 : decode cX4_shift 15 = .ok (.ifnonnull 4, 3) := by decide +kernel
theorem dX4_shift_18 : decode cX4_shift 18 = .ok (.return_, 1) := by decide +kernel
theorem dX4_shift_19 : decode cX4_shift 19 = .ok (.iload_n 1, 1) := by decide +kernel
theorem dX4_shift_20 : decode cX4_shift 20 = .ok (.istore 4, 2) := by decide +kernel
theorem dX4_shift_22 : decode cX4_shift 22 = .ok (.iload 4, 2) := by decide +kernel
theorem dX4_shift_24 : decode cX4_shift 24 = .ok (.iload_n 2, 1) := by decide +kernel
theorem dX4_shift_25 : decode cX4_shift 25 = .ok (.if_icmp .ge 25, 3) := by decide +kernel
theorem dX4_shift_28 : decode cX4_shift 28 = .ok (.aload_n 0, 1) := by decide +kernel
theorem dX4_shift_29 : decode cX4_shift 29 = .ok (.getfield 11, 3) := by decide +kernel
theorem dX4_shift_32 : decode cX4_shift 32 = .ok (.iload 4, 2) := by decide +kernel
theorem dX4_shift_34 : decode cX4_shift 34 = .ok (.aload_n 0, 1) := by decide +kernel
theorem dX4_shift_35 : decode cX4_shift 35 = .ok (.getfield 11, 3) := by decide +kernel
theorem dX4_shift_38 : decode cX4_shift 38 = .ok (.iload 4, 2) := by decide +kernel
theorem dX4_shift_40 : decode cX4_shift 40 = .ok (.iconst 1, 1) := by decide +kernel
theorem dX4_shift_41 : decode cX4_shift 41 = .ok (.iadd, 1) := by decide +kernel
theorem dX4_shift_42 : decode cX4_shift 42 = .ok (.aaload, 1) := by decide +kernel
theorem dX4_shift_43 : decode cX4_shift 43 = .ok (.aastore, 1) := by decide +kernel
theorem dX4_shift_44 : decode cX4_shift 44 = .ok (.iinc 4 1, 3) := by decide +kernel
theorem dX4_shift_47 : decode cX4_shift 47 = .ok (.goto (-25), 3) := by decide +kernel
theorem dX4_shift_50 : decode cX4_shift 50 = .ok (.iload_n 1, 1) := by decide +kernel
theorem dX4_shift_51 : decode cX4_shift 51 = .ok (.istore 4, 2) := by decide +kernel
theorem dX4_shift_53 : decode cX4_shift 53 = .ok (.iload 4, 2) := by decide +kernel
theorem dX4_shift_55 : decode cX4_shift 55 = .ok (.iload_n 2, 1) := by decide +kernel
theorem dX4_shift_56 : decode cX4_shift 56 = .ok (.if_icmp .le 25, 3) := by decide +kernel
theorem dX4_shift_59 : decode cX4_shift 59 = .ok (.aload_n 0, 1) := by decide +kernel
theorem dX4_shift_60 : decode cX4_shift 60 = .ok (.getfield 11, 3) := by decide +kernel
theorem dX4_shift_63 : decode cX4_shift 63 = .ok (.iload 4, 2) := by decide +kernel
theorem dX4_shift_65 : decode cX4_shift 65 = .ok (.aload_n 0, 1) := by decide +kernel
theorem dX4_shift_66 : decode cX4_shift 66 = .ok (.getfield 11, 3) := by decide +kernel
theorem dX4_shift_69 : decode cX4_shift 69 = .ok (.iload 4, 2) := by decide +kernel
theorem dX4_shift_71 : decode cX4_shift 71 = .ok (.iconst 1, 1) := by decide +kernel
theorem dX4_shift_72 : decode cX4_shift 72 = .ok (.isub, 1) := by decide +kernel
theorem dX4_shift_73 : decode cX4_shift 73 = .ok (.aaload, 1) := by decide +kernel
theorem dX4_shift_74 : decode cX4_shift 74 = .ok (.aastore, 1) := by decide +kernel
theorem dX4_shift_75 : decode cX4_shift 75 = .ok (.iinc 4 (-1), 3) := by decide +kernel
theorem dX4_shift_78 : decode cX4_shift 78 = .ok (.goto (-25), 3) := by decide +kernel
theorem dX4_shift_81 : decode cX4_shift 81 = .ok (.aload_n 0, 1) := by decide +kernel
theorem dX4_shift_82 : decode cX4_shift 82 = .ok (.getfield 11, 3) := by decide +kernel
theorem dX4_shift_85 : decode cX4_shift 85 = .ok (.iload_n 2, 1) := by decide +kernel
theorem dX4_shift_86 : decode cX4_shift 86 = .ok (.aload_n 3, 1) := by decide +kernel
theorem dX4_shift_87 : decode cX4_shift 87 = .ok (.aastore, 1) := by decide +kernel
theorem dX4_shift_88 : decode cX4_shift 88 = .ok (.return_, 1) := by decide +kernel
theorem dX4_mergeWithLower_0 : decode cX4_mergeWithLower 0 = .ok (.aload_n 0, 1) := by decide +kernel
theorem dX4_mergeWithLower_1 : decode cX4_mergeWithLower 1 = .ok (.iload_n 1, 1) := by decide +kernel
theorem dX4_mergeWithLower_2 : decode cX4_mergeWithLower 2 = .ok (.invokevirtual 28, 3) := by decide +kernel
theorem dX4_mergeWithLower_5 : decode cX4_mergeWithLower 5 = .ok (.astore_n 2, 1) := by decide +kernel
theorem dX4_mergeWithLower_6 : decode cX4_mergeWithLower 6 = .ok (.aload_n 2, 1) := by decide +kernel
theorem dX4_mergeWithLower_7 : decode cX4_mergeWithLower 7 = .ok (.ifnonnull 6, 3) := by decide +kernel
theorem dX4_mergeWithLower_10 : decode cX4_mergeWithLower 10 = .ok (.bipush (-2), 2) := by decide +kernel
theorem dX4_mergeWithLower_12 : decode cX4_mergeWithLower 12 = .ok (.ireturn, 1) := by decide +kernel
theorem dX4_mergeWithLower_13 : decode cX4_mergeWithLower 13 = .ok (.aload_n 0, 1) := by decide +kernel
theorem dX4_mergeWithLower_14 : decode cX4_mergeWithLower 14 = .ok (.iload_n 1, 1) := by decide +kernel
theorem dX4_mergeWithLower_15 : decode cX4_mergeWithLower 15 = .ok (.iconst 1, 1) := by decide +kernel
theorem dX4_mergeWithLower_16 : decode cX4_mergeWithLower 16 = .ok (.isub, 1) := by decide +kernel
theorem dX4_mergeWithLower_17 : decode cX4_mergeWithLower 17 = .ok (.invokevirtual 28, 3) := by decide +kernel
theorem dX4_mergeWithLower_20 : decode cX4_mergeWithLower 20 = .ok (.astore_n 3, 1) := by decide +kernel
theorem dX4_mergeWithLower_21 : decode cX4_mergeWithLower 21 = .ok (.aload_n 3, 1) := by decide +kernel
theorem dX4_mergeWithLower_22 : decode cX4_mergeWithLower 22 = .ok (.ifnonnull 6, 3) := by decide +kernel
theorem dX4_mergeWithLower_25 : decode cX4_mergeWithLower 25 = .ok (.bipush (-5), 2) := by decide +kernel
theorem dX4_mergeWithLower_27 : decode cX4_mergeWithLower 27 = .ok (.ireturn, 1) := by decide +kernel
theorem dX4_mergeWithLower_28 : decode cX4_mergeWithLower 28 = .ok (.aload_n 2, 1) := by decide +kernel
theorem dX4_mergeWithLower_29 : decode cX4_mergeWithLower 29 = .ok (.invokevirtual 76, 3) := by decide +kernel
theorem dX4_mergeWithLower_32 : decode cX4_mergeWithLower 32 = .ok (.ifCond .eq 10, 3) := by decide +kernel
theorem dX4_mergeWithLower_35 : decode cX4_mergeWithLower 35 = .ok (.aload_n 3, 1) := by decide +kernel
theorem dX4_mergeWithLower_36 : decode cX4_mergeWithLower 36 = .ok (.invokevirtual 76, 3) := by decide +kernel
theorem dX4_mergeWithLower_39 : decode cX4_mergeWithLower 39 = .ok (.ifCond .ne 6, 3) := by decide +kernel
theorem dX4_mergeWithLower_42 : decode cX4_mergeWithLower 42 = .ok (.bipush (-6), 2) := by decide +kernel
theorem dX4_mergeWithLower_44 : decode cX4_mergeWithLower 44 = .ok (.ireturn, 1) := by decide +kernel
theorem dX4_mergeWithLower_45 : decode cX4_mergeWithLower 45 = .ok (.aload_n 3, 1) := by decide +kernel
theorem dX4_mergeWithLower_46 : decode cX4_mergeWithLower 46 = .ok (.aload_n 2, 1) := by decide +kernel
theorem dX4_mergeWithLower_47 : decode cX4_mergeWithLower 47 = .ok (.invokevirtual 80, 3) := by decide +kernel
theorem dX4_mergeWithLower_50 : decode cX4_mergeWithLower 50 = .ok (.aload_n 0, 1) := by decide +kernel
theorem dX4_mergeWithLower_51 : decode cX4_mergeWithLower 51 = .ok (.iload_n 1, 1) := by decide +kernel
theorem dX4_mergeWithLower_52 : decode cX4_mergeWithLower 52 = .ok (.invokevirtual 83, 3) := by decide +kernel
theorem dX4_mergeWithLower_55 : decode cX4_mergeWithLower 55 = .ok (.pop, 1) := by decide +kernel
theorem dX4_mergeWithLower_56 : decode cX4_mergeWithLower 56 = .ok (.aload_n 3, 1) := by decide +kernel
theorem dX4_mergeWithLower_57 : decode cX4_mergeWithLower 57 = .ok (.invokevirtual 87, 3) := by decide +kernel
theorem dX4_mergeWithLower_60 : decode cX4_mergeWithLower 60 = .ok (.ireturn, 1) := by decide +kernel
theorem dX4_addShadow_0 : decode cX4_addShadow 0 = .ok (.aload_n 0, 1) := by decide +kernel
theorem dX4_addShadow_1 : decode cX4_addShadow 1 = .ok (.iload_n 1, 1) := by decide +kernel
theorem dX4_addShadow_2 : decode cX4_addShadow 2 = .ok (.invokevirtual 28, 3) := by decide +kernel
theorem dX4_addShadow_5 : decode cX4_addShadow 5 = .ok (.astore_n 3, 1) := by decide +kernel
theorem dX4_addShadow_6 : decode cX4_addShadow 6 = .ok (.aload_n 3, 1) := by decide +kernel
theorem dX4_addShadow_7 : decode cX4_addShadow 7 = .ok (.ifnonnull 6, 3) := by decide +kernel
theorem dX4_addShadow_10 : decode cX4_addShadow 10 = .ok (.bipush (-2), 2) := by decide +kernel
theorem dX4_addShadow_12 : decode cX4_addShadow 12 = .ok (.ireturn, 1) := by decide +kernel
theorem dX4_addShadow_13 : decode cX4_addShadow 13 = .ok (.iload_n 2, 1) := by decide +kernel
theorem dX4_addShadow_14 : decode cX4_addShadow 14 = .ok (.bipush 6, 2) := by decide +kernel
theorem dX4_addShadow_16 : decode cX4_addShadow 16 = .ok (.if_icmp .lt 9, 3) := by decide +kernel
theorem dX4_addShadow_19 : decode cX4_addShadow 19 = .ok (.iload_n 2, 1) := by decide +kernel
theorem dX4_addShadow_20 : decode cX4_addShadow 20 = .ok (.bipush 18, 2) := by decide +kernel
theorem dX4_addShadow_22 : decode cX4_addShadow 22 = .ok (.if_icmp .le 6, 3) := by decide +kernel
theorem dX4_addShadow_25 : decode cX4_addShadow 25 = .ok (.bipush (-3), 2) := by decide +kernel
theorem dX4_addShadow_27 : decode cX4_addShadow 27 = .ok (.ireturn, 1) := by decide +kernel
theorem dX4_addShadow_28 : decode cX4_addShadow 28 = .ok (.aload_n 0, 1) := by decide +kernel
theorem dX4_addShadow_29 : decode cX4_addShadow 29 = .ok (.bipush 109, 2) := by decide +kernel
theorem dX4_addShadow_31 : decode cX4_addShadow 31 = .ok (.invokevirtual 40, 3) := by decide +kernel
theorem dX4_addShadow_34 : decode cX4_addShadow 34 = .ok (.astore 4, 2) := by decide +kernel
theorem dX4_addShadow_36 : decode cX4_addShadow 36 = .ok (.aload 4, 2) := by decide +kernel
theorem dX4_addShadow_38 : decode cX4_addShadow 38 = .ok (.ifnonnull 6, 3) := by decide +kernel
theorem dX4_addShadow_41 : decode cX4_addShadow 41 = .ok (.bipush (-4), 2) := by decide +kernel
theorem dX4_addShadow_43 : decode cX4_addShadow 43 = .ok (.ireturn, 1) := by decide +kernel
theorem dX4_addShadow_44 : decode cX4_addShadow 44 = .ok (.aload 4, 2) := by decide +kernel
theorem dX4_addShadow_46 : decode cX4_addShadow 46 = .ok (.aload_n 3, 1) := by decide +kernel
theorem dX4_addShadow_47 : decode cX4_addShadow 47 = .ok (.iload_n 2, 1) := by decide +kernel
theorem dX4_addShadow_48 : decode cX4_addShadow 48 = .ok (.bipush 12, 2) := by decide +kernel
theorem dX4_addShadow_50 : decode cX4_addShadow 50 = .ok (.isub, 1) := by decide +kernel
theorem dX4_addShadow_51 : decode cX4_addShadow 51 = .ok (.invokevirtual 90, 3) := by decide +kernel
theorem dX4_addShadow_54 : decode cX4_addShadow 54 = .ok (.aload 4, 2) := by decide +kernel
theorem dX4_addShadow_56 : decode cX4_addShadow 56 = .ok (.invokevirtual 87, 3) := by decide +kernel
theorem dX4_addShadow_59 : decode cX4_addShadow 59 = .ok (.istore 5, 2) := by decide +kernel
theorem dX4_addShadow_61 : decode cX4_addShadow 61 = .ok (.aload_n 0, 1) := by decide +kernel
theorem dX4_addShadow_62 : decode cX4_addShadow 62 = .ok (.dup, 1) := by decide +kernel
theorem dX4_addShadow_63 : decode cX4_addShadow 63 = .ok (.getfield 21, 3) := by decide +kernel
theorem dX4_addShadow_66 : decode cX4_addShadow 66 = .ok (.iload 5, 2) := by decide +kernel
theorem dX4_addShadow_68 : decode cX4_addShadow 68 = .ok (.iadd, 1) := by decide +kernel
theorem dX4_addShadow_69 : decode cX4_addShadow 69 = .ok (.putfield 21, 3) := by decide +kernel
theorem dX4_addShadow_72 : decode cX4_addShadow 72 = .ok (.iload 5, 2) := by decide +kernel
theorem dX4_addShadow_74 : decode cX4_addShadow 74 = .ok (.ireturn, 1) := by decide +kernel
theorem dX4_countVisible_0 : decode cX4_countVisible 0 = .ok (.iconst 0, 1) := by decide +kernel
theorem dX4_countVisible_1 : decode cX4_countVisible 1 = .ok (.istore_n 1, 1) := by decide +kernel
theorem dX4_countVisible_2 : decode cX4_countVisible 2 = .ok (.iconst 0, 1) := by decide +kernel
theorem dX4_countVisible_3 : decode cX4_countVisible 3 = .ok (.istore_n 2, 1) := by decide +kernel
theorem dX4_countVisible_4 : decode cX4_countVisible 4 = .ok (.iload_n 2, 1) := by decide +kernel
theorem dX4_countVisible_5 : decode cX4_countVisible 5 = .ok (.aload_n 0, 1) := by decide +kernel
theorem dX4_countVisible_6 : decode cX4_countVisible 6 = .ok (.getfield 17, 3) := by decide +kernel
theorem dX4_countVisible_9 : decode cX4_countVisible 9 = .ok (.if_icmp .ge 29, 3) := by decide +kernel
theorem dX4_countVisible_12 : decode cX4_countVisible 12 = .ok (.aload_n 0, 1) := by decide +kernel
theorem dX4_countVisible_13 : decode cX4_countVisible 13 = .ok (.iload_n 2, 1) := by decide +kernel
theorem dX4_countVisible_14 : decode cX4_countVisible 14 = .ok (.invokevirtual 28, 3) := by decide +kernel
theorem dX4_countVisible_17 : decode cX4_countVisible 17 = .ok (.astore_n 3, 1) := by decide +kernel
theorem dX4_countVisible_18 : decode cX4_countVisible 18 = .ok (.aload_n 3, 1) := by decide +kernel
theorem dX4_countVisible_19 : decode cX4_countVisible 19 = .ok (.ifnull 13, 3) := by decide +kernel
theorem dX4_countVisible_22 : decode cX4_countVisible 22 = .ok (.aload_n 3, 1) := by decide +kernel
theorem dX4_countVisible_23 : decode cX4_countVisible 23 = .ok (.getfield 68, 3) := by decide +kernel
theorem dX4_countVisible_26 : decode cX4_countVisible 26 = .ok (.ifCond .eq 6, 3) := by decide +kernel
theorem dX4_countVisible_29 : decode cX4_countVisible 29 = .ok (.iinc 1 1, 3) := by decide +kernel
theorem dX4_countVisible_32 : decode cX4_countVisible 32 = .ok (.iinc 2 1, 3) := by decide +kernel
theorem dX4_countVisible_35 : decode cX4_countVisible 35 = .ok (.goto (-31), 3) := by decide +kernel
theorem dX4_countVisible_38 : decode cX4_countVisible 38 = .ok (.iload_n 1, 1) := by decide +kernel
theorem dX4_countVisible_39 : decode cX4_countVisible 39 = .ok (.ireturn, 1) := by decide +kernel
theorem dX4_countCovering_0 : decode cX4_countCovering 0 = .ok (.iconst 0, 1) := by decide +kernel
theorem dX4_countCovering_1 : decode cX4_countCovering 1 = .ok (.istore_n 2, 1) := by decide +kernel
theorem dX4_countCovering_2 : decode cX4_countCovering 2 = .ok (.iconst 0, 1) := by decide +kernel
theorem dX4_countCovering_3 : decode cX4_countCovering 3 = .ok (.istore_n 3, 1) := by decide +kernel
theorem dX4_countCovering_4 : decode cX4_countCovering 4 = .ok (.iload_n 3, 1) := by decide +kernel
theorem dX4_countCovering_5 : decode cX4_countCovering 5 = .ok (.aload_n 0, 1) := by decide +kernel
theorem dX4_countCovering_6 : decode cX4_countCovering 6 = .ok (.getfield 17, 3) := by decide +kernel
theorem dX4_countCovering_9 : decode cX4_countCovering 9 = .ok (.if_icmp .ge 33, 3) := by decide +kernel
theorem dX4_countCovering_12 : decode cX4_countCovering 12 = .ok (.aload_n 0, 1) := by decide +kernel
theorem dX4_countCovering_13 : decode cX4_countCovering 13 = .ok (.iload_n 3, 1) := by decide +kernel
theorem dX4_countCovering_14 : decode cX4_countCovering 14 = .ok (.invokevirtual 28, 3) := by decide +kernel
theorem dX4_countCovering_17 : decode cX4_countCovering 17 = .ok (.astore 4, 2) := by decide +kernel
theorem dX4_countCovering_19 : decode cX4_countCovering 19 = .ok (.aload 4, 2) := by decide +kernel
theorem dX4_countCovering_21 : decode cX4_countCovering 21 = .ok (.ifnull 15, 3) := by decide +kernel
theorem dX4_countCovering_24 : decode cX4_countCovering 24 = .ok (.aload 4, 2) := by decide +kernel
theorem dX4_countCovering_26 : decode cX4_countCovering 26 = .ok (.iload_n 1, 1) := by decide +kernel
theorem dX4_countCovering_27 : decode cX4_countCovering 27 = .ok (.invokevirtual 94, 3) := by decide +kernel
theorem dX4_countCovering_30 : decode cX4_countCovering 30 = .ok (.ifCond .eq 6, 3) := by decide +kernel
theorem dX4_countCovering_33 : decode cX4_countCovering 33 = .ok (.iinc 2 1, 3) := by decide +kernel
theorem dX4_countCovering_36 : decode cX4_countCovering 36 = .ok (.iinc 3 1, 3) := by decide +kernel
theorem dX4_countCovering_39 : decode cX4_countCovering 39 = .ok (.goto (-35), 3) := by decide +kernel
theorem dX4_countCovering_42 : decode cX4_countCovering 42 = .ok (.iload_n 2, 1) := by decide +kernel
theorem dX4_countCovering_43 : decode cX4_countCovering 43 = .ok (.ireturn, 1) := by decide +kernel
theorem dX4_countCoveredCells_0 : decode cX4_countCoveredCells 0 = .ok (.iconst 0, 1) := by decide +kernel
theorem dX4_countCoveredCells_1 : decode cX4_countCoveredCells 1 = .ok (.istore_n 1, 1) := by decide +kernel
theorem dX4_countCoveredCells_2 : decode cX4_countCoveredCells 2 = .ok (.iconst 0, 1) := by decide +kernel
theorem dX4_countCoveredCells_3 : decode cX4_countCoveredCells 3 = .ok (.istore_n 2, 1) := by decide +kernel
theorem dX4_countCoveredCells_4 : decode cX4_countCoveredCells 4 = .ok (.iload_n 2, 1) := by decide +kernel
theorem dX4_countCoveredCells_5 : decode cX4_countCoveredCells 5 = .ok (.bipush 48, 2) := by decide +kernel
theorem dX4_countCoveredCells_7 : decode cX4_countCoveredCells 7 = .ok (.if_icmp .ge 20, 3) := by decide +kernel
theorem dX4_countCoveredCells_10 : decode cX4_countCoveredCells 10 = .ok (.aload_n 0, 1) := by decide +kernel
theorem dX4_countCoveredCells_11 : decode cX4_countCoveredCells 11 = .ok (.iload_n 2, 1) := by decide +kernel
theorem dX4_countCoveredCells_12 : decode cX4_countCoveredCells 12 = .ok (.invokevirtual 97, 3) := by decide +kernel
theorem dX4_countCoveredCells_15 : decode cX4_countCoveredCells 15 = .ok (.ifCond .le 6, 3) := by decide +kernel
theorem dX4_countCoveredCells_18 : decode cX4_countCoveredCells 18 = .ok (.iinc 1 1, 3) := by decide +kernel
theorem dX4_countCoveredCells_21 : decode cX4_countCoveredCells 21 = .ok (.iinc 2 1, 3) := by decide +kernel
theorem dX4_countCoveredCells_24 : decode cX4_countCoveredCells 24 = .ok (.goto (-20), 3) := by decide +kernel
theorem dX4_countCoveredCells_27 : decode cX4_countCoveredCells 27 = .ok (.iload_n 1, 1) := by decide +kernel
theorem dX4_countCoveredCells_28 : decode cX4_countCoveredCells 28 = .ok (.ireturn, 1) := by decide +kernel
theorem dX4_uppermostCovering_0 : decode cX4_uppermostCovering 0 = .ok (.aload_n 0, 1) := by decide +kernel
theorem dX4_uppermostCovering_1 : decode cX4_uppermostCovering 1 = .ok (.getfield 17, 3) := by decide +kernel
theorem dX4_uppermostCovering_4 : decode cX4_uppermostCovering 4 = .ok (.iconst 1, 1) := by decide +kernel
theorem dX4_uppermostCovering_5 : decode cX4_uppermostCovering 5 = .ok (.isub, 1) := by decide +kernel
theorem dX4_uppermostCovering_6 : decode cX4_uppermostCovering 6 = .ok (.istore_n 2, 1) := by decide +kernel
theorem dX4_uppermostCovering_7 : decode cX4_uppermostCovering 7 = .ok (.iload_n 2, 1) := by decide +kernel
theorem dX4_uppermostCovering_8 : decode cX4_uppermostCovering 8 = .ok (.ifCond .lt 29, 3) := by decide +kernel
theorem dX4_uppermostCovering_11 : decode cX4_uppermostCovering 11 = .ok (.aload_n 0, 1) := by decide +kernel
theorem dX4_uppermostCovering_12 : decode cX4_uppermostCovering 12 = .ok (.iload_n 2, 1) := by decide +kernel
theorem dX4_uppermostCovering_13 : decode cX4_uppermostCovering 13 = .ok (.invokevirtual 28, 3) := by decide +kernel
theorem dX4_uppermostCovering_16 : decode cX4_uppermostCovering 16 = .ok (.astore_n 3, 1) := by decide +kernel
theorem dX4_uppermostCovering_17 : decode cX4_uppermostCovering 17 = .ok (.aload_n 3, 1) := by decide +kernel
theorem dX4_uppermostCovering_18 : decode cX4_uppermostCovering 18 = .ok (.ifnull 13, 3) := by decide +kernel
theorem dX4_uppermostCovering_21 : decode cX4_uppermostCovering 21 = .ok (.aload_n 3, 1) := by decide +kernel
theorem dX4_uppermostCovering_22 : decode cX4_uppermostCovering 22 = .ok (.iload_n 1, 1) := by decide +kernel
theorem dX4_uppermostCovering_23 : decode cX4_uppermostCovering 23 = .ok (.invokevirtual 94, 3) := by decide +kernel
theorem dX4_uppermostCovering_26 : decode cX4_uppermostCovering 26 = .ok (.ifCond .eq 5, 3) := by decide +kernel
theorem dX4_uppermostCovering_29 : decode cX4_uppermostCovering 29 = .ok (.iload_n 2, 1) := by decide +kernel
theorem dX4_uppermostCovering_30 : decode cX4_uppermostCovering 30 = .ok (.ireturn, 1) := by decide +kernel
theorem dX4_uppermostCovering_31 : decode cX4_uppermostCovering 31 = .ok (.iinc 2 (-1), 3) := by decide +kernel
theorem dX4_uppermostCovering_34 : decode cX4_uppermostCovering 34 = .ok (.goto (-27), 3) := by decide +kernel
theorem dX4_uppermostCovering_37 : decode cX4_uppermostCovering 37 = .ok (.iconst (-1), 1) := by decide +kernel
theorem dX4_uppermostCovering_38 : decode cX4_uppermostCovering 38 = .ok (.ireturn, 1) := by decide +kernel
theorem dX4_toneFromTop_0 : decode cX4_toneFromTop 0 = .ok (.aload_n 0, 1) := by decide +kernel
theorem dX4_toneFromTop_1 : decode cX4_toneFromTop 1 = .ok (.getfield 17, 3) := by decide +kernel
theorem dX4_toneFromTop_4 : decode cX4_toneFromTop 4 = .ok (.iconst 1, 1) := by decide +kernel
theorem dX4_toneFromTop_5 : decode cX4_toneFromTop 5 = .ok (.isub, 1) := by decide +kernel
theorem dX4_toneFromTop_6 : decode cX4_toneFromTop 6 = .ok (.istore_n 2, 1) := by decide +kernel
theorem dX4_toneFromTop_7 : decode cX4_toneFromTop 7 = .ok (.iload_n 2, 1) := by decide +kernel
theorem dX4_toneFromTop_8 : decode cX4_toneFromTop 8 = .ok (.ifCond .lt 34, 3) := by decide +kernel
theorem dX4_toneFromTop_11 : decode cX4_toneFromTop 11 = .ok (.aload_n 0, 1) := by decide +kernel
theorem dX4_toneFromTop_12 : decode cX4_toneFromTop 12 = .ok (.iload_n 2, 1) := by decide +kernel
theorem dX4_toneFromTop_13 : decode cX4_toneFromTop 13 = .ok (.invokevirtual 28, 3) := by decide +kernel
theorem dX4_toneFromTop_16 : decode cX4_toneFromTop 16 = .ok (.astore_n 3, 1) := by decide +kernel
theorem dX4_toneFromTop_17 : decode cX4_toneFromTop 17 = .ok (.aload_n 3, 1) := by decide +kernel
theorem dX4_toneFromTop_18 : decode cX4_toneFromTop 18 = .ok (.ifnull 18, 3) := by decide +kernel
theorem dX4_toneFromTop_21 : decode cX4_toneFromTop 21 = .ok (.aload_n 3, 1) := by decide +kernel
theorem dX4_toneFromTop_22 : decode cX4_toneFromTop 22 = .ok (.iload_n 1, 1) := by decide +kernel
theorem dX4_toneFromTop_23 : decode cX4_toneFromTop 23 = .ok (.invokevirtual 100, 3) := by decide +kernel
theorem dX4_toneFromTop_26 : decode cX4_toneFromTop 26 = .ok (.ifCond .eq 10, 3) := by decide +kernel
theorem dX4_toneFromTop_29 : decode cX4_toneFromTop 29 = .ok (.aload_n 0, 1) := by decide +kernel
theorem dX4_toneFromTop_30 : decode cX4_toneFromTop 30 = .ok (.iload_n 2, 1) := by decide +kernel
theorem dX4_toneFromTop_31 : decode cX4_toneFromTop 31 = .ok (.iload_n 1, 1) := by decide +kernel
theorem dX4_toneFromTop_32 : decode cX4_toneFromTop 32 = .ok (.invokevirtual 103, 3) := by decide +kernel
theorem dX4_toneFromTop_35 : decode cX4_toneFromTop 35 = .ok (.ireturn, 1) := by decide +kernel
theorem dX4_toneFromTop_36 : decode cX4_toneFromTop 36 = .ok (.iinc 2 (-1), 3) := by decide +kernel
theorem dX4_toneFromTop_39 : decode cX4_toneFromTop 39 = .ok (.goto (-32), 3) := by decide +kernel
theorem dX4_toneFromTop_42 : decode cX4_toneFromTop 42 = .ok (.aload_n 0, 1) := by decide +kernel
theorem dX4_toneFromTop_43 : decode cX4_toneFromTop 43 = .ok (.iconst 0, 1) := by decide +kernel
theorem dX4_toneFromTop_44 : decode cX4_toneFromTop 44 = .ok (.iload_n 1, 1) := by decide +kernel
theorem dX4_toneFromTop_45 : decode cX4_toneFromTop 45 = .ok (.invokevirtual 103, 3) := by decide +kernel
theorem dX4_toneFromTop_48 : decode cX4_toneFromTop 48 = .ok (.ireturn, 1) := by decide +kernel
theorem dX4_toneFrom_0 : decode cX4_toneFrom 0 = .ok (.bipush 15, 2) := by decide +kernel
theorem dX4_toneFrom_2 : decode cX4_toneFrom 2 = .ok (.istore_n 3, 1) := by decide +kernel
theorem dX4_toneFrom_3 : decode cX4_toneFrom 3 = .ok (.iload_n 1, 1) := by decide +kernel
theorem dX4_toneFrom_4 : decode cX4_toneFrom 4 = .ok (.istore 4, 2) := by decide +kernel
theorem dX4_toneFrom_6 : decode cX4_toneFrom 6 = .ok (.iload 4, 2) := by decide +kernel
theorem dX4_toneFrom_8 : decode cX4_toneFrom 8 = .ok (.aload_n 0, 1) := by decide +kernel
theorem dX4_toneFrom_9 : decode cX4_toneFrom 9 = .ok (.getfield 17, 3) := by decide +kernel
theorem dX4_toneFrom_12 : decode cX4_toneFrom 12 = .ok (.if_icmp .ge 30, 3) := by decide +kernel
theorem dX4_toneFrom_15 : decode cX4_toneFrom 15 = .ok (.aload_n 0, 1) := by decide +kernel
theorem dX4_toneFrom_16 : decode cX4_toneFrom 16 = .ok (.iload 4, 2) := by decide +kernel
theorem dX4_toneFrom_18 : decode cX4_toneFrom 18 = .ok (.invokevirtual 28, 3) := by decide +kernel
theorem dX4_toneFrom_21 : decode cX4_toneFrom 21 = .ok (.astore 5, 2) := by decide +kernel
theorem dX4_toneFrom_23 : decode cX4_toneFrom 23 = .ok (.aload 5, 2) := by decide +kernel
theorem dX4_toneFrom_25 : decode cX4_toneFrom 25 = .ok (.ifnull 11, 3) := by decide +kernel
theorem dX4_toneFrom_28 : decode cX4_toneFrom 28 = .ok (.aload 5, 2) := by decide +kernel
theorem dX4_toneFrom_30 : decode cX4_toneFrom 30 = .ok (.iload_n 3, 1) := by decide +kernel
theorem dX4_toneFrom_31 : decode cX4_toneFrom 31 = .ok (.iload_n 2, 1) := by decide +kernel
theorem dX4_toneFrom_32 : decode cX4_toneFrom 32 = .ok (.invokevirtual 107, 3) := by decide +kernel
theorem dX4_toneFrom_35 : decode cX4_toneFrom 35 = .ok (.istore_n 3, 1) := by decide +kernel
theorem dX4_toneFrom_36 : decode cX4_toneFrom 36 = .ok (.iinc 4 1, 3) := by decide +kernel
theorem dX4_toneFrom_39 : decode cX4_toneFrom 39 = .ok (.goto (-33), 3) := by decide +kernel
theorem dX4_toneFrom_42 : decode cX4_toneFrom 42 = .ok (.iload_n 3, 1) := by decide +kernel
theorem dX4_toneFrom_43 : decode cX4_toneFrom 43 = .ok (.ireturn, 1) := by decide +kernel
theorem dX4_positionOfRank_0 : decode cX4_positionOfRank 0 = .ok (.iconst 0, 1) := by decide +kernel
theorem dX4_positionOfRank_1 : decode cX4_positionOfRank 1 = .ok (.istore_n 2, 1) := by decide +kernel
theorem dX4_positionOfRank_2 : decode cX4_positionOfRank 2 = .ok (.iload_n 2, 1) := by decide +kernel
theorem dX4_positionOfRank_3 : decode cX4_positionOfRank 3 = .ok (.aload_n 0, 1) := by decide +kernel
theorem dX4_positionOfRank_4 : decode cX4_positionOfRank 4 = .ok (.getfield 17, 3) := by decide +kernel
theorem dX4_positionOfRank_7 : decode cX4_positionOfRank 7 = .ok (.if_icmp .ge 20, 3) := by decide +kernel
theorem dX4_positionOfRank_10 : decode cX4_positionOfRank 10 = .ok (.aload_n 0, 1) := by decide +kernel
theorem dX4_positionOfRank_11 : decode cX4_positionOfRank 11 = .ok (.iload_n 2, 1) := by decide +kernel
theorem dX4_positionOfRank_12 : decode cX4_positionOfRank 12 = .ok (.invokevirtual 110, 3) := by decide +kernel
theorem dX4_positionOfRank_15 : decode cX4_positionOfRank 15 = .ok (.iload_n 1, 1) := by decide +kernel
theorem dX4_positionOfRank_16 : decode cX4_positionOfRank 16 = .ok (.if_icmp .ne 5, 3) := by decide +kernel
theorem dX4_positionOfRank_19 : decode cX4_positionOfRank 19 = .ok (.iload_n 2, 1) := by decide +kernel
theorem dX4_positionOfRank_20 : decode cX4_positionOfRank 20 = .ok (.ireturn, 1) := by decide +kernel
theorem dX4_positionOfRank_21 : decode cX4_positionOfRank 21 = .ok (.iinc 2 1, 3) := by decide +kernel
theorem dX4_positionOfRank_24 : decode cX4_positionOfRank 24 = .ok (.goto (-22), 3) := by decide +kernel
theorem dX4_positionOfRank_27 : decode cX4_positionOfRank 27 = .ok (.iconst (-1), 1) := by decide +kernel
theorem dX4_positionOfRank_28 : decode cX4_positionOfRank 28 = .ok (.ireturn, 1) := by decide +kernel
theorem dX4_countAhead_0 : decode cX4_countAhead 0 = .ok (.aload_n 0, 1) := by decide +kernel
theorem dX4_countAhead_1 : decode cX4_countAhead 1 = .ok (.iload_n 1, 1) := by decide +kernel
theorem dX4_countAhead_2 : decode cX4_countAhead 2 = .ok (.invokevirtual 113, 3) := by decide +kernel
theorem dX4_countAhead_5 : decode cX4_countAhead 5 = .ok (.istore_n 2, 1) := by decide +kernel
theorem dX4_countAhead_6 : decode cX4_countAhead 6 = .ok (.iconst 0, 1) := by decide +kernel
theorem dX4_countAhead_7 : decode cX4_countAhead 7 = .ok (.istore_n 3, 1) := by decide +kernel
theorem dX4_countAhead_8 : decode cX4_countAhead 8 = .ok (.iconst 0, 1) := by decide +kernel
theorem dX4_countAhead_9 : decode cX4_countAhead 9 = .ok (.istore 4, 2) := by decide +kernel
theorem dX4_countAhead_11 : decode cX4_countAhead 11 = .ok (.iload 4, 2) := by decide +kernel
theorem dX4_countAhead_13 : decode cX4_countAhead 13 = .ok (.aload_n 0, 1) := by decide +kernel
theorem dX4_countAhead_14 : decode cX4_countAhead 14 = .ok (.getfield 17, 3) := by decide +kernel
theorem dX4_countAhead_17 : decode cX4_countAhead 17 = .ok (.if_icmp .ge 38, 3) := by decide +kernel
theorem dX4_countAhead_20 : decode cX4_countAhead 20 = .ok (.aload_n 0, 1) := by decide +kernel
theorem dX4_countAhead_21 : decode cX4_countAhead 21 = .ok (.iload 4, 2) := by decide +kernel
theorem dX4_countAhead_23 : decode cX4_countAhead 23 = .ok (.invokevirtual 113, 3) := by decide +kernel
theorem dX4_countAhead_26 : decode cX4_countAhead 26 = .ok (.istore 5, 2) := by decide +kernel
theorem dX4_countAhead_28 : decode cX4_countAhead 28 = .ok (.iload 5, 2) := by decide +kernel
theorem dX4_countAhead_30 : decode cX4_countAhead 30 = .ok (.iload_n 2, 1) := by decide +kernel
theorem dX4_countAhead_31 : decode cX4_countAhead 31 = .ok (.if_icmp .gt 15, 3) := by decide +kernel
theorem dX4_countAhead_34 : decode cX4_countAhead 34 = .ok (.iload 5, 2) := by decide +kernel
theorem dX4_countAhead_36 : decode cX4_countAhead 36 = .ok (.iload_n 2, 1) := by decide +kernel
theorem dX4_countAhead_37 : decode cX4_countAhead 37 = .ok (.if_icmp .ne 12, 3) := by decide +kernel
theorem dX4_countAhead_40 : decode cX4_countAhead 40 = .ok (.iload 4, 2) := by decide +kernel
theorem dX4_countAhead_42 : decode cX4_countAhead 42 = .ok (.iload_n 1, 1) := by decide +kernel
theorem dX4_countAhead_43 : decode cX4_countAhead 43 = .ok (.if_icmp .ge 6, 3) := by decide +kernel
theorem dX4_countAhead_46 : decode cX4_countAhead 46 = .ok (.iinc 3 1, 3) := by decide +kernel
theorem dX4_countAhead_49 : decode cX4_countAhead 49 = .ok (.iinc 4 1, 3) := by decide +kernel
theorem dX4_countAhead_52 : decode cX4_countAhead 52 = .ok (.goto (-41), 3) := by decide +kernel
theorem dX4_countAhead_55 : decode cX4_countAhead 55 = .ok (.iload_n 3, 1) := by decide +kernel
theorem dX4_countAhead_56 : decode cX4_countAhead 56 = .ok (.ireturn, 1) := by decide +kernel
theorem dX4_tonesOf_0 : decode cX4_tonesOf 0 = .ok (.aload_n 0, 1) := by decide +kernel
theorem dX4_tonesOf_1 : decode cX4_tonesOf 1 = .ok (.iload_n 1, 1) := by decide +kernel
theorem dX4_tonesOf_2 : decode cX4_tonesOf 2 = .ok (.invokevirtual 28, 3) := by decide +kernel
theorem dX4_tonesOf_5 : decode cX4_tonesOf 5 = .ok (.astore_n 2, 1) := by decide +kernel
theorem dX4_tonesOf_6 : decode cX4_tonesOf 6 = .ok (.aload_n 2, 1) := by decide +kernel
theorem dX4_tonesOf_7 : decode cX4_tonesOf 7 = .ok (.ifnonnull 7, 3) := by decide +kernel
theorem dX4_tonesOf_10 : decode cX4_tonesOf 10 = .ok (.iconst 0, 1) := by decide +kernel
theorem dX4_tonesOf_11 : decode cX4_tonesOf 11 = .ok (.goto 7, 3) := by decide +kernel
theorem dX4_tonesOf_14 : decode cX4_tonesOf 14 = .ok (.aload_n 2, 1) := by decide +kernel
theorem dX4_tonesOf_15 : decode cX4_tonesOf 15 = .ok (.invokevirtual 87, 3) := by decide +kernel
theorem dX4_tonesOf_18 : decode cX4_tonesOf 18 = .ok (.ireturn, 1) := by decide +kernel
theorem dX5_init_0 : decode cX5_init 0 = .ok (.aload_n 0, 1) := by decide +kernel
theorem dX5_init_1 : decode cX5_init 1 = .ok (.invokespecial 3, 3) := by decide +kernel
theorem dX5_init_4 : decode cX5_init 4 = .ok (.aload_n 0, 1) := by decide +kernel
theorem dX5_init_5 : decode cX5_init 5 = .ok (.bipush 32, 2) := by decide +kernel
theorem dX5_init_7 : decode cX5_init 7 = .ok (.newarray .char, 2) := by decide +kernel
theorem dX5_init_9 : decode cX5_init 9 = .ok (.putfield 9, 3) := by decide +kernel
theorem dX5_init_12 : decode cX5_init 12 = .ok (.aload_n 0, 1) := by decide +kernel
theorem dX5_init_13 : decode cX5_init 13 = .ok (.iconst 0, 1) := by decide +kernel
theorem dX5_init_14 : decode cX5_init 14 = .ok (.putfield 15, 3) := by decide +kernel
theorem dX5_init_17 : decode cX5_init 17 = .ok (.return_, 1) := by decide +kernel
theorem dX5_clear_0 : decode cX5_clear 0 = .ok (.aload_n 0, 1) := by decide +kernel
theorem dX5_clear_1 : decode cX5_clear 1 = .ok (.iconst 0, 1) := by decide +kernel
theorem dX5_clear_2 : decode cX5_clear 2 = .ok (.putfield 15, 3) := by decide +kernel
theorem dX5_clear_5 : decode cX5_clear 5 = .ok (.return_, 1) := by decide +kernel
theorem dX5_put_0 : decode cX5_put 0 = .ok (.aload_n 0, 1) := by decide +kernel
theorem dX5_put_1 : decode cX5_put 1 = .ok (.getfield 15, 3) := by decide +kernel
theorem dX5_put_4 : decode cX5_put 4 = .ok (.ifCond .lt 35, 3) := by decide +kernel
theorem dX5_put_7 : decode cX5_put 7 = .ok (.aload_n 0, 1) := by decide +kernel
theorem dX5_put_8 : decode cX5_put 8 = .ok (.getfield 15, 3) := by decide +kernel
theorem dX5_put_11 : decode cX5_put 11 = .ok (.aload_n 0, 1) := by decide +kernel
theorem dX5_put_12 : decode cX5_put 12 = .ok (.getfield 9, 3) := by decide +kernel
theorem dX5_put_15 : decode cX5_put 15 = .ok (.arraylength, 1) := by decide +kernel
theorem dX5_put_16 : decode cX5_put 16 = .ok (.if_icmp .ge 23, 3) := by decide +kernel
theorem dX5_put_19 : decode cX5_put 19 = .ok (.aload_n 0, 1) := by decide +kernel
theorem dX5_put_20 : decode cX5_put 20 = .ok (.getfield 9, 3) := by decide +kernel
theorem dX5_put_23 : decode cX5_put 23 = .ok (.aload_n 0, 1) := by decide +kernel
theorem dX5_put_24 : decode cX5_put 24 = .ok (.getfield 15, 3) := by decide +kernel
theorem dX5_put_27 : decode cX5_put 27 = .ok (.iload_n 1, 1) := by decide +kernel
theorem dX5_put_28 : decode cX5_put 28 = .ok (.castore, 1) := by decide +kernel
theorem dX5_put_29 : decode cX5_put 29 = .ok (.aload_n 0, 1) := by decide +kernel
theorem dX5_put_30 : decode cX5_put 30 = .ok (.dup, 1) := by decide +kernel
theorem dX5_put_31 : decode cX5_put 31 = .ok (.getfield 15, 3) := by decide +kernel
theorem dX5_put_34 : decode cX5_put 34 = .ok (.iconst 1, 1) := by decide +kernel
theorem dX5_put_35 : decode cX5_put 35 = .ok (.iadd, 1) := by decide +kernel
theorem dX5_put_36 : decode cX5_put 36 = .ok (.putfield 15, 3) := by decide +kernel
theorem dX5_put_39 : decode cX5_put 39 = .ok (.return_, 1) := by decide +kernel
theorem dX5_putHexDigit_0 : decode cX5_putHexDigit 0 = .ok (.aload_n 0, 1) := by decide +kernel
theorem dX5_putHexDigit_1 : decode cX5_putHexDigit 1 = .ok (.iload_n 1, 1) := by decide +kernel
theorem dX5_putHexDigit_2 : decode cX5_putHexDigit 2 = .ok (.bipush 10, 2) := by decide +kernel
theorem dX5_putHexDigit_4 : decode cX5_putHexDigit 4 = .ok (.if_icmp .ge 10, 3) := by decide +kernel
theorem dX5_putHexDigit_7 : decode cX5_putHexDigit 7 = .ok (.bipush 48, 2) := by decide +kernel
theorem dX5_putHexDigit_9 : decode cX5_putHexDigit 9 = .ok (.iload_n 1, 1) := by decide +kernel
theorem dX5_putHexDigit_10 : decode cX5_putHexDigit 10 = .ok (.iadd, 1) := by decide +kernel
theorem dX5_putHexDigit_11 : decode cX5_putHexDigit 11 = .ok (.goto 10, 3) := by decide +kernel
theorem dX5_putHexDigit_14 : decode cX5_putHexDigit 14 = .ok (.bipush 97, 2) := by decide +kernel
theorem dX5_putHexDigit_16 : decode cX5_putHexDigit 16 = .ok (.iload_n 1, 1) := by decide +kernel
theorem dX5_putHexDigit_17 : decode cX5_putHexDigit 17 = .ok (.iadd, 1) := by decide +kernel
theorem dX5_putHexDigit_18 : decode cX5_putHexDigit 18 = .ok (.bipush 10, 2) := by decide +kernel
theorem dX5_putHexDigit_20 : decode cX5_putHexDigit 20 = .ok (.isub, 1) := by decide +kernel
theorem dX5_putHexDigit_21 : decode cX5_putHexDigit 21 = .ok (.i2c, 1) := by decide +kernel
theorem dX5_putHexDigit_22 : decode cX5_putHexDigit 22 = .ok (.invokevirtual 19, 3) := by decide +kernel
theorem dX5_putHexDigit_25 : decode cX5_putHexDigit 25 = .ok (.return_, 1) := by decide +kernel
theorem dX5_putNumber_0 : decode cX5_putNumber 0 = .ok (.iload_n 1, 1) := by decide +kernel
theorem dX5_putNumber_1 : decode cX5_putNumber 1 = .ok (.bipush 10, 2) := by decide +kernel
theorem dX5_putNumber_3 : decode cX5_putNumber 3 = .ok (.if_icmp .lt 15, 3) := by decide +kernel
theorem dX5_putNumber_6 : decode cX5_putNumber 6 = .ok (.aload_n 0, 1) := by decide +kernel
theorem dX5_putNumber_7 : decode cX5_putNumber 7 = .ok (.bipush 48, 2) := by decide +kernel
theorem dX5_putNumber_9 : decode cX5_putNumber 9 = .ok (.iload_n 1, 1) := by decide +kernel
theorem dX5_putNumber_10 : decode cX5_putNumber 10 = .ok (.bipush 10, 2) := by decide +kernel
theorem dX5_putNumber_12 : decode cX5_putNumber 12 = .ok (.idiv, 1) := by decide +kernel
theorem dX5_putNumber_13 : decode cX5_putNumber 13 = .ok (.iadd, 1) := by decide +kernel
theorem dX5_putNumber_14 : decode cX5_putNumber 14 = .ok (.i2c, 1) := by decide +kernel
theorem dX5_putNumber_15 : decode cX5_putNumber 15 = .ok (.invokevirtual 19, 3) := by decide +kernel
theorem dX5_putNumber_18 : decode cX5_putNumber 18 = .ok (.aload_n 0, 1) := by decide +kernel
theorem dX5_putNumber_19 : decode cX5_putNumber 19 = .ok (.bipush 48, 2) := by decide +kernel
theorem dX5_putNumber_21 : decode cX5_putNumber 21 = .ok (.iload_n 1, 1) := by decide +kernel
theorem dX5_putNumber_22 : decode cX5_putNumber 22 = .ok (.bipush 10, 2) := by decide +kernel
theorem dX5_putNumber_24 : decode cX5_putNumber 24 = .ok (.irem, 1) := by decide +kernel
theorem dX5_putNumber_25 : decode cX5_putNumber 25 = .ok (.iadd, 1) := by decide +kernel
theorem dX5_putNumber_26 : decode cX5_putNumber 26 = .ok (.i2c, 1) := by decide +kernel
theorem dX5_putNumber_27 : decode cX5_putNumber 27 = .ok (.invokevirtual 19, 3) := by decide +kernel
theorem dX5_putNumber_30 : decode cX5_putNumber 30 = .ok (.return_, 1) := by decide +kernel
theorem dX5_charAt_0 : decode cX5_charAt 0 = .ok (.iload_n 1, 1) := by decide +kernel
theorem dX5_charAt_1 : decode cX5_charAt 1 = .ok (.ifCond .lt 21, 3) := by decide +kernel
theorem dX5_charAt_4 : decode cX5_charAt 4 = .ok (.iload_n 1, 1) := by decide +kernel
theorem dX5_charAt_5 : decode cX5_charAt 5 = .ok (.aload_n 0, 1) := by decide +kernel
theorem dX5_charAt_6 : decode cX5_charAt 6 = .ok (.getfield 9, 3) := by decide +kernel
theorem dX5_charAt_9 : decode cX5_charAt 9 = .ok (.arraylength, 1) := by decide +kernel
theorem dX5_charAt_10 : decode cX5_charAt 10 = .ok (.if_icmp .ge 12, 3) := by decide +kernel
theorem dX5_charAt_13 : decode cX5_charAt 13 = .ok (.aload_n 0, 1) := by decide +kernel
theorem dX5_charAt_14 : decode cX5_charAt 14 = .ok (.getfield 9, 3) := by decide +kernel
theorem dX5_charAt_17 : decode cX5_charAt 17 = .ok (.iload_n 1, 1) := by decide +kernel
theorem dX5_charAt_18 : decode cX5_charAt 18 = .ok (.caload, 1) := by decide +kernel
theorem dX5_charAt_19 : decode cX5_charAt 19 = .ok (.goto 5, 3) := by decide +kernel
theorem dX5_charAt_22 : decode cX5_charAt 22 = .ok (.bipush 32, 2) := by decide +kernel
theorem dX5_charAt_24 : decode cX5_charAt 24 = .ok (.ireturn, 1) := by decide +kernel
theorem dX6_init_0 : decode cX6_init 0 = .ok (.aload_n 0, 1) := by decide +kernel
theorem dX6_init_1 : decode cX6_init 1 = .ok (.invokespecial 3, 3) := by decide +kernel
theorem dX6_init_4 : decode cX6_init 4 = .ok (.aload_n 0, 1) := by decide +kernel
theorem dX6_init_5 : decode cX6_init 5 = .ok (.new 9, 3) := by decide +kernel
theorem dX6_init_8 : decode cX6_init 8 = .ok (.dup, 1) := by decide +kernel
theorem dX6_init_9 : decode cX6_init 9 = .ok (.invokespecial 11, 3) := by decide +kernel
theorem dX6_init_12 : decode cX6_init 12 = .ok (.putfield 12, 3) := by decide +kernel
theorem dX6_init_15 : decode cX6_init 15 = .ok (.aload_n 0, 1) := by decide +kernel
theorem dX6_init_16 : decode cX6_init 16 = .ok (.new 16, 3) := by decide +kernel
theorem dX6_init_19 : decode cX6_init 19 = .ok (.dup, 1) := by decide +kernel
theorem dX6_init_20 : decode cX6_init 20 = .ok (.invokespecial 18, 3) := by decide +kernel
theorem dX6_init_23 : decode cX6_init 23 = .ok (.putfield 19, 3) := by decide +kernel
theorem dX6_init_26 : decode cX6_init 26 = .ok (.aload_n 0, 1) := by decide +kernel
theorem dX6_init_27 : decode cX6_init 27 = .ok (.new 9, 3) := by decide +kernel
theorem dX6_init_30 : decode cX6_init 30 = .ok (.dup, 1) := by decide +kernel
theorem dX6_init_31 : decode cX6_init 31 = .ok (.invokespecial 11, 3) := by decide +kernel
theorem dX6_init_34 : decode cX6_init 34 = .ok (.putfield 23, 3) := by decide +kernel
theorem dX6_init_37 : decode cX6_init 37 = .ok (.aload_n 0, 1) := by decide +kernel
theorem dX6_init_38 : decode cX6_init 38 = .ok (.iconst 0, 1) := by decide +kernel
theorem dX6_init_39 : decode cX6_init 39 = .ok (.putfield 26, 3) := by decide +kernel
theorem dX6_init_42 : decode cX6_init 42 = .ok (.aload_n 0, 1) := by decide +kernel
theorem dX6_init_43 : decode cX6_init 43 = .ok (.new 30, 3) := by decide +kernel
theorem dX6_init_46 : decode cX6_init 46 = .ok (.dup, 1) := by decide +kernel
theorem dX6_init_47 : decode cX6_init 47 = .ok (.invokespecial 32, 3) := by decide +kernel
theorem dX6_init_50 : decode cX6_init 50 = .ok (.putfield 33, 3) := by decide +kernel
theorem dX6_init_53 : decode cX6_init 53 = .ok (.aload_n 0, 1) := by decide +kernel
theorem dX6_init_54 : decode cX6_init 54 = .ok (.new 37, 3) := by decide +kernel
theorem dX6_init_57 : decode cX6_init 57 = .ok (.dup, 1) := by decide +kernel
theorem dX6_init_58 : decode cX6_init 58 = .ok (.invokespecial 39, 3) := by decide +kernel
theorem dX6_init_61 : decode cX6_init 61 = .ok (.putfield 40, 3) := by decide +kernel
theorem dX6_init_64 : decode cX6_init 64 = .ok (.aload_n 0, 1) := by decide +kernel
theorem dX6_init_65 : decode cX6_init 65 = .ok (.new 44, 3) := by decide +kernel
theorem dX6_init_68 : decode cX6_init 68 = .ok (.dup, 1) := by decide +kernel
theorem dX6_init_69 : decode cX6_init 69 = .ok (.invokespecial 46, 3) := by decide +kernel
theorem dX6_init_72 : decode cX6_init 72 = .ok (.putfield 47, 3) := by decide +kernel
theorem dX6_init_75 : decode cX6_init 75 = .ok (.aload_n 0, 1) := by decide +kernel
theorem dX6_init_76 : decode cX6_init 76 = .ok (.iconst (-1), 1) := by decide +kernel
theorem dX6_init_77 : decode cX6_init 77 = .ok (.putfield 51, 3) := by decide +kernel
theorem dX6_init_80 : decode cX6_init 80 = .ok (.aload_n 0, 1) := by decide +kernel
theorem dX6_init_81 : decode cX6_init 81 = .ok (.iconst (-1), 1) := by decide +kernel
theorem dX6_init_82 : decode cX6_init 82 = .ok (.putfield 55, 3) := by decide +kernel
theorem dX6_init_85 : decode cX6_init 85 = .ok (.return_, 1) := by decide +kernel
theorem dX6_addLayer_0 : decode cX6_addLayer 0 = .ok (.aload_n 0, 1) := by decide +kernel
theorem dX6_addLayer_1 : decode cX6_addLayer 1 = .ok (.getfield 19, 3) := by decide +kernel
theorem dX6_addLayer_4 : decode cX6_addLayer 4 = .ok (.aload_n 0, 1) := by decide +kernel
theorem dX6_addLayer_5 : decode cX6_addLayer 5 = .ok (.getfield 12, 3) := by decide +kernel
theorem dX6_addLayer_8 : decode cX6_addLayer 8 = .ok (.invokevirtual 58, 3) := by decide +kernel
theorem dX6_addLayer_11 : decode cX6_addLayer 11 = .ok (.aload_n 0, 1) := by decide +kernel
theorem dX6_addLayer_12 : decode cX6_addLayer 12 = .ok (.getfield 12, 3) := by decide +kernel
theorem dX6_addLayer_15 : decode cX6_addLayer 15 = .ok (.iload_n 1, 1) := by decide +kernel
theorem dX6_addLayer_16 : decode cX6_addLayer 16 = .ok (.invokevirtual 62, 3) := by decide +kernel
theorem dX6_addLayer_19 : decode cX6_addLayer 19 = .ok (.istore_n 2, 1) := by decide +kernel
theorem dX6_addLayer_20 : decode cX6_addLayer 20 = .ok (.iload_n 2, 1) := by decide +kernel
theorem dX6_addLayer_21 : decode cX6_addLayer 21 = .ok (.bipush (-3), 2) := by decide +kernel
theorem dX6_addLayer_23 : decode cX6_addLayer 23 = .ok (.if_icmp .ne 13, 3) := by decide +kernel
theorem dX6_addLayer_26 : decode cX6_addLayer 26 = .ok (.new 66, 3) := by decide +kernel
theorem dX6_addLayer_29 : decode cX6_addLayer 29 = .ok (.dup, 1) := by decide +kernel
theorem dX6_addLayer_30 : decode cX6_addLayer 30 = .ok (.ldc 68, 2) := by decide +kernel
theorem dX6_addLayer_32 : decode cX6_addLayer 32 = .ok (.invokespecial 70, 3) := by decide +kernel
theorem dX6_addLayer_35 : decode cX6_addLayer 35 = .ok (.athrow, 1) := by decide +kernel
theorem dX6_addLayer_36 : decode cX6_addLayer 36 = .ok (.iload_n 2, 1) := by decide +kernel
theorem dX6_addLayer_37 : decode cX6_addLayer 37 = .ok (.bipush (-4), 2) := by decide +kernel
theorem dX6_addLayer_39 : decode cX6_addLayer 39 = .ok (.if_icmp .ne 13, 3) := by decide +kernel
theorem dX6_addLayer_42 : decode cX6_addLayer 42 = .ok (.new 73, 3) := by decide +kernel
theorem dX6_addLayer_45 : decode cX6_addLayer 45 = .ok (.dup, 1) := by decide +kernel
theorem dX6_addLayer_46 : decode cX6_addLayer 46 = .ok (.ldc 75, 2) := by decide +kernel
theorem dX6_addLayer_48 : decode cX6_addLayer 48 = .ok (.invokespecial 77, 3) := by decide +kernel
theorem dX6_addLayer_51 : decode cX6_addLayer 51 = .ok (.athrow, 1) := by decide +kernel
theorem dX6_addLayer_52 : decode cX6_addLayer 52 = .ok (.aload_n 0, 1) := by decide +kernel
theorem dX6_addLayer_53 : decode cX6_addLayer 53 = .ok (.getfield 19, 3) := by decide +kernel
theorem dX6_addLayer_56 : decode cX6_addLayer 56 = .ok (.invokevirtual 78, 3) := by decide +kernel
theorem dX6_addLayer_59 : decode cX6_addLayer 59 = .ok (.iload_n 2, 1) := by decide +kernel
theorem dX6_addLayer_60 : decode cX6_addLayer 60 = .ok (.ireturn, 1) := by decide +kernel
theorem dX6_removeLayer_0 : decode cX6_removeLayer 0 = .ok (.aload_n 0, 1) := by decide +kernel
theorem dX6_removeLayer_1 : decode cX6_removeLayer 1 = .ok (.getfield 19, 3) := by decide +kernel
theorem dX6_removeLayer_4 : decode cX6_removeLayer 4 = .ok (.aload_n 0, 1) := by decide +kernel
theorem dX6_removeLayer_5 : decode cX6_removeLayer 5 = .ok (.getfield 12, 3) := by decide +kernel
theorem dX6_removeLayer_8 : decode cX6_removeLayer 8 = .ok (.invokevirtual 58, 3) := by decide +kernel
theorem dX6_removeLayer_11 : decode cX6_removeLayer 11 = .ok (.aload_n 0, 1) := by decide +kernel
theorem dX6_removeLayer_12 : decode cX6_removeLayer 12 = .ok (.getfield 12, 3) := by decide +kernel
theorem dX6_removeLayer_15 : decode cX6_removeLayer 15 = .ok (.iload_n 1, 1) := by decide +kernel
theorem dX6_removeLayer_16 : decode cX6_removeLayer 16 = .ok (.invokevirtual 81, 3) := by decide +kernel
theorem dX6_removeLayer_19 : decode cX6_removeLayer 19 = .ok (.istore_n 2, 1) := by decide +kernel
theorem dX6_removeLayer_20 : decode cX6_removeLayer 20 = .ok (.iload_n 2, 1) := by decide +kernel
theorem dX6_removeLayer_21 : decode cX6_removeLayer 21 = .ok (.bipush (-2), 2) := by decide +kernel
theorem dX6_removeLayer_23 : decode cX6_removeLayer 23 = .ok (.if_icmp .ne 13, 3) := by decide +kernel
theorem dX6_removeLayer_26 : decode cX6_removeLayer 26 = .ok (.new 85, 3) := by decide +kernel
theorem dX6_removeLayer_29 : decode cX6_removeLayer 29 = .ok (.dup, 1) := by decide +kernel
theorem dX6_removeLayer_30 : decode cX6_removeLayer 30 = .ok (.ldc 87, 2) := by decide +kernel
theorem dX6_removeLayer_32 : decode cX6_removeLayer 32 = .ok (.invokespecial 89, 3) := by decide +kernel
theorem dX6_removeLayer_35 : decode cX6_removeLayer 35 = .ok (.athrow, 1) := by decide +kernel
theorem dX6_removeLayer_36 : decode cX6_removeLayer 36 = .ok (.aload_n 0, 1) := by decide +kernel
theorem dX6_removeLayer_37 : decode cX6_removeLayer 37 = .ok (.getfield 19, 3) := by decide +kernel
theorem dX6_removeLayer_40 : decode cX6_removeLayer 40 = .ok (.invokevirtual 78, 3) := by decide +kernel
theorem dX6_removeLayer_43 : decode cX6_removeLayer 43 = .ok (.iload_n 2, 1) := by decide +kernel
theorem dX6_removeLayer_44 : decode cX6_removeLayer 44 = .ok (.ireturn, 1) := by decide +kernel
theorem dX6_paint_0 : decode cX6_paint 0 = .ok (.aload_n 0, 1) := by decide +kernel
theorem dX6_paint_1 : decode cX6_paint 1 = .ok (.getfield 19, 3) := by decide +kernel
theorem dX6_paint_4 : decode cX6_paint 4 = .ok (.aload_n 0, 1) := by decide +kernel
theorem dX6_paint_5 : decode cX6_paint 5 = .ok (.getfield 12, 3) := by decide +kernel
theorem dX6_paint_8 : decode cX6_paint 8 = .ok (.invokevirtual 58, 3) := by decide +kernel
theorem dX6_paint_11 : decode cX6_paint 11 = .ok (.aload_n 0, 1) := by decide +kernel
theorem dX6_paint_12 : decode cX6_paint 12 = .ok (.getfield 12, 3) := by decide +kernel
theorem dX6_paint_15 : decode cX6_paint 15 = .ok (.iload_n 1, 1) := by decide +kernel
theorem dX6_paint_16 : decode cX6_paint 16 = .ok (.iload_n 2, 1) := by decide +kernel
theorem dX6_paint_17 : decode cX6_paint 17 = .ok (.iload_n 3, 1) := by decide +kernel
theorem dX6_paint_18 : decode cX6_paint 18 = .ok (.iload 4, 2) := by decide +kernel
theorem dX6_paint_20 : decode cX6_paint 20 = .ok (.iload 5, 2) := by decide +kernel
theorem dX6_paint_22 : decode cX6_paint 22 = .ok (.iload 6, 2) := by decide +kernel
theorem dX6_paint_24 : decode cX6_paint 24 = .ok (.invokevirtual 90, 3) := by decide +kernel
theorem dX6_paint_27 : decode cX6_paint 27 = .ok (.istore 7, 2) := by decide +kernel
theorem dX6_paint_29 : decode cX6_paint 29 = .ok (.iload 7, 2) := by decide +kernel
theorem dX6_paint_31 : decode cX6_paint 31 = .ok (.bipush (-2), 2) := by decide +kernel
theorem dX6_paint_33 : decode cX6_paint 33 = .ok (.if_icmp .ne 13, 3) := by decide +kernel
theorem dX6_paint_36 : decode cX6_paint 36 = .ok (.new 85, 3) := by decide +kernel
theorem dX6_paint_39 : decode cX6_paint 39 = .ok (.dup, 1) := by decide +kernel
theorem dX6_paint_40 : decode cX6_paint 40 = .ok (.ldc 94, 2) := by decide +kernel
theorem dX6_paint_42 : decode cX6_paint 42 = .ok (.invokespecial 89, 3) := by decide +kernel
theorem dX6_paint_45 : decode cX6_paint 45 = .ok (.athrow, 1) := by decide +kernel
theorem dX6_paint_46 : decode cX6_paint 46 = .ok (.iload 7, 2) := by decide +kernel
theorem dX6_paint_48 : decode cX6_paint 48 = .ok (.bipush (-3), 2) := by decide +kernel
theorem dX6_paint_50 : decode cX6_paint 50 = .ok (.if_icmp .ne 13, 3) := by decide +kernel
theorem dX6_paint_53 : decode cX6_paint 53 = .ok (.new 66, 3) := by decide +kernel
theorem dX6_paint_56 : decode cX6_paint 56 = .ok (.dup, 1) := by decide +kernel
theorem dX6_paint_57 : decode cX6_paint 57 = .ok (.ldc 96, 2) := by decide +kernel
theorem dX6_paint_59 : decode cX6_paint 59 = .ok (.invokespecial 70, 3) := by decide +kernel
theorem dX6_paint_62 : decode cX6_paint 62 = .ok (.athrow, 1) := by decide +kernel
theorem dX6_paint_63 : decode cX6_paint 63 = .ok (.aload_n 0, 1) := by decide +kernel
theorem dX6_paint_64 : decode cX6_paint 64 = .ok (.getfield 19, 3) := by decide +kernel
theorem dX6_paint_67 : decode cX6_paint 67 = .ok (.invokevirtual 78, 3) := by decide +kernel
theorem dX6_paint_70 : decode cX6_paint 70 = .ok (.iload 7, 2) := by decide +kernel
theorem dX6_paint_72 : decode cX6_paint 72 = .ok (.ireturn, 1) := by decide +kernel
theorem dX6_erase_0 : decode cX6_erase 0 = .ok (.aload_n 0, 1) := by decide +kernel
theorem dX6_erase_1 : decode cX6_erase 1 = .ok (.getfield 19, 3) := by decide +kernel
theorem dX6_erase_4 : decode cX6_erase 4 = .ok (.aload_n 0, 1) := by decide +kernel
theorem dX6_erase_5 : decode cX6_erase 5 = .ok (.getfield 12, 3) := by decide +kernel
theorem dX6_erase_8 : decode cX6_erase 8 = .ok (.invokevirtual 58, 3) := by decide +kernel
theorem dX6_erase_11 : decode cX6_erase 11 = .ok (.aload_n 0, 1) := by decide +kernel
theorem dX6_erase_12 : decode cX6_erase 12 = .ok (.getfield 12, 3) := by decide +kernel
theorem dX6_erase_15 : decode cX6_erase 15 = .ok (.iload_n 1, 1) := by decide +kernel
theorem dX6_erase_16 : decode cX6_erase 16 = .ok (.iload_n 2, 1) := by decide +kernel
theorem dX6_erase_17 : decode cX6_erase 17 = .ok (.iload_n 3, 1) := by decide +kernel
theorem dX6_erase_18 : decode cX6_erase 18 = .ok (.iload 4, 2) := by decide +kernel
theorem dX6_erase_20 : decode cX6_erase 20 = .ok (.invokevirtual 98, 3) := by decide +kernel
theorem dX6_erase_23 : decode cX6_erase 23 = .ok (.istore 5, 2) := by decide +kernel
theorem dX6_erase_25 : decode cX6_erase 25 = .ok (.iload 5, 2) := by decide +kernel
theorem dX6_erase_27 : decode cX6_erase 27 = .ok (.bipush (-2), 2) := by decide +kernel
theorem dX6_erase_29 : decode cX6_erase 29 = .ok (.if_icmp .ne 13, 3) := by decide +kernel
theorem dX6_erase_32 : decode cX6_erase 32 = .ok (.new 85, 3) := by decide +kernel
theorem dX6_erase_35 : decode cX6_erase 35 = .ok (.dup, 1) := by decide +kernel
theorem dX6_erase_36 : decode cX6_erase 36 = .ok (.ldc 94, 2) := by decide +kernel
theorem dX6_erase_38 : decode cX6_erase 38 = .ok (.invokespecial 89, 3) := by decide +kernel
theorem dX6_erase_41 : decode cX6_erase 41 = .ok (.athrow, 1) := by decide +kernel
theorem dX6_erase_42 : decode cX6_erase 42 = .ok (.iload 5, 2) := by decide +kernel
theorem dX6_erase_44 : decode cX6_erase 44 = .ok (.bipush (-3), 2) := by decide +kernel
theorem dX6_erase_46 : decode cX6_erase 46 = .ok (.if_icmp .ne 13, 3) := by decide +kernel
theorem dX6_erase_49 : decode cX6_erase 49 = .ok (.new 66, 3) := by decide +kernel
theorem dX6_erase_52 : decode cX6_erase 52 = .ok (.dup, 1) := by decide +kernel
theorem dX6_erase_53 : decode cX6_erase 53 = .ok (.ldc 102, 2) := by decide +kernel
theorem dX6_erase_55 : decode cX6_erase 55 = .ok (.invokespecial 70, 3) := by decide +kernel
theorem dX6_erase_58 : decode cX6_erase 58 = .ok (.athrow, 1) := by decide +kernel
theorem dX6_erase_59 : decode cX6_erase 59 = .ok (.aload_n 0, 1) := by decide +kernel
theorem dX6_erase_60 : decode cX6_erase 60 = .ok (.getfield 19, 3) := by decide +kernel
theorem dX6_erase_63 : decode cX6_erase 63 = .ok (.invokevirtual 78, 3) := by decide +kernel
theorem dX6_erase_66 : decode cX6_erase 66 = .ok (.iload 5, 2) := by decide +kernel
theorem dX6_erase_68 : decode cX6_erase 68 = .ok (.ireturn, 1) := by decide +kernel
theorem dX6_hide_0 : decode cX6_hide 0 = .ok (.aload_n 0, 1) := by decide +kernel
theorem dX6_hide_1 : decode cX6_hide 1 = .ok (.getfield 19, 3) := by decide +kernel
theorem dX6_hide_4 : decode cX6_hide 4 = .ok (.aload_n 0, 1) := by decide +kernel
theorem dX6_hide_5 : decode cX6_hide 5 = .ok (.getfield 12, 3) := by decide +kernel
theorem dX6_hide_8 : decode cX6_hide 8 = .ok (.invokevirtual 58, 3) := by decide +kernel
theorem dX6_hide_11 : decode cX6_hide 11 = .ok (.aload_n 0, 1) := by decide +kernel
theorem dX6_hide_12 : decode cX6_hide 12 = .ok (.getfield 12, 3) := by decide +kernel
theorem dX6_hide_15 : decode cX6_hide 15 = .ok (.iload_n 1, 1) := by decide +kernel
theorem dX6_hide_16 : decode cX6_hide 16 = .ok (.iconst 0, 1) := by decide +kernel
theorem dX6_hide_17 : decode cX6_hide 17 = .ok (.invokevirtual 104, 3) := by decide +kernel
theorem dX6_hide_20 : decode cX6_hide 20 = .ok (.istore_n 2, 1) := by decide +kernel
theorem dX6_hide_21 : decode cX6_hide 21 = .ok (.iload_n 2, 1) := by decide +kernel
theorem dX6_hide_22 : decode cX6_hide 22 = .ok (.bipush (-2), 2) := by decide +kernel
theorem dX6_hide_24 : decode cX6_hide 24 = .ok (.if_icmp .ne 13, 3) := by decide +kernel
theorem dX6_hide_27 : decode cX6_hide 27 = .ok (.new 85, 3) := by decide +kernel
theorem dX6_hide_30 : decode cX6_hide 30 = .ok (.dup, 1) := by decide +kernel
theorem dX6_hide_31 : decode cX6_hide 31 = .ok (.ldc 87, 2) := by decide +kernel
theorem dX6_hide_33 : decode cX6_hide 33 = .ok (.invokespecial 89, 3) := by decide +kernel
theorem dX6_hide_36 : decode cX6_hide 36 = .ok (.athrow, 1) := by decide +kernel
theorem dX6_hide_37 : decode cX6_hide 37 = .ok (.iload_n 2, 1) := by decide +kernel
theorem dX6_hide_38 : decode cX6_hide 38 = .ok (.bipush (-4), 2) := by decide +kernel
theorem dX6_hide_40 : decode cX6_hide 40 = .ok (.if_icmp .ne 13, 3) := by decide +kernel
theorem dX6_hide_43 : decode cX6_hide 43 = .ok (.new 73, 3) := by decide +kernel
theorem dX6_hide_46 : decode cX6_hide 46 = .ok (.dup, 1) := by decide +kernel
theorem dX6_hide_47 : decode cX6_hide 47 = .ok (.ldc 108, 2) := by decide +kernel
theorem dX6_hide_49 : decode cX6_hide 49 = .ok (.invokespecial 77, 3) := by decide +kernel
theorem dX6_hide_52 : decode cX6_hide 52 = .ok (.athrow, 1) := by decide +kernel
theorem dX6_hide_53 : decode cX6_hide 53 = .ok (.aload_n 0, 1) := by decide +kernel
theorem dX6_hide_54 : decode cX6_hide 54 = .ok (.getfield 19, 3) := by decide +kernel
theorem dX6_hide_57 : decode cX6_hide 57 = .ok (.invokevirtual 78, 3) := by decide +kernel
theorem dX6_hide_60 : decode cX6_hide 60 = .ok (.iload_n 2, 1) := by decide +kernel
theorem dX6_hide_61 : decode cX6_hide 61 = .ok (.ireturn, 1) := by decide +kernel
theorem dX6_show_0 : decode cX6_show 0 = .ok (.aload_n 0, 1) := by decide +kernel
theorem dX6_show_1 : decode cX6_show 1 = .ok (.getfield 19, 3) := by decide +kernel
theorem dX6_show_4 : decode cX6_show 4 = .ok (.aload_n 0, 1) := by decide +kernel
theorem dX6_show_5 : decode cX6_show 5 = .ok (.getfield 12, 3) := by decide +kernel
theorem dX6_show_8 : decode cX6_show 8 = .ok (.invokevirtual 58, 3) := by decide +kernel
theorem dX6_show_11 : decode cX6_show 11 = .ok (.aload_n 0, 1) := by decide +kernel
theorem dX6_show_12 : decode cX6_show 12 = .ok (.getfield 12, 3) := by decide +kernel
theorem dX6_show_15 : decode cX6_show 15 = .ok (.iload_n 1, 1) := by decide +kernel
theorem dX6_show_16 : decode cX6_show 16 = .ok (.iconst 1, 1) := by decide +kernel
theorem dX6_show_17 : decode cX6_show 17 = .ok (.invokevirtual 104, 3) := by decide +kernel
theorem dX6_show_20 : decode cX6_show 20 = .ok (.istore_n 2, 1) := by decide +kernel
theorem dX6_show_21 : decode cX6_show 21 = .ok (.iload_n 2, 1) := by decide +kernel
theorem dX6_show_22 : decode cX6_show 22 = .ok (.bipush (-2), 2) := by decide +kernel
theorem dX6_show_24 : decode cX6_show 24 = .ok (.if_icmp .ne 13, 3) := by decide +kernel
theorem dX6_show_27 : decode cX6_show 27 = .ok (.new 85, 3) := by decide +kernel
theorem dX6_show_30 : decode cX6_show 30 = .ok (.dup, 1) := by decide +kernel
theorem dX6_show_31 : decode cX6_show 31 = .ok (.ldc 87, 2) := by decide +kernel
theorem dX6_show_33 : decode cX6_show 33 = .ok (.invokespecial 89, 3) := by decide +kernel
theorem dX6_show_36 : decode cX6_show 36 = .ok (.athrow, 1) := by decide +kernel
theorem dX6_show_37 : decode cX6_show 37 = .ok (.iload_n 2, 1) := by decide +kernel
theorem dX6_show_38 : decode cX6_show 38 = .ok (.bipush (-4), 2) := by decide +kernel
theorem dX6_show_40 : decode cX6_show 40 = .ok (.if_icmp .ne 13, 3) := by decide +kernel
theorem dX6_show_43 : decode cX6_show 43 = .ok (.new 73, 3) := by decide +kernel
theorem dX6_show_46 : decode cX6_show 46 = .ok (.dup, 1) := by decide +kernel
theorem dX6_show_47 : decode cX6_show 47 = .ok (.ldc 110, 2) := by decide +kernel
theorem dX6_show_49 : decode cX6_show 49 = .ok (.invokespecial 77, 3) := by decide +kernel
theorem dX6_show_52 : decode cX6_show 52 = .ok (.athrow, 1) := by decide +kernel
theorem dX6_show_53 : decode cX6_show 53 = .ok (.aload_n 0, 1) := by decide +kernel
theorem dX6_show_54 : decode cX6_show 54 = .ok (.getfield 19, 3) := by decide +kernel
theorem dX6_show_57 : decode cX6_show 57 = .ok (.invokevirtual 78, 3) := by decide +kernel
theorem dX6_show_60 : decode cX6_show 60 = .ok (.iload_n 2, 1) := by decide +kernel
theorem dX6_show_61 : decode cX6_show 61 = .ok (.ireturn, 1) := by decide +kernel
theorem dX6_moveLayer_0 : decode cX6_moveLayer 0 = .ok (.aload_n 0, 1) := by decide +kernel
theorem dX6_moveLayer_1 : decode cX6_moveLayer 1 = .ok (.getfield 19, 3) := by decide +kernel
theorem dX6_moveLayer_4 : decode cX6_moveLayer 4 = .ok (.aload_n 0, 1) := by decide +kernel
theorem dX6_moveLayer_5 : decode cX6_moveLayer 5 = .ok (.getfield 12, 3) := by decide +kernel
theorem dX6_moveLayer_8 : decode cX6_moveLayer 8 = .ok (.invokevirtual 58, 3) := by decide +kernel
theorem dX6_moveLayer_11 : decode cX6_moveLayer 11 = .ok (.aload_n 0, 1) := by decide +kernel
theorem dX6_moveLayer_12 : decode cX6_moveLayer 12 = .ok (.iload_n 1, 1) := by decide +kernel
theorem dX6_moveLayer_13 : decode cX6_moveLayer 13 = .ok (.iload_n 2, 1) := by decide +kernel
theorem dX6_moveLayer_14 : decode cX6_moveLayer 14 = .ok (.invokevirtual 112, 3) := by decide +kernel
theorem dX6_moveLayer_17 : decode cX6_moveLayer 17 = .ok (.istore_n 3, 1) := by decide +kernel
theorem dX6_moveLayer_18 : decode cX6_moveLayer 18 = .ok (.iload_n 3, 1) := by decide +kernel
theorem dX6_moveLayer_19 : decode cX6_moveLayer 19 = .ok (.bipush (-2), 2) := by decide +kernel
theorem dX6_moveLayer_21 : decode cX6_moveLayer 21 = .ok (.if_icmp .ne 13, 3) := by decide +kernel
theorem dX6_moveLayer_24 : decode cX6_moveLayer 24 = .ok (.new 85, 3) := by decide +kernel
theorem dX6_moveLayer_27 : decode cX6_moveLayer 27 = .ok (.dup, 1) := by decide +kernel
theorem dX6_moveLayer_28 : decode cX6_moveLayer 28 = .ok (.ldc 87, 2) := by decide +kernel
theorem dX6_moveLayer_30 : decode cX6_moveLayer 30 = .ok (.invokespecial 89, 3) := by decide +kernel
theorem dX6_moveLayer_33 : decode cX6_moveLayer 33 = .ok (.athrow, 1) := by decide +kernel
theorem dX6_moveLayer_34 : decode cX6_moveLayer 34 = .ok (.aload_n 0, 1) := by decide +kernel
theorem dX6_moveLayer_35 : decode cX6_moveLayer 35 = .ok (.getfield 19, 3) := by decide +kernel
theorem dX6_moveLayer_38 : decode cX6_moveLayer 38 = .ok (.invokevirtual 78, 3) := by decide +kernel
theorem dX6_moveLayer_41 : decode cX6_moveLayer 41 = .ok (.iload_n 3, 1) := by decide +kernel
theorem dX6_moveLayer_42 : decode cX6_moveLayer 42 = .ok (.ireturn, 1) := by decide +kernel
theorem dX6_mergeDown_0 : decode cX6_mergeDown 0 = .ok (.aload_n 0, 1) := by decide +kernel
theorem dX6_mergeDown_1 : decode cX6_mergeDown 1 = .ok (.getfield 19, 3) := by decide +kernel
theorem dX6_mergeDown_4 : decode cX6_mergeDown 4 = .ok (.aload_n 0, 1) := by decide +kernel
theorem dX6_mergeDown_5 : decode cX6_mergeDown 5 = .ok (.getfield 12, 3) := by decide +kernel
theorem dX6_mergeDown_8 : decode cX6_mergeDown 8 = .ok (.invokevirtual 58, 3) := by decide +kernel
theorem dX6_mergeDown_11 : decode cX6_mergeDown 11 = .ok (.aload_n 0, 1) := by decide +kernel
theorem dX6_mergeDown_12 : decode cX6_mergeDown 12 = .ok (.getfield 12, 3) := by decide +kernel
theorem dX6_mergeDown_15 : decode cX6_mergeDown 15 = .ok (.iload_n 1, 1) := by decide +kernel
theorem dX6_mergeDown_16 : decode cX6_mergeDown 16 = .ok (.invokevirtual 116, 3) := by decide +kernel
theorem dX6_mergeDown_19 : decode cX6_mergeDown 19 = .ok (.istore_n 2, 1) := by decide +kernel
theorem dX6_mergeDown_20 : decode cX6_mergeDown 20 = .ok (.iload_n 2, 1) := by decide +kernel
theorem dX6_mergeDown_21 : decode cX6_mergeDown 21 = .ok (.bipush (-2), 2) := by decide +kernel
theorem dX6_mergeDown_23 : decode cX6_mergeDown 23 = .ok (.if_icmp .ne 13, 3) := by decide +kernel
theorem dX6_mergeDown_26 : decode cX6_mergeDown 26 = .ok (.new 85, 3) := by decide +kernel
theorem dX6_mergeDown_29 : decode cX6_mergeDown 29 = .ok (.dup, 1) := by decide +kernel
theorem dX6_mergeDown_30 : decode cX6_mergeDown 30 = .ok (.ldc 87, 2) := by decide +kernel
theorem dX6_mergeDown_32 : decode cX6_mergeDown 32 = .ok (.invokespecial 89, 3) := by decide +kernel
theorem dX6_mergeDown_35 : decode cX6_mergeDown 35 = .ok (.athrow, 1) := by decide +kernel
theorem dX6_mergeDown_36 : decode cX6_mergeDown 36 = .ok (.iload_n 2, 1) := by decide +kernel
theorem dX6_mergeDown_37 : decode cX6_mergeDown 37 = .ok (.bipush (-5), 2) := by decide +kernel
theorem dX6_mergeDown_39 : decode cX6_mergeDown 39 = .ok (.if_icmp .ne 13, 3) := by decide +kernel
theorem dX6_mergeDown_42 : decode cX6_mergeDown 42 = .ok (.new 119, 3) := by decide +kernel
theorem dX6_mergeDown_45 : decode cX6_mergeDown 45 = .ok (.dup, 1) := by decide +kernel
theorem dX6_mergeDown_46 : decode cX6_mergeDown 46 = .ok (.ldc 121, 2) := by decide +kernel
theorem dX6_mergeDown_48 : decode cX6_mergeDown 48 = .ok (.invokespecial 123, 3) := by decide +kernel
theorem dX6_mergeDown_51 : decode cX6_mergeDown 51 = .ok (.athrow, 1) := by decide +kernel
theorem dX6_mergeDown_52 : decode cX6_mergeDown 52 = .ok (.iload_n 2, 1) := by decide +kernel
theorem dX6_mergeDown_53 : decode cX6_mergeDown 53 = .ok (.bipush (-6), 2) := by decide +kernel
theorem dX6_mergeDown_55 : decode cX6_mergeDown 55 = .ok (.if_icmp .ne 13, 3) := by decide +kernel
theorem dX6_mergeDown_58 : decode cX6_mergeDown 58 = .ok (.new 124, 3) := by decide +kernel
theorem dX6_mergeDown_61 : decode cX6_mergeDown 61 = .ok (.dup, 1) := by decide +kernel
theorem dX6_mergeDown_62 : decode cX6_mergeDown 62 = .ok (.ldc 126, 2) := by decide +kernel
theorem dX6_mergeDown_64 : decode cX6_mergeDown 64 = .ok (.invokespecial 128, 3) := by decide +kernel
theorem dX6_mergeDown_67 : decode cX6_mergeDown 67 = .ok (.athrow, 1) := by decide +kernel
theorem dX6_mergeDown_68 : decode cX6_mergeDown 68 = .ok (.aload_n 0, 1) := by decide +kernel
theorem dX6_mergeDown_69 : decode cX6_mergeDown 69 = .ok (.getfield 19, 3) := by decide +kernel
theorem dX6_mergeDown_72 : decode cX6_mergeDown 72 = .ok (.invokevirtual 78, 3) := by decide +kernel
theorem dX6_mergeDown_75 : decode cX6_mergeDown 75 = .ok (.iload_n 2, 1) := by decide +kernel
theorem dX6_mergeDown_76 : decode cX6_mergeDown 76 = .ok (.ireturn, 1) := by decide +kernel
theorem dX6_castShadow_0 : decode cX6_castShadow 0 = .ok (.aload_n 0, 1) := by decide +kernel
theorem dX6_castShadow_1 : decode cX6_castShadow 1 = .ok (.getfield 19, 3) := by decide +kernel
theorem dX6_castShadow_4 : decode cX6_castShadow 4 = .ok (.aload_n 0, 1) := by decide +kernel
theorem dX6_castShadow_5 : decode cX6_castShadow 5 = .ok (.getfield 12, 3) := by decide +kernel
theorem dX6_castShadow_8 : decode cX6_castShadow 8 = .ok (.invokevirtual 58, 3) := by decide +kernel
theorem dX6_castShadow_11 : decode cX6_castShadow 11 = .ok (.aload_n 0, 1) := by decide +kernel
theorem dX6_castShadow_12 : decode cX6_castShadow 12 = .ok (.getfield 12, 3) := by decide +kernel
theorem dX6_castShadow_15 : decode cX6_castShadow 15 = .ok (.iload_n 1, 1) := by decide +kernel
theorem dX6_castShadow_16 : decode cX6_castShadow 16 = .ok (.iload_n 2, 1) := by decide +kernel
theorem dX6_castShadow_17 : decode cX6_castShadow 17 = .ok (.invokevirtual 129, 3) := by decide +kernel
theorem dX6_castShadow_20 : decode cX6_castShadow 20 = .ok (.istore_n 3, 1) := by decide +kernel
theorem dX6_castShadow_21 : decode cX6_castShadow 21 = .ok (.iload_n 3, 1) := by decide +kernel
theorem dX6_castShadow_22 : decode cX6_castShadow 22 = .ok (.bipush (-2), 2) := by decide +kernel
theorem dX6_castShadow_24 : decode cX6_castShadow 24 = .ok (.if_icmp .ne 13, 3) := by decide +kernel
theorem dX6_castShadow_27 : decode cX6_castShadow 27 = .ok (.new 85, 3) := by decide +kernel
theorem dX6_castShadow_30 : decode cX6_castShadow 30 = .ok (.dup, 1) := by decide +kernel
theorem dX6_castShadow_31 : decode cX6_castShadow 31 = .ok (.ldc 87, 2) := by decide +kernel
theorem dX6_castShadow_33 : decode cX6_castShadow 33 = .ok (.invokespecial 89, 3) := by decide +kernel
theorem dX6_castShadow_36 : decode cX6_castShadow 36 = .ok (.athrow, 1) := by decide +kernel
theorem dX6_castShadow_37 : decode cX6_castShadow 37 = .ok (.iload_n 3, 1) := by decide +kernel
theorem dX6_castShadow_38 : decode cX6_castShadow 38 = .ok (.bipush (-3), 2) := by decide +kernel
theorem dX6_castShadow_40 : decode cX6_castShadow 40 = .ok (.if_icmp .ne 13, 3) := by decide +kernel
theorem dX6_castShadow_43 : decode cX6_castShadow 43 = .ok (.new 66, 3) := by decide +kernel
theorem dX6_castShadow_46 : decode cX6_castShadow 46 = .ok (.dup, 1) := by decide +kernel
theorem dX6_castShadow_47 : decode cX6_castShadow 47 = .ok (.ldc 132, 2) := by decide +kernel
theorem dX6_castShadow_49 : decode cX6_castShadow 49 = .ok (.invokespecial 70, 3) := by decide +kernel
theorem dX6_castShadow_52 : decode cX6_castShadow 52 = .ok (.athrow, 1) := by decide +kernel
theorem dX6_castShadow_53 : decode cX6_castShadow 53 = .ok (.iload_n 3, 1) := by decide +kernel
theorem dX6_castShadow_54 : decode cX6_castShadow 54 = .ok (.bipush (-4), 2) := by decide +kernel
theorem dX6_castShadow_56 : decode cX6_castShadow 56 = .ok (.if_icmp .ne 13, 3) := by decide +kernel
theorem dX6_castShadow_59 : decode cX6_castShadow 59 = .ok (.new 73, 3) := by decide +kernel
theorem dX6_castShadow_62 : decode cX6_castShadow 62 = .ok (.dup, 1) := by decide +kernel
theorem dX6_castShadow_63 : decode cX6_castShadow 63 = .ok (.ldc 75, 2) := by decide +kernel
theorem dX6_castShadow_65 : decode cX6_castShadow 65 = .ok (.invokespecial 77, 3) := by decide +kernel
theorem dX6_castShadow_68 : decode cX6_castShadow 68 = .ok (.athrow, 1) := by decide +kernel
theorem dX6_castShadow_69 : decode cX6_castShadow 69 = .ok (.aload_n 0, 1) := by decide +kernel
theorem dX6_castShadow_70 : decode cX6_castShadow 70 = .ok (.getfield 19, 3) := by decide +kernel
theorem dX6_castShadow_73 : decode cX6_castShadow 73 = .ok (.invokevirtual 78, 3) := by decide +kernel
theorem dX6_castShadow_76 : decode cX6_castShadow 76 = .ok (.iload_n 3, 1) := by decide +kernel
theorem dX6_castShadow_77 : decode cX6_castShadow 77 = .ok (.ireturn, 1) := by decide +kernel
theorem dX6_moveAndCompare_0 : decode cX6_moveAndCompare 0 = .ok (.aload_n 0, 1) := by decide +kernel
theorem dX6_moveAndCompare_1 : decode cX6_moveAndCompare 1 = .ok (.getfield 12, 3) := by decide +kernel
theorem dX6_moveAndCompare_4 : decode cX6_moveAndCompare 4 = .ok (.iload_n 1, 1) := by decide +kernel
theorem dX6_moveAndCompare_5 : decode cX6_moveAndCompare 5 = .ok (.invokevirtual 134, 3) := by decide +kernel
theorem dX6_moveAndCompare_8 : decode cX6_moveAndCompare 8 = .ok (.ifnull 14, 3) := by decide +kernel
theorem dX6_moveAndCompare_11 : decode cX6_moveAndCompare 11 = .ok (.aload_n 0, 1) := by decide +kernel
theorem dX6_moveAndCompare_12 : decode cX6_moveAndCompare 12 = .ok (.getfield 12, 3) := by decide +kernel
theorem dX6_moveAndCompare_15 : decode cX6_moveAndCompare 15 = .ok (.iload_n 2, 1) := by decide +kernel
theorem dX6_moveAndCompare_16 : decode cX6_moveAndCompare 16 = .ok (.invokevirtual 134, 3) := by decide +kernel
theorem dX6_moveAndCompare_19 : decode cX6_moveAndCompare 19 = .ok (.ifnonnull 6, 3) := by decide +kernel
theorem dX6_moveAndCompare_22 : decode cX6_moveAndCompare 22 = .ok (.bipush (-2), 2) := by decide +kernel
theorem dX6_moveAndCompare_24 : decode cX6_moveAndCompare 24 = .ok (.ireturn, 1) := by decide +kernel
theorem dX6_moveAndCompare_25 : decode cX6_moveAndCompare 25 = .ok (.aload_n 0, 1) := by decide +kernel
theorem dX6_moveAndCompare_26 : decode cX6_moveAndCompare 26 = .ok (.getfield 33, 3) := by decide +kernel
theorem dX6_moveAndCompare_29 : decode cX6_moveAndCompare 29 = .ok (.aload_n 0, 1) := by decide +kernel
theorem dX6_moveAndCompare_30 : decode cX6_moveAndCompare 30 = .ok (.getfield 12, 3) := by decide +kernel
theorem dX6_moveAndCompare_33 : decode cX6_moveAndCompare 33 = .ok (.invokevirtual 138, 3) := by decide +kernel
theorem dX6_moveAndCompare_36 : decode cX6_moveAndCompare 36 = .ok (.aload_n 0, 1) := by decide +kernel
theorem dX6_moveAndCompare_37 : decode cX6_moveAndCompare 37 = .ok (.getfield 12, 3) := by decide +kernel
theorem dX6_moveAndCompare_40 : decode cX6_moveAndCompare 40 = .ok (.iload_n 1, 1) := by decide +kernel
theorem dX6_moveAndCompare_41 : decode cX6_moveAndCompare 41 = .ok (.iload_n 2, 1) := by decide +kernel
theorem dX6_moveAndCompare_42 : decode cX6_moveAndCompare 42 = .ok (.invokevirtual 141, 3) := by decide +kernel
theorem dX6_moveAndCompare_45 : decode cX6_moveAndCompare 45 = .ok (.aload_n 0, 1) := by decide +kernel
theorem dX6_moveAndCompare_46 : decode cX6_moveAndCompare 46 = .ok (.getfield 33, 3) := by decide +kernel
theorem dX6_moveAndCompare_49 : decode cX6_moveAndCompare 49 = .ok (.aload_n 0, 1) := by decide +kernel
theorem dX6_moveAndCompare_50 : decode cX6_moveAndCompare 50 = .ok (.getfield 12, 3) := by decide +kernel
theorem dX6_moveAndCompare_53 : decode cX6_moveAndCompare 53 = .ok (.invokevirtual 145, 3) := by decide +kernel
theorem dX6_moveAndCompare_56 : decode cX6_moveAndCompare 56 = .ok (.ireturn, 1) := by decide +kernel
theorem dX6_layerCount_0 : decode cX6_layerCount 0 = .ok (.aload_n 0, 1) := by decide +kernel
theorem dX6_layerCount_1 : decode cX6_layerCount 1 = .ok (.getfield 12, 3) := by decide +kernel
theorem dX6_layerCount_4 : decode cX6_layerCount 4 = .ok (.getfield 149, 3) := by decide +kernel
theorem dX6_layerCount_7 : decode cX6_layerCount 7 = .ok (.ireturn, 1) := by decide +kernel
theorem dX6_mode_0 : decode cX6_mode 0 = .ok (.aload_n 0, 1) := by decide +kernel
theorem dX6_mode_1 : decode cX6_mode 1 = .ok (.iload_n 1, 1) := by decide +kernel
theorem dX6_mode_2 : decode cX6_mode 2 = .ok (.invokevirtual 152, 3) := by decide +kernel
theorem dX6_mode_5 : decode cX6_mode 5 = .ok (.getfield 155, 3) := by decide +kernel
theorem dX6_mode_8 : decode cX6_mode 8 = .ok (.ireturn, 1) := by decide +kernel
theorem dX6_isVisible_0 : decode cX6_isVisible 0 = .ok (.aload_n 0, 1) := by decide +kernel
theorem dX6_isVisible_1 : decode cX6_isVisible 1 = .ok (.iload_n 1, 1) := by decide +kernel
theorem dX6_isVisible_2 : decode cX6_isVisible 2 = .ok (.invokevirtual 152, 3) := by decide +kernel
theorem dX6_isVisible_5 : decode cX6_isVisible 5 = .ok (.getfield 161, 3) := by decide +kernel
theorem dX6_isVisible_8 : decode cX6_isVisible 8 = .ok (.ireturn, 1) := by decide +kernel
theorem dX6_hasTone_0 : decode cX6_hasTone 0 = .ok (.aload_n 0, 1) := by decide +kernel
theorem dX6_hasTone_1 : decode cX6_hasTone 1 = .ok (.iload_n 1, 1) := by decide +kernel
theorem dX6_hasTone_2 : decode cX6_hasTone 2 = .ok (.invokevirtual 152, 3) := by decide +kernel
theorem dX6_hasTone_5 : decode cX6_hasTone 5 = .ok (.iload_n 2, 1) := by decide +kernel
theorem dX6_hasTone_6 : decode cX6_hasTone 6 = .ok (.iload_n 3, 1) := by decide +kernel
theorem dX6_hasTone_7 : decode cX6_hasTone 7 = .ok (.invokestatic 164, 3) := by decide +kernel
theorem dX6_hasTone_10 : decode cX6_hasTone 10 = .ok (.invokevirtual 167, 3) := by decide +kernel
theorem dX6_hasTone_13 : decode cX6_hasTone 13 = .ok (.iconst (-1), 1) := by decide +kernel
theorem dX6_hasTone_14 : decode cX6_hasTone 14 = .ok (.if_icmp .eq 7, 3) := by decide +kernel
theorem dX6_hasTone_17 : decode cX6_hasTone 17 = .ok (.iconst 1, 1) := by decide +kernel
theorem dX6_hasTone_18 : decode cX6_hasTone 18 = .ok (.goto 4, 3) := by decide +kernel
theorem dX6_hasTone_21 : decode cX6_hasTone 21 = .ok (.iconst 0, 1) := by decide +kernel
theorem dX6_hasTone_22 : decode cX6_hasTone 22 = .ok (.ireturn, 1) := by decide +kernel
theorem dX6_tone_0 : decode cX6_tone 0 = .ok (.aload_n 0, 1) := by decide +kernel
theorem dX6_tone_1 : decode cX6_tone 1 = .ok (.iload_n 1, 1) := by decide +kernel
theorem dX6_tone_2 : decode cX6_tone 2 = .ok (.invokevirtual 152, 3) := by decide +kernel
theorem dX6_tone_5 : decode cX6_tone 5 = .ok (.iload_n 2, 1) := by decide +kernel
theorem dX6_tone_6 : decode cX6_tone 6 = .ok (.iload_n 3, 1) := by decide +kernel
theorem dX6_tone_7 : decode cX6_tone 7 = .ok (.invokestatic 164, 3) := by decide +kernel
theorem dX6_tone_10 : decode cX6_tone 10 = .ok (.invokevirtual 167, 3) := by decide +kernel
theorem dX6_tone_13 : decode cX6_tone 13 = .ok (.istore 4, 2) := by decide +kernel
theorem dX6_tone_15 : decode cX6_tone 15 = .ok (.iload 4, 2) := by decide +kernel
theorem dX6_tone_17 : decode cX6_tone 17 = .ok (.iconst (-1), 1) := by decide +kernel
theorem dX6_tone_18 : decode cX6_tone 18 = .ok (.if_icmp .ne 13, 3) := by decide +kernel
theorem dX6_tone_21 : decode cX6_tone 21 = .ok (.new 119, 3) := by decide +kernel
theorem dX6_tone_24 : decode cX6_tone 24 = .ok (.dup, 1) := by decide +kernel
theorem dX6_tone_25 : decode cX6_tone 25 = .ok (.ldc 170, 2) := by decide +kernel
theorem dX6_tone_27 : decode cX6_tone 27 = .ok (.invokespecial 123, 3) := by decide +kernel
theorem dX6_tone_30 : decode cX6_tone 30 = .ok (.athrow, 1) := by decide +kernel
theorem dX6_tone_31 : decode cX6_tone 31 = .ok (.iload 4, 2) := by decide +kernel
theorem dX6_tone_33 : decode cX6_tone 33 = .ok (.ireturn, 1) := by decide +kernel
theorem dX6_painted_0 : decode cX6_painted 0 = .ok (.aload_n 0, 1) := by decide +kernel
theorem dX6_painted_1 : decode cX6_painted 1 = .ok (.iload_n 1, 1) := by decide +kernel
theorem dX6_painted_2 : decode cX6_painted 2 = .ok (.invokevirtual 152, 3) := by decide +kernel
theorem dX6_painted_5 : decode cX6_painted 5 = .ok (.invokevirtual 172, 3) := by decide +kernel
theorem dX6_painted_8 : decode cX6_painted 8 = .ok (.ireturn, 1) := by decide +kernel
theorem dX6_visibleCount_0 : decode cX6_visibleCount 0 = .ok (.aload_n 0, 1) := by decide +kernel
theorem dX6_visibleCount_1 : decode cX6_visibleCount 1 = .ok (.getfield 12, 3) := by decide +kernel
theorem dX6_visibleCount_4 : decode cX6_visibleCount 4 = .ok (.invokevirtual 176, 3) := by decide +kernel
theorem dX6_visibleCount_7 : decode cX6_visibleCount 7 = .ok (.ireturn, 1) := by decide +kernel
theorem dX6_differentCells_0 : decode cX6_differentCells 0 = .ok (.aload_n 0, 1) := by decide +kernel
theorem dX6_differentCells_1 : decode cX6_differentCells 1 = .ok (.iload_n 1, 1) := by decide +kernel
theorem dX6_differentCells_2 : decode cX6_differentCells 2 = .ok (.invokevirtual 152, 3) := by decide +kernel
theorem dX6_differentCells_5 : decode cX6_differentCells 5 = .ok (.aload_n 0, 1) := by decide +kernel
theorem dX6_differentCells_6 : decode cX6_differentCells 6 = .ok (.iload_n 2, 1) := by decide +kernel
theorem dX6_differentCells_7 : decode cX6_differentCells 7 = .ok (.invokevirtual 152, 3) := by decide +kernel
theorem dX6_differentCells_10 : decode cX6_differentCells 10 = .ok (.invokevirtual 179, 3) := by decide +kernel
theorem dX6_differentCells_13 : decode cX6_differentCells 13 = .ok (.ireturn, 1) := by decide +kernel
theorem dX6_layerByPaint_0 : decode cX6_layerByPaint 0 = .ok (.aload_n 0, 1) := by decide +kernel
theorem dX6_layerByPaint_1 : decode cX6_layerByPaint 1 = .ok (.getfield 12, 3) := by decide +kernel
theorem dX6_layerByPaint_4 : decode cX6_layerByPaint 4 = .ok (.iload_n 1, 1) := by decide +kernel
theorem dX6_layerByPaint_5 : decode cX6_layerByPaint 5 = .ok (.invokevirtual 182, 3) := by decide +kernel
theorem dX6_layerByPaint_8 : decode cX6_layerByPaint 8 = .ok (.istore_n 2, 1) := by decide +kernel
theorem dX6_layerByPaint_9 : decode cX6_layerByPaint 9 = .ok (.iload_n 2, 1) := by decide +kernel
theorem dX6_layerByPaint_10 : decode cX6_layerByPaint 10 = .ok (.iconst (-1), 1) := by decide +kernel
theorem dX6_layerByPaint_11 : decode cX6_layerByPaint 11 = .ok (.if_icmp .ne 13, 3) := by decide +kernel
theorem dX6_layerByPaint_14 : decode cX6_layerByPaint 14 = .ok (.new 119, 3) := by decide +kernel
theorem dX6_layerByPaint_17 : decode cX6_layerByPaint 17 = .ok (.dup, 1) := by decide +kernel
theorem dX6_layerByPaint_18 : decode cX6_layerByPaint 18 = .ok (.ldc 185, 2) := by decide +kernel
theorem dX6_layerByPaint_20 : decode cX6_layerByPaint 20 = .ok (.invokespecial 123, 3) := by decide +kernel
theorem dX6_layerByPaint_23 : decode cX6_layerByPaint 23 = .ok (.athrow, 1) := by decide +kernel
theorem dX6_layerByPaint_24 : decode cX6_layerByPaint 24 = .ok (.iload_n 2, 1) := by decide +kernel
theorem dX6_layerByPaint_25 : decode cX6_layerByPaint 25 = .ok (.ireturn, 1) := by decide +kernel
theorem dX6_paintedCells_0 : decode cX6_paintedCells 0 = .ok (.aload_n 0, 1) := by decide +kernel
theorem dX6_paintedCells_1 : decode cX6_paintedCells 1 = .ok (.getfield 12, 3) := by decide +kernel
theorem dX6_paintedCells_4 : decode cX6_paintedCells 4 = .ok (.getfield 187, 3) := by decide +kernel
theorem dX6_paintedCells_7 : decode cX6_paintedCells 7 = .ok (.ireturn, 1) := by decide +kernel
theorem dX6_erasedCells_0 : decode cX6_erasedCells 0 = .ok (.aload_n 0, 1) := by decide +kernel
theorem dX6_erasedCells_1 : decode cX6_erasedCells 1 = .ok (.getfield 12, 3) := by decide +kernel
theorem dX6_erasedCells_4 : decode cX6_erasedCells 4 = .ok (.getfield 190, 3) := by decide +kernel
theorem dX6_erasedCells_7 : decode cX6_erasedCells 7 = .ok (.ireturn, 1) := by decide +kernel
theorem dX6_existingLayer_0 : decode cX6_existingLayer 0 = .ok (.aload_n 0, 1) := by decide +kernel
theorem dX6_existingLayer_1 : decode cX6_existingLayer 1 = .ok (.getfield 12, 3) := by decide +kernel
theorem dX6_existingLayer_4 : decode cX6_existingLayer 4 = .ok (.iload_n 1, 1) := by decide +kernel
theorem dX6_existingLayer_5 : decode cX6_existingLayer 5 = .ok (.invokevirtual 134, 3) := by decide +kernel
theorem dX6_existingLayer_8 : decode cX6_existingLayer 8 = .ok (.astore_n 2, 1) := by decide +kernel
theorem dX6_existingLayer_9 : decode cX6_existingLayer 9 = .ok (.aload_n 2, 1) := by decide +kernel
theorem dX6_existingLayer_10 : decode cX6_existingLayer 10 = .ok (.ifnonnull 13, 3) := by decide +kernel
theorem dX6_existingLayer_13 : decode cX6_existingLayer 13 = .ok (.new 85, 3) := by decide +kernel
theorem dX6_existingLayer_16 : decode cX6_existingLayer 16 = .ok (.dup, 1) := by decide +kernel
theorem dX6_existingLayer_17 : decode cX6_existingLayer 17 = .ok (.ldc 87, 2) := by decide +kernel
theorem dX6_existingLayer_19 : decode cX6_existingLayer 19 = .ok (.invokespecial 89, 3) := by decide +kernel
theorem dX6_existingLayer_22 : decode cX6_existingLayer 22 = .ok (.athrow, 1) := by decide +kernel
theorem dX6_existingLayer_23 : decode cX6_existingLayer 23 = .ok (.aload_n 2, 1) := by decide +kernel
theorem dX6_existingLayer_24 : decode cX6_existingLayer 24 = .ok (.areturn, 1) := by decide +kernel
theorem dX6_existingCell_0 : decode cX6_existingCell 0 = .ok (.iload_n 0, 1) := by decide +kernel
theorem dX6_existingCell_1 : decode cX6_existingCell 1 = .ok (.iload_n 1, 1) := by decide +kernel
theorem dX6_existingCell_2 : decode cX6_existingCell 2 = .ok (.invokestatic 193, 3) := by decide +kernel
theorem dX6_existingCell_5 : decode cX6_existingCell 5 = .ok (.ifCond .ne 13, 3) := by decide +kernel
theorem dX6_existingCell_8 : decode cX6_existingCell 8 = .ok (.new 85, 3) := by decide +kernel
theorem dX6_existingCell_11 : decode cX6_existingCell 11 = .ok (.dup, 1) := by decide +kernel
theorem dX6_existingCell_12 : decode cX6_existingCell 12 = .ok (.ldc 197, 2) := by decide +kernel
theorem dX6_existingCell_14 : decode cX6_existingCell 14 = .ok (.invokespecial 89, 3) := by decide +kernel
theorem dX6_existingCell_17 : decode cX6_existingCell 17 = .ok (.athrow, 1) := by decide +kernel
theorem dX6_existingCell_18 : decode cX6_existingCell 18 = .ok (.iload_n 0, 1) := by decide +kernel
theorem dX6_existingCell_19 : decode cX6_existingCell 19 = .ok (.iload_n 1, 1) := by decide +kernel
theorem dX6_existingCell_20 : decode cX6_existingCell 20 = .ok (.invokestatic 199, 3) := by decide +kernel
theorem dX6_existingCell_23 : decode cX6_existingCell 23 = .ok (.ireturn, 1) := by decide +kernel
theorem dX6_seen_0 : decode cX6_seen 0 = .ok (.aload_n 0, 1) := by decide +kernel
theorem dX6_seen_1 : decode cX6_seen 1 = .ok (.getfield 12, 3) := by decide +kernel
theorem dX6_seen_4 : decode cX6_seen 4 = .ok (.iconst 0, 1) := by decide +kernel
theorem dX6_seen_5 : decode cX6_seen 5 = .ok (.iload_n 1, 1) := by decide +kernel
theorem dX6_seen_6 : decode cX6_seen 6 = .ok (.iload_n 2, 1) := by decide +kernel
theorem dX6_seen_7 : decode cX6_seen 7 = .ok (.invokestatic 164, 3) := by decide +kernel
theorem dX6_seen_10 : decode cX6_seen 10 = .ok (.invokevirtual 202, 3) := by decide +kernel
theorem dX6_seen_13 : decode cX6_seen 13 = .ok (.ireturn, 1) := by decide +kernel
theorem dX6_seenFromTop_0 : decode cX6_seenFromTop 0 = .ok (.aload_n 0, 1) := by decide +kernel
theorem dX6_seenFromTop_1 : decode cX6_seenFromTop 1 = .ok (.getfield 12, 3) := by decide +kernel
theorem dX6_seenFromTop_4 : decode cX6_seenFromTop 4 = .ok (.iload_n 1, 1) := by decide +kernel
theorem dX6_seenFromTop_5 : decode cX6_seenFromTop 5 = .ok (.iload_n 2, 1) := by decide +kernel
theorem dX6_seenFromTop_6 : decode cX6_seenFromTop 6 = .ok (.invokestatic 164, 3) := by decide +kernel
theorem dX6_seenFromTop_9 : decode cX6_seenFromTop 9 = .ok (.invokevirtual 205, 3) := by decide +kernel
theorem dX6_seenFromTop_12 : decode cX6_seenFromTop 12 = .ok (.ireturn, 1) := by decide +kernel
theorem dX6_topLayer_0 : decode cX6_topLayer 0 = .ok (.aload_n 0, 1) := by decide +kernel
theorem dX6_topLayer_1 : decode cX6_topLayer 1 = .ok (.getfield 12, 3) := by decide +kernel
theorem dX6_topLayer_4 : decode cX6_topLayer 4 = .ok (.iload_n 1, 1) := by decide +kernel
theorem dX6_topLayer_5 : decode cX6_topLayer 5 = .ok (.iload_n 2, 1) := by decide +kernel
theorem dX6_topLayer_6 : decode cX6_topLayer 6 = .ok (.invokestatic 164, 3) := by decide +kernel
theorem dX6_topLayer_9 : decode cX6_topLayer 9 = .ok (.invokevirtual 208, 3) := by decide +kernel
theorem dX6_topLayer_12 : decode cX6_topLayer 12 = .ok (.istore_n 3, 1) := by decide +kernel
theorem dX6_topLayer_13 : decode cX6_topLayer 13 = .ok (.iload_n 3, 1) := by decide +kernel
theorem dX6_topLayer_14 : decode cX6_topLayer 14 = .ok (.iconst (-1), 1) := by decide +kernel
theorem dX6_topLayer_15 : decode cX6_topLayer 15 = .ok (.if_icmp .ne 13, 3) := by decide +kernel
theorem dX6_topLayer_18 : decode cX6_topLayer 18 = .ok (.new 119, 3) := by decide +kernel
theorem dX6_topLayer_21 : decode cX6_topLayer 21 = .ok (.dup, 1) := by decide +kernel
theorem dX6_topLayer_22 : decode cX6_topLayer 22 = .ok (.ldc 211, 2) := by decide +kernel
theorem dX6_topLayer_24 : decode cX6_topLayer 24 = .ok (.invokespecial 123, 3) := by decide +kernel
theorem dX6_topLayer_27 : decode cX6_topLayer 27 = .ok (.athrow, 1) := by decide +kernel
theorem dX6_topLayer_28 : decode cX6_topLayer 28 = .ok (.iload_n 3, 1) := by decide +kernel
theorem dX6_topLayer_29 : decode cX6_topLayer 29 = .ok (.ireturn, 1) := by decide +kernel
theorem dX6_coveringLayers_0 : decode cX6_coveringLayers 0 = .ok (.aload_n 0, 1) := by decide +kernel
theorem dX6_coveringLayers_1 : decode cX6_coveringLayers 1 = .ok (.getfield 12, 3) := by decide +kernel
theorem dX6_coveringLayers_4 : decode cX6_coveringLayers 4 = .ok (.iload_n 1, 1) := by decide +kernel
theorem dX6_coveringLayers_5 : decode cX6_coveringLayers 5 = .ok (.iload_n 2, 1) := by decide +kernel
theorem dX6_coveringLayers_6 : decode cX6_coveringLayers 6 = .ok (.invokestatic 164, 3) := by decide +kernel
theorem dX6_coveringLayers_9 : decode cX6_coveringLayers 9 = .ok (.invokevirtual 213, 3) := by decide +kernel
theorem dX6_coveringLayers_12 : decode cX6_coveringLayers 12 = .ok (.ireturn, 1) := by decide +kernel
theorem dX6_cellsWithTone_0 : decode cX6_cellsWithTone 0 = .ok (.iload_n 1, 1) := by decide +kernel
theorem dX6_cellsWithTone_1 : decode cX6_cellsWithTone 1 = .ok (.invokestatic 216, 3) := by decide +kernel
theorem dX6_cellsWithTone_4 : decode cX6_cellsWithTone 4 = .ok (.ifCond .ne 13, 3) := by decide +kernel
theorem dX6_cellsWithTone_7 : decode cX6_cellsWithTone 7 = .ok (.new 66, 3) := by decide +kernel
theorem dX6_cellsWithTone_10 : decode cX6_cellsWithTone 10 = .ok (.dup, 1) := by decide +kernel
theorem dX6_cellsWithTone_11 : decode cX6_cellsWithTone 11 = .ok (.ldc 220, 2) := by decide +kernel
theorem dX6_cellsWithTone_13 : decode cX6_cellsWithTone 13 = .ok (.invokespecial 70, 3) := by decide +kernel
theorem dX6_cellsWithTone_16 : decode cX6_cellsWithTone 16 = .ok (.athrow, 1) := by decide +kernel
theorem dX6_cellsWithTone_17 : decode cX6_cellsWithTone 17 = .ok (.aload_n 0, 1) := by decide +kernel
theorem dX6_cellsWithTone_18 : decode cX6_cellsWithTone 18 = .ok (.invokevirtual 222, 3) := by decide +kernel
theorem dX6_cellsWithTone_21 : decode cX6_cellsWithTone 21 = .ok (.iload_n 1, 1) := by decide +kernel
theorem dX6_cellsWithTone_22 : decode cX6_cellsWithTone 22 = .ok (.invokevirtual 226, 3) := by decide +kernel
theorem dX6_cellsWithTone_25 : decode cX6_cellsWithTone 25 = .ok (.ireturn, 1) := by decide +kernel
theorem dX6_commonestTone_0 : decode cX6_commonestTone 0 = .ok (.aload_n 0, 1) := by decide +kernel
theorem dX6_commonestTone_1 : decode cX6_commonestTone 1 = .ok (.invokevirtual 222, 3) := by decide +kernel
theorem dX6_commonestTone_4 : decode cX6_commonestTone 4 = .ok (.invokevirtual 229, 3) := by decide +kernel
theorem dX6_commonestTone_7 : decode cX6_commonestTone 7 = .ok (.ireturn, 1) := by decide +kernel
theorem dX6_sumOfTones_0 : decode cX6_sumOfTones 0 = .ok (.iload_n 1, 1) := by decide +kernel
theorem dX6_sumOfTones_1 : decode cX6_sumOfTones 1 = .ok (.iload_n 2, 1) := by decide +kernel
theorem dX6_sumOfTones_2 : decode cX6_sumOfTones 2 = .ok (.iload_n 3, 1) := by decide +kernel
theorem dX6_sumOfTones_3 : decode cX6_sumOfTones 3 = .ok (.iload 4, 2) := by decide +kernel
theorem dX6_sumOfTones_5 : decode cX6_sumOfTones 5 = .ok (.invokestatic 232, 3) := by decide +kernel
theorem dX6_sumOfTones_8 : decode cX6_sumOfTones 8 = .ok (.aload_n 0, 1) := by decide +kernel
theorem dX6_sumOfTones_9 : decode cX6_sumOfTones 9 = .ok (.invokevirtual 222, 3) := by decide +kernel
theorem dX6_sumOfTones_12 : decode cX6_sumOfTones 12 = .ok (.iload_n 1, 1) := by decide +kernel
theorem dX6_sumOfTones_13 : decode cX6_sumOfTones 13 = .ok (.iload_n 2, 1) := by decide +kernel
theorem dX6_sumOfTones_14 : decode cX6_sumOfTones 14 = .ok (.iload_n 3, 1) := by decide +kernel
theorem dX6_sumOfTones_15 : decode cX6_sumOfTones 15 = .ok (.iload 4, 2) := by decide +kernel
theorem dX6_sumOfTones_17 : decode cX6_sumOfTones 17 = .ok (.invokevirtual 236, 3) := by decide +kernel
theorem dX6_sumOfTones_20 : decode cX6_sumOfTones 20 = .ok (.ireturn, 1) := by decide +kernel
theorem dX6_sumOfTonesByTable_0 : decode cX6_sumOfTonesByTable 0 = .ok (.iload_n 1, 1) := by decide +kernel
theorem dX6_sumOfTonesByTable_1 : decode cX6_sumOfTonesByTable 1 = .ok (.iload_n 2, 1) := by decide +kernel
theorem dX6_sumOfTonesByTable_2 : decode cX6_sumOfTonesByTable 2 = .ok (.iload_n 3, 1) := by decide +kernel
theorem dX6_sumOfTonesByTable_3 : decode cX6_sumOfTonesByTable 3 = .ok (.iload 4, 2) := by decide +kernel
theorem dX6_sumOfTonesByTable_5 : decode cX6_sumOfTonesByTable 5 = .ok (.invokestatic 232, 3) := by decide +kernel
theorem dX6_sumOfTonesByTable_8 : decode cX6_sumOfTonesByTable 8 = .ok (.aload_n 0, 1) := by decide +kernel
theorem dX6_sumOfTonesByTable_9 : decode cX6_sumOfTonesByTable 9 = .ok (.invokevirtual 222, 3) := by decide +kernel
theorem dX6_sumOfTonesByTable_12 : decode cX6_sumOfTonesByTable 12 = .ok (.iload_n 1, 1) := by decide +kernel
theorem dX6_sumOfTonesByTable_13 : decode cX6_sumOfTonesByTable 13 = .ok (.iload_n 2, 1) := by decide +kernel
theorem dX6_sumOfTonesByTable_14 : decode cX6_sumOfTonesByTable 14 = .ok (.iload_n 3, 1) := by decide +kernel
theorem dX6_sumOfTonesByTable_15 : decode cX6_sumOfTonesByTable 15 = .ok (.iload 4, 2) := by decide +kernel
theorem dX6_sumOfTonesByTable_17 : decode cX6_sumOfTonesByTable 17 = .ok (.invokevirtual 239, 3) := by decide +kernel
theorem dX6_sumOfTonesByTable_20 : decode cX6_sumOfTonesByTable 20 = .ok (.ireturn, 1) := by decide +kernel
theorem dX6_areaSize_0 : decode cX6_areaSize 0 = .ok (.aload_n 0, 1) := by decide +kernel
theorem dX6_areaSize_1 : decode cX6_areaSize 1 = .ok (.invokevirtual 222, 3) := by decide +kernel
theorem dX6_areaSize_4 : decode cX6_areaSize 4 = .ok (.iload_n 1, 1) := by decide +kernel
theorem dX6_areaSize_5 : decode cX6_areaSize 5 = .ok (.iload_n 2, 1) := by decide +kernel
theorem dX6_areaSize_6 : decode cX6_areaSize 6 = .ok (.invokestatic 164, 3) := by decide +kernel
theorem dX6_areaSize_9 : decode cX6_areaSize 9 = .ok (.invokevirtual 242, 3) := by decide +kernel
theorem dX6_areaSize_12 : decode cX6_areaSize 12 = .ok (.ireturn, 1) := by decide +kernel
theorem dX6_areaCount_0 : decode cX6_areaCount 0 = .ok (.aload_n 0, 1) := by decide +kernel
theorem dX6_areaCount_1 : decode cX6_areaCount 1 = .ok (.invokevirtual 222, 3) := by decide +kernel
theorem dX6_areaCount_4 : decode cX6_areaCount 4 = .ok (.invokevirtual 245, 3) := by decide +kernel
theorem dX6_areaCount_7 : decode cX6_areaCount 7 = .ok (.ireturn, 1) := by decide +kernel
theorem dX6_areaCountByJoining_0 : decode cX6_areaCountByJoining 0 = .ok (.aload_n 0, 1) := by decide +kernel
theorem dX6_areaCountByJoining_1 : decode cX6_areaCountByJoining 1 = .ok (.invokevirtual 222, 3) := by decide +kernel
theorem dX6_areaCountByJoining_4 : decode cX6_areaCountByJoining 4 = .ok (.invokevirtual 248, 3) := by decide +kernel
theorem dX6_areaCountByJoining_7 : decode cX6_areaCountByJoining 7 = .ok (.ireturn, 1) := by decide +kernel
theorem dX6_largestArea_0 : decode cX6_largestArea 0 = .ok (.aload_n 0, 1) := by decide +kernel
theorem dX6_largestArea_1 : decode cX6_largestArea 1 = .ok (.invokevirtual 222, 3) := by decide +kernel
theorem dX6_largestArea_4 : decode cX6_largestArea 4 = .ok (.invokevirtual 251, 3) := by decide +kernel
theorem dX6_largestArea_7 : decode cX6_largestArea 7 = .ok (.ireturn, 1) := by decide +kernel
theorem dX6_darkestRow_0 : decode cX6_darkestRow 0 = .ok (.aload_n 0, 1) := by decide +kernel
theorem dX6_darkestRow_1 : decode cX6_darkestRow 1 = .ok (.invokevirtual 222, 3) := by decide +kernel
theorem dX6_darkestRow_4 : decode cX6_darkestRow 4 = .ok (.invokevirtual 254, 3) := by decide +kernel
theorem dX6_darkestRow_7 : decode cX6_darkestRow 7 = .ok (.ireturn, 1) := by decide +kernel
theorem dX6_isMirrored_0 : decode cX6_isMirrored 0 = .ok (.aload_n 0, 1) := by decide +kernel
theorem dX6_isMirrored_1 : decode cX6_isMirrored 1 = .ok (.invokevirtual 222, 3) := by decide +kernel
theorem dX6_isMirrored_4 : decode cX6_isMirrored 4 = .ok (.invokevirtual 257, 3) := by decide +kernel
theorem dX6_isMirrored_7 : decode cX6_isMirrored 7 = .ok (.ireturn, 1) := by decide +kernel
theorem dX6_meanTone_0 : decode cX6_meanTone 0 = .ok (.aload_n 0, 1) := by decide +kernel
theorem dX6_meanTone_1 : decode cX6_meanTone 1 = .ok (.invokevirtual 222, 3) := by decide +kernel
theorem dX6_meanTone_4 : decode cX6_meanTone 4 = .ok (.invokevirtual 261, 3) := by decide +kernel
theorem dX6_meanTone_7 : decode cX6_meanTone 7 = .ok (.i2d, 1) := by decide +kernel
theorem dX6_meanTone_8 : decode cX6_meanTone 8 = .ok (.ldc2_w 264, 3) := by decide +kernel
theorem dX6_meanTone_11 : decode cX6_meanTone 11 = .ok (.ddiv, 1) := by decide +kernel
theorem dX6_meanTone_12 : decode cX6_meanTone 12 = .ok (.dreturn, 1) := by decide +kernel
theorem dX6_coveredShare_0 : decode cX6_coveredShare 0 = .ok (.aload_n 0, 1) := by decide +kernel
theorem dX6_coveredShare_1 : decode cX6_coveredShare 1 = .ok (.getfield 12, 3) := by decide +kernel
theorem dX6_coveredShare_4 : decode cX6_coveredShare 4 = .ok (.invokevirtual 266, 3) := by decide +kernel
theorem dX6_coveredShare_7 : decode cX6_coveredShare 7 = .ok (.i2f, 1) := by decide +kernel
theorem dX6_coveredShare_8 : decode cX6_coveredShare 8 = .ok (.ldc_w 269, 3) := by decide +kernel
theorem dX6_coveredShare_11 : decode cX6_coveredShare 11 = .ok (.fdiv, 1) := by decide +kernel
theorem dX6_coveredShare_12 : decode cX6_coveredShare 12 = .ok (.freturn, 1) := by decide +kernel
theorem dX6_isConsistent_0 : decode cX6_isConsistent 0 = .ok (.aload_n 0, 1) := by decide +kernel
theorem dX6_isConsistent_1 : decode cX6_isConsistent 1 = .ok (.invokevirtual 222, 3) := by decide +kernel
theorem dX6_isConsistent_4 : decode cX6_isConsistent 4 = .ok (.astore_n 1, 1) := by decide +kernel
theorem dX6_isConsistent_5 : decode cX6_isConsistent 5 = .ok (.aload_n 1, 1) := by decide +kernel
theorem dX6_isConsistent_6 : decode cX6_isConsistent 6 = .ok (.aload_n 0, 1) := by decide +kernel
theorem dX6_isConsistent_7 : decode cX6_isConsistent 7 = .ok (.getfield 12, 3) := by decide +kernel
theorem dX6_isConsistent_10 : decode cX6_isConsistent 10 = .ok (.invokevirtual 270, 3) := by decide +kernel
theorem dX6_isConsistent_13 : decode cX6_isConsistent 13 = .ok (.ifCond .ne 34, 3) := by decide +kernel
theorem dX6_isConsistent_16 : decode cX6_isConsistent 16 = .ok (.aload_n 1, 1) := by decide +kernel
theorem dX6_isConsistent_17 : decode cX6_isConsistent 17 = .ok (.invokevirtual 261, 3) := by decide +kernel
theorem dX6_isConsistent_20 : decode cX6_isConsistent 20 = .ok (.aload_n 1, 1) := by decide +kernel
theorem dX6_isConsistent_21 : decode cX6_isConsistent 21 = .ok (.iconst 0, 1) := by decide +kernel
theorem dX6_isConsistent_22 : decode cX6_isConsistent 22 = .ok (.iconst 0, 1) := by decide +kernel
theorem dX6_isConsistent_23 : decode cX6_isConsistent 23 = .ok (.bipush 7, 2) := by decide +kernel
theorem dX6_isConsistent_25 : decode cX6_isConsistent 25 = .ok (.iconst 5, 1) := by decide +kernel
theorem dX6_isConsistent_26 : decode cX6_isConsistent 26 = .ok (.invokevirtual 239, 3) := by decide +kernel
theorem dX6_isConsistent_29 : decode cX6_isConsistent 29 = .ok (.if_icmp .ne 18, 3) := by decide +kernel
theorem dX6_isConsistent_32 : decode cX6_isConsistent 32 = .ok (.aload_n 1, 1) := by decide +kernel
theorem dX6_isConsistent_33 : decode cX6_isConsistent 33 = .ok (.invokevirtual 245, 3) := by decide +kernel
theorem dX6_isConsistent_36 : decode cX6_isConsistent 36 = .ok (.aload_n 1, 1) := by decide +kernel
theorem dX6_isConsistent_37 : decode cX6_isConsistent 37 = .ok (.invokevirtual 248, 3) := by decide +kernel
theorem dX6_isConsistent_40 : decode cX6_isConsistent 40 = .ok (.if_icmp .ne 7, 3) := by decide +kernel
theorem dX6_isConsistent_43 : decode cX6_isConsistent 43 = .ok (.iconst 1, 1) := by decide +kernel
theorem dX6_isConsistent_44 : decode cX6_isConsistent 44 = .ok (.goto 4, 3) := by decide +kernel
theorem dX6_isConsistent_47 : decode cX6_isConsistent 47 = .ok (.iconst 0, 1) := by decide +kernel
theorem dX6_isConsistent_48 : decode cX6_isConsistent 48 = .ok (.ireturn, 1) := by decide +kernel
theorem dX6_flattened_0 : decode cX6_flattened 0 = .ok (.aload_n 0, 1) := by decide +kernel
theorem dX6_flattened_1 : decode cX6_flattened 1 = .ok (.getfield 33, 3) := by decide +kernel
theorem dX6_flattened_4 : decode cX6_flattened 4 = .ok (.aload_n 0, 1) := by decide +kernel
theorem dX6_flattened_5 : decode cX6_flattened 5 = .ok (.getfield 12, 3) := by decide +kernel
theorem dX6_flattened_8 : decode cX6_flattened 8 = .ok (.invokevirtual 138, 3) := by decide +kernel
theorem dX6_flattened_11 : decode cX6_flattened 11 = .ok (.aload_n 0, 1) := by decide +kernel
theorem dX6_flattened_12 : decode cX6_flattened 12 = .ok (.getfield 33, 3) := by decide +kernel
theorem dX6_flattened_15 : decode cX6_flattened 15 = .ok (.areturn, 1) := by decide +kernel
theorem dX6_requireRectangle_0 : decode cX6_requireRectangle 0 = .ok (.iload_n 0, 1) := by decide +kernel
theorem dX6_requireRectangle_1 : decode cX6_requireRectangle 1 = .ok (.iload_n 1, 1) := by decide +kernel
theorem dX6_requireRectangle_2 : decode cX6_requireRectangle 2 = .ok (.invokestatic 193, 3) := by decide +kernel
theorem dX6_requireRectangle_5 : decode cX6_requireRectangle 5 = .ok (.ifCond .eq 11, 3) := by decide +kernel
theorem dX6_requireRectangle_8 : decode cX6_requireRectangle 8 = .ok (.iload_n 2, 1) := by decide +kernel
theorem dX6_requireRectangle_9 : decode cX6_requireRectangle 9 = .ok (.iload_n 3, 1) := by decide +kernel
theorem dX6_requireRectangle_10 : decode cX6_requireRectangle 10 = .ok (.invokestatic 193, 3) := by decide +kernel
theorem dX6_requireRectangle_13 : decode cX6_requireRectangle 13 = .ok (.ifCond .ne 13, 3) := by decide +kernel
theorem dX6_requireRectangle_16 : decode cX6_requireRectangle 16 = .ok (.new 85, 3) := by decide +kernel
theorem dX6_requireRectangle_19 : decode cX6_requireRectangle 19 = .ok (.dup, 1) := by decide +kernel
theorem dX6_requireRectangle_20 : decode cX6_requireRectangle 20 = .ok (.ldc 197, 2) := by decide +kernel
theorem dX6_requireRectangle_22 : decode cX6_requireRectangle 22 = .ok (.invokespecial 89, 3) := by decide +kernel
theorem dX6_requireRectangle_25 : decode cX6_requireRectangle 25 = .ok (.athrow, 1) := by decide +kernel
theorem dX6_requireRectangle_26 : decode cX6_requireRectangle 26 = .ok (.iload_n 0, 1) := by decide +kernel
theorem dX6_requireRectangle_27 : decode cX6_requireRectangle 27 = .ok (.iload_n 2, 1) := by decide +kernel
theorem dX6_requireRectangle_28 : decode cX6_requireRectangle 28 = .ok (.if_icmp .gt 8, 3) := by decide +kernel
theorem dX6_requireRectangle_31 : decode cX6_requireRectangle 31 = .ok (.iload_n 1, 1) := by decide +kernel
theorem dX6_requireRectangle_32 : decode cX6_requireRectangle 32 = .ok (.iload_n 3, 1) := by decide +kernel
theorem dX6_requireRectangle_33 : decode cX6_requireRectangle 33 = .ok (.if_icmp .le 14, 3) := by decide +kernel
theorem dX6_requireRectangle_36 : decode cX6_requireRectangle 36 = .ok (.new 66, 3) := by decide +kernel
theorem dX6_requireRectangle_39 : decode cX6_requireRectangle 39 = .ok (.dup, 1) := by decide +kernel
theorem dX6_requireRectangle_40 : decode cX6_requireRectangle 40 = .ok (.ldc_w 273, 3) := by decide +kernel
theorem dX6_requireRectangle_43 : decode cX6_requireRectangle 43 = .ok (.invokespecial 70, 3) := by decide +kernel
theorem dX6_requireRectangle_46 : decode cX6_requireRectangle 46 = .ok (.athrow, 1) := by decide +kernel
theorem dX6_requireRectangle_47 : decode cX6_requireRectangle 47 = .ok (.return_, 1) := by decide +kernel
theorem dX6_feed_0 : decode cX6_feed 0 = .ok (.aload_n 0, 1) := by decide +kernel
theorem dX6_feed_1 : decode cX6_feed 1 = .ok (.getfield 40, 3) := by decide +kernel
theorem dX6_feed_4 : decode cX6_feed 4 = .ok (.invokevirtual 275, 3) := by decide +kernel
theorem dX6_feed_7 : decode cX6_feed 7 = .ok (.ifCond .eq 14, 3) := by decide +kernel
theorem dX6_feed_10 : decode cX6_feed 10 = .ok (.new 73, 3) := by decide +kernel
theorem dX6_feed_13 : decode cX6_feed 13 = .ok (.dup, 1) := by decide +kernel
theorem dX6_feed_14 : decode cX6_feed 14 = .ok (.ldc_w 278, 3) := by decide +kernel
theorem dX6_feed_17 : decode cX6_feed 17 = .ok (.invokespecial 77, 3) := by decide +kernel
theorem dX6_feed_20 : decode cX6_feed 20 = .ok (.athrow, 1) := by decide +kernel
theorem dX6_feed_21 : decode cX6_feed 21 = .ok (.aload_n 0, 1) := by decide +kernel
theorem dX6_feed_22 : decode cX6_feed 22 = .ok (.getfield 40, 3) := by decide +kernel
theorem dX6_feed_25 : decode cX6_feed 25 = .ok (.iload_n 1, 1) := by decide +kernel
theorem dX6_feed_26 : decode cX6_feed 26 = .ok (.invokevirtual 280, 3) := by decide +kernel
theorem dX6_feed_29 : decode cX6_feed 29 = .ok (.ireturn, 1) := by decide +kernel
theorem dX6_runCommands_0 : decode cX6_runCommands 0 = .ok (.aload_n 0, 1) := by decide +kernel
theorem dX6_runCommands_1 : decode cX6_runCommands 1 = .ok (.getfield 40, 3) := by decide +kernel
theorem dX6_runCommands_4 : decode cX6_runCommands 4 = .ok (.invokevirtual 283, 3) := by decide +kernel
theorem dX6_runCommands_7 : decode cX6_runCommands 7 = .ok (.istore_n 1, 1) := by decide +kernel
theorem dX6_runCommands_8 : decode cX6_runCommands 8 = .ok (.iload_n 1, 1) := by decide +kernel
theorem dX6_runCommands_9 : decode cX6_runCommands 9 = .ok (.iconst (-1), 1) := by decide +kernel
theorem dX6_runCommands_10 : decode cX6_runCommands 10 = .ok (.if_icmp .ne 32, 3) := by decide +kernel
theorem dX6_runCommands_13 : decode cX6_runCommands 13 = .ok (.aload_n 0, 1) := by decide +kernel
theorem dX6_runCommands_14 : decode cX6_runCommands 14 = .ok (.aload_n 0, 1) := by decide +kernel
theorem dX6_runCommands_15 : decode cX6_runCommands 15 = .ok (.getfield 40, 3) := by decide +kernel
theorem dX6_runCommands_18 : decode cX6_runCommands 18 = .ok (.getfield 286, 3) := by decide +kernel
theorem dX6_runCommands_21 : decode cX6_runCommands 21 = .ok (.putfield 51, 3) := by decide +kernel
theorem dX6_runCommands_24 : decode cX6_runCommands 24 = .ok (.aload_n 0, 1) := by decide +kernel
theorem dX6_runCommands_25 : decode cX6_runCommands 25 = .ok (.getfield 40, 3) := by decide +kernel
theorem dX6_runCommands_28 : decode cX6_runCommands 28 = .ok (.invokevirtual 289, 3) := by decide +kernel
theorem dX6_runCommands_31 : decode cX6_runCommands 31 = .ok (.new 66, 3) := by decide +kernel
theorem dX6_runCommands_34 : decode cX6_runCommands 34 = .ok (.dup, 1) := by decide +kernel
theorem dX6_runCommands_35 : decode cX6_runCommands 35 = .ok (.ldc_w 292, 3) := by decide +kernel
theorem dX6_runCommands_38 : decode cX6_runCommands 38 = .ok (.invokespecial 70, 3) := by decide +kernel
theorem dX6_runCommands_41 : decode cX6_runCommands 41 = .ok (.athrow, 1) := by decide +kernel
theorem dX6_runCommands_42 : decode cX6_runCommands 42 = .ok (.aload_n 0, 1) := by decide +kernel
theorem dX6_runCommands_43 : decode cX6_runCommands 43 = .ok (.getfield 19, 3) := by decide +kernel
theorem dX6_runCommands_46 : decode cX6_runCommands 46 = .ok (.aload_n 0, 1) := by decide +kernel
theorem dX6_runCommands_47 : decode cX6_runCommands 47 = .ok (.getfield 12, 3) := by decide +kernel
theorem dX6_runCommands_50 : decode cX6_runCommands 50 = .ok (.invokevirtual 58, 3) := by decide +kernel
theorem dX6_runCommands_53 : decode cX6_runCommands 53 = .ok (.aload_n 0, 1) := by decide +kernel
theorem dX6_runCommands_54 : decode cX6_runCommands 54 = .ok (.iload_n 1, 1) := by decide +kernel
theorem dX6_runCommands_55 : decode cX6_runCommands 55 = .ok (.invokevirtual 294, 3) := by decide +kernel
theorem dX6_runCommands_58 : decode cX6_runCommands 58 = .ok (.istore_n 2, 1) := by decide +kernel
theorem dX6_runCommands_59 : decode cX6_runCommands 59 = .ok (.aload_n 0, 1) := by decide +kernel
theorem dX6_runCommands_60 : decode cX6_runCommands 60 = .ok (.getfield 40, 3) := by decide +kernel
theorem dX6_runCommands_63 : decode cX6_runCommands 63 = .ok (.invokevirtual 289, 3) := by decide +kernel
theorem dX6_runCommands_66 : decode cX6_runCommands 66 = .ok (.iload_n 2, 1) := by decide +kernel
theorem dX6_runCommands_67 : decode cX6_runCommands 67 = .ok (.iconst (-1), 1) := by decide +kernel
theorem dX6_runCommands_68 : decode cX6_runCommands 68 = .ok (.if_icmp .eq 30, 3) := by decide +kernel
theorem dX6_runCommands_71 : decode cX6_runCommands 71 = .ok (.aload_n 0, 1) := by decide +kernel
theorem dX6_runCommands_72 : decode cX6_runCommands 72 = .ok (.iload_n 2, 1) := by decide +kernel
theorem dX6_runCommands_73 : decode cX6_runCommands 73 = .ok (.putfield 55, 3) := by decide +kernel
theorem dX6_runCommands_76 : decode cX6_runCommands 76 = .ok (.aload_n 0, 1) := by decide +kernel
theorem dX6_runCommands_77 : decode cX6_runCommands 77 = .ok (.getfield 19, 3) := by decide +kernel
theorem dX6_runCommands_80 : decode cX6_runCommands 80 = .ok (.aload_n 0, 1) := by decide +kernel
theorem dX6_runCommands_81 : decode cX6_runCommands 81 = .ok (.getfield 12, 3) := by decide +kernel
theorem dX6_runCommands_84 : decode cX6_runCommands 84 = .ok (.invokevirtual 297, 3) := by decide +kernel
theorem dX6_runCommands_87 : decode cX6_runCommands 87 = .ok (.new 124, 3) := by decide +kernel
theorem dX6_runCommands_90 : decode cX6_runCommands 90 = .ok (.dup, 1) := by decide +kernel
theorem dX6_runCommands_91 : decode cX6_runCommands 91 = .ok (.ldc_w 300, 3) := by decide +kernel
theorem dX6_runCommands_94 : decode cX6_runCommands 94 = .ok (.invokespecial 128, 3) := by decide +kernel
theorem dX6_runCommands_97 : decode cX6_runCommands 97 = .ok (.athrow, 1) := by decide +kernel
theorem dX6_runCommands_98 : decode cX6_runCommands 98 = .ok (.aload_n 0, 1) := by decide +kernel
theorem dX6_runCommands_99 : decode cX6_runCommands 99 = .ok (.getfield 19, 3) := by decide +kernel
theorem dX6_runCommands_102 : decode cX6_runCommands 102 = .ok (.invokevirtual 78, 3) := by decide +kernel
theorem dX6_runCommands_105 : decode cX6_runCommands 105 = .ok (.iload_n 1, 1) := by decide +kernel
theorem dX6_runCommands_106 : decode cX6_runCommands 106 = .ok (.ireturn, 1) := by decide +kernel
theorem dX6_errorPosition_0 : decode cX6_errorPosition 0 = .ok (.aload_n 0, 1) := by decide +kernel
theorem dX6_errorPosition_1 : decode cX6_errorPosition 1 = .ok (.getfield 51, 3) := by decide +kernel
theorem dX6_errorPosition_4 : decode cX6_errorPosition 4 = .ok (.iconst (-1), 1) := by decide +kernel
theorem dX6_errorPosition_5 : decode cX6_errorPosition 5 = .ok (.if_icmp .ne 14, 3) := by decide +kernel
theorem dX6_errorPosition_8 : decode cX6_errorPosition 8 = .ok (.new 119, 3) := by decide +kernel
theorem dX6_errorPosition_11 : decode cX6_errorPosition 11 = .ok (.dup, 1) := by decide +kernel
theorem dX6_errorPosition_12 : decode cX6_errorPosition 12 = .ok (.ldc_w 302, 3) := by decide +kernel
theorem dX6_errorPosition_15 : decode cX6_errorPosition 15 = .ok (.invokespecial 123, 3) := by decide +kernel
theorem dX6_errorPosition_18 : decode cX6_errorPosition 18 = .ok (.athrow, 1) := by decide +kernel
theorem dX6_errorPosition_19 : decode cX6_errorPosition 19 = .ok (.aload_n 0, 1) := by decide +kernel
theorem dX6_errorPosition_20 : decode cX6_errorPosition 20 = .ok (.getfield 51, 3) := by decide +kernel
theorem dX6_errorPosition_23 : decode cX6_errorPosition 23 = .ok (.ireturn, 1) := by decide +kernel
theorem dX6_failedCommand_0 : decode cX6_failedCommand 0 = .ok (.aload_n 0, 1) := by decide +kernel
theorem dX6_failedCommand_1 : decode cX6_failedCommand 1 = .ok (.getfield 55, 3) := by decide +kernel
theorem dX6_failedCommand_4 : decode cX6_failedCommand 4 = .ok (.iconst (-1), 1) := by decide +kernel
theorem dX6_failedCommand_5 : decode cX6_failedCommand 5 = .ok (.if_icmp .ne 14, 3) := by decide +kernel
theorem dX6_failedCommand_8 : decode cX6_failedCommand 8 = .ok (.new 119, 3) := by decide +kernel
theorem dX6_failedCommand_11 : decode cX6_failedCommand 11 = .ok (.dup, 1) := by decide +kernel
theorem dX6_failedCommand_12 : decode cX6_failedCommand 12 = .ok (.ldc_w 304, 3) := by decide +kernel
theorem dX6_failedCommand_15 : decode cX6_failedCommand 15 = .ok (.invokespecial 123, 3) := by decide +kernel
theorem dX6_failedCommand_18 : decode cX6_failedCommand 18 = .ok (.athrow, 1) := by decide +kernel
theorem dX6_failedCommand_19 : decode cX6_failedCommand 19 = .ok (.aload_n 0, 1) := by decide +kernel
theorem dX6_failedCommand_20 : decode cX6_failedCommand 20 = .ok (.getfield 55, 3) := by decide +kernel
theorem dX6_failedCommand_23 : decode cX6_failedCommand 23 = .ok (.ireturn, 1) := by decide +kernel
theorem dX6_carryOutUntilFailure_0 : decode cX6_carryOutUntilFailure 0 = .ok (.aload_n 0, 1) := by decide +kernel
theorem dX6_carryOutUntilFailure_1 : decode cX6_carryOutUntilFailure 1 = .ok (.getfield 40, 3) := by decide +kernel
theorem dX6_carryOutUntilFailure_4 : decode cX6_carryOutUntilFailure 4 = .ok (.invokevirtual 306, 3) := by decide +kernel
theorem dX6_carryOutUntilFailure_7 : decode cX6_carryOutUntilFailure 7 = .ok (.iconst 0, 1) := by decide +kernel
theorem dX6_carryOutUntilFailure_8 : decode cX6_carryOutUntilFailure 8 = .ok (.istore_n 2, 1) := by decide +kernel
theorem dX6_carryOutUntilFailure_9 : decode cX6_carryOutUntilFailure 9 = .ok (.iload_n 2, 1) := by decide +kernel
theorem dX6_carryOutUntilFailure_10 : decode cX6_carryOutUntilFailure 10 = .ok (.iload_n 1, 1) := by decide +kernel
theorem dX6_carryOutUntilFailure_11 : decode cX6_carryOutUntilFailure 11 = .ok (.if_icmp .ge 38, 3) := by decide +kernel
theorem dX6_carryOutUntilFailure_14 : decode cX6_carryOutUntilFailure 14 = .ok (.aload_n 0, 1) := by decide +kernel
theorem dX6_carryOutUntilFailure_15 : decode cX6_carryOutUntilFailure 15 = .ok (.getfield 40, 3) := by decide +kernel
theorem dX6_carryOutUntilFailure_18 : decode cX6_carryOutUntilFailure 18 = .ok (.invokevirtual 309, 3) := by decide +kernel
theorem dX6_carryOutUntilFailure_21 : decode cX6_carryOutUntilFailure 21 = .ok (.pop, 1) := by decide +kernel
theorem dX6_carryOutUntilFailure_22 : decode cX6_carryOutUntilFailure 22 = .ok (.aload_n 0, 1) := by decide +kernel
theorem dX6_carryOutUntilFailure_23 : decode cX6_carryOutUntilFailure 23 = .ok (.aload_n 0, 1) := by decide +kernel
theorem dX6_carryOutUntilFailure_24 : decode cX6_carryOutUntilFailure 24 = .ok (.getfield 40, 3) := by decide +kernel
theorem dX6_carryOutUntilFailure_27 : decode cX6_carryOutUntilFailure 27 = .ok (.invokevirtual 312, 3) := by decide +kernel
theorem dX6_carryOutUntilFailure_30 : decode cX6_carryOutUntilFailure 30 = .ok (.ifCond .ge 5, 3) := by decide +kernel
theorem dX6_carryOutUntilFailure_33 : decode cX6_carryOutUntilFailure 33 = .ok (.iload_n 2, 1) := by decide +kernel
theorem dX6_carryOutUntilFailure_34 : decode cX6_carryOutUntilFailure 34 = .ok (.ireturn, 1) := by decide +kernel
theorem dX6_carryOutUntilFailure_35 : decode cX6_carryOutUntilFailure 35 = .ok (.aload_n 0, 1) := by decide +kernel
theorem dX6_carryOutUntilFailure_36 : decode cX6_carryOutUntilFailure 36 = .ok (.getfield 40, 3) := by decide +kernel
theorem dX6_carryOutUntilFailure_39 : decode cX6_carryOutUntilFailure 39 = .ok (.invokevirtual 316, 3) := by decide +kernel
theorem dX6_carryOutUntilFailure_42 : decode cX6_carryOutUntilFailure 42 = .ok (.pop, 1) := by decide +kernel
theorem dX6_carryOutUntilFailure_43 : decode cX6_carryOutUntilFailure 43 = .ok (.iinc 2 1, 3) := by decide +kernel
theorem dX6_carryOutUntilFailure_46 : decode cX6_carryOutUntilFailure 46 = .ok (.goto (-37), 3) := by decide +kernel
theorem dX6_carryOutUntilFailure_49 : decode cX6_carryOutUntilFailure 49 = .ok (.iconst (-1), 1) := by decide +kernel
theorem dX6_carryOutUntilFailure_50 : decode cX6_carryOutUntilFailure 50 = .ok (.ireturn, 1) := by decide +kernel
theorem dX6_carryOut_0 : decode cX6_carryOut 0 = .ok (.aload_n 1, 1) := by decide +kernel
theorem dX6_carryOut_1 : decode cX6_carryOut 1 = .ok (.iconst 0, 1) := by decide +kernel
theorem dX6_carryOut_2 : decode cX6_carryOut 2 = .ok (.invokevirtual 319, 3) := by decide +kernel
theorem dX6_carryOut_5 : decode cX6_carryOut 5 = .ok (.istore_n 2, 1) := by decide +kernel
theorem dX6_carryOut_6 : decode cX6_carryOut 6 = .ok (.aload_n 1, 1) := by decide +kernel
theorem dX6_carryOut_7 : decode cX6_carryOut 7 = .ok (.iconst 1, 1) := by decide +kernel
theorem dX6_carryOut_8 : decode cX6_carryOut 8 = .ok (.invokevirtual 319, 3) := by decide +kernel
theorem dX6_carryOut_11 : decode cX6_carryOut 11 = .ok (.istore_n 3, 1) := by decide +kernel
theorem dX6_carryOut_12 : decode cX6_carryOut 12 = .ok (.aload_n 1, 1) := by decide +kernel
theorem dX6_carryOut_13 : decode cX6_carryOut 13 = .ok (.getfield 322, 3) := by decide +kernel
theorem dX6_carryOut_16 : decode cX6_carryOut 16 = .ok (.tableswitch 154 0 7 #[48, 58, 88, 108, 118, 128, 137, 144], 48) := by decide +kernel
theorem dX6_carryOut_64 : decode cX6_carryOut 64 = .ok (.aload_n 0, 1) := by decide +kernel
theorem dX6_carryOut_65 : decode cX6_carryOut 65 = .ok (.getfield 12, 3) := by decide +kernel
theorem dX6_carryOut_68 : decode cX6_carryOut 68 = .ok (.iload_n 2, 1) := by decide +kernel
theorem dX6_carryOut_69 : decode cX6_carryOut 69 = .ok (.i2c, 1) := by decide +kernel
theorem dX6_carryOut_70 : decode cX6_carryOut 70 = .ok (.invokevirtual 62, 3) := by decide +kernel
theorem dX6_carryOut_73 : decode cX6_carryOut 73 = .ok (.ireturn, 1) := by decide +kernel
theorem dX6_carryOut_74 : decode cX6_carryOut 74 = .ok (.aload_n 0, 1) := by decide +kernel
theorem dX6_carryOut_75 : decode cX6_carryOut 75 = .ok (.getfield 12, 3) := by decide +kernel
theorem dX6_carryOut_78 : decode cX6_carryOut 78 = .ok (.iload_n 2, 1) := by decide +kernel
theorem dX6_carryOut_79 : decode cX6_carryOut 79 = .ok (.iload_n 3, 1) := by decide +kernel
theorem dX6_carryOut_80 : decode cX6_carryOut 80 = .ok (.aload_n 1, 1) := by decide +kernel
theorem dX6_carryOut_81 : decode cX6_carryOut 81 = .ok (.iconst 2, 1) := by decide +kernel
theorem dX6_carryOut_82 : decode cX6_carryOut 82 = .ok (.invokevirtual 319, 3) := by decide +kernel
theorem dX6_carryOut_85 : decode cX6_carryOut 85 = .ok (.aload_n 1, 1) := by decide +kernel
theorem dX6_carryOut_86 : decode cX6_carryOut 86 = .ok (.iconst 3, 1) := by decide +kernel
theorem dX6_carryOut_87 : decode cX6_carryOut 87 = .ok (.invokevirtual 319, 3) := by decide +kernel
theorem dX6_carryOut_90 : decode cX6_carryOut 90 = .ok (.aload_n 1, 1) := by decide +kernel
theorem dX6_carryOut_91 : decode cX6_carryOut 91 = .ok (.iconst 4, 1) := by decide +kernel
theorem dX6_carryOut_92 : decode cX6_carryOut 92 = .ok (.invokevirtual 319, 3) := by decide +kernel
theorem dX6_carryOut_95 : decode cX6_carryOut 95 = .ok (.aload_n 1, 1) := by decide +kernel
theorem dX6_carryOut_96 : decode cX6_carryOut 96 = .ok (.iconst 5, 1) := by decide +kernel
theorem dX6_carryOut_97 : decode cX6_carryOut 97 = .ok (.invokevirtual 319, 3) := by decide +kernel
theorem dX6_carryOut_100 : decode cX6_carryOut 100 = .ok (.invokevirtual 90, 3) := by decide +kernel
theorem dX6_carryOut_103 : decode cX6_carryOut 103 = .ok (.ireturn, 1) := by decide +kernel
theorem dX6_carryOut_104 : decode cX6_carryOut 104 = .ok (.aload_n 0, 1) := by decide +kernel
theorem dX6_carryOut_105 : decode cX6_carryOut 105 = .ok (.getfield 12, 3) := by decide +kernel
theorem dX6_carryOut_108 : decode cX6_carryOut 108 = .ok (.iload_n 2, 1) := by decide +kernel
theorem dX6_carryOut_109 : decode cX6_carryOut 109 = .ok (.iload_n 3, 1) := by decide +kernel
theorem dX6_carryOut_110 : decode cX6_carryOut 110 = .ok (.aload_n 1, 1) := by decide +kernel
theorem dX6_carryOut_111 : decode cX6_carryOut 111 = .ok (.iconst 2, 1) := by decide +kernel
theorem dX6_carryOut_112 : decode cX6_carryOut 112 = .ok (.invokevirtual 319, 3) := by decide +kernel
theorem dX6_carryOut_115 : decode cX6_carryOut 115 = .ok (.aload_n 1, 1) := by decide +kernel
theorem dX6_carryOut_116 : decode cX6_carryOut 116 = .ok (.iconst 3, 1) := by decide +kernel
theorem dX6_carryOut_117 : decode cX6_carryOut 117 = .ok (.invokevirtual 319, 3) := by decide +kernel
theorem dX6_carryOut_120 : decode cX6_carryOut 120 = .ok (.invokevirtual 98, 3) := by decide +kernel
theorem dX6_carryOut_123 : decode cX6_carryOut 123 = .ok (.ireturn, 1) := by decide +kernel
theorem dX6_carryOut_124 : decode cX6_carryOut 124 = .ok (.aload_n 0, 1) := by decide +kernel
theorem dX6_carryOut_125 : decode cX6_carryOut 125 = .ok (.getfield 12, 3) := by decide +kernel
theorem dX6_carryOut_128 : decode cX6_carryOut 128 = .ok (.iload_n 2, 1) := by decide +kernel
theorem dX6_carryOut_129 : decode cX6_carryOut 129 = .ok (.iconst 0, 1) := by decide +kernel
theorem dX6_carryOut_130 : decode cX6_carryOut 130 = .ok (.invokevirtual 104, 3) := by decide +kernel
theorem dX6_carryOut_133 : decode cX6_carryOut 133 = .ok (.ireturn, 1) := by decide +kernel
theorem dX6_carryOut_134 : decode cX6_carryOut 134 = .ok (.aload_n 0, 1) := by decide +kernel
theorem dX6_carryOut_135 : decode cX6_carryOut 135 = .ok (.getfield 12, 3) := by decide +kernel
theorem dX6_carryOut_138 : decode cX6_carryOut 138 = .ok (.iload_n 2, 1) := by decide +kernel
theorem dX6_carryOut_139 : decode cX6_carryOut 139 = .ok (.iconst 1, 1) := by decide +kernel
theorem dX6_carryOut_140 : decode cX6_carryOut 140 = .ok (.invokevirtual 104, 3) := by decide +kernel
theorem dX6_carryOut_143 : decode cX6_carryOut 143 = .ok (.ireturn, 1) := by decide +kernel
theorem dX6_carryOut_144 : decode cX6_carryOut 144 = .ok (.aload_n 0, 1) := by decide +kernel
theorem dX6_carryOut_145 : decode cX6_carryOut 145 = .ok (.getfield 12, 3) := by decide +kernel
theorem dX6_carryOut_148 : decode cX6_carryOut 148 = .ok (.iload_n 2, 1) := by decide +kernel
theorem dX6_carryOut_149 : decode cX6_carryOut 149 = .ok (.invokevirtual 116, 3) := by decide +kernel
theorem dX6_carryOut_152 : decode cX6_carryOut 152 = .ok (.ireturn, 1) := by decide +kernel
theorem dX6_carryOut_153 : decode cX6_carryOut 153 = .ok (.aload_n 0, 1) := by decide +kernel
theorem dX6_carryOut_154 : decode cX6_carryOut 154 = .ok (.iload_n 2, 1) := by decide +kernel
theorem dX6_carryOut_155 : decode cX6_carryOut 155 = .ok (.iload_n 3, 1) := by decide +kernel
theorem dX6_carryOut_156 : decode cX6_carryOut 156 = .ok (.invokevirtual 112, 3) := by decide +kernel
theorem dX6_carryOut_159 : decode cX6_carryOut 159 = .ok (.ireturn, 1) := by decide +kernel
theorem dX6_carryOut_160 : decode cX6_carryOut 160 = .ok (.aload_n 0, 1) := by decide +kernel
theorem dX6_carryOut_161 : decode cX6_carryOut 161 = .ok (.getfield 12, 3) := by decide +kernel
theorem dX6_carryOut_164 : decode cX6_carryOut 164 = .ok (.iload_n 2, 1) := by decide +kernel
theorem dX6_carryOut_165 : decode cX6_carryOut 165 = .ok (.iload_n 3, 1) := by decide +kernel
theorem dX6_carryOut_166 : decode cX6_carryOut 166 = .ok (.invokevirtual 129, 3) := by decide +kernel
theorem dX6_carryOut_169 : decode cX6_carryOut 169 = .ok (.ireturn, 1) := by decide +kernel
theorem dX6_carryOut_170 : decode cX6_carryOut 170 = .ok (.bipush (-3), 2) := by decide +kernel
theorem dX6_carryOut_172 : decode cX6_carryOut 172 = .ok (.ireturn, 1) := by decide +kernel
theorem dX6_writeRow_0 : decode cX6_writeRow 0 = .ok (.iload_n 1, 1) := by decide +kernel
theorem dX6_writeRow_1 : decode cX6_writeRow 1 = .ok (.ifCond .lt 9, 3) := by decide +kernel
theorem dX6_writeRow_4 : decode cX6_writeRow 4 = .ok (.iload_n 1, 1) := by decide +kernel
theorem dX6_writeRow_5 : decode cX6_writeRow 5 = .ok (.bipush 6, 2) := by decide +kernel
theorem dX6_writeRow_7 : decode cX6_writeRow 7 = .ok (.if_icmp .lt 14, 3) := by decide +kernel
theorem dX6_writeRow_10 : decode cX6_writeRow 10 = .ok (.new 85, 3) := by decide +kernel
theorem dX6_writeRow_13 : decode cX6_writeRow 13 = .ok (.dup, 1) := by decide +kernel
theorem dX6_writeRow_14 : decode cX6_writeRow 14 = .ok (.ldc_w 325, 3) := by decide +kernel
theorem dX6_writeRow_17 : decode cX6_writeRow 17 = .ok (.invokespecial 89, 3) := by decide +kernel
theorem dX6_writeRow_20 : decode cX6_writeRow 20 = .ok (.athrow, 1) := by decide +kernel
theorem dX6_writeRow_21 : decode cX6_writeRow 21 = .ok (.aload_n 0, 1) := by decide +kernel
theorem dX6_writeRow_22 : decode cX6_writeRow 22 = .ok (.getfield 47, 3) := by decide +kernel
theorem dX6_writeRow_25 : decode cX6_writeRow 25 = .ok (.invokevirtual 327, 3) := by decide +kernel
theorem dX6_writeRow_28 : decode cX6_writeRow 28 = .ok (.iconst 0, 1) := by decide +kernel
theorem dX6_writeRow_29 : decode cX6_writeRow 29 = .ok (.istore_n 2, 1) := by decide +kernel
theorem dX6_writeRow_30 : decode cX6_writeRow 30 = .ok (.iload_n 2, 1) := by decide +kernel
theorem dX6_writeRow_31 : decode cX6_writeRow 31 = .ok (.bipush 8, 2) := by decide +kernel
theorem dX6_writeRow_33 : decode cX6_writeRow 33 = .ok (.if_icmp .ge 29, 3) := by decide +kernel
theorem dX6_writeRow_36 : decode cX6_writeRow 36 = .ok (.aload_n 0, 1) := by decide +kernel
theorem dX6_writeRow_37 : decode cX6_writeRow 37 = .ok (.getfield 47, 3) := by decide +kernel
theorem dX6_writeRow_40 : decode cX6_writeRow 40 = .ok (.aload_n 0, 1) := by decide +kernel
theorem dX6_writeRow_41 : decode cX6_writeRow 41 = .ok (.getfield 12, 3) := by decide +kernel
theorem dX6_writeRow_44 : decode cX6_writeRow 44 = .ok (.iconst 0, 1) := by decide +kernel
theorem dX6_writeRow_45 : decode cX6_writeRow 45 = .ok (.iload_n 2, 1) := by decide +kernel
theorem dX6_writeRow_46 : decode cX6_writeRow 46 = .ok (.iload_n 1, 1) := by decide +kernel
theorem dX6_writeRow_47 : decode cX6_writeRow 47 = .ok (.invokestatic 199, 3) := by decide +kernel
theorem dX6_writeRow_50 : decode cX6_writeRow 50 = .ok (.invokevirtual 202, 3) := by decide +kernel
theorem dX6_writeRow_53 : decode cX6_writeRow 53 = .ok (.invokevirtual 328, 3) := by decide +kernel
theorem dX6_writeRow_56 : decode cX6_writeRow 56 = .ok (.iinc 2 1, 3) := by decide +kernel
theorem dX6_writeRow_59 : decode cX6_writeRow 59 = .ok (.goto (-29), 3) := by decide +kernel
theorem dX6_writeRow_62 : decode cX6_writeRow 62 = .ok (.aload_n 0, 1) := by decide +kernel
theorem dX6_writeRow_63 : decode cX6_writeRow 63 = .ok (.getfield 47, 3) := by decide +kernel
theorem dX6_writeRow_66 : decode cX6_writeRow 66 = .ok (.getfield 332, 3) := by decide +kernel
theorem dX6_writeRow_69 : decode cX6_writeRow 69 = .ok (.ireturn, 1) := by decide +kernel
theorem dX6_writeLayers_0 : decode cX6_writeLayers 0 = .ok (.aload_n 0, 1) := by decide +kernel
theorem dX6_writeLayers_1 : decode cX6_writeLayers 1 = .ok (.getfield 47, 3) := by decide +kernel
theorem dX6_writeLayers_4 : decode cX6_writeLayers 4 = .ok (.invokevirtual 327, 3) := by decide +kernel
theorem dX6_writeLayers_7 : decode cX6_writeLayers 7 = .ok (.iconst 0, 1) := by decide +kernel
theorem dX6_writeLayers_8 : decode cX6_writeLayers 8 = .ok (.istore_n 1, 1) := by decide +kernel
theorem dX6_writeLayers_9 : decode cX6_writeLayers 9 = .ok (.iload_n 1, 1) := by decide +kernel
theorem dX6_writeLayers_10 : decode cX6_writeLayers 10 = .ok (.aload_n 0, 1) := by decide +kernel
theorem dX6_writeLayers_11 : decode cX6_writeLayers 11 = .ok (.getfield 12, 3) := by decide +kernel
theorem dX6_writeLayers_14 : decode cX6_writeLayers 14 = .ok (.getfield 149, 3) := by decide +kernel
theorem dX6_writeLayers_17 : decode cX6_writeLayers 17 = .ok (.if_icmp .ge 34, 3) := by decide +kernel
theorem dX6_writeLayers_20 : decode cX6_writeLayers 20 = .ok (.iload_n 1, 1) := by decide +kernel
theorem dX6_writeLayers_21 : decode cX6_writeLayers 21 = .ok (.ifCond .le 12, 3) := by decide +kernel
theorem dX6_writeLayers_24 : decode cX6_writeLayers 24 = .ok (.aload_n 0, 1) := by decide +kernel
theorem dX6_writeLayers_25 : decode cX6_writeLayers 25 = .ok (.getfield 47, 3) := by decide +kernel
theorem dX6_writeLayers_28 : decode cX6_writeLayers 28 = .ok (.bipush 32, 2) := by decide +kernel
theorem dX6_writeLayers_30 : decode cX6_writeLayers 30 = .ok (.invokevirtual 335, 3) := by decide +kernel
theorem dX6_writeLayers_33 : decode cX6_writeLayers 33 = .ok (.aload_n 0, 1) := by decide +kernel
theorem dX6_writeLayers_34 : decode cX6_writeLayers 34 = .ok (.aload_n 0, 1) := by decide +kernel
theorem dX6_writeLayers_35 : decode cX6_writeLayers 35 = .ok (.getfield 12, 3) := by decide +kernel
theorem dX6_writeLayers_38 : decode cX6_writeLayers 38 = .ok (.iload_n 1, 1) := by decide +kernel
theorem dX6_writeLayers_39 : decode cX6_writeLayers 39 = .ok (.invokevirtual 134, 3) := by decide +kernel
theorem dX6_writeLayers_42 : decode cX6_writeLayers 42 = .ok (.invokevirtual 339, 3) := by decide +kernel
theorem dX6_writeLayers_45 : decode cX6_writeLayers 45 = .ok (.iinc 1 1, 3) := by decide +kernel
theorem dX6_writeLayers_48 : decode cX6_writeLayers 48 = .ok (.goto (-39), 3) := by decide +kernel
theorem dX6_writeLayers_51 : decode cX6_writeLayers 51 = .ok (.aload_n 0, 1) := by decide +kernel
theorem dX6_writeLayers_52 : decode cX6_writeLayers 52 = .ok (.getfield 47, 3) := by decide +kernel
theorem dX6_writeLayers_55 : decode cX6_writeLayers 55 = .ok (.getfield 332, 3) := by decide +kernel
theorem dX6_writeLayers_58 : decode cX6_writeLayers 58 = .ok (.ireturn, 1) := by decide +kernel
theorem dX6_outputChar_0 : decode cX6_outputChar 0 = .ok (.iload_n 1, 1) := by decide +kernel
theorem dX6_outputChar_1 : decode cX6_outputChar 1 = .ok (.ifCond .lt 14, 3) := by decide +kernel
theorem dX6_outputChar_4 : decode cX6_outputChar 4 = .ok (.iload_n 1, 1) := by decide +kernel
theorem dX6_outputChar_5 : decode cX6_outputChar 5 = .ok (.aload_n 0, 1) := by decide +kernel
theorem dX6_outputChar_6 : decode cX6_outputChar 6 = .ok (.getfield 47, 3) := by decide +kernel
theorem dX6_outputChar_9 : decode cX6_outputChar 9 = .ok (.getfield 332, 3) := by decide +kernel
theorem dX6_outputChar_12 : decode cX6_outputChar 12 = .ok (.if_icmp .lt 14, 3) := by decide +kernel
theorem dX6_outputChar_15 : decode cX6_outputChar 15 = .ok (.new 85, 3) := by decide +kernel
theorem dX6_outputChar_18 : decode cX6_outputChar 18 = .ok (.dup, 1) := by decide +kernel
theorem dX6_outputChar_19 : decode cX6_outputChar 19 = .ok (.ldc_w 343, 3) := by decide +kernel
theorem dX6_outputChar_22 : decode cX6_outputChar 22 = .ok (.invokespecial 89, 3) := by decide +kernel
theorem dX6_outputChar_25 : decode cX6_outputChar 25 = .ok (.athrow, 1) := by decide +kernel
theorem dX6_outputChar_26 : decode cX6_outputChar 26 = .ok (.aload_n 0, 1) := by decide +kernel
theorem dX6_outputChar_27 : decode cX6_outputChar 27 = .ok (.getfield 47, 3) := by decide +kernel
theorem dX6_outputChar_30 : decode cX6_outputChar 30 = .ok (.iload_n 1, 1) := by decide +kernel
theorem dX6_outputChar_31 : decode cX6_outputChar 31 = .ok (.invokevirtual 345, 3) := by decide +kernel
theorem dX6_outputChar_34 : decode cX6_outputChar 34 = .ok (.ireturn, 1) := by decide +kernel
theorem dX6_describe_0 : decode cX6_describe 0 = .ok (.aload_n 1, 1) := by decide +kernel
theorem dX6_describe_1 : decode cX6_describe 1 = .ok (.ifnonnull 4, 3) := by decide +kernel
theorem dX6_describe_4 : decode cX6_describe 4 = .ok (.return_, 1) := by decide +kernel
theorem dX6_describe_5 : decode cX6_describe 5 = .ok (.aload_n 0, 1) := by decide +kernel
theorem dX6_describe_6 : decode cX6_describe 6 = .ok (.getfield 47, 3) := by decide +kernel
theorem dX6_describe_9 : decode cX6_describe 9 = .ok (.aload_n 1, 1) := by decide +kernel
theorem dX6_describe_10 : decode cX6_describe 10 = .ok (.getfield 155, 3) := by decide +kernel
theorem dX6_describe_13 : decode cX6_describe 13 = .ok (.invokevirtual 335, 3) := by decide +kernel
theorem dX6_describe_16 : decode cX6_describe 16 = .ok (.aload_n 1, 1) := by decide +kernel
theorem dX6_describe_17 : decode cX6_describe 17 = .ok (.getfield 161, 3) := by decide +kernel
theorem dX6_describe_20 : decode cX6_describe 20 = .ok (.ifCond .ne 12, 3) := by decide +kernel
theorem dX6_describe_23 : decode cX6_describe 23 = .ok (.aload_n 0, 1) := by decide +kernel
theorem dX6_describe_24 : decode cX6_describe 24 = .ok (.getfield 47, 3) := by decide +kernel
theorem dX6_describe_27 : decode cX6_describe 27 = .ok (.bipush 45, 2) := by decide +kernel
theorem dX6_describe_29 : decode cX6_describe 29 = .ok (.invokevirtual 335, 3) := by decide +kernel
theorem dX6_describe_32 : decode cX6_describe 32 = .ok (.aload_n 0, 1) := by decide +kernel
theorem dX6_describe_33 : decode cX6_describe 33 = .ok (.getfield 47, 3) := by decide +kernel
theorem dX6_describe_36 : decode cX6_describe 36 = .ok (.aload_n 1, 1) := by decide +kernel
theorem dX6_describe_37 : decode cX6_describe 37 = .ok (.invokevirtual 172, 3) := by decide +kernel
theorem dX6_describe_40 : decode cX6_describe 40 = .ok (.invokevirtual 349, 3) := by decide +kernel
theorem dX6_describe_43 : decode cX6_describe 43 = .ok (.return_, 1) := by decide +kernel
theorem dX6_undoCount_0 : decode cX6_undoCount 0 = .ok (.aload_n 0, 1) := by decide +kernel
theorem dX6_undoCount_1 : decode cX6_undoCount 1 = .ok (.getfield 19, 3) := by decide +kernel
theorem dX6_undoCount_4 : decode cX6_undoCount 4 = .ok (.getfield 352, 3) := by decide +kernel
theorem dX6_undoCount_7 : decode cX6_undoCount 7 = .ok (.ireturn, 1) := by decide +kernel
theorem dX6_undo_0 : decode cX6_undo 0 = .ok (.aload_n 0, 1) := by decide +kernel
theorem dX6_undo_1 : decode cX6_undo 1 = .ok (.getfield 19, 3) := by decide +kernel
theorem dX6_undo_4 : decode cX6_undo 4 = .ok (.getfield 352, 3) := by decide +kernel
theorem dX6_undo_7 : decode cX6_undo 7 = .ok (.ifCond .ne 14, 3) := by decide +kernel
theorem dX6_undo_10 : decode cX6_undo 10 = .ok (.new 73, 3) := by decide +kernel
theorem dX6_undo_13 : decode cX6_undo 13 = .ok (.dup, 1) := by decide +kernel
theorem dX6_undo_14 : decode cX6_undo 14 = .ok (.ldc_w 355, 3) := by decide +kernel
theorem dX6_undo_17 : decode cX6_undo 17 = .ok (.invokespecial 77, 3) := by decide +kernel
theorem dX6_undo_20 : decode cX6_undo 20 = .ok (.athrow, 1) := by decide +kernel
theorem dX6_undo_21 : decode cX6_undo 21 = .ok (.aload_n 0, 1) := by decide +kernel
theorem dX6_undo_22 : decode cX6_undo 22 = .ok (.getfield 19, 3) := by decide +kernel
theorem dX6_undo_25 : decode cX6_undo 25 = .ok (.aload_n 0, 1) := by decide +kernel
theorem dX6_undo_26 : decode cX6_undo 26 = .ok (.getfield 12, 3) := by decide +kernel
theorem dX6_undo_29 : decode cX6_undo 29 = .ok (.invokevirtual 357, 3) := by decide +kernel
theorem dX6_undo_32 : decode cX6_undo 32 = .ok (.aload_n 0, 1) := by decide +kernel
theorem dX6_undo_33 : decode cX6_undo 33 = .ok (.getfield 19, 3) := by decide +kernel
theorem dX6_undo_36 : decode cX6_undo 36 = .ok (.getfield 352, 3) := by decide +kernel
theorem dX6_undo_39 : decode cX6_undo 39 = .ok (.ireturn, 1) := by decide +kernel
theorem dX6_save_0 : decode cX6_save 0 = .ok (.aload_n 0, 1) := by decide +kernel
theorem dX6_save_1 : decode cX6_save 1 = .ok (.getfield 23, 3) := by decide +kernel
theorem dX6_save_4 : decode cX6_save 4 = .ok (.aload_n 0, 1) := by decide +kernel
theorem dX6_save_5 : decode cX6_save 5 = .ok (.getfield 12, 3) := by decide +kernel
theorem dX6_save_8 : decode cX6_save 8 = .ok (.invokevirtual 360, 3) := by decide +kernel
theorem dX6_save_11 : decode cX6_save 11 = .ok (.aload_n 0, 1) := by decide +kernel
theorem dX6_save_12 : decode cX6_save 12 = .ok (.iconst 1, 1) := by decide +kernel
theorem dX6_save_13 : decode cX6_save 13 = .ok (.putfield 26, 3) := by decide +kernel
theorem dX6_save_16 : decode cX6_save 16 = .ok (.aload_n 0, 1) := by decide +kernel
theorem dX6_save_17 : decode cX6_save 17 = .ok (.getfield 12, 3) := by decide +kernel
theorem dX6_save_20 : decode cX6_save 20 = .ok (.getfield 149, 3) := by decide +kernel
theorem dX6_save_23 : decode cX6_save 23 = .ok (.ireturn, 1) := by decide +kernel
theorem dX6_restore_0 : decode cX6_restore 0 = .ok (.aload_n 0, 1) := by decide +kernel
theorem dX6_restore_1 : decode cX6_restore 1 = .ok (.getfield 26, 3) := by decide +kernel
theorem dX6_restore_4 : decode cX6_restore 4 = .ok (.ifCond .ne 14, 3) := by decide +kernel
theorem dX6_restore_7 : decode cX6_restore 7 = .ok (.new 73, 3) := by decide +kernel
theorem dX6_restore_10 : decode cX6_restore 10 = .ok (.dup, 1) := by decide +kernel
theorem dX6_restore_11 : decode cX6_restore 11 = .ok (.ldc_w 363, 3) := by decide +kernel
theorem dX6_restore_14 : decode cX6_restore 14 = .ok (.invokespecial 77, 3) := by decide +kernel
theorem dX6_restore_17 : decode cX6_restore 17 = .ok (.athrow, 1) := by decide +kernel
theorem dX6_restore_18 : decode cX6_restore 18 = .ok (.aload_n 0, 1) := by decide +kernel
theorem dX6_restore_19 : decode cX6_restore 19 = .ok (.getfield 12, 3) := by decide +kernel
theorem dX6_restore_22 : decode cX6_restore 22 = .ok (.aload_n 0, 1) := by decide +kernel
theorem dX6_restore_23 : decode cX6_restore 23 = .ok (.getfield 23, 3) := by decide +kernel
theorem dX6_restore_26 : decode cX6_restore 26 = .ok (.invokevirtual 360, 3) := by decide +kernel
theorem dX6_restore_29 : decode cX6_restore 29 = .ok (.aload_n 0, 1) := by decide +kernel
theorem dX6_restore_30 : decode cX6_restore 30 = .ok (.getfield 19, 3) := by decide +kernel
theorem dX6_restore_33 : decode cX6_restore 33 = .ok (.invokevirtual 365, 3) := by decide +kernel
theorem dX6_restore_36 : decode cX6_restore 36 = .ok (.aload_n 0, 1) := by decide +kernel
theorem dX6_restore_37 : decode cX6_restore 37 = .ok (.getfield 12, 3) := by decide +kernel
theorem dX6_restore_40 : decode cX6_restore 40 = .ok (.getfield 149, 3) := by decide +kernel
theorem dX6_restore_43 : decode cX6_restore 43 = .ok (.ireturn, 1) := by decide +kernel
theorem dX6_isCell_0 : decode cX6_isCell 0 = .ok (.iload_n 0, 1) := by decide +kernel
theorem dX6_isCell_1 : decode cX6_isCell 1 = .ok (.ifCond .lt 23, 3) := by decide +kernel
theorem dX6_isCell_4 : decode cX6_isCell 4 = .ok (.iload_n 0, 1) := by decide +kernel
theorem dX6_isCell_5 : decode cX6_isCell 5 = .ok (.bipush 8, 2) := by decide +kernel
theorem dX6_isCell_7 : decode cX6_isCell 7 = .ok (.if_icmp .ge 17, 3) := by decide +kernel
theorem dX6_isCell_10 : decode cX6_isCell 10 = .ok (.iload_n 1, 1) := by decide +kernel
theorem dX6_isCell_11 : decode cX6_isCell 11 = .ok (.ifCond .lt 13, 3) := by decide +kernel
theorem dX6_isCell_14 : decode cX6_isCell 14 = .ok (.iload_n 1, 1) := by decide +kernel
theorem dX6_isCell_15 : decode cX6_isCell 15 = .ok (.bipush 6, 2) := by decide +kernel
theorem dX6_isCell_17 : decode cX6_isCell 17 = .ok (.if_icmp .ge 7, 3) := by decide +kernel
theorem dX6_isCell_20 : decode cX6_isCell 20 = .ok (.iconst 1, 1) := by decide +kernel
theorem dX6_isCell_21 : decode cX6_isCell 21 = .ok (.goto 4, 3) := by decide +kernel
theorem dX6_isCell_24 : decode cX6_isCell 24 = .ok (.iconst 0, 1) := by decide +kernel
theorem dX6_isCell_25 : decode cX6_isCell 25 = .ok (.ireturn, 1) := by decide +kernel
theorem dX6_cellNumber_0 : decode cX6_cellNumber 0 = .ok (.iload_n 1, 1) := by decide +kernel
theorem dX6_cellNumber_1 : decode cX6_cellNumber 1 = .ok (.bipush 8, 2) := by decide +kernel
theorem dX6_cellNumber_3 : decode cX6_cellNumber 3 = .ok (.imul, 1) := by decide +kernel
theorem dX6_cellNumber_4 : decode cX6_cellNumber 4 = .ok (.iload_n 0, 1) := by decide +kernel
theorem dX6_cellNumber_5 : decode cX6_cellNumber 5 = .ok (.iadd, 1) := by decide +kernel
theorem dX6_cellNumber_6 : decode cX6_cellNumber 6 = .ok (.ireturn, 1) := by decide +kernel
theorem dX6_isTone_0 : decode cX6_isTone 0 = .ok (.iload_n 0, 1) := by decide +kernel
theorem dX6_isTone_1 : decode cX6_isTone 1 = .ok (.ifCond .lt 13, 3) := by decide +kernel
theorem dX6_isTone_4 : decode cX6_isTone 4 = .ok (.iload_n 0, 1) := by decide +kernel
theorem dX6_isTone_5 : decode cX6_isTone 5 = .ok (.bipush 15, 2) := by decide +kernel
theorem dX6_isTone_7 : decode cX6_isTone 7 = .ok (.if_icmp .gt 7, 3) := by decide +kernel
theorem dX6_isTone_10 : decode cX6_isTone 10 = .ok (.iconst 1, 1) := by decide +kernel
theorem dX6_isTone_11 : decode cX6_isTone 11 = .ok (.goto 4, 3) := by decide +kernel
theorem dX6_isTone_14 : decode cX6_isTone 14 = .ok (.iconst 0, 1) := by decide +kernel
theorem dX6_isTone_15 : decode cX6_isTone 15 = .ok (.ireturn, 1) := by decide +kernel
theorem dX6_isMode_0 : decode cX6_isMode 0 = .ok (.iload_n 0, 1) := by decide +kernel
theorem dX6_isMode_1 : decode cX6_isMode 1 = .ok (.bipush 110, 2) := by decide +kernel
theorem dX6_isMode_3 : decode cX6_isMode 3 = .ok (.if_icmp .eq 33, 3) := by decide +kernel
theorem dX6_isMode_6 : decode cX6_isMode 6 = .ok (.iload_n 0, 1) := by decide +kernel
theorem dX6_isMode_7 : decode cX6_isMode 7 = .ok (.bipush 109, 2) := by decide +kernel
theorem dX6_isMode_9 : decode cX6_isMode 9 = .ok (.if_icmp .eq 27, 3) := by decide +kernel
theorem dX6_isMode_12 : decode cX6_isMode 12 = .ok (.iload_n 0, 1) := by decide +kernel
theorem dX6_isMode_13 : decode cX6_isMode 13 = .ok (.bipush 115, 2) := by decide +kernel
theorem dX6_isMode_15 : decode cX6_isMode 15 = .ok (.if_icmp .eq 21, 3) := by decide +kernel
theorem dX6_isMode_18 : decode cX6_isMode 18 = .ok (.iload_n 0, 1) := by decide +kernel
theorem dX6_isMode_19 : decode cX6_isMode 19 = .ok (.bipush 100, 2) := by decide +kernel
theorem dX6_isMode_21 : decode cX6_isMode 21 = .ok (.if_icmp .eq 15, 3) := by decide +kernel
theorem dX6_isMode_24 : decode cX6_isMode 24 = .ok (.iload_n 0, 1) := by decide +kernel
theorem dX6_isMode_25 : decode cX6_isMode 25 = .ok (.bipush 108, 2) := by decide +kernel
theorem dX6_isMode_27 : decode cX6_isMode 27 = .ok (.if_icmp .eq 9, 3) := by decide +kernel
theorem dX6_isMode_30 : decode cX6_isMode 30 = .ok (.iload_n 0, 1) := by decide +kernel
theorem dX6_isMode_31 : decode cX6_isMode 31 = .ok (.bipush 97, 2) := by decide +kernel
theorem dX6_isMode_33 : decode cX6_isMode 33 = .ok (.if_icmp .ne 7, 3) := by decide +kernel
theorem dX6_isMode_36 : decode cX6_isMode 36 = .ok (.iconst 1, 1) := by decide +kernel
theorem dX6_isMode_37 : decode cX6_isMode 37 = .ok (.goto 4, 3) := by decide +kernel
theorem dX6_isMode_40 : decode cX6_isMode 40 = .ok (.iconst 0, 1) := by decide +kernel
theorem dX6_isMode_41 : decode cX6_isMode 41 = .ok (.ireturn, 1) := by decide +kernel
theorem dX6_blend_0 : decode cX6_blend 0 = .ok (.iload_n 0, 1) := by decide +kernel
theorem dX6_blend_1 : decode cX6_blend 1 = .ok (.lookupswitch 102 #[(97, 96), (100, 74), (108, 85), (109, 51), (115, 58)], 51) := by decide +kernel
theorem dX6_blend_52 : decode cX6_blend 52 = .ok (.iload_n 1, 1) := by decide +kernel
theorem dX6_blend_53 : decode cX6_blend 53 = .ok (.iload_n 2, 1) := by decide +kernel
theorem dX6_blend_54 : decode cX6_blend 54 = .ok (.imul, 1) := by decide +kernel
theorem dX6_blend_55 : decode cX6_blend 55 = .ok (.bipush 15, 2) := by decide +kernel
theorem dX6_blend_57 : decode cX6_blend 57 = .ok (.idiv, 1) := by decide +kernel
theorem dX6_blend_58 : decode cX6_blend 58 = .ok (.ireturn, 1) := by decide +kernel
theorem dX6_blend_59 : decode cX6_blend 59 = .ok (.bipush 15, 2) := by decide +kernel
theorem dX6_blend_61 : decode cX6_blend 61 = .ok (.bipush 15, 2) := by decide +kernel
theorem dX6_blend_63 : decode cX6_blend 63 = .ok (.iload_n 1, 1) := by decide +kernel
theorem dX6_blend_64 : decode cX6_blend 64 = .ok (.isub, 1) := by decide +kernel
theorem dX6_blend_65 : decode cX6_blend 65 = .ok (.bipush 15, 2) := by decide +kernel
theorem dX6_blend_67 : decode cX6_blend 67 = .ok (.iload_n 2, 1) := by decide +kernel
theorem dX6_blend_68 : decode cX6_blend 68 = .ok (.isub, 1) := by decide +kernel
theorem dX6_blend_69 : decode cX6_blend 69 = .ok (.imul, 1) := by decide +kernel
theorem dX6_blend_70 : decode cX6_blend 70 = .ok (.bipush 15, 2) := by decide +kernel
theorem dX6_blend_72 : decode cX6_blend 72 = .ok (.idiv, 1) := by decide +kernel
theorem dX6_blend_73 : decode cX6_blend 73 = .ok (.isub, 1) := by decide +kernel
theorem dX6_blend_74 : decode cX6_blend 74 = .ok (.ireturn, 1) := by decide +kernel
theorem dX6_blend_75 : decode cX6_blend 75 = .ok (.iload_n 1, 1) := by decide +kernel
theorem dX6_blend_76 : decode cX6_blend 76 = .ok (.iload_n 2, 1) := by decide +kernel
theorem dX6_blend_77 : decode cX6_blend 77 = .ok (.if_icmp .ge 7, 3) := by decide +kernel
theorem dX6_blend_80 : decode cX6_blend 80 = .ok (.iload_n 1, 1) := by decide +kernel
theorem dX6_blend_81 : decode cX6_blend 81 = .ok (.goto 4, 3) := by decide +kernel
theorem dX6_blend_84 : decode cX6_blend 84 = .ok (.iload_n 2, 1) := by decide +kernel
theorem dX6_blend_85 : decode cX6_blend 85 = .ok (.ireturn, 1) := by decide +kernel
theorem dX6_blend_86 : decode cX6_blend 86 = .ok (.iload_n 1, 1) := by decide +kernel
theorem dX6_blend_87 : decode cX6_blend 87 = .ok (.iload_n 2, 1) := by decide +kernel
theorem dX6_blend_88 : decode cX6_blend 88 = .ok (.if_icmp .le 7, 3) := by decide +kernel
theorem dX6_blend_91 : decode cX6_blend 91 = .ok (.iload_n 1, 1) := by decide +kernel
theorem dX6_blend_92 : decode cX6_blend 92 = .ok (.goto 4, 3) := by decide +kernel
theorem dX6_blend_95 : decode cX6_blend 95 = .ok (.iload_n 2, 1) := by decide +kernel
theorem dX6_blend_96 : decode cX6_blend 96 = .ok (.ireturn, 1) := by decide +kernel
theorem dX6_blend_97 : decode cX6_blend 97 = .ok (.iload_n 1, 1) := by decide +kernel
theorem dX6_blend_98 : decode cX6_blend 98 = .ok (.iload_n 2, 1) := by decide +kernel
theorem dX6_blend_99 : decode cX6_blend 99 = .ok (.iadd, 1) := by decide +kernel
theorem dX6_blend_100 : decode cX6_blend 100 = .ok (.iconst 2, 1) := by decide +kernel
theorem dX6_blend_101 : decode cX6_blend 101 = .ok (.idiv, 1) := by decide +kernel
theorem dX6_blend_102 : decode cX6_blend 102 = .ok (.ireturn, 1) := by decide +kernel
theorem dX6_blend_103 : decode cX6_blend 103 = .ok (.iload_n 2, 1) := by decide +kernel
theorem dX6_blend_104 : decode cX6_blend 104 = .ok (.ireturn, 1) := by decide +kernel
theorem dX7_init_0 : decode cX7_init 0 = .ok (.aload_n 0, 1) := by decide +kernel
theorem dX7_init_1 : decode cX7_init 1 = .ok (.invokespecial 1, 3) := by decide +kernel
theorem dX7_init_4 : decode cX7_init 4 = .ok (.aload_n 0, 1) := by decide +kernel
theorem dX7_init_5 : decode cX7_init 5 = .ok (.sipush 303, 3) := by decide +kernel
theorem dX7_init_8 : decode cX7_init 8 = .ok (.newarray .int, 2) := by decide +kernel
theorem dX7_init_10 : decode cX7_init 10 = .ok (.putfield 7, 3) := by decide +kernel
theorem dX7_init_13 : decode cX7_init 13 = .ok (.aload_n 0, 1) := by decide +kernel
theorem dX7_init_14 : decode cX7_init 14 = .ok (.sipush 303, 3) := by decide +kernel
theorem dX7_init_17 : decode cX7_init 17 = .ok (.newarray .int, 2) := by decide +kernel
theorem dX7_init_19 : decode cX7_init 19 = .ok (.putfield 13, 3) := by decide +kernel
theorem dX7_init_22 : decode cX7_init 22 = .ok (.aload_n 0, 1) := by decide +kernel
theorem dX7_init_23 : decode cX7_init 23 = .ok (.sipush 303, 3) := by decide +kernel
theorem dX7_init_26 : decode cX7_init 26 = .ok (.newarray .int, 2) := by decide +kernel
theorem dX7_init_28 : decode cX7_init 28 = .ok (.putfield 16, 3) := by decide +kernel
theorem dX7_init_31 : decode cX7_init 31 = .ok (.aload_n 0, 1) := by decide +kernel
theorem dX7_init_32 : decode cX7_init 32 = .ok (.sipush 2424, 3) := by decide +kernel
theorem dX7_init_35 : decode cX7_init 35 = .ok (.newarray .int, 2) := by decide +kernel
theorem dX7_init_37 : decode cX7_init 37 = .ok (.putfield 19, 3) := by decide +kernel
theorem dX7_init_40 : decode cX7_init 40 = .ok (.aload_n 0, 1) := by decide +kernel
theorem dX7_init_41 : decode cX7_init 41 = .ok (.bipush 60, 2) := by decide +kernel
theorem dX7_init_43 : decode cX7_init 43 = .ok (.newarray .int, 2) := by decide +kernel
theorem dX7_init_45 : decode cX7_init 45 = .ok (.putfield 22, 3) := by decide +kernel
theorem dX7_init_48 : decode cX7_init 48 = .ok (.aload_n 0, 1) := by decide +kernel
theorem dX7_init_49 : decode cX7_init 49 = .ok (.sipush 420, 3) := by decide +kernel
theorem dX7_init_52 : decode cX7_init 52 = .ok (.newarray .int, 2) := by decide +kernel
theorem dX7_init_54 : decode cX7_init 54 = .ok (.putfield 25, 3) := by decide +kernel
theorem dX7_init_57 : decode cX7_init 57 = .ok (.aload_n 0, 1) := by decide +kernel
theorem dX7_init_58 : decode cX7_init 58 = .ok (.bipush 40, 2) := by decide +kernel
theorem dX7_init_60 : decode cX7_init 60 = .ok (.newarray .int, 2) := by decide +kernel
theorem dX7_init_62 : decode cX7_init 62 = .ok (.putfield 28, 3) := by decide +kernel
theorem dX7_init_65 : decode cX7_init 65 = .ok (.aload_n 0, 1) := by decide +kernel
theorem dX7_init_66 : decode cX7_init 66 = .ok (.bipush 48, 2) := by decide +kernel
theorem dX7_init_68 : decode cX7_init 68 = .ok (.newarray .int, 2) := by decide +kernel
theorem dX7_init_70 : decode cX7_init 70 = .ok (.putfield 31, 3) := by decide +kernel
theorem dX7_init_73 : decode cX7_init 73 = .ok (.aload_n 0, 1) := by decide +kernel
theorem dX7_init_74 : decode cX7_init 74 = .ok (.bipush 48, 2) := by decide +kernel
theorem dX7_init_76 : decode cX7_init 76 = .ok (.newarray .int, 2) := by decide +kernel
theorem dX7_init_78 : decode cX7_init 78 = .ok (.putfield 34, 3) := by decide +kernel
theorem dX7_init_81 : decode cX7_init 81 = .ok (.aload_n 0, 1) := by decide +kernel
theorem dX7_init_82 : decode cX7_init 82 = .ok (.bipush 50, 2) := by decide +kernel
theorem dX7_init_84 : decode cX7_init 84 = .ok (.newarray .int, 2) := by decide +kernel
theorem dX7_init_86 : decode cX7_init 86 = .ok (.putfield 37, 3) := by decide +kernel
theorem dX7_init_89 : decode cX7_init 89 = .ok (.aload_n 0, 1) := by decide +kernel
theorem dX7_init_90 : decode cX7_init 90 = .ok (.iconst (-1), 1) := by decide +kernel
theorem dX7_init_91 : decode cX7_init 91 = .ok (.putfield 40, 3) := by decide +kernel
theorem dX7_init_94 : decode cX7_init 94 = .ok (.aload_n 0, 1) := by decide +kernel
theorem dX7_init_95 : decode cX7_init 95 = .ok (.iconst (-1), 1) := by decide +kernel
theorem dX7_init_96 : decode cX7_init 96 = .ok (.putfield 44, 3) := by decide +kernel
theorem dX7_init_99 : decode cX7_init 99 = .ok (.return_, 1) := by decide +kernel
theorem dX7_thrown_0 : decode cX7_thrown 0 = .ok (.aload_n 0, 1) := by decide +kernel
theorem dX7_thrown_1 : decode cX7_thrown 1 = .ok (.getfield 47, 3) := by decide +kernel
theorem dX7_thrown_4 : decode cX7_thrown 4 = .ok (.ireturn, 1) := by decide +kernel
theorem dX7_fails_0 : decode cX7_fails 0 = .ok (.aload_n 0, 1) := by decide +kernel
theorem dX7_fails_1 : decode cX7_fails 1 = .ok (.iload_n 1, 1) := by decide +kernel
theorem dX7_fails_2 : decode cX7_fails 2 = .ok (.putfield 47, 3) := by decide +kernel
theorem dX7_fails_5 : decode cX7_fails 5 = .ok (.iconst 0, 1) := by decide +kernel
theorem dX7_fails_6 : decode cX7_fails 6 = .ok (.ireturn, 1) := by decide +kernel
theorem dX7_in_0 : decode cX7_in 0 = .ok (.iload_n 0, 1) := by decide +kernel
theorem dX7_in_1 : decode cX7_in 1 = .ok (.iload_n 1, 1) := by decide +kernel
theorem dX7_in_2 : decode cX7_in 2 = .ok (.if_icmp .lt 12, 3) := by decide +kernel
theorem dX7_in_5 : decode cX7_in 5 = .ok (.iload_n 0, 1) := by decide +kernel
theorem dX7_in_6 : decode cX7_in 6 = .ok (.iload_n 2, 1) := by decide +kernel
theorem dX7_in_7 : decode cX7_in 7 = .ok (.if_icmp .gt 7, 3) := by decide +kernel
theorem dX7_in_10 : decode cX7_in 10 = .ok (.iconst 1, 1) := by decide +kernel
theorem dX7_in_11 : decode cX7_in 11 = .ok (.goto 4, 3) := by decide +kernel
theorem dX7_in_14 : decode cX7_in 14 = .ok (.iconst 0, 1) := by decide +kernel
theorem dX7_in_15 : decode cX7_in 15 = .ok (.ireturn, 1) := by decide +kernel
theorem dX7_remembers_0 : decode cX7_remembers 0 = .ok (.aload_n 0, 1) := by decide +kernel
theorem dX7_remembers_1 : decode cX7_remembers 1 = .ok (.iconst 0, 1) := by decide +kernel
theorem dX7_remembers_2 : decode cX7_remembers 2 = .ok (.putfield 47, 3) := by decide +kernel
theorem dX7_remembers_5 : decode cX7_remembers 5 = .ok (.iconst 0, 1) := by decide +kernel
theorem dX7_remembers_6 : decode cX7_remembers 6 = .ok (.istore_n 1, 1) := by decide +kernel
theorem dX7_remembers_7 : decode cX7_remembers 7 = .ok (.iload_n 1, 1) := by decide +kernel
theorem dX7_remembers_8 : decode cX7_remembers 8 = .ok (.sipush 303, 3) := by decide +kernel
theorem dX7_remembers_11 : decode cX7_remembers 11 = .ok (.if_icmp .ge 21, 3) := by decide +kernel
theorem dX7_remembers_14 : decode cX7_remembers 14 = .ok (.aload_n 0, 1) := by decide +kernel
theorem dX7_remembers_15 : decode cX7_remembers 15 = .ok (.getfield 13, 3) := by decide +kernel
theorem dX7_remembers_18 : decode cX7_remembers 18 = .ok (.iload_n 1, 1) := by decide +kernel
theorem dX7_remembers_19 : decode cX7_remembers 19 = .ok (.aload_n 0, 1) := by decide +kernel
theorem dX7_remembers_20 : decode cX7_remembers 20 = .ok (.getfield 7, 3) := by decide +kernel
theorem dX7_remembers_23 : decode cX7_remembers 23 = .ok (.iload_n 1, 1) := by decide +kernel
theorem dX7_remembers_24 : decode cX7_remembers 24 = .ok (.iaload, 1) := by decide +kernel
theorem dX7_remembers_25 : decode cX7_remembers 25 = .ok (.iastore, 1) := by decide +kernel
theorem dX7_remembers_26 : decode cX7_remembers 26 = .ok (.iinc 1 1, 3) := by decide +kernel
theorem dX7_remembers_29 : decode cX7_remembers 29 = .ok (.goto (-22), 3) := by decide +kernel
theorem dX7_remembers_32 : decode cX7_remembers 32 = .ok (.return_, 1) := by decide +kernel
theorem dX7_changed_0 : decode cX7_changed 0 = .ok (.aload_n 0, 1) := by decide +kernel
theorem dX7_changed_1 : decode cX7_changed 1 = .ok (.getfield 50, 3) := by decide +kernel
theorem dX7_changed_4 : decode cX7_changed 4 = .ok (.bipush 8, 2) := by decide +kernel
theorem dX7_changed_6 : decode cX7_changed 6 = .ok (.if_icmp .ne 37, 3) := by decide +kernel
theorem dX7_changed_9 : decode cX7_changed 9 = .ok (.iconst 0, 1) := by decide +kernel
theorem dX7_changed_10 : decode cX7_changed 10 = .ok (.istore_n 2, 1) := by decide +kernel
theorem dX7_changed_11 : decode cX7_changed 11 = .ok (.iload_n 2, 1) := by decide +kernel
theorem dX7_changed_12 : decode cX7_changed 12 = .ok (.sipush 2121, 3) := by decide +kernel
theorem dX7_changed_15 : decode cX7_changed 15 = .ok (.if_icmp .ge 25, 3) := by decide +kernel
theorem dX7_changed_18 : decode cX7_changed 18 = .ok (.aload_n 0, 1) := by decide +kernel
theorem dX7_changed_19 : decode cX7_changed 19 = .ok (.getfield 19, 3) := by decide +kernel
theorem dX7_changed_22 : decode cX7_changed 22 = .ok (.iload_n 2, 1) := by decide +kernel
theorem dX7_changed_23 : decode cX7_changed 23 = .ok (.aload_n 0, 1) := by decide +kernel
theorem dX7_changed_24 : decode cX7_changed 24 = .ok (.getfield 19, 3) := by decide +kernel
theorem dX7_changed_27 : decode cX7_changed 27 = .ok (.iload_n 2, 1) := by decide +kernel
theorem dX7_changed_28 : decode cX7_changed 28 = .ok (.sipush 303, 3) := by decide +kernel
theorem dX7_changed_31 : decode cX7_changed 31 = .ok (.iadd, 1) := by decide +kernel
theorem dX7_changed_32 : decode cX7_changed 32 = .ok (.iaload, 1) := by decide +kernel
theorem dX7_changed_33 : decode cX7_changed 33 = .ok (.iastore, 1) := by decide +kernel
theorem dX7_changed_34 : decode cX7_changed 34 = .ok (.iinc 2 1, 3) := by decide +kernel
theorem dX7_changed_37 : decode cX7_changed 37 = .ok (.goto (-26), 3) := by decide +kernel
theorem dX7_changed_40 : decode cX7_changed 40 = .ok (.goto 13, 3) := by decide +kernel
theorem dX7_changed_43 : decode cX7_changed 43 = .ok (.aload_n 0, 1) := by decide +kernel
theorem dX7_changed_44 : decode cX7_changed 44 = .ok (.dup, 1) := by decide +kernel
theorem dX7_changed_45 : decode cX7_changed 45 = .ok (.getfield 50, 3) := by decide +kernel
theorem dX7_changed_48 : decode cX7_changed 48 = .ok (.iconst 1, 1) := by decide +kernel
theorem dX7_changed_49 : decode cX7_changed 49 = .ok (.iadd, 1) := by decide +kernel
theorem dX7_changed_50 : decode cX7_changed 50 = .ok (.putfield 50, 3) := by decide +kernel
theorem dX7_changed_53 : decode cX7_changed 53 = .ok (.iconst 0, 1) := by decide +kernel
theorem dX7_changed_54 : decode cX7_changed 54 = .ok (.istore_n 2, 1) := by decide +kernel
theorem dX7_changed_55 : decode cX7_changed 55 = .ok (.iload_n 2, 1) := by decide +kernel
theorem dX7_changed_56 : decode cX7_changed 56 = .ok (.sipush 303, 3) := by decide +kernel
theorem dX7_changed_59 : decode cX7_changed 59 = .ok (.if_icmp .ge 32, 3) := by decide +kernel
theorem dX7_changed_62 : decode cX7_changed 62 = .ok (.aload_n 0, 1) := by decide +kernel
theorem dX7_changed_63 : decode cX7_changed 63 = .ok (.getfield 19, 3) := by decide +kernel
theorem dX7_changed_66 : decode cX7_changed 66 = .ok (.sipush 303, 3) := by decide +kernel
theorem dX7_changed_69 : decode cX7_changed 69 = .ok (.aload_n 0, 1) := by decide +kernel
theorem dX7_changed_70 : decode cX7_changed 70 = .ok (.getfield 50, 3) := by decide +kernel
theorem dX7_changed_73 : decode cX7_changed 73 = .ok (.iconst 1, 1) := by decide +kernel
theorem dX7_changed_74 : decode cX7_changed 74 = .ok (.isub, 1) := by decide +kernel
theorem dX7_changed_75 : decode cX7_changed 75 = .ok (.imul, 1) := by decide +kernel
theorem dX7_changed_76 : decode cX7_changed 76 = .ok (.iload_n 2, 1) := by decide +kernel
theorem dX7_changed_77 : decode cX7_changed 77 = .ok (.iadd, 1) := by decide +kernel
theorem dX7_changed_78 : decode cX7_changed 78 = .ok (.aload_n 0, 1) := by decide +kernel
theorem dX7_changed_79 : decode cX7_changed 79 = .ok (.getfield 13, 3) := by decide +kernel
theorem dX7_changed_82 : decode cX7_changed 82 = .ok (.iload_n 2, 1) := by decide +kernel
theorem dX7_changed_83 : decode cX7_changed 83 = .ok (.iaload, 1) := by decide +kernel
theorem dX7_changed_84 : decode cX7_changed 84 = .ok (.iastore, 1) := by decide +kernel
theorem dX7_changed_85 : decode cX7_changed 85 = .ok (.iinc 2 1, 3) := by decide +kernel
theorem dX7_changed_88 : decode cX7_changed 88 = .ok (.goto (-33), 3) := by decide +kernel
theorem dX7_changed_91 : decode cX7_changed 91 = .ok (.iload_n 1, 1) := by decide +kernel
theorem dX7_changed_92 : decode cX7_changed 92 = .ok (.ireturn, 1) := by decide +kernel
theorem dX7_done_0 : decode cX7_done 0 = .ok (.aload_n 0, 1) := by decide +kernel
theorem dX7_done_1 : decode cX7_done 1 = .ok (.iload_n 1, 1) := by decide +kernel
theorem dX7_done_2 : decode cX7_done 2 = .ok (.putfield 53, 3) := by decide +kernel
theorem dX7_done_5 : decode cX7_done 5 = .ok (.iconst 0, 1) := by decide +kernel
theorem dX7_done_6 : decode cX7_done 6 = .ok (.ireturn, 1) := by decide +kernel
theorem dX7_ends_0 : decode cX7_ends 0 = .ok (.iload_n 1, 1) := by decide +kernel
theorem dX7_ends_1 : decode cX7_ends 1 = .ok (.ifCond .ne 14, 3) := by decide +kernel
theorem dX7_ends_4 : decode cX7_ends 4 = .ok (.aload_n 0, 1) := by decide +kernel
theorem dX7_ends_5 : decode cX7_ends 5 = .ok (.aload_n 0, 1) := by decide +kernel
theorem dX7_ends_6 : decode cX7_ends 6 = .ok (.getfield 53, 3) := by decide +kernel
theorem dX7_ends_9 : decode cX7_ends 9 = .ok (.invokevirtual 56, 3) := by decide +kernel
theorem dX7_ends_12 : decode cX7_ends 12 = .ok (.goto 8, 3) := by decide +kernel
theorem dX7_ends_15 : decode cX7_ends 15 = .ok (.aload_n 0, 1) := by decide +kernel
theorem dX7_ends_16 : decode cX7_ends 16 = .ok (.iload_n 1, 1) := by decide +kernel
theorem dX7_ends_17 : decode cX7_ends 17 = .ok (.invokevirtual 60, 3) := by decide +kernel
theorem dX7_ends_20 : decode cX7_ends 20 = .ok (.ireturn, 1) := by decide +kernel
theorem dX7_isLayer_0 : decode cX7_isLayer 0 = .ok (.iload_n 1, 1) := by decide +kernel
theorem dX7_isLayer_1 : decode cX7_isLayer 1 = .ok (.iconst 0, 1) := by decide +kernel
theorem dX7_isLayer_2 : decode cX7_isLayer 2 = .ok (.aload_n 0, 1) := by decide +kernel
theorem dX7_isLayer_3 : decode cX7_isLayer 3 = .ok (.getfield 7, 3) := by decide +kernel
theorem dX7_isLayer_6 : decode cX7_isLayer 6 = .ok (.iconst 0, 1) := by decide +kernel
theorem dX7_isLayer_7 : decode cX7_isLayer 7 = .ok (.iaload, 1) := by decide +kernel
theorem dX7_isLayer_8 : decode cX7_isLayer 8 = .ok (.iconst 1, 1) := by decide +kernel
theorem dX7_isLayer_9 : decode cX7_isLayer 9 = .ok (.isub, 1) := by decide +kernel
theorem dX7_isLayer_10 : decode cX7_isLayer 10 = .ok (.invokestatic 63, 3) := by decide +kernel
theorem dX7_isLayer_13 : decode cX7_isLayer 13 = .ok (.ireturn, 1) := by decide +kernel
theorem dX7_isCell_0 : decode cX7_isCell 0 = .ok (.iload_n 0, 1) := by decide +kernel
theorem dX7_isCell_1 : decode cX7_isCell 1 = .ok (.iconst 0, 1) := by decide +kernel
theorem dX7_isCell_2 : decode cX7_isCell 2 = .ok (.bipush 7, 2) := by decide +kernel
theorem dX7_isCell_4 : decode cX7_isCell 4 = .ok (.invokestatic 63, 3) := by decide +kernel
theorem dX7_isCell_7 : decode cX7_isCell 7 = .ok (.ifCond .eq 16, 3) := by decide +kernel
theorem dX7_isCell_10 : decode cX7_isCell 10 = .ok (.iload_n 1, 1) := by decide +kernel
theorem dX7_isCell_11 : decode cX7_isCell 11 = .ok (.iconst 0, 1) := by decide +kernel
theorem dX7_isCell_12 : decode cX7_isCell 12 = .ok (.iconst 5, 1) := by decide +kernel
theorem dX7_isCell_13 : decode cX7_isCell 13 = .ok (.invokestatic 63, 3) := by decide +kernel
theorem dX7_isCell_16 : decode cX7_isCell 16 = .ok (.ifCond .eq 7, 3) := by decide +kernel
theorem dX7_isCell_19 : decode cX7_isCell 19 = .ok (.iconst 1, 1) := by decide +kernel
theorem dX7_isCell_20 : decode cX7_isCell 20 = .ok (.goto 4, 3) := by decide +kernel
theorem dX7_isCell_23 : decode cX7_isCell 23 = .ok (.iconst 0, 1) := by decide +kernel
theorem dX7_isCell_24 : decode cX7_isCell 24 = .ok (.ireturn, 1) := by decide +kernel
theorem dX7_isMode_0 : decode cX7_isMode 0 = .ok (.iload_n 0, 1) := by decide +kernel
theorem dX7_isMode_1 : decode cX7_isMode 1 = .ok (.bipush 110, 2) := by decide +kernel
theorem dX7_isMode_3 : decode cX7_isMode 3 = .ok (.if_icmp .eq 33, 3) := by decide +kernel
theorem dX7_isMode_6 : decode cX7_isMode 6 = .ok (.iload_n 0, 1) := by decide +kernel
theorem dX7_isMode_7 : decode cX7_isMode 7 = .ok (.bipush 109, 2) := by decide +kernel
theorem dX7_isMode_9 : decode cX7_isMode 9 = .ok (.if_icmp .eq 27, 3) := by decide +kernel
theorem dX7_isMode_12 : decode cX7_isMode 12 = .ok (.iload_n 0, 1) := by decide +kernel
theorem dX7_isMode_13 : decode cX7_isMode 13 = .ok (.bipush 115, 2) := by decide +kernel
theorem dX7_isMode_15 : decode cX7_isMode 15 = .ok (.if_icmp .eq 21, 3) := by decide +kernel
theorem dX7_isMode_18 : decode cX7_isMode 18 = .ok (.iload_n 0, 1) := by decide +kernel
theorem dX7_isMode_19 : decode cX7_isMode 19 = .ok (.bipush 100, 2) := by decide +kernel
theorem dX7_isMode_21 : decode cX7_isMode 21 = .ok (.if_icmp .eq 15, 3) := by decide +kernel
theorem dX7_isMode_24 : decode cX7_isMode 24 = .ok (.iload_n 0, 1) := by decide +kernel
theorem dX7_isMode_25 : decode cX7_isMode 25 = .ok (.bipush 108, 2) := by decide +kernel
theorem dX7_isMode_27 : decode cX7_isMode 27 = .ok (.if_icmp .eq 9, 3) := by decide +kernel
theorem dX7_isMode_30 : decode cX7_isMode 30 = .ok (.iload_n 0, 1) := by decide +kernel
theorem dX7_isMode_31 : decode cX7_isMode 31 = .ok (.bipush 97, 2) := by decide +kernel
theorem dX7_isMode_33 : decode cX7_isMode 33 = .ok (.if_icmp .ne 7, 3) := by decide +kernel
theorem dX7_isMode_36 : decode cX7_isMode 36 = .ok (.iconst 1, 1) := by decide +kernel
theorem dX7_isMode_37 : decode cX7_isMode 37 = .ok (.goto 4, 3) := by decide +kernel
theorem dX7_isMode_40 : decode cX7_isMode 40 = .ok (.iconst 0, 1) := by decide +kernel
theorem dX7_isMode_41 : decode cX7_isMode 41 = .ok (.ireturn, 1) := by decide +kernel
theorem dX7_mode0_0 : decode cX7_mode0 0 = .ok (.aload_n 0, 1) := by decide +kernel
theorem dX7_mode0_1 : decode cX7_mode0 1 = .ok (.getfield 7, 3) := by decide +kernel
theorem dX7_mode0_4 : decode cX7_mode0 4 = .ok (.iconst 3, 1) := by decide +kernel
theorem dX7_mode0_5 : decode cX7_mode0 5 = .ok (.bipush 50, 2) := by decide +kernel
theorem dX7_mode0_7 : decode cX7_mode0 7 = .ok (.iload_n 1, 1) := by decide +kernel
theorem dX7_mode0_8 : decode cX7_mode0 8 = .ok (.imul, 1) := by decide +kernel
theorem dX7_mode0_9 : decode cX7_mode0 9 = .ok (.iadd, 1) := by decide +kernel
theorem dX7_mode0_10 : decode cX7_mode0 10 = .ok (.iaload, 1) := by decide +kernel
theorem dX7_mode0_11 : decode cX7_mode0 11 = .ok (.ireturn, 1) := by decide +kernel
theorem dX7_shown_0 : decode cX7_shown 0 = .ok (.aload_n 0, 1) := by decide +kernel
theorem dX7_shown_1 : decode cX7_shown 1 = .ok (.getfield 7, 3) := by decide +kernel
theorem dX7_shown_4 : decode cX7_shown 4 = .ok (.iconst 3, 1) := by decide +kernel
theorem dX7_shown_5 : decode cX7_shown 5 = .ok (.bipush 50, 2) := by decide +kernel
theorem dX7_shown_7 : decode cX7_shown 7 = .ok (.iload_n 1, 1) := by decide +kernel
theorem dX7_shown_8 : decode cX7_shown 8 = .ok (.imul, 1) := by decide +kernel
theorem dX7_shown_9 : decode cX7_shown 9 = .ok (.iadd, 1) := by decide +kernel
theorem dX7_shown_10 : decode cX7_shown 10 = .ok (.iconst 1, 1) := by decide +kernel
theorem dX7_shown_11 : decode cX7_shown 11 = .ok (.iadd, 1) := by decide +kernel
theorem dX7_shown_12 : decode cX7_shown 12 = .ok (.iaload, 1) := by decide +kernel
theorem dX7_shown_13 : decode cX7_shown 13 = .ok (.iconst 1, 1) := by decide +kernel
theorem dX7_shown_14 : decode cX7_shown 14 = .ok (.if_icmp .ne 7, 3) := by decide +kernel
theorem dX7_shown_17 : decode cX7_shown 17 = .ok (.iconst 1, 1) := by decide +kernel
theorem dX7_shown_18 : decode cX7_shown 18 = .ok (.goto 4, 3) := by decide +kernel
theorem dX7_shown_21 : decode cX7_shown 21 = .ok (.iconst 0, 1) := by decide +kernel
theorem dX7_shown_22 : decode cX7_shown 22 = .ok (.ireturn, 1) := by decide +kernel
theorem dX7_at_0 : decode cX7_at 0 = .ok (.aload_n 0, 1) := by decide +kernel
theorem dX7_at_1 : decode cX7_at 1 = .ok (.getfield 7, 3) := by decide +kernel
theorem dX7_at_4 : decode cX7_at 4 = .ok (.iconst 3, 1) := by decide +kernel
theorem dX7_at_5 : decode cX7_at 5 = .ok (.bipush 50, 2) := by decide +kernel
theorem dX7_at_7 : decode cX7_at 7 = .ok (.iload_n 1, 1) := by decide +kernel
theorem dX7_at_8 : decode cX7_at 8 = .ok (.imul, 1) := by decide +kernel
theorem dX7_at_9 : decode cX7_at 9 = .ok (.iadd, 1) := by decide +kernel
theorem dX7_at_10 : decode cX7_at 10 = .ok (.iconst 2, 1) := by decide +kernel
theorem dX7_at_11 : decode cX7_at 11 = .ok (.iadd, 1) := by decide +kernel
theorem dX7_at_12 : decode cX7_at 12 = .ok (.iload_n 2, 1) := by decide +kernel
theorem dX7_at_13 : decode cX7_at 13 = .ok (.iadd, 1) := by decide +kernel
theorem dX7_at_14 : decode cX7_at 14 = .ok (.iaload, 1) := by decide +kernel
theorem dX7_at_15 : decode cX7_at 15 = .ok (.ireturn, 1) := by decide +kernel
theorem dX7_sets_0 : decode cX7_sets 0 = .ok (.aload_n 0, 1) := by decide +kernel
theorem dX7_sets_1 : decode cX7_sets 1 = .ok (.getfield 7, 3) := by decide +kernel
theorem dX7_sets_4 : decode cX7_sets 4 = .ok (.iconst 3, 1) := by decide +kernel
theorem dX7_sets_5 : decode cX7_sets 5 = .ok (.bipush 50, 2) := by decide +kernel
theorem dX7_sets_7 : decode cX7_sets 7 = .ok (.iload_n 1, 1) := by decide +kernel
theorem dX7_sets_8 : decode cX7_sets 8 = .ok (.imul, 1) := by decide +kernel
theorem dX7_sets_9 : decode cX7_sets 9 = .ok (.iadd, 1) := by decide +kernel
theorem dX7_sets_10 : decode cX7_sets 10 = .ok (.iconst 2, 1) := by decide +kernel
theorem dX7_sets_11 : decode cX7_sets 11 = .ok (.iadd, 1) := by decide +kernel
theorem dX7_sets_12 : decode cX7_sets 12 = .ok (.iload_n 2, 1) := by decide +kernel
theorem dX7_sets_13 : decode cX7_sets 13 = .ok (.iadd, 1) := by decide +kernel
theorem dX7_sets_14 : decode cX7_sets 14 = .ok (.iload_n 3, 1) := by decide +kernel
theorem dX7_sets_15 : decode cX7_sets 15 = .ok (.iastore, 1) := by decide +kernel
theorem dX7_sets_16 : decode cX7_sets 16 = .ok (.return_, 1) := by decide +kernel
theorem dX7_full_0 : decode cX7_full 0 = .ok (.iconst 0, 1) := by decide +kernel
theorem dX7_full_1 : decode cX7_full 1 = .ok (.istore_n 2, 1) := by decide +kernel
theorem dX7_full_2 : decode cX7_full 2 = .ok (.iconst 0, 1) := by decide +kernel
theorem dX7_full_3 : decode cX7_full 3 = .ok (.istore_n 3, 1) := by decide +kernel
theorem dX7_full_4 : decode cX7_full 4 = .ok (.iload_n 3, 1) := by decide +kernel
theorem dX7_full_5 : decode cX7_full 5 = .ok (.bipush 48, 2) := by decide +kernel
theorem dX7_full_7 : decode cX7_full 7 = .ok (.if_icmp .ge 26, 3) := by decide +kernel
theorem dX7_full_10 : decode cX7_full 10 = .ok (.iload_n 2, 1) := by decide +kernel
theorem dX7_full_11 : decode cX7_full 11 = .ok (.aload_n 0, 1) := by decide +kernel
theorem dX7_full_12 : decode cX7_full 12 = .ok (.iload_n 1, 1) := by decide +kernel
theorem dX7_full_13 : decode cX7_full 13 = .ok (.iload_n 3, 1) := by decide +kernel
theorem dX7_full_14 : decode cX7_full 14 = .ok (.invokevirtual 67, 3) := by decide +kernel
theorem dX7_full_17 : decode cX7_full 17 = .ok (.ifCond .le 7, 3) := by decide +kernel
theorem dX7_full_20 : decode cX7_full 20 = .ok (.iconst 1, 1) := by decide +kernel
theorem dX7_full_21 : decode cX7_full 21 = .ok (.goto 4, 3) := by decide +kernel
theorem dX7_full_24 : decode cX7_full 24 = .ok (.iconst 0, 1) := by decide +kernel
theorem dX7_full_25 : decode cX7_full 25 = .ok (.iadd, 1) := by decide +kernel
theorem dX7_full_26 : decode cX7_full 26 = .ok (.istore_n 2, 1) := by decide +kernel
theorem dX7_full_27 : decode cX7_full 27 = .ok (.iinc 3 1, 3) := by decide +kernel
theorem dX7_full_30 : decode cX7_full 30 = .ok (.goto (-26), 3) := by decide +kernel
theorem dX7_full_33 : decode cX7_full 33 = .ok (.iload_n 2, 1) := by decide +kernel
theorem dX7_full_34 : decode cX7_full 34 = .ok (.ireturn, 1) := by decide +kernel
theorem dX7_showing_0 : decode cX7_showing 0 = .ok (.iconst 0, 1) := by decide +kernel
theorem dX7_showing_1 : decode cX7_showing 1 = .ok (.istore_n 1, 1) := by decide +kernel
theorem dX7_showing_2 : decode cX7_showing 2 = .ok (.iconst 0, 1) := by decide +kernel
theorem dX7_showing_3 : decode cX7_showing 3 = .ok (.istore_n 2, 1) := by decide +kernel
theorem dX7_showing_4 : decode cX7_showing 4 = .ok (.iload_n 2, 1) := by decide +kernel
theorem dX7_showing_5 : decode cX7_showing 5 = .ok (.aload_n 0, 1) := by decide +kernel
theorem dX7_showing_6 : decode cX7_showing 6 = .ok (.getfield 7, 3) := by decide +kernel
theorem dX7_showing_9 : decode cX7_showing 9 = .ok (.iconst 0, 1) := by decide +kernel
theorem dX7_showing_10 : decode cX7_showing 10 = .ok (.iaload, 1) := by decide +kernel
theorem dX7_showing_11 : decode cX7_showing 11 = .ok (.if_icmp .ge 25, 3) := by decide +kernel
theorem dX7_showing_14 : decode cX7_showing 14 = .ok (.iload_n 1, 1) := by decide +kernel
theorem dX7_showing_15 : decode cX7_showing 15 = .ok (.aload_n 0, 1) := by decide +kernel
theorem dX7_showing_16 : decode cX7_showing 16 = .ok (.iload_n 2, 1) := by decide +kernel
theorem dX7_showing_17 : decode cX7_showing 17 = .ok (.invokevirtual 71, 3) := by decide +kernel
theorem dX7_showing_20 : decode cX7_showing 20 = .ok (.ifCond .eq 7, 3) := by decide +kernel
theorem dX7_showing_23 : decode cX7_showing 23 = .ok (.iconst 1, 1) := by decide +kernel
theorem dX7_showing_24 : decode cX7_showing 24 = .ok (.goto 4, 3) := by decide +kernel
theorem dX7_showing_27 : decode cX7_showing 27 = .ok (.iconst 0, 1) := by decide +kernel
theorem dX7_showing_28 : decode cX7_showing 28 = .ok (.iadd, 1) := by decide +kernel
theorem dX7_showing_29 : decode cX7_showing 29 = .ok (.istore_n 1, 1) := by decide +kernel
theorem dX7_showing_30 : decode cX7_showing 30 = .ok (.iinc 2 1, 3) := by decide +kernel
theorem dX7_showing_33 : decode cX7_showing 33 = .ok (.goto (-29), 3) := by decide +kernel
theorem dX7_showing_36 : decode cX7_showing 36 = .ok (.iload_n 1, 1) := by decide +kernel
theorem dX7_showing_37 : decode cX7_showing 37 = .ok (.ireturn, 1) := by decide +kernel
theorem dX7_blended_0 : decode cX7_blended 0 = .ok (.iload_n 0, 1) := by decide +kernel
theorem dX7_blended_1 : decode cX7_blended 1 = .ok (.lookupswitch 102 #[(97, 96), (100, 74), (108, 85), (109, 51), (115, 58)], 51) := by decide +kernel
theorem dX7_blended_52 : decode cX7_blended 52 = .ok (.iload_n 1, 1) := by decide +kernel
theorem dX7_blended_53 : decode cX7_blended 53 = .ok (.iload_n 2, 1) := by decide +kernel
theorem dX7_blended_54 : decode cX7_blended 54 = .ok (.imul, 1) := by decide +kernel
theorem dX7_blended_55 : decode cX7_blended 55 = .ok (.bipush 15, 2) := by decide +kernel
theorem dX7_blended_57 : decode cX7_blended 57 = .ok (.idiv, 1) := by decide +kernel
theorem dX7_blended_58 : decode cX7_blended 58 = .ok (.ireturn, 1) := by decide +kernel
theorem dX7_blended_59 : decode cX7_blended 59 = .ok (.bipush 15, 2) := by decide +kernel
theorem dX7_blended_61 : decode cX7_blended 61 = .ok (.bipush 15, 2) := by decide +kernel
theorem dX7_blended_63 : decode cX7_blended 63 = .ok (.iload_n 1, 1) := by decide +kernel
theorem dX7_blended_64 : decode cX7_blended 64 = .ok (.isub, 1) := by decide +kernel
theorem dX7_blended_65 : decode cX7_blended 65 = .ok (.bipush 15, 2) := by decide +kernel
theorem dX7_blended_67 : decode cX7_blended 67 = .ok (.iload_n 2, 1) := by decide +kernel
theorem dX7_blended_68 : decode cX7_blended 68 = .ok (.isub, 1) := by decide +kernel
theorem dX7_blended_69 : decode cX7_blended 69 = .ok (.imul, 1) := by decide +kernel
theorem dX7_blended_70 : decode cX7_blended 70 = .ok (.bipush 15, 2) := by decide +kernel
theorem dX7_blended_72 : decode cX7_blended 72 = .ok (.idiv, 1) := by decide +kernel
theorem dX7_blended_73 : decode cX7_blended 73 = .ok (.isub, 1) := by decide +kernel
theorem dX7_blended_74 : decode cX7_blended 74 = .ok (.ireturn, 1) := by decide +kernel
theorem dX7_blended_75 : decode cX7_blended 75 = .ok (.iload_n 1, 1) := by decide +kernel
theorem dX7_blended_76 : decode cX7_blended 76 = .ok (.iload_n 2, 1) := by decide +kernel
theorem dX7_blended_77 : decode cX7_blended 77 = .ok (.if_icmp .ge 7, 3) := by decide +kernel
theorem dX7_blended_80 : decode cX7_blended 80 = .ok (.iload_n 1, 1) := by decide +kernel
theorem dX7_blended_81 : decode cX7_blended 81 = .ok (.goto 4, 3) := by decide +kernel
theorem dX7_blended_84 : decode cX7_blended 84 = .ok (.iload_n 2, 1) := by decide +kernel
theorem dX7_blended_85 : decode cX7_blended 85 = .ok (.ireturn, 1) := by decide +kernel
theorem dX7_blended_86 : decode cX7_blended 86 = .ok (.iload_n 1, 1) := by decide +kernel
theorem dX7_blended_87 : decode cX7_blended 87 = .ok (.iload_n 2, 1) := by decide +kernel
theorem dX7_blended_88 : decode cX7_blended 88 = .ok (.if_icmp .le 7, 3) := by decide +kernel
theorem dX7_blended_91 : decode cX7_blended 91 = .ok (.iload_n 1, 1) := by decide +kernel
theorem dX7_blended_92 : decode cX7_blended 92 = .ok (.goto 4, 3) := by decide +kernel
theorem dX7_blended_95 : decode cX7_blended 95 = .ok (.iload_n 2, 1) := by decide +kernel
theorem dX7_blended_96 : decode cX7_blended 96 = .ok (.ireturn, 1) := by decide +kernel
theorem dX7_blended_97 : decode cX7_blended 97 = .ok (.iload_n 1, 1) := by decide +kernel
theorem dX7_blended_98 : decode cX7_blended 98 = .ok (.iload_n 2, 1) := by decide +kernel
theorem dX7_blended_99 : decode cX7_blended 99 = .ok (.iadd, 1) := by decide +kernel
theorem dX7_blended_100 : decode cX7_blended 100 = .ok (.iconst 2, 1) := by decide +kernel
theorem dX7_blended_101 : decode cX7_blended 101 = .ok (.idiv, 1) := by decide +kernel
theorem dX7_blended_102 : decode cX7_blended 102 = .ok (.ireturn, 1) := by decide +kernel
theorem dX7_blended_103 : decode cX7_blended 103 = .ok (.iload_n 2, 1) := by decide +kernel
theorem dX7_blended_104 : decode cX7_blended 104 = .ok (.ireturn, 1) := by decide +kernel
theorem dX7_look_0 : decode cX7_look 0 = .ok (.bipush 15, 2) := by decide +kernel
theorem dX7_look_2 : decode cX7_look 2 = .ok (.istore_n 2, 1) := by decide +kernel
theorem dX7_look_3 : decode cX7_look 3 = .ok (.iconst 0, 1) := by decide +kernel
theorem dX7_look_4 : decode cX7_look 4 = .ok (.istore_n 3, 1) := by decide +kernel
theorem dX7_look_5 : decode cX7_look 5 = .ok (.iload_n 3, 1) := by decide +kernel
theorem dX7_look_6 : decode cX7_look 6 = .ok (.aload_n 0, 1) := by decide +kernel
theorem dX7_look_7 : decode cX7_look 7 = .ok (.getfield 7, 3) := by decide +kernel
theorem dX7_look_10 : decode cX7_look 10 = .ok (.iconst 0, 1) := by decide +kernel
theorem dX7_look_11 : decode cX7_look 11 = .ok (.iaload, 1) := by decide +kernel
theorem dX7_look_12 : decode cX7_look 12 = .ok (.if_icmp .ge 44, 3) := by decide +kernel
theorem dX7_look_15 : decode cX7_look 15 = .ok (.aload_n 0, 1) := by decide +kernel
theorem dX7_look_16 : decode cX7_look 16 = .ok (.iload_n 3, 1) := by decide +kernel
theorem dX7_look_17 : decode cX7_look 17 = .ok (.invokevirtual 71, 3) := by decide +kernel
theorem dX7_look_20 : decode cX7_look 20 = .ok (.ifCond .eq 30, 3) := by decide +kernel
theorem dX7_look_23 : decode cX7_look 23 = .ok (.aload_n 0, 1) := by decide +kernel
theorem dX7_look_24 : decode cX7_look 24 = .ok (.iload_n 3, 1) := by decide +kernel
theorem dX7_look_25 : decode cX7_look 25 = .ok (.iload_n 1, 1) := by decide +kernel
theorem dX7_look_26 : decode cX7_look 26 = .ok (.invokevirtual 67, 3) := by decide +kernel
theorem dX7_look_29 : decode cX7_look 29 = .ok (.ifCond .le 21, 3) := by decide +kernel
theorem dX7_look_32 : decode cX7_look 32 = .ok (.aload_n 0, 1) := by decide +kernel
theorem dX7_look_33 : decode cX7_look 33 = .ok (.iload_n 3, 1) := by decide +kernel
theorem dX7_look_34 : decode cX7_look 34 = .ok (.invokevirtual 75, 3) := by decide +kernel
theorem dX7_look_37 : decode cX7_look 37 = .ok (.iload_n 2, 1) := by decide +kernel
theorem dX7_look_38 : decode cX7_look 38 = .ok (.aload_n 0, 1) := by decide +kernel
theorem dX7_look_39 : decode cX7_look 39 = .ok (.iload_n 3, 1) := by decide +kernel
theorem dX7_look_40 : decode cX7_look 40 = .ok (.iload_n 1, 1) := by decide +kernel
theorem dX7_look_41 : decode cX7_look 41 = .ok (.invokevirtual 67, 3) := by decide +kernel
theorem dX7_look_44 : decode cX7_look 44 = .ok (.iconst 1, 1) := by decide +kernel
theorem dX7_look_45 : decode cX7_look 45 = .ok (.isub, 1) := by decide +kernel
theorem dX7_look_46 : decode cX7_look 46 = .ok (.invokestatic 78, 3) := by decide +kernel
theorem dX7_look_49 : decode cX7_look 49 = .ok (.istore_n 2, 1) := by decide +kernel
theorem dX7_look_50 : decode cX7_look 50 = .ok (.iinc 3 1, 3) := by decide +kernel
theorem dX7_look_53 : decode cX7_look 53 = .ok (.goto (-48), 3) := by decide +kernel
theorem dX7_look_56 : decode cX7_look 56 = .ok (.iload_n 2, 1) := by decide +kernel
theorem dX7_look_57 : decode cX7_look 57 = .ok (.ireturn, 1) := by decide +kernel
theorem dX7_begins_0 : decode cX7_begins 0 = .ok (.aload_n 0, 1) := by decide +kernel
theorem dX7_begins_1 : decode cX7_begins 1 = .ok (.getfield 7, 3) := by decide +kernel
theorem dX7_begins_4 : decode cX7_begins 4 = .ok (.iconst 3, 1) := by decide +kernel
theorem dX7_begins_5 : decode cX7_begins 5 = .ok (.bipush 50, 2) := by decide +kernel
theorem dX7_begins_7 : decode cX7_begins 7 = .ok (.iload_n 1, 1) := by decide +kernel
theorem dX7_begins_8 : decode cX7_begins 8 = .ok (.imul, 1) := by decide +kernel
theorem dX7_begins_9 : decode cX7_begins 9 = .ok (.iadd, 1) := by decide +kernel
theorem dX7_begins_10 : decode cX7_begins 10 = .ok (.iload_n 2, 1) := by decide +kernel
theorem dX7_begins_11 : decode cX7_begins 11 = .ok (.iastore, 1) := by decide +kernel
theorem dX7_begins_12 : decode cX7_begins 12 = .ok (.aload_n 0, 1) := by decide +kernel
theorem dX7_begins_13 : decode cX7_begins 13 = .ok (.getfield 7, 3) := by decide +kernel
theorem dX7_begins_16 : decode cX7_begins 16 = .ok (.iconst 3, 1) := by decide +kernel
theorem dX7_begins_17 : decode cX7_begins 17 = .ok (.bipush 50, 2) := by decide +kernel
theorem dX7_begins_19 : decode cX7_begins 19 = .ok (.iload_n 1, 1) := by decide +kernel
theorem dX7_begins_20 : decode cX7_begins 20 = .ok (.imul, 1) := by decide +kernel
theorem dX7_begins_21 : decode cX7_begins 21 = .ok (.iadd, 1) := by decide +kernel
theorem dX7_begins_22 : decode cX7_begins 22 = .ok (.iconst 1, 1) := by decide +kernel
theorem dX7_begins_23 : decode cX7_begins 23 = .ok (.iadd, 1) := by decide +kernel
theorem dX7_begins_24 : decode cX7_begins 24 = .ok (.iconst 1, 1) := by decide +kernel
theorem dX7_begins_25 : decode cX7_begins 25 = .ok (.iastore, 1) := by decide +kernel
theorem dX7_begins_26 : decode cX7_begins 26 = .ok (.iconst 0, 1) := by decide +kernel
theorem dX7_begins_27 : decode cX7_begins 27 = .ok (.istore_n 3, 1) := by decide +kernel
theorem dX7_begins_28 : decode cX7_begins 28 = .ok (.iload_n 3, 1) := by decide +kernel
theorem dX7_begins_29 : decode cX7_begins 29 = .ok (.bipush 48, 2) := by decide +kernel
theorem dX7_begins_31 : decode cX7_begins 31 = .ok (.if_icmp .ge 16, 3) := by decide +kernel
theorem dX7_begins_34 : decode cX7_begins 34 = .ok (.aload_n 0, 1) := by decide +kernel
theorem dX7_begins_35 : decode cX7_begins 35 = .ok (.iload_n 1, 1) := by decide +kernel
theorem dX7_begins_36 : decode cX7_begins 36 = .ok (.iload_n 3, 1) := by decide +kernel
theorem dX7_begins_37 : decode cX7_begins 37 = .ok (.iconst 0, 1) := by decide +kernel
theorem dX7_begins_38 : decode cX7_begins 38 = .ok (.invokevirtual 82, 3) := by decide +kernel
theorem dX7_begins_41 : decode cX7_begins 41 = .ok (.iinc 3 1, 3) := by decide +kernel
theorem dX7_begins_44 : decode cX7_begins 44 = .ok (.goto (-16), 3) := by decide +kernel
theorem dX7_begins_47 : decode cX7_begins 47 = .ok (.return_, 1) := by decide +kernel
theorem dX7_adds_0 : decode cX7_adds 0 = .ok (.iload_n 1, 1) := by decide +kernel
theorem dX7_adds_1 : decode cX7_adds 1 = .ok (.invokestatic 86, 3) := by decide +kernel
theorem dX7_adds_4 : decode cX7_adds 4 = .ok (.ifCond .ne 5, 3) := by decide +kernel
theorem dX7_adds_7 : decode cX7_adds 7 = .ok (.iconst 1, 1) := by decide +kernel
theorem dX7_adds_8 : decode cX7_adds 8 = .ok (.ireturn, 1) := by decide +kernel
theorem dX7_adds_9 : decode cX7_adds 9 = .ok (.aload_n 0, 1) := by decide +kernel
theorem dX7_adds_10 : decode cX7_adds 10 = .ok (.getfield 7, 3) := by decide +kernel
theorem dX7_adds_13 : decode cX7_adds 13 = .ok (.iconst 0, 1) := by decide +kernel
theorem dX7_adds_14 : decode cX7_adds 14 = .ok (.iaload, 1) := by decide +kernel
theorem dX7_adds_15 : decode cX7_adds 15 = .ok (.bipush 6, 2) := by decide +kernel
theorem dX7_adds_17 : decode cX7_adds 17 = .ok (.if_icmp .ne 5, 3) := by decide +kernel
theorem dX7_adds_20 : decode cX7_adds 20 = .ok (.iconst 2, 1) := by decide +kernel
theorem dX7_adds_21 : decode cX7_adds 21 = .ok (.ireturn, 1) := by decide +kernel
theorem dX7_adds_22 : decode cX7_adds 22 = .ok (.aload_n 0, 1) := by decide +kernel
theorem dX7_adds_23 : decode cX7_adds 23 = .ok (.aload_n 0, 1) := by decide +kernel
theorem dX7_adds_24 : decode cX7_adds 24 = .ok (.getfield 7, 3) := by decide +kernel
theorem dX7_adds_27 : decode cX7_adds 27 = .ok (.iconst 0, 1) := by decide +kernel
theorem dX7_adds_28 : decode cX7_adds 28 = .ok (.iaload, 1) := by decide +kernel
theorem dX7_adds_29 : decode cX7_adds 29 = .ok (.iload_n 1, 1) := by decide +kernel
theorem dX7_adds_30 : decode cX7_adds 30 = .ok (.invokevirtual 89, 3) := by decide +kernel
theorem dX7_adds_33 : decode cX7_adds 33 = .ok (.aload_n 0, 1) := by decide +kernel
theorem dX7_adds_34 : decode cX7_adds 34 = .ok (.getfield 7, 3) := by decide +kernel
theorem dX7_adds_37 : decode cX7_adds 37 = .ok (.iconst 0, 1) := by decide +kernel
theorem dX7_adds_38 : decode cX7_adds 38 = .ok (.dup2, 1) := by decide +kernel
theorem dX7_adds_39 : decode cX7_adds 39 = .ok (.iaload, 1) := by decide +kernel
theorem dX7_adds_40 : decode cX7_adds 40 = .ok (.iconst 1, 1) := by decide +kernel
theorem dX7_adds_41 : decode cX7_adds 41 = .ok (.iadd, 1) := by decide +kernel
theorem dX7_adds_42 : decode cX7_adds 42 = .ok (.iastore, 1) := by decide +kernel
theorem dX7_adds_43 : decode cX7_adds 43 = .ok (.aload_n 0, 1) := by decide +kernel
theorem dX7_adds_44 : decode cX7_adds 44 = .ok (.aload_n 0, 1) := by decide +kernel
theorem dX7_adds_45 : decode cX7_adds 45 = .ok (.getfield 7, 3) := by decide +kernel
theorem dX7_adds_48 : decode cX7_adds 48 = .ok (.iconst 0, 1) := by decide +kernel
theorem dX7_adds_49 : decode cX7_adds 49 = .ok (.iaload, 1) := by decide +kernel
theorem dX7_adds_50 : decode cX7_adds 50 = .ok (.iconst 1, 1) := by decide +kernel
theorem dX7_adds_51 : decode cX7_adds 51 = .ok (.isub, 1) := by decide +kernel
theorem dX7_adds_52 : decode cX7_adds 52 = .ok (.invokevirtual 93, 3) := by decide +kernel
theorem dX7_adds_55 : decode cX7_adds 55 = .ok (.ireturn, 1) := by decide +kernel
theorem dX7_takes_0 : decode cX7_takes 0 = .ok (.aload_n 0, 1) := by decide +kernel
theorem dX7_takes_1 : decode cX7_takes 1 = .ok (.getfield 7, 3) := by decide +kernel
theorem dX7_takes_4 : decode cX7_takes 4 = .ok (.iconst 0, 1) := by decide +kernel
theorem dX7_takes_5 : decode cX7_takes 5 = .ok (.iaload, 1) := by decide +kernel
theorem dX7_takes_6 : decode cX7_takes 6 = .ok (.iconst 1, 1) := by decide +kernel
theorem dX7_takes_7 : decode cX7_takes 7 = .ok (.isub, 1) := by decide +kernel
theorem dX7_takes_8 : decode cX7_takes 8 = .ok (.istore_n 2, 1) := by decide +kernel
theorem dX7_takes_9 : decode cX7_takes 9 = .ok (.bipush 50, 2) := by decide +kernel
theorem dX7_takes_11 : decode cX7_takes 11 = .ok (.iload_n 1, 1) := by decide +kernel
theorem dX7_takes_12 : decode cX7_takes 12 = .ok (.imul, 1) := by decide +kernel
theorem dX7_takes_13 : decode cX7_takes 13 = .ok (.istore_n 3, 1) := by decide +kernel
theorem dX7_takes_14 : decode cX7_takes 14 = .ok (.iload_n 3, 1) := by decide +kernel
theorem dX7_takes_15 : decode cX7_takes 15 = .ok (.bipush 50, 2) := by decide +kernel
theorem dX7_takes_17 : decode cX7_takes 17 = .ok (.iload_n 2, 1) := by decide +kernel
theorem dX7_takes_18 : decode cX7_takes 18 = .ok (.imul, 1) := by decide +kernel
theorem dX7_takes_19 : decode cX7_takes 19 = .ok (.if_icmp .ge 28, 3) := by decide +kernel
theorem dX7_takes_22 : decode cX7_takes 22 = .ok (.aload_n 0, 1) := by decide +kernel
theorem dX7_takes_23 : decode cX7_takes 23 = .ok (.getfield 7, 3) := by decide +kernel
theorem dX7_takes_26 : decode cX7_takes 26 = .ok (.iconst 3, 1) := by decide +kernel
theorem dX7_takes_27 : decode cX7_takes 27 = .ok (.iload_n 3, 1) := by decide +kernel
theorem dX7_takes_28 : decode cX7_takes 28 = .ok (.iadd, 1) := by decide +kernel
theorem dX7_takes_29 : decode cX7_takes 29 = .ok (.aload_n 0, 1) := by decide +kernel
theorem dX7_takes_30 : decode cX7_takes 30 = .ok (.getfield 7, 3) := by decide +kernel
theorem dX7_takes_33 : decode cX7_takes 33 = .ok (.iconst 3, 1) := by decide +kernel
theorem dX7_takes_34 : decode cX7_takes 34 = .ok (.iload_n 3, 1) := by decide +kernel
theorem dX7_takes_35 : decode cX7_takes 35 = .ok (.iadd, 1) := by decide +kernel
theorem dX7_takes_36 : decode cX7_takes 36 = .ok (.bipush 50, 2) := by decide +kernel
theorem dX7_takes_38 : decode cX7_takes 38 = .ok (.iadd, 1) := by decide +kernel
theorem dX7_takes_39 : decode cX7_takes 39 = .ok (.iaload, 1) := by decide +kernel
theorem dX7_takes_40 : decode cX7_takes 40 = .ok (.iastore, 1) := by decide +kernel
theorem dX7_takes_41 : decode cX7_takes 41 = .ok (.iinc 3 1, 3) := by decide +kernel
theorem dX7_takes_44 : decode cX7_takes 44 = .ok (.goto (-30), 3) := by decide +kernel
theorem dX7_takes_47 : decode cX7_takes 47 = .ok (.iconst 0, 1) := by decide +kernel
theorem dX7_takes_48 : decode cX7_takes 48 = .ok (.istore_n 3, 1) := by decide +kernel
theorem dX7_takes_49 : decode cX7_takes 49 = .ok (.iload_n 3, 1) := by decide +kernel
theorem dX7_takes_50 : decode cX7_takes 50 = .ok (.bipush 50, 2) := by decide +kernel
theorem dX7_takes_52 : decode cX7_takes 52 = .ok (.if_icmp .ge 23, 3) := by decide +kernel
theorem dX7_takes_55 : decode cX7_takes 55 = .ok (.aload_n 0, 1) := by decide +kernel
theorem dX7_takes_56 : decode cX7_takes 56 = .ok (.getfield 7, 3) := by decide +kernel
theorem dX7_takes_59 : decode cX7_takes 59 = .ok (.iconst 3, 1) := by decide +kernel
theorem dX7_takes_60 : decode cX7_takes 60 = .ok (.bipush 50, 2) := by decide +kernel
theorem dX7_takes_62 : decode cX7_takes 62 = .ok (.iload_n 2, 1) := by decide +kernel
theorem dX7_takes_63 : decode cX7_takes 63 = .ok (.imul, 1) := by decide +kernel
theorem dX7_takes_64 : decode cX7_takes 64 = .ok (.iadd, 1) := by decide +kernel
theorem dX7_takes_65 : decode cX7_takes 65 = .ok (.iload_n 3, 1) := by decide +kernel
theorem dX7_takes_66 : decode cX7_takes 66 = .ok (.iadd, 1) := by decide +kernel
theorem dX7_takes_67 : decode cX7_takes 67 = .ok (.iconst 0, 1) := by decide +kernel
theorem dX7_takes_68 : decode cX7_takes 68 = .ok (.iastore, 1) := by decide +kernel
theorem dX7_takes_69 : decode cX7_takes 69 = .ok (.iinc 3 1, 3) := by decide +kernel
theorem dX7_takes_72 : decode cX7_takes 72 = .ok (.goto (-23), 3) := by decide +kernel
theorem dX7_takes_75 : decode cX7_takes 75 = .ok (.aload_n 0, 1) := by decide +kernel
theorem dX7_takes_76 : decode cX7_takes 76 = .ok (.getfield 7, 3) := by decide +kernel
theorem dX7_takes_79 : decode cX7_takes 79 = .ok (.iconst 0, 1) := by decide +kernel
theorem dX7_takes_80 : decode cX7_takes 80 = .ok (.iload_n 2, 1) := by decide +kernel
theorem dX7_takes_81 : decode cX7_takes 81 = .ok (.iastore, 1) := by decide +kernel
theorem dX7_takes_82 : decode cX7_takes 82 = .ok (.return_, 1) := by decide +kernel
theorem dX7_drops_0 : decode cX7_drops 0 = .ok (.aload_n 0, 1) := by decide +kernel
theorem dX7_drops_1 : decode cX7_drops 1 = .ok (.iload_n 1, 1) := by decide +kernel
theorem dX7_drops_2 : decode cX7_drops 2 = .ok (.invokevirtual 96, 3) := by decide +kernel
theorem dX7_drops_5 : decode cX7_drops 5 = .ok (.ifCond .ne 5, 3) := by decide +kernel
theorem dX7_drops_8 : decode cX7_drops 8 = .ok (.iconst 1, 1) := by decide +kernel
theorem dX7_drops_9 : decode cX7_drops 9 = .ok (.ireturn, 1) := by decide +kernel
theorem dX7_drops_10 : decode cX7_drops 10 = .ok (.aload_n 0, 1) := by decide +kernel
theorem dX7_drops_11 : decode cX7_drops 11 = .ok (.iload_n 1, 1) := by decide +kernel
theorem dX7_drops_12 : decode cX7_drops 12 = .ok (.invokevirtual 99, 3) := by decide +kernel
theorem dX7_drops_15 : decode cX7_drops 15 = .ok (.aload_n 0, 1) := by decide +kernel
theorem dX7_drops_16 : decode cX7_drops 16 = .ok (.aload_n 0, 1) := by decide +kernel
theorem dX7_drops_17 : decode cX7_drops 17 = .ok (.getfield 7, 3) := by decide +kernel
theorem dX7_drops_20 : decode cX7_drops 20 = .ok (.iconst 0, 1) := by decide +kernel
theorem dX7_drops_21 : decode cX7_drops 21 = .ok (.iaload, 1) := by decide +kernel
theorem dX7_drops_22 : decode cX7_drops 22 = .ok (.invokevirtual 93, 3) := by decide +kernel
theorem dX7_drops_25 : decode cX7_drops 25 = .ok (.ireturn, 1) := by decide +kernel
theorem dX7_paints_0 : decode cX7_paints 0 = .ok (.aload_n 0, 1) := by decide +kernel
theorem dX7_paints_1 : decode cX7_paints 1 = .ok (.iload_n 1, 1) := by decide +kernel
theorem dX7_paints_2 : decode cX7_paints 2 = .ok (.invokevirtual 96, 3) := by decide +kernel
theorem dX7_paints_5 : decode cX7_paints 5 = .ok (.ifCond .eq 21, 3) := by decide +kernel
theorem dX7_paints_8 : decode cX7_paints 8 = .ok (.iload_n 2, 1) := by decide +kernel
theorem dX7_paints_9 : decode cX7_paints 9 = .ok (.iload_n 3, 1) := by decide +kernel
theorem dX7_paints_10 : decode cX7_paints 10 = .ok (.invokestatic 103, 3) := by decide +kernel
theorem dX7_paints_13 : decode cX7_paints 13 = .ok (.ifCond .eq 13, 3) := by decide +kernel
theorem dX7_paints_16 : decode cX7_paints 16 = .ok (.iload 4, 2) := by decide +kernel
theorem dX7_paints_18 : decode cX7_paints 18 = .ok (.iload 5, 2) := by decide +kernel
theorem dX7_paints_20 : decode cX7_paints 20 = .ok (.invokestatic 103, 3) := by decide +kernel
theorem dX7_paints_23 : decode cX7_paints 23 = .ok (.ifCond .ne 5, 3) := by decide +kernel
theorem dX7_paints_26 : decode cX7_paints 26 = .ok (.iconst 1, 1) := by decide +kernel
theorem dX7_paints_27 : decode cX7_paints 27 = .ok (.ireturn, 1) := by decide +kernel
theorem dX7_paints_28 : decode cX7_paints 28 = .ok (.iload_n 2, 1) := by decide +kernel
theorem dX7_paints_29 : decode cX7_paints 29 = .ok (.iload 4, 2) := by decide +kernel
theorem dX7_paints_31 : decode cX7_paints 31 = .ok (.if_icmp .gt 20, 3) := by decide +kernel
theorem dX7_paints_34 : decode cX7_paints 34 = .ok (.iload_n 3, 1) := by decide +kernel
theorem dX7_paints_35 : decode cX7_paints 35 = .ok (.iload 5, 2) := by decide +kernel
theorem dX7_paints_37 : decode cX7_paints 37 = .ok (.if_icmp .gt 14, 3) := by decide +kernel
theorem dX7_paints_40 : decode cX7_paints 40 = .ok (.iload 6, 2) := by decide +kernel
theorem dX7_paints_42 : decode cX7_paints 42 = .ok (.iconst 0, 1) := by decide +kernel
theorem dX7_paints_43 : decode cX7_paints 43 = .ok (.bipush 15, 2) := by decide +kernel
theorem dX7_paints_45 : decode cX7_paints 45 = .ok (.invokestatic 63, 3) := by decide +kernel
theorem dX7_paints_48 : decode cX7_paints 48 = .ok (.ifCond .ne 5, 3) := by decide +kernel
theorem dX7_paints_51 : decode cX7_paints 51 = .ok (.iconst 2, 1) := by decide +kernel
theorem dX7_paints_52 : decode cX7_paints 52 = .ok (.ireturn, 1) := by decide +kernel
theorem dX7_paints_53 : decode cX7_paints 53 = .ok (.iconst 0, 1) := by decide +kernel
theorem dX7_paints_54 : decode cX7_paints 54 = .ok (.istore 7, 2) := by decide +kernel
theorem dX7_paints_56 : decode cX7_paints 56 = .ok (.iload_n 3, 1) := by decide +kernel
theorem dX7_paints_57 : decode cX7_paints 57 = .ok (.istore 8, 2) := by decide +kernel
theorem dX7_paints_59 : decode cX7_paints 59 = .ok (.iload 8, 2) := by decide +kernel
theorem dX7_paints_61 : decode cX7_paints 61 = .ok (.iload 5, 2) := by decide +kernel
theorem dX7_paints_63 : decode cX7_paints 63 = .ok (.if_icmp .gt 78, 3) := by decide +kernel
theorem dX7_paints_66 : decode cX7_paints 66 = .ok (.iload_n 2, 1) := by decide +kernel
theorem dX7_paints_67 : decode cX7_paints 67 = .ok (.istore 9, 2) := by decide +kernel
theorem dX7_paints_69 : decode cX7_paints 69 = .ok (.iload 9, 2) := by decide +kernel
theorem dX7_paints_71 : decode cX7_paints 71 = .ok (.iload 4, 2) := by decide +kernel
theorem dX7_paints_73 : decode cX7_paints 73 = .ok (.if_icmp .gt 62, 3) := by decide +kernel
theorem dX7_paints_76 : decode cX7_paints 76 = .ok (.iload 7, 2) := by decide +kernel
theorem dX7_paints_78 : decode cX7_paints 78 = .ok (.aload_n 0, 1) := by decide +kernel
theorem dX7_paints_79 : decode cX7_paints 79 = .ok (.iload_n 1, 1) := by decide +kernel
theorem dX7_paints_80 : decode cX7_paints 80 = .ok (.bipush 8, 2) := by decide +kernel
theorem dX7_paints_82 : decode cX7_paints 82 = .ok (.iload 8, 2) := by decide +kernel
theorem dX7_paints_84 : decode cX7_paints 84 = .ok (.imul, 1) := by decide +kernel
theorem dX7_paints_85 : decode cX7_paints 85 = .ok (.iload 9, 2) := by decide +kernel
theorem dX7_paints_87 : decode cX7_paints 87 = .ok (.iadd, 1) := by decide +kernel
theorem dX7_paints_88 : decode cX7_paints 88 = .ok (.invokevirtual 67, 3) := by decide +kernel
theorem dX7_paints_91 : decode cX7_paints 91 = .ok (.ifCond .ne 7, 3) := by decide +kernel
theorem dX7_paints_94 : decode cX7_paints 94 = .ok (.iconst 1, 1) := by decide +kernel
theorem dX7_paints_95 : decode cX7_paints 95 = .ok (.goto 4, 3) := by decide +kernel
theorem dX7_paints_98 : decode cX7_paints 98 = .ok (.iconst 0, 1) := by decide +kernel
theorem dX7_paints_99 : decode cX7_paints 99 = .ok (.iadd, 1) := by decide +kernel
theorem dX7_paints_100 : decode cX7_paints 100 = .ok (.istore 7, 2) := by decide +kernel
theorem dX7_paints_102 : decode cX7_paints 102 = .ok (.aload_n 0, 1) := by decide +kernel
theorem dX7_paints_103 : decode cX7_paints 103 = .ok (.iload_n 1, 1) := by decide +kernel
theorem dX7_paints_104 : decode cX7_paints 104 = .ok (.bipush 8, 2) := by decide +kernel
theorem dX7_paints_106 : decode cX7_paints 106 = .ok (.iload 8, 2) := by decide +kernel
theorem dX7_paints_108 : decode cX7_paints 108 = .ok (.imul, 1) := by decide +kernel
theorem dX7_paints_109 : decode cX7_paints 109 = .ok (.iload 9, 2) := by decide +kernel
theorem dX7_paints_111 : decode cX7_paints 111 = .ok (.iadd, 1) := by decide +kernel
theorem dX7_paints_112 : decode cX7_paints 112 = .ok (.iload 6, 2) := by decide +kernel
theorem dX7_paints_114 : decode cX7_paints 114 = .ok (.iconst 1, 1) := by decide +kernel
theorem dX7_paints_115 : decode cX7_paints 115 = .ok (.iadd, 1) := by decide +kernel
theorem dX7_paints_116 : decode cX7_paints 116 = .ok (.invokevirtual 82, 3) := by decide +kernel
theorem dX7_paints_119 : decode cX7_paints 119 = .ok (.aload_n 0, 1) := by decide +kernel
theorem dX7_paints_120 : decode cX7_paints 120 = .ok (.getfield 7, 3) := by decide +kernel
theorem dX7_paints_123 : decode cX7_paints 123 = .ok (.iconst 1, 1) := by decide +kernel
theorem dX7_paints_124 : decode cX7_paints 124 = .ok (.dup2, 1) := by decide +kernel
theorem dX7_paints_125 : decode cX7_paints 125 = .ok (.iaload, 1) := by decide +kernel
theorem dX7_paints_126 : decode cX7_paints 126 = .ok (.iconst 1, 1) := by decide +kernel
theorem dX7_paints_127 : decode cX7_paints 127 = .ok (.iadd, 1) := by decide +kernel
theorem dX7_paints_128 : decode cX7_paints 128 = .ok (.iastore, 1) := by decide +kernel
theorem dX7_paints_129 : decode cX7_paints 129 = .ok (.iinc 9 1, 3) := by decide +kernel
theorem dX7_paints_132 : decode cX7_paints 132 = .ok (.goto (-63), 3) := by decide +kernel
theorem dX7_paints_135 : decode cX7_paints 135 = .ok (.iinc 8 1, 3) := by decide +kernel
theorem dX7_paints_138 : decode cX7_paints 138 = .ok (.goto (-79), 3) := by decide +kernel
theorem dX7_paints_141 : decode cX7_paints 141 = .ok (.aload_n 0, 1) := by decide +kernel
theorem dX7_paints_142 : decode cX7_paints 142 = .ok (.iload 7, 2) := by decide +kernel
theorem dX7_paints_144 : decode cX7_paints 144 = .ok (.invokevirtual 93, 3) := by decide +kernel
theorem dX7_paints_147 : decode cX7_paints 147 = .ok (.ireturn, 1) := by decide +kernel
theorem dX7_erases_0 : decode cX7_erases 0 = .ok (.aload_n 0, 1) := by decide +kernel
theorem dX7_erases_1 : decode cX7_erases 1 = .ok (.iload_n 1, 1) := by decide +kernel
theorem dX7_erases_2 : decode cX7_erases 2 = .ok (.invokevirtual 96, 3) := by decide +kernel
theorem dX7_erases_5 : decode cX7_erases 5 = .ok (.ifCond .eq 11, 3) := by decide +kernel
theorem dX7_erases_8 : decode cX7_erases 8 = .ok (.iload_n 2, 1) := by decide +kernel
theorem dX7_erases_9 : decode cX7_erases 9 = .ok (.iload_n 3, 1) := by decide +kernel
theorem dX7_erases_10 : decode cX7_erases 10 = .ok (.invokestatic 103, 3) := by decide +kernel
theorem dX7_erases_13 : decode cX7_erases 13 = .ok (.ifCond .ne 5, 3) := by decide +kernel
theorem dX7_erases_16 : decode cX7_erases 16 = .ok (.iconst 1, 1) := by decide +kernel
theorem dX7_erases_17 : decode cX7_erases 17 = .ok (.ireturn, 1) := by decide +kernel
theorem dX7_erases_18 : decode cX7_erases 18 = .ok (.iload 4, 2) := by decide +kernel
theorem dX7_erases_20 : decode cX7_erases 20 = .ok (.iconst 0, 1) := by decide +kernel
theorem dX7_erases_21 : decode cX7_erases 21 = .ok (.bipush 9, 2) := by decide +kernel
theorem dX7_erases_23 : decode cX7_erases 23 = .ok (.invokestatic 63, 3) := by decide +kernel
theorem dX7_erases_26 : decode cX7_erases 26 = .ok (.ifCond .ne 5, 3) := by decide +kernel
theorem dX7_erases_29 : decode cX7_erases 29 = .ok (.iconst 2, 1) := by decide +kernel
theorem dX7_erases_30 : decode cX7_erases 30 = .ok (.ireturn, 1) := by decide +kernel
theorem dX7_erases_31 : decode cX7_erases 31 = .ok (.iconst 0, 1) := by decide +kernel
theorem dX7_erases_32 : decode cX7_erases 32 = .ok (.istore 5, 2) := by decide +kernel
theorem dX7_erases_34 : decode cX7_erases 34 = .ok (.iconst 0, 1) := by decide +kernel
theorem dX7_erases_35 : decode cX7_erases 35 = .ok (.istore 6, 2) := by decide +kernel
theorem dX7_erases_37 : decode cX7_erases 37 = .ok (.iload 6, 2) := by decide +kernel
theorem dX7_erases_39 : decode cX7_erases 39 = .ok (.bipush 48, 2) := by decide +kernel
theorem dX7_erases_41 : decode cX7_erases 41 = .ok (.if_icmp .ge 70, 3) := by decide +kernel
theorem dX7_erases_44 : decode cX7_erases 44 = .ok (.iload 6, 2) := by decide +kernel
theorem dX7_erases_46 : decode cX7_erases 46 = .ok (.bipush 8, 2) := by decide +kernel
theorem dX7_erases_48 : decode cX7_erases 48 = .ok (.irem, 1) := by decide +kernel
theorem dX7_erases_49 : decode cX7_erases 49 = .ok (.iload_n 2, 1) := by decide +kernel
theorem dX7_erases_50 : decode cX7_erases 50 = .ok (.isub, 1) := by decide +kernel
theorem dX7_erases_51 : decode cX7_erases 51 = .ok (.istore 7, 2) := by decide +kernel
theorem dX7_erases_53 : decode cX7_erases 53 = .ok (.iload 6, 2) := by decide +kernel
theorem dX7_erases_55 : decode cX7_erases 55 = .ok (.bipush 8, 2) := by decide +kernel
theorem dX7_erases_57 : decode cX7_erases 57 = .ok (.idiv, 1) := by decide +kernel
theorem dX7_erases_58 : decode cX7_erases 58 = .ok (.iload_n 3, 1) := by decide +kernel
theorem dX7_erases_59 : decode cX7_erases 59 = .ok (.isub, 1) := by decide +kernel
theorem dX7_erases_60 : decode cX7_erases 60 = .ok (.istore 8, 2) := by decide +kernel
theorem dX7_erases_62 : decode cX7_erases 62 = .ok (.iload 7, 2) := by decide +kernel
theorem dX7_erases_64 : decode cX7_erases 64 = .ok (.iload 7, 2) := by decide +kernel
theorem dX7_erases_66 : decode cX7_erases 66 = .ok (.imul, 1) := by decide +kernel
theorem dX7_erases_67 : decode cX7_erases 67 = .ok (.iload 8, 2) := by decide +kernel
theorem dX7_erases_69 : decode cX7_erases 69 = .ok (.iload 8, 2) := by decide +kernel
theorem dX7_erases_71 : decode cX7_erases 71 = .ok (.imul, 1) := by decide +kernel
theorem dX7_erases_72 : decode cX7_erases 72 = .ok (.iadd, 1) := by decide +kernel
theorem dX7_erases_73 : decode cX7_erases 73 = .ok (.iload 4, 2) := by decide +kernel
theorem dX7_erases_75 : decode cX7_erases 75 = .ok (.iload 4, 2) := by decide +kernel
theorem dX7_erases_77 : decode cX7_erases 77 = .ok (.imul, 1) := by decide +kernel
theorem dX7_erases_78 : decode cX7_erases 78 = .ok (.if_icmp .gt 27, 3) := by decide +kernel
theorem dX7_erases_81 : decode cX7_erases 81 = .ok (.aload_n 0, 1) := by decide +kernel
theorem dX7_erases_82 : decode cX7_erases 82 = .ok (.iload_n 1, 1) := by decide +kernel
theorem dX7_erases_83 : decode cX7_erases 83 = .ok (.iload 6, 2) := by decide +kernel
theorem dX7_erases_85 : decode cX7_erases 85 = .ok (.invokevirtual 67, 3) := by decide +kernel
theorem dX7_erases_88 : decode cX7_erases 88 = .ok (.ifCond .ne 6, 3) := by decide +kernel
theorem dX7_erases_91 : decode cX7_erases 91 = .ok (.goto 14, 3) := by decide +kernel
theorem dX7_erases_94 : decode cX7_erases 94 = .ok (.aload_n 0, 1) := by decide +kernel
theorem dX7_erases_95 : decode cX7_erases 95 = .ok (.iload_n 1, 1) := by decide +kernel
theorem dX7_erases_96 : decode cX7_erases 96 = .ok (.iload 6, 2) := by decide +kernel
theorem dX7_erases_98 : decode cX7_erases 98 = .ok (.iconst 0, 1) := by decide +kernel
theorem dX7_erases_99 : decode cX7_erases 99 = .ok (.invokevirtual 82, 3) := by decide +kernel
theorem dX7_erases_102 : decode cX7_erases 102 = .ok (.iinc 5 1, 3) := by decide +kernel
theorem dX7_erases_105 : decode cX7_erases 105 = .ok (.iinc 6 1, 3) := by decide +kernel
theorem dX7_erases_108 : decode cX7_erases 108 = .ok (.goto (-71), 3) := by decide +kernel
theorem dX7_erases_111 : decode cX7_erases 111 = .ok (.aload_n 0, 1) := by decide +kernel
theorem dX7_erases_112 : decode cX7_erases 112 = .ok (.getfield 7, 3) := by decide +kernel
theorem dX7_erases_115 : decode cX7_erases 115 = .ok (.iconst 2, 1) := by decide +kernel
theorem dX7_erases_116 : decode cX7_erases 116 = .ok (.dup2, 1) := by decide +kernel
theorem dX7_erases_117 : decode cX7_erases 117 = .ok (.iaload, 1) := by decide +kernel
theorem dX7_erases_118 : decode cX7_erases 118 = .ok (.iload 5, 2) := by decide +kernel
theorem dX7_erases_120 : decode cX7_erases 120 = .ok (.iadd, 1) := by decide +kernel
theorem dX7_erases_121 : decode cX7_erases 121 = .ok (.iastore, 1) := by decide +kernel
theorem dX7_erases_122 : decode cX7_erases 122 = .ok (.aload_n 0, 1) := by decide +kernel
theorem dX7_erases_123 : decode cX7_erases 123 = .ok (.iload 5, 2) := by decide +kernel
theorem dX7_erases_125 : decode cX7_erases 125 = .ok (.invokevirtual 93, 3) := by decide +kernel
theorem dX7_erases_128 : decode cX7_erases 128 = .ok (.ireturn, 1) := by decide +kernel
theorem dX7_turns_0 : decode cX7_turns 0 = .ok (.aload_n 0, 1) := by decide +kernel
theorem dX7_turns_1 : decode cX7_turns 1 = .ok (.iload_n 1, 1) := by decide +kernel
theorem dX7_turns_2 : decode cX7_turns 2 = .ok (.invokevirtual 96, 3) := by decide +kernel
theorem dX7_turns_5 : decode cX7_turns 5 = .ok (.ifCond .ne 5, 3) := by decide +kernel
theorem dX7_turns_8 : decode cX7_turns 8 = .ok (.iconst 1, 1) := by decide +kernel
theorem dX7_turns_9 : decode cX7_turns 9 = .ok (.ireturn, 1) := by decide +kernel
theorem dX7_turns_10 : decode cX7_turns 10 = .ok (.aload_n 0, 1) := by decide +kernel
theorem dX7_turns_11 : decode cX7_turns 11 = .ok (.getfield 7, 3) := by decide +kernel
theorem dX7_turns_14 : decode cX7_turns 14 = .ok (.iconst 3, 1) := by decide +kernel
theorem dX7_turns_15 : decode cX7_turns 15 = .ok (.bipush 50, 2) := by decide +kernel
theorem dX7_turns_17 : decode cX7_turns 17 = .ok (.iload_n 1, 1) := by decide +kernel
theorem dX7_turns_18 : decode cX7_turns 18 = .ok (.imul, 1) := by decide +kernel
theorem dX7_turns_19 : decode cX7_turns 19 = .ok (.iadd, 1) := by decide +kernel
theorem dX7_turns_20 : decode cX7_turns 20 = .ok (.iconst 1, 1) := by decide +kernel
theorem dX7_turns_21 : decode cX7_turns 21 = .ok (.iadd, 1) := by decide +kernel
theorem dX7_turns_22 : decode cX7_turns 22 = .ok (.iaload, 1) := by decide +kernel
theorem dX7_turns_23 : decode cX7_turns 23 = .ok (.iload_n 2, 1) := by decide +kernel
theorem dX7_turns_24 : decode cX7_turns 24 = .ok (.if_icmp .ne 5, 3) := by decide +kernel
theorem dX7_turns_27 : decode cX7_turns 27 = .ok (.iconst 2, 1) := by decide +kernel
theorem dX7_turns_28 : decode cX7_turns 28 = .ok (.ireturn, 1) := by decide +kernel
theorem dX7_turns_29 : decode cX7_turns 29 = .ok (.aload_n 0, 1) := by decide +kernel
theorem dX7_turns_30 : decode cX7_turns 30 = .ok (.getfield 7, 3) := by decide +kernel
theorem dX7_turns_33 : decode cX7_turns 33 = .ok (.iconst 3, 1) := by decide +kernel
theorem dX7_turns_34 : decode cX7_turns 34 = .ok (.bipush 50, 2) := by decide +kernel
theorem dX7_turns_36 : decode cX7_turns 36 = .ok (.iload_n 1, 1) := by decide +kernel
theorem dX7_turns_37 : decode cX7_turns 37 = .ok (.imul, 1) := by decide +kernel
theorem dX7_turns_38 : decode cX7_turns 38 = .ok (.iadd, 1) := by decide +kernel
theorem dX7_turns_39 : decode cX7_turns 39 = .ok (.iconst 1, 1) := by decide +kernel
theorem dX7_turns_40 : decode cX7_turns 40 = .ok (.iadd, 1) := by decide +kernel
theorem dX7_turns_41 : decode cX7_turns 41 = .ok (.iload_n 2, 1) := by decide +kernel
theorem dX7_turns_42 : decode cX7_turns 42 = .ok (.iastore, 1) := by decide +kernel
theorem dX7_turns_43 : decode cX7_turns 43 = .ok (.aload_n 0, 1) := by decide +kernel
theorem dX7_turns_44 : decode cX7_turns 44 = .ok (.aload_n 0, 1) := by decide +kernel
theorem dX7_turns_45 : decode cX7_turns 45 = .ok (.invokevirtual 107, 3) := by decide +kernel
theorem dX7_turns_48 : decode cX7_turns 48 = .ok (.invokevirtual 93, 3) := by decide +kernel
theorem dX7_turns_51 : decode cX7_turns 51 = .ok (.ireturn, 1) := by decide +kernel
theorem dX7_moves_0 : decode cX7_moves 0 = .ok (.aload_n 0, 1) := by decide +kernel
theorem dX7_moves_1 : decode cX7_moves 1 = .ok (.iload_n 1, 1) := by decide +kernel
theorem dX7_moves_2 : decode cX7_moves 2 = .ok (.invokevirtual 96, 3) := by decide +kernel
theorem dX7_moves_5 : decode cX7_moves 5 = .ok (.ifCond .eq 11, 3) := by decide +kernel
theorem dX7_moves_8 : decode cX7_moves 8 = .ok (.aload_n 0, 1) := by decide +kernel
theorem dX7_moves_9 : decode cX7_moves 9 = .ok (.iload_n 2, 1) := by decide +kernel
theorem dX7_moves_10 : decode cX7_moves 10 = .ok (.invokevirtual 96, 3) := by decide +kernel
theorem dX7_moves_13 : decode cX7_moves 13 = .ok (.ifCond .ne 5, 3) := by decide +kernel
theorem dX7_moves_16 : decode cX7_moves 16 = .ok (.iconst 1, 1) := by decide +kernel
theorem dX7_moves_17 : decode cX7_moves 17 = .ok (.ireturn, 1) := by decide +kernel
theorem dX7_moves_18 : decode cX7_moves 18 = .ok (.iconst 0, 1) := by decide +kernel
theorem dX7_moves_19 : decode cX7_moves 19 = .ok (.istore_n 3, 1) := by decide +kernel
theorem dX7_moves_20 : decode cX7_moves 20 = .ok (.iload_n 3, 1) := by decide +kernel
theorem dX7_moves_21 : decode cX7_moves 21 = .ok (.bipush 48, 2) := by decide +kernel
theorem dX7_moves_23 : decode cX7_moves 23 = .ok (.if_icmp .ge 20, 3) := by decide +kernel
theorem dX7_moves_26 : decode cX7_moves 26 = .ok (.aload_n 0, 1) := by decide +kernel
theorem dX7_moves_27 : decode cX7_moves 27 = .ok (.getfield 31, 3) := by decide +kernel
theorem dX7_moves_30 : decode cX7_moves 30 = .ok (.iload_n 3, 1) := by decide +kernel
theorem dX7_moves_31 : decode cX7_moves 31 = .ok (.aload_n 0, 1) := by decide +kernel
theorem dX7_moves_32 : decode cX7_moves 32 = .ok (.iload_n 3, 1) := by decide +kernel
theorem dX7_moves_33 : decode cX7_moves 33 = .ok (.invokevirtual 111, 3) := by decide +kernel
theorem dX7_moves_36 : decode cX7_moves 36 = .ok (.iastore, 1) := by decide +kernel
theorem dX7_moves_37 : decode cX7_moves 37 = .ok (.iinc 3 1, 3) := by decide +kernel
theorem dX7_moves_40 : decode cX7_moves 40 = .ok (.goto (-20), 3) := by decide +kernel
theorem dX7_moves_43 : decode cX7_moves 43 = .ok (.iconst 0, 1) := by decide +kernel
theorem dX7_moves_44 : decode cX7_moves 44 = .ok (.istore_n 3, 1) := by decide +kernel
theorem dX7_moves_45 : decode cX7_moves 45 = .ok (.iload_n 3, 1) := by decide +kernel
theorem dX7_moves_46 : decode cX7_moves 46 = .ok (.bipush 50, 2) := by decide +kernel
theorem dX7_moves_48 : decode cX7_moves 48 = .ok (.if_icmp .ge 28, 3) := by decide +kernel
theorem dX7_moves_51 : decode cX7_moves 51 = .ok (.aload_n 0, 1) := by decide +kernel
theorem dX7_moves_52 : decode cX7_moves 52 = .ok (.getfield 37, 3) := by decide +kernel
theorem dX7_moves_55 : decode cX7_moves 55 = .ok (.iload_n 3, 1) := by decide +kernel
theorem dX7_moves_56 : decode cX7_moves 56 = .ok (.aload_n 0, 1) := by decide +kernel
theorem dX7_moves_57 : decode cX7_moves 57 = .ok (.getfield 7, 3) := by decide +kernel
theorem dX7_moves_60 : decode cX7_moves 60 = .ok (.iconst 3, 1) := by decide +kernel
theorem dX7_moves_61 : decode cX7_moves 61 = .ok (.bipush 50, 2) := by decide +kernel
theorem dX7_moves_63 : decode cX7_moves 63 = .ok (.iload_n 1, 1) := by decide +kernel
theorem dX7_moves_64 : decode cX7_moves 64 = .ok (.imul, 1) := by decide +kernel
theorem dX7_moves_65 : decode cX7_moves 65 = .ok (.iadd, 1) := by decide +kernel
theorem dX7_moves_66 : decode cX7_moves 66 = .ok (.iload_n 3, 1) := by decide +kernel
theorem dX7_moves_67 : decode cX7_moves 67 = .ok (.iadd, 1) := by decide +kernel
theorem dX7_moves_68 : decode cX7_moves 68 = .ok (.iaload, 1) := by decide +kernel
theorem dX7_moves_69 : decode cX7_moves 69 = .ok (.iastore, 1) := by decide +kernel
theorem dX7_moves_70 : decode cX7_moves 70 = .ok (.iinc 3 1, 3) := by decide +kernel
theorem dX7_moves_73 : decode cX7_moves 73 = .ok (.goto (-28), 3) := by decide +kernel
theorem dX7_moves_76 : decode cX7_moves 76 = .ok (.iload_n 1, 1) := by decide +kernel
theorem dX7_moves_77 : decode cX7_moves 77 = .ok (.iload_n 2, 1) := by decide +kernel
theorem dX7_moves_78 : decode cX7_moves 78 = .ok (.if_icmp .ge 7, 3) := by decide +kernel
theorem dX7_moves_81 : decode cX7_moves 81 = .ok (.iconst 1, 1) := by decide +kernel
theorem dX7_moves_82 : decode cX7_moves 82 = .ok (.goto 4, 3) := by decide +kernel
theorem dX7_moves_85 : decode cX7_moves 85 = .ok (.iconst (-1), 1) := by decide +kernel
theorem dX7_moves_86 : decode cX7_moves 86 = .ok (.istore_n 3, 1) := by decide +kernel
theorem dX7_moves_87 : decode cX7_moves 87 = .ok (.iload_n 1, 1) := by decide +kernel
theorem dX7_moves_88 : decode cX7_moves 88 = .ok (.istore 4, 2) := by decide +kernel
theorem dX7_moves_90 : decode cX7_moves 90 = .ok (.iload 4, 2) := by decide +kernel
theorem dX7_moves_92 : decode cX7_moves 92 = .ok (.iload_n 2, 1) := by decide +kernel
theorem dX7_moves_93 : decode cX7_moves 93 = .ok (.if_icmp .eq 60, 3) := by decide +kernel
theorem dX7_moves_96 : decode cX7_moves 96 = .ok (.iconst 0, 1) := by decide +kernel
theorem dX7_moves_97 : decode cX7_moves 97 = .ok (.istore 5, 2) := by decide +kernel
theorem dX7_moves_99 : decode cX7_moves 99 = .ok (.iload 5, 2) := by decide +kernel
theorem dX7_moves_101 : decode cX7_moves 101 = .ok (.bipush 50, 2) := by decide +kernel
theorem dX7_moves_103 : decode cX7_moves 103 = .ok (.if_icmp .ge 41, 3) := by decide +kernel
theorem dX7_moves_106 : decode cX7_moves 106 = .ok (.aload_n 0, 1) := by decide +kernel
theorem dX7_moves_107 : decode cX7_moves 107 = .ok (.getfield 7, 3) := by decide +kernel
theorem dX7_moves_110 : decode cX7_moves 110 = .ok (.iconst 3, 1) := by decide +kernel
theorem dX7_moves_111 : decode cX7_moves 111 = .ok (.bipush 50, 2) := by decide +kernel
theorem dX7_moves_113 : decode cX7_moves 113 = .ok (.iload 4, 2) := by decide +kernel
theorem dX7_moves_115 : decode cX7_moves 115 = .ok (.imul, 1) := by decide +kernel
theorem dX7_moves_116 : decode cX7_moves 116 = .ok (.iadd, 1) := by decide +kernel
theorem dX7_moves_117 : decode cX7_moves 117 = .ok (.iload 5, 2) := by decide +kernel
theorem dX7_moves_119 : decode cX7_moves 119 = .ok (.iadd, 1) := by decide +kernel
theorem dX7_moves_120 : decode cX7_moves 120 = .ok (.aload_n 0, 1) := by decide +kernel
theorem dX7_moves_121 : decode cX7_moves 121 = .ok (.getfield 7, 3) := by decide +kernel
theorem dX7_moves_124 : decode cX7_moves 124 = .ok (.iconst 3, 1) := by decide +kernel
theorem dX7_moves_125 : decode cX7_moves 125 = .ok (.bipush 50, 2) := by decide +kernel
theorem dX7_moves_127 : decode cX7_moves 127 = .ok (.iload 4, 2) := by decide +kernel
theorem dX7_moves_129 : decode cX7_moves 129 = .ok (.iload_n 3, 1) := by decide +kernel
theorem dX7_moves_130 : decode cX7_moves 130 = .ok (.iadd, 1) := by decide +kernel
theorem dX7_moves_131 : decode cX7_moves 131 = .ok (.imul, 1) := by decide +kernel
theorem dX7_moves_132 : decode cX7_moves 132 = .ok (.iadd, 1) := by decide +kernel
theorem dX7_moves_133 : decode cX7_moves 133 = .ok (.iload 5, 2) := by decide +kernel
theorem dX7_moves_135 : decode cX7_moves 135 = .ok (.iadd, 1) := by decide +kernel
theorem dX7_moves_136 : decode cX7_moves 136 = .ok (.iaload, 1) := by decide +kernel
theorem dX7_moves_137 : decode cX7_moves 137 = .ok (.iastore, 1) := by decide +kernel
theorem dX7_moves_138 : decode cX7_moves 138 = .ok (.iinc 5 1, 3) := by decide +kernel
theorem dX7_moves_141 : decode cX7_moves 141 = .ok (.goto (-42), 3) := by decide +kernel
theorem dX7_moves_144 : decode cX7_moves 144 = .ok (.iload 4, 2) := by decide +kernel
theorem dX7_moves_146 : decode cX7_moves 146 = .ok (.iload_n 3, 1) := by decide +kernel
theorem dX7_moves_147 : decode cX7_moves 147 = .ok (.iadd, 1) := by decide +kernel
theorem dX7_moves_148 : decode cX7_moves 148 = .ok (.istore 4, 2) := by decide +kernel
theorem dX7_moves_150 : decode cX7_moves 150 = .ok (.goto (-60), 3) := by decide +kernel
theorem dX7_moves_153 : decode cX7_moves 153 = .ok (.iconst 0, 1) := by decide +kernel
theorem dX7_moves_154 : decode cX7_moves 154 = .ok (.istore 4, 2) := by decide +kernel
theorem dX7_moves_156 : decode cX7_moves 156 = .ok (.iload 4, 2) := by decide +kernel
theorem dX7_moves_158 : decode cX7_moves 158 = .ok (.bipush 50, 2) := by decide +kernel
theorem dX7_moves_160 : decode cX7_moves 160 = .ok (.if_icmp .ge 30, 3) := by decide +kernel
theorem dX7_moves_163 : decode cX7_moves 163 = .ok (.aload_n 0, 1) := by decide +kernel
theorem dX7_moves_164 : decode cX7_moves 164 = .ok (.getfield 7, 3) := by decide +kernel
theorem dX7_moves_167 : decode cX7_moves 167 = .ok (.iconst 3, 1) := by decide +kernel
theorem dX7_moves_168 : decode cX7_moves 168 = .ok (.bipush 50, 2) := by decide +kernel
theorem dX7_moves_170 : decode cX7_moves 170 = .ok (.iload_n 2, 1) := by decide +kernel
theorem dX7_moves_171 : decode cX7_moves 171 = .ok (.imul, 1) := by decide +kernel
theorem dX7_moves_172 : decode cX7_moves 172 = .ok (.iadd, 1) := by decide +kernel
theorem dX7_moves_173 : decode cX7_moves 173 = .ok (.iload 4, 2) := by decide +kernel
theorem dX7_moves_175 : decode cX7_moves 175 = .ok (.iadd, 1) := by decide +kernel
theorem dX7_moves_176 : decode cX7_moves 176 = .ok (.aload_n 0, 1) := by decide +kernel
theorem dX7_moves_177 : decode cX7_moves 177 = .ok (.getfield 37, 3) := by decide +kernel
theorem dX7_moves_180 : decode cX7_moves 180 = .ok (.iload 4, 2) := by decide +kernel
theorem dX7_moves_182 : decode cX7_moves 182 = .ok (.iaload, 1) := by decide +kernel
theorem dX7_moves_183 : decode cX7_moves 183 = .ok (.iastore, 1) := by decide +kernel
theorem dX7_moves_184 : decode cX7_moves 184 = .ok (.iinc 4 1, 3) := by decide +kernel
theorem dX7_moves_187 : decode cX7_moves 187 = .ok (.goto (-31), 3) := by decide +kernel
theorem dX7_moves_190 : decode cX7_moves 190 = .ok (.iconst 0, 1) := by decide +kernel
theorem dX7_moves_191 : decode cX7_moves 191 = .ok (.istore 4, 2) := by decide +kernel
theorem dX7_moves_193 : decode cX7_moves 193 = .ok (.iconst 0, 1) := by decide +kernel
theorem dX7_moves_194 : decode cX7_moves 194 = .ok (.istore 5, 2) := by decide +kernel
theorem dX7_moves_196 : decode cX7_moves 196 = .ok (.iload 5, 2) := by decide +kernel
theorem dX7_moves_198 : decode cX7_moves 198 = .ok (.bipush 48, 2) := by decide +kernel
theorem dX7_moves_200 : decode cX7_moves 200 = .ok (.if_icmp .ge 35, 3) := by decide +kernel
theorem dX7_moves_203 : decode cX7_moves 203 = .ok (.iload 4, 2) := by decide +kernel
theorem dX7_moves_205 : decode cX7_moves 205 = .ok (.aload_n 0, 1) := by decide +kernel
theorem dX7_moves_206 : decode cX7_moves 206 = .ok (.iload 5, 2) := by decide +kernel
theorem dX7_moves_208 : decode cX7_moves 208 = .ok (.invokevirtual 111, 3) := by decide +kernel
theorem dX7_moves_211 : decode cX7_moves 211 = .ok (.aload_n 0, 1) := by decide +kernel
theorem dX7_moves_212 : decode cX7_moves 212 = .ok (.getfield 31, 3) := by decide +kernel
theorem dX7_moves_215 : decode cX7_moves 215 = .ok (.iload 5, 2) := by decide +kernel
theorem dX7_moves_217 : decode cX7_moves 217 = .ok (.iaload, 1) := by decide +kernel
theorem dX7_moves_218 : decode cX7_moves 218 = .ok (.if_icmp .ne 7, 3) := by decide +kernel
theorem dX7_moves_221 : decode cX7_moves 221 = .ok (.iconst 0, 1) := by decide +kernel
theorem dX7_moves_222 : decode cX7_moves 222 = .ok (.goto 4, 3) := by decide +kernel
theorem dX7_moves_225 : decode cX7_moves 225 = .ok (.iconst 1, 1) := by decide +kernel
theorem dX7_moves_226 : decode cX7_moves 226 = .ok (.iadd, 1) := by decide +kernel
theorem dX7_moves_227 : decode cX7_moves 227 = .ok (.istore 4, 2) := by decide +kernel
theorem dX7_moves_229 : decode cX7_moves 229 = .ok (.iinc 5 1, 3) := by decide +kernel
theorem dX7_moves_232 : decode cX7_moves 232 = .ok (.goto (-36), 3) := by decide +kernel
theorem dX7_moves_235 : decode cX7_moves 235 = .ok (.aload_n 0, 1) := by decide +kernel
theorem dX7_moves_236 : decode cX7_moves 236 = .ok (.iload 4, 2) := by decide +kernel
theorem dX7_moves_238 : decode cX7_moves 238 = .ok (.invokevirtual 93, 3) := by decide +kernel
theorem dX7_moves_241 : decode cX7_moves 241 = .ok (.ireturn, 1) := by decide +kernel
theorem dX7_merges_0 : decode cX7_merges 0 = .ok (.aload_n 0, 1) := by decide +kernel
theorem dX7_merges_1 : decode cX7_merges 1 = .ok (.iload_n 1, 1) := by decide +kernel
theorem dX7_merges_2 : decode cX7_merges 2 = .ok (.invokevirtual 96, 3) := by decide +kernel
theorem dX7_merges_5 : decode cX7_merges 5 = .ok (.ifCond .ne 5, 3) := by decide +kernel
theorem dX7_merges_8 : decode cX7_merges 8 = .ok (.iconst 1, 1) := by decide +kernel
theorem dX7_merges_9 : decode cX7_merges 9 = .ok (.ireturn, 1) := by decide +kernel
theorem dX7_merges_10 : decode cX7_merges 10 = .ok (.iload_n 1, 1) := by decide +kernel
theorem dX7_merges_11 : decode cX7_merges 11 = .ok (.ifCond .ne 5, 3) := by decide +kernel
theorem dX7_merges_14 : decode cX7_merges 14 = .ok (.iconst 2, 1) := by decide +kernel
theorem dX7_merges_15 : decode cX7_merges 15 = .ok (.ireturn, 1) := by decide +kernel
theorem dX7_merges_16 : decode cX7_merges 16 = .ok (.aload_n 0, 1) := by decide +kernel
theorem dX7_merges_17 : decode cX7_merges 17 = .ok (.iload_n 1, 1) := by decide +kernel
theorem dX7_merges_18 : decode cX7_merges 18 = .ok (.invokevirtual 75, 3) := by decide +kernel
theorem dX7_merges_21 : decode cX7_merges 21 = .ok (.bipush 110, 2) := by decide +kernel
theorem dX7_merges_23 : decode cX7_merges 23 = .ok (.if_icmp .ne 33, 3) := by decide +kernel
theorem dX7_merges_26 : decode cX7_merges 26 = .ok (.aload_n 0, 1) := by decide +kernel
theorem dX7_merges_27 : decode cX7_merges 27 = .ok (.iload_n 1, 1) := by decide +kernel
theorem dX7_merges_28 : decode cX7_merges 28 = .ok (.iconst 1, 1) := by decide +kernel
theorem dX7_merges_29 : decode cX7_merges 29 = .ok (.isub, 1) := by decide +kernel
theorem dX7_merges_30 : decode cX7_merges 30 = .ok (.invokevirtual 75, 3) := by decide +kernel
theorem dX7_merges_33 : decode cX7_merges 33 = .ok (.bipush 110, 2) := by decide +kernel
theorem dX7_merges_35 : decode cX7_merges 35 = .ok (.if_icmp .ne 21, 3) := by decide +kernel
theorem dX7_merges_38 : decode cX7_merges 38 = .ok (.aload_n 0, 1) := by decide +kernel
theorem dX7_merges_39 : decode cX7_merges 39 = .ok (.iload_n 1, 1) := by decide +kernel
theorem dX7_merges_40 : decode cX7_merges 40 = .ok (.invokevirtual 71, 3) := by decide +kernel
theorem dX7_merges_43 : decode cX7_merges 43 = .ok (.ifCond .eq 13, 3) := by decide +kernel
theorem dX7_merges_46 : decode cX7_merges 46 = .ok (.aload_n 0, 1) := by decide +kernel
theorem dX7_merges_47 : decode cX7_merges 47 = .ok (.iload_n 1, 1) := by decide +kernel
theorem dX7_merges_48 : decode cX7_merges 48 = .ok (.iconst 1, 1) := by decide +kernel
theorem dX7_merges_49 : decode cX7_merges 49 = .ok (.isub, 1) := by decide +kernel
theorem dX7_merges_50 : decode cX7_merges 50 = .ok (.invokevirtual 71, 3) := by decide +kernel
theorem dX7_merges_53 : decode cX7_merges 53 = .ok (.ifCond .ne 5, 3) := by decide +kernel
theorem dX7_merges_56 : decode cX7_merges 56 = .ok (.iconst 3, 1) := by decide +kernel
theorem dX7_merges_57 : decode cX7_merges 57 = .ok (.ireturn, 1) := by decide +kernel
theorem dX7_merges_58 : decode cX7_merges 58 = .ok (.iconst 0, 1) := by decide +kernel
theorem dX7_merges_59 : decode cX7_merges 59 = .ok (.istore_n 2, 1) := by decide +kernel
theorem dX7_merges_60 : decode cX7_merges 60 = .ok (.iload_n 2, 1) := by decide +kernel
theorem dX7_merges_61 : decode cX7_merges 61 = .ok (.bipush 48, 2) := by decide +kernel
theorem dX7_merges_63 : decode cX7_merges 63 = .ok (.if_icmp .ge 32, 3) := by decide +kernel
theorem dX7_merges_66 : decode cX7_merges 66 = .ok (.aload_n 0, 1) := by decide +kernel
theorem dX7_merges_67 : decode cX7_merges 67 = .ok (.iload_n 1, 1) := by decide +kernel
theorem dX7_merges_68 : decode cX7_merges 68 = .ok (.iload_n 2, 1) := by decide +kernel
theorem dX7_merges_69 : decode cX7_merges 69 = .ok (.invokevirtual 67, 3) := by decide +kernel
theorem dX7_merges_72 : decode cX7_merges 72 = .ok (.ifCond .le 17, 3) := by decide +kernel
theorem dX7_merges_75 : decode cX7_merges 75 = .ok (.aload_n 0, 1) := by decide +kernel
theorem dX7_merges_76 : decode cX7_merges 76 = .ok (.iload_n 1, 1) := by decide +kernel
theorem dX7_merges_77 : decode cX7_merges 77 = .ok (.iconst 1, 1) := by decide +kernel
theorem dX7_merges_78 : decode cX7_merges 78 = .ok (.isub, 1) := by decide +kernel
theorem dX7_merges_79 : decode cX7_merges 79 = .ok (.iload_n 2, 1) := by decide +kernel
theorem dX7_merges_80 : decode cX7_merges 80 = .ok (.aload_n 0, 1) := by decide +kernel
theorem dX7_merges_81 : decode cX7_merges 81 = .ok (.iload_n 1, 1) := by decide +kernel
theorem dX7_merges_82 : decode cX7_merges 82 = .ok (.iload_n 2, 1) := by decide +kernel
theorem dX7_merges_83 : decode cX7_merges 83 = .ok (.invokevirtual 67, 3) := by decide +kernel
theorem dX7_merges_86 : decode cX7_merges 86 = .ok (.invokevirtual 82, 3) := by decide +kernel
theorem dX7_merges_89 : decode cX7_merges 89 = .ok (.iinc 2 1, 3) := by decide +kernel
theorem dX7_merges_92 : decode cX7_merges 92 = .ok (.goto (-32), 3) := by decide +kernel
theorem dX7_merges_95 : decode cX7_merges 95 = .ok (.aload_n 0, 1) := by decide +kernel
theorem dX7_merges_96 : decode cX7_merges 96 = .ok (.iload_n 1, 1) := by decide +kernel
theorem dX7_merges_97 : decode cX7_merges 97 = .ok (.invokevirtual 99, 3) := by decide +kernel
theorem dX7_merges_100 : decode cX7_merges 100 = .ok (.aload_n 0, 1) := by decide +kernel
theorem dX7_merges_101 : decode cX7_merges 101 = .ok (.aload_n 0, 1) := by decide +kernel
theorem dX7_merges_102 : decode cX7_merges 102 = .ok (.iload_n 1, 1) := by decide +kernel
theorem dX7_merges_103 : decode cX7_merges 103 = .ok (.iconst 1, 1) := by decide +kernel
theorem dX7_merges_104 : decode cX7_merges 104 = .ok (.isub, 1) := by decide +kernel
theorem dX7_merges_105 : decode cX7_merges 105 = .ok (.invokevirtual 114, 3) := by decide +kernel
theorem dX7_merges_108 : decode cX7_merges 108 = .ok (.invokevirtual 93, 3) := by decide +kernel
theorem dX7_merges_111 : decode cX7_merges 111 = .ok (.ireturn, 1) := by decide +kernel
theorem dX7_casts_0 : decode cX7_casts 0 = .ok (.aload_n 0, 1) := by decide +kernel
theorem dX7_casts_1 : decode cX7_casts 1 = .ok (.iload_n 1, 1) := by decide +kernel
theorem dX7_casts_2 : decode cX7_casts 2 = .ok (.invokevirtual 96, 3) := by decide +kernel
theorem dX7_casts_5 : decode cX7_casts 5 = .ok (.ifCond .ne 5, 3) := by decide +kernel
theorem dX7_casts_8 : decode cX7_casts 8 = .ok (.iconst 1, 1) := by decide +kernel
theorem dX7_casts_9 : decode cX7_casts 9 = .ok (.ireturn, 1) := by decide +kernel
theorem dX7_casts_10 : decode cX7_casts 10 = .ok (.iload_n 2, 1) := by decide +kernel
theorem dX7_casts_11 : decode cX7_casts 11 = .ok (.bipush 6, 2) := by decide +kernel
theorem dX7_casts_13 : decode cX7_casts 13 = .ok (.bipush 18, 2) := by decide +kernel
theorem dX7_casts_15 : decode cX7_casts 15 = .ok (.invokestatic 63, 3) := by decide +kernel
theorem dX7_casts_18 : decode cX7_casts 18 = .ok (.ifCond .ne 5, 3) := by decide +kernel
theorem dX7_casts_21 : decode cX7_casts 21 = .ok (.iconst 2, 1) := by decide +kernel
theorem dX7_casts_22 : decode cX7_casts 22 = .ok (.ireturn, 1) := by decide +kernel
theorem dX7_casts_23 : decode cX7_casts 23 = .ok (.aload_n 0, 1) := by decide +kernel
theorem dX7_casts_24 : decode cX7_casts 24 = .ok (.getfield 7, 3) := by decide +kernel
theorem dX7_casts_27 : decode cX7_casts 27 = .ok (.iconst 0, 1) := by decide +kernel
theorem dX7_casts_28 : decode cX7_casts 28 = .ok (.iaload, 1) := by decide +kernel
theorem dX7_casts_29 : decode cX7_casts 29 = .ok (.istore_n 3, 1) := by decide +kernel
theorem dX7_casts_30 : decode cX7_casts 30 = .ok (.iload_n 3, 1) := by decide +kernel
theorem dX7_casts_31 : decode cX7_casts 31 = .ok (.bipush 6, 2) := by decide +kernel
theorem dX7_casts_33 : decode cX7_casts 33 = .ok (.if_icmp .ne 5, 3) := by decide +kernel
theorem dX7_casts_36 : decode cX7_casts 36 = .ok (.iconst 3, 1) := by decide +kernel
theorem dX7_casts_37 : decode cX7_casts 37 = .ok (.ireturn, 1) := by decide +kernel
theorem dX7_casts_38 : decode cX7_casts 38 = .ok (.aload_n 0, 1) := by decide +kernel
theorem dX7_casts_39 : decode cX7_casts 39 = .ok (.iload_n 3, 1) := by decide +kernel
theorem dX7_casts_40 : decode cX7_casts 40 = .ok (.bipush 109, 2) := by decide +kernel
theorem dX7_casts_42 : decode cX7_casts 42 = .ok (.invokevirtual 89, 3) := by decide +kernel
theorem dX7_casts_45 : decode cX7_casts 45 = .ok (.aload_n 0, 1) := by decide +kernel
theorem dX7_casts_46 : decode cX7_casts 46 = .ok (.getfield 7, 3) := by decide +kernel
theorem dX7_casts_49 : decode cX7_casts 49 = .ok (.iconst 0, 1) := by decide +kernel
theorem dX7_casts_50 : decode cX7_casts 50 = .ok (.iload_n 3, 1) := by decide +kernel
theorem dX7_casts_51 : decode cX7_casts 51 = .ok (.iconst 1, 1) := by decide +kernel
theorem dX7_casts_52 : decode cX7_casts 52 = .ok (.iadd, 1) := by decide +kernel
theorem dX7_casts_53 : decode cX7_casts 53 = .ok (.iastore, 1) := by decide +kernel
theorem dX7_casts_54 : decode cX7_casts 54 = .ok (.iconst 0, 1) := by decide +kernel
theorem dX7_casts_55 : decode cX7_casts 55 = .ok (.istore 4, 2) := by decide +kernel
theorem dX7_casts_57 : decode cX7_casts 57 = .ok (.iload 4, 2) := by decide +kernel
theorem dX7_casts_59 : decode cX7_casts 59 = .ok (.bipush 48, 2) := by decide +kernel
theorem dX7_casts_61 : decode cX7_casts 61 = .ok (.if_icmp .ge 65, 3) := by decide +kernel
theorem dX7_casts_64 : decode cX7_casts 64 = .ok (.iload 4, 2) := by decide +kernel
theorem dX7_casts_66 : decode cX7_casts 66 = .ok (.bipush 8, 2) := by decide +kernel
theorem dX7_casts_68 : decode cX7_casts 68 = .ok (.irem, 1) := by decide +kernel
theorem dX7_casts_69 : decode cX7_casts 69 = .ok (.iload_n 2, 1) := by decide +kernel
theorem dX7_casts_70 : decode cX7_casts 70 = .ok (.iadd, 1) := by decide +kernel
theorem dX7_casts_71 : decode cX7_casts 71 = .ok (.bipush 12, 2) := by decide +kernel
theorem dX7_casts_73 : decode cX7_casts 73 = .ok (.isub, 1) := by decide +kernel
theorem dX7_casts_74 : decode cX7_casts 74 = .ok (.istore 5, 2) := by decide +kernel
theorem dX7_casts_76 : decode cX7_casts 76 = .ok (.iload 4, 2) := by decide +kernel
theorem dX7_casts_78 : decode cX7_casts 78 = .ok (.bipush 8, 2) := by decide +kernel
theorem dX7_casts_80 : decode cX7_casts 80 = .ok (.idiv, 1) := by decide +kernel
theorem dX7_casts_81 : decode cX7_casts 81 = .ok (.iconst 1, 1) := by decide +kernel
theorem dX7_casts_82 : decode cX7_casts 82 = .ok (.iadd, 1) := by decide +kernel
theorem dX7_casts_83 : decode cX7_casts 83 = .ok (.istore 6, 2) := by decide +kernel
theorem dX7_casts_85 : decode cX7_casts 85 = .ok (.aload_n 0, 1) := by decide +kernel
theorem dX7_casts_86 : decode cX7_casts 86 = .ok (.iload_n 1, 1) := by decide +kernel
theorem dX7_casts_87 : decode cX7_casts 87 = .ok (.iload 4, 2) := by decide +kernel
theorem dX7_casts_89 : decode cX7_casts 89 = .ok (.invokevirtual 67, 3) := by decide +kernel
theorem dX7_casts_92 : decode cX7_casts 92 = .ok (.ifCond .le 28, 3) := by decide +kernel
theorem dX7_casts_95 : decode cX7_casts 95 = .ok (.iload 5, 2) := by decide +kernel
theorem dX7_casts_97 : decode cX7_casts 97 = .ok (.iload 6, 2) := by decide +kernel
theorem dX7_casts_99 : decode cX7_casts 99 = .ok (.invokestatic 103, 3) := by decide +kernel
theorem dX7_casts_102 : decode cX7_casts 102 = .ok (.ifCond .eq 18, 3) := by decide +kernel
theorem dX7_casts_105 : decode cX7_casts 105 = .ok (.aload_n 0, 1) := by decide +kernel
theorem dX7_casts_106 : decode cX7_casts 106 = .ok (.iload_n 3, 1) := by decide +kernel
theorem dX7_casts_107 : decode cX7_casts 107 = .ok (.bipush 8, 2) := by decide +kernel
theorem dX7_casts_109 : decode cX7_casts 109 = .ok (.iload 6, 2) := by decide +kernel
theorem dX7_casts_111 : decode cX7_casts 111 = .ok (.imul, 1) := by decide +kernel
theorem dX7_casts_112 : decode cX7_casts 112 = .ok (.iload 5, 2) := by decide +kernel
theorem dX7_casts_114 : decode cX7_casts 114 = .ok (.iadd, 1) := by decide +kernel
theorem dX7_casts_115 : decode cX7_casts 115 = .ok (.bipush 9, 2) := by decide +kernel
theorem dX7_casts_117 : decode cX7_casts 117 = .ok (.invokevirtual 82, 3) := by decide +kernel
theorem dX7_casts_120 : decode cX7_casts 120 = .ok (.iinc 4 1, 3) := by decide +kernel
theorem dX7_casts_123 : decode cX7_casts 123 = .ok (.goto (-66), 3) := by decide +kernel
theorem dX7_casts_126 : decode cX7_casts 126 = .ok (.aload_n 0, 1) := by decide +kernel
theorem dX7_casts_127 : decode cX7_casts 127 = .ok (.getfield 7, 3) := by decide +kernel
theorem dX7_casts_130 : decode cX7_casts 130 = .ok (.iconst 1, 1) := by decide +kernel
theorem dX7_casts_131 : decode cX7_casts 131 = .ok (.dup2, 1) := by decide +kernel
theorem dX7_casts_132 : decode cX7_casts 132 = .ok (.iaload, 1) := by decide +kernel
theorem dX7_casts_133 : decode cX7_casts 133 = .ok (.aload_n 0, 1) := by decide +kernel
theorem dX7_casts_134 : decode cX7_casts 134 = .ok (.iload_n 3, 1) := by decide +kernel
theorem dX7_casts_135 : decode cX7_casts 135 = .ok (.invokevirtual 114, 3) := by decide +kernel
theorem dX7_casts_138 : decode cX7_casts 138 = .ok (.iadd, 1) := by decide +kernel
theorem dX7_casts_139 : decode cX7_casts 139 = .ok (.iastore, 1) := by decide +kernel
theorem dX7_casts_140 : decode cX7_casts 140 = .ok (.aload_n 0, 1) := by decide +kernel
theorem dX7_casts_141 : decode cX7_casts 141 = .ok (.aload_n 0, 1) := by decide +kernel
theorem dX7_casts_142 : decode cX7_casts 142 = .ok (.iload_n 3, 1) := by decide +kernel
theorem dX7_casts_143 : decode cX7_casts 143 = .ok (.invokevirtual 114, 3) := by decide +kernel
theorem dX7_casts_146 : decode cX7_casts 146 = .ok (.invokevirtual 93, 3) := by decide +kernel
theorem dX7_casts_149 : decode cX7_casts 149 = .ok (.ireturn, 1) := by decide +kernel
theorem dX7_addLayer_0 : decode cX7_addLayer 0 = .ok (.aload_n 0, 1) := by decide +kernel
theorem dX7_addLayer_1 : decode cX7_addLayer 1 = .ok (.invokevirtual 117, 3) := by decide +kernel
theorem dX7_addLayer_4 : decode cX7_addLayer 4 = .ok (.aload_n 0, 1) := by decide +kernel
theorem dX7_addLayer_5 : decode cX7_addLayer 5 = .ok (.aload_n 0, 1) := by decide +kernel
theorem dX7_addLayer_6 : decode cX7_addLayer 6 = .ok (.iload_n 1, 1) := by decide +kernel
theorem dX7_addLayer_7 : decode cX7_addLayer 7 = .ok (.invokevirtual 120, 3) := by decide +kernel
theorem dX7_addLayer_10 : decode cX7_addLayer 10 = .ok (.invokevirtual 123, 3) := by decide +kernel
theorem dX7_addLayer_13 : decode cX7_addLayer 13 = .ok (.ireturn, 1) := by decide +kernel
theorem dX7_removeLayer_0 : decode cX7_removeLayer 0 = .ok (.aload_n 0, 1) := by decide +kernel
theorem dX7_removeLayer_1 : decode cX7_removeLayer 1 = .ok (.invokevirtual 117, 3) := by decide +kernel
theorem dX7_removeLayer_4 : decode cX7_removeLayer 4 = .ok (.aload_n 0, 1) := by decide +kernel
theorem dX7_removeLayer_5 : decode cX7_removeLayer 5 = .ok (.aload_n 0, 1) := by decide +kernel
theorem dX7_removeLayer_6 : decode cX7_removeLayer 6 = .ok (.iload_n 1, 1) := by decide +kernel
theorem dX7_removeLayer_7 : decode cX7_removeLayer 7 = .ok (.invokevirtual 126, 3) := by decide +kernel
theorem dX7_removeLayer_10 : decode cX7_removeLayer 10 = .ok (.invokevirtual 123, 3) := by decide +kernel
theorem dX7_removeLayer_13 : decode cX7_removeLayer 13 = .ok (.ireturn, 1) := by decide +kernel
theorem dX7_paint_0 : decode cX7_paint 0 = .ok (.aload_n 0, 1) := by decide +kernel
theorem dX7_paint_1 : decode cX7_paint 1 = .ok (.invokevirtual 117, 3) := by decide +kernel
theorem dX7_paint_4 : decode cX7_paint 4 = .ok (.aload_n 0, 1) := by decide +kernel
theorem dX7_paint_5 : decode cX7_paint 5 = .ok (.aload_n 0, 1) := by decide +kernel
theorem dX7_paint_6 : decode cX7_paint 6 = .ok (.iload_n 1, 1) := by decide +kernel
theorem dX7_paint_7 : decode cX7_paint 7 = .ok (.iload_n 2, 1) := by decide +kernel
theorem dX7_paint_8 : decode cX7_paint 8 = .ok (.iload_n 3, 1) := by decide +kernel
theorem dX7_paint_9 : decode cX7_paint 9 = .ok (.iload 4, 2) := by decide +kernel
theorem dX7_paint_11 : decode cX7_paint 11 = .ok (.iload 5, 2) := by decide +kernel
theorem dX7_paint_13 : decode cX7_paint 13 = .ok (.iload 6, 2) := by decide +kernel
theorem dX7_paint_15 : decode cX7_paint 15 = .ok (.invokevirtual 129, 3) := by decide +kernel
theorem dX7_paint_18 : decode cX7_paint 18 = .ok (.invokevirtual 123, 3) := by decide +kernel
theorem dX7_paint_21 : decode cX7_paint 21 = .ok (.ireturn, 1) := by decide +kernel
theorem dX7_erase_0 : decode cX7_erase 0 = .ok (.aload_n 0, 1) := by decide +kernel
theorem dX7_erase_1 : decode cX7_erase 1 = .ok (.invokevirtual 117, 3) := by decide +kernel
theorem dX7_erase_4 : decode cX7_erase 4 = .ok (.aload_n 0, 1) := by decide +kernel
theorem dX7_erase_5 : decode cX7_erase 5 = .ok (.aload_n 0, 1) := by decide +kernel
theorem dX7_erase_6 : decode cX7_erase 6 = .ok (.iload_n 1, 1) := by decide +kernel
theorem dX7_erase_7 : decode cX7_erase 7 = .ok (.iload_n 2, 1) := by decide +kernel
theorem dX7_erase_8 : decode cX7_erase 8 = .ok (.iload_n 3, 1) := by decide +kernel
theorem dX7_erase_9 : decode cX7_erase 9 = .ok (.iload 4, 2) := by decide +kernel
theorem dX7_erase_11 : decode cX7_erase 11 = .ok (.invokevirtual 133, 3) := by decide +kernel
theorem dX7_erase_14 : decode cX7_erase 14 = .ok (.invokevirtual 123, 3) := by decide +kernel
theorem dX7_erase_17 : decode cX7_erase 17 = .ok (.ireturn, 1) := by decide +kernel
theorem dX7_hide_0 : decode cX7_hide 0 = .ok (.aload_n 0, 1) := by decide +kernel
theorem dX7_hide_1 : decode cX7_hide 1 = .ok (.invokevirtual 117, 3) := by decide +kernel
theorem dX7_hide_4 : decode cX7_hide 4 = .ok (.aload_n 0, 1) := by decide +kernel
theorem dX7_hide_5 : decode cX7_hide 5 = .ok (.aload_n 0, 1) := by decide +kernel
theorem dX7_hide_6 : decode cX7_hide 6 = .ok (.iload_n 1, 1) := by decide +kernel
theorem dX7_hide_7 : decode cX7_hide 7 = .ok (.iconst 0, 1) := by decide +kernel
theorem dX7_hide_8 : decode cX7_hide 8 = .ok (.invokevirtual 137, 3) := by decide +kernel
theorem dX7_hide_11 : decode cX7_hide 11 = .ok (.invokevirtual 123, 3) := by decide +kernel
theorem dX7_hide_14 : decode cX7_hide 14 = .ok (.ireturn, 1) := by decide +kernel
theorem dX7_show_0 : decode cX7_show 0 = .ok (.aload_n 0, 1) := by decide +kernel
theorem dX7_show_1 : decode cX7_show 1 = .ok (.invokevirtual 117, 3) := by decide +kernel
theorem dX7_show_4 : decode cX7_show 4 = .ok (.aload_n 0, 1) := by decide +kernel
theorem dX7_show_5 : decode cX7_show 5 = .ok (.aload_n 0, 1) := by decide +kernel
theorem dX7_show_6 : decode cX7_show 6 = .ok (.iload_n 1, 1) := by decide +kernel
theorem dX7_show_7 : decode cX7_show 7 = .ok (.iconst 1, 1) := by decide +kernel
theorem dX7_show_8 : decode cX7_show 8 = .ok (.invokevirtual 137, 3) := by decide +kernel
theorem dX7_show_11 : decode cX7_show 11 = .ok (.invokevirtual 123, 3) := by decide +kernel
theorem dX7_show_14 : decode cX7_show 14 = .ok (.ireturn, 1) := by decide +kernel
theorem dX7_moveLayer_0 : decode cX7_moveLayer 0 = .ok (.aload_n 0, 1) := by decide +kernel
theorem dX7_moveLayer_1 : decode cX7_moveLayer 1 = .ok (.invokevirtual 117, 3) := by decide +kernel
theorem dX7_moveLayer_4 : decode cX7_moveLayer 4 = .ok (.aload_n 0, 1) := by decide +kernel
theorem dX7_moveLayer_5 : decode cX7_moveLayer 5 = .ok (.aload_n 0, 1) := by decide +kernel
theorem dX7_moveLayer_6 : decode cX7_moveLayer 6 = .ok (.iload_n 1, 1) := by decide +kernel
theorem dX7_moveLayer_7 : decode cX7_moveLayer 7 = .ok (.iload_n 2, 1) := by decide +kernel
theorem dX7_moveLayer_8 : decode cX7_moveLayer 8 = .ok (.invokevirtual 140, 3) := by decide +kernel
theorem dX7_moveLayer_11 : decode cX7_moveLayer 11 = .ok (.invokevirtual 123, 3) := by decide +kernel
theorem dX7_moveLayer_14 : decode cX7_moveLayer 14 = .ok (.ireturn, 1) := by decide +kernel
theorem dX7_mergeDown_0 : decode cX7_mergeDown 0 = .ok (.aload_n 0, 1) := by decide +kernel
theorem dX7_mergeDown_1 : decode cX7_mergeDown 1 = .ok (.invokevirtual 117, 3) := by decide +kernel
theorem dX7_mergeDown_4 : decode cX7_mergeDown 4 = .ok (.aload_n 0, 1) := by decide +kernel
theorem dX7_mergeDown_5 : decode cX7_mergeDown 5 = .ok (.aload_n 0, 1) := by decide +kernel
theorem dX7_mergeDown_6 : decode cX7_mergeDown 6 = .ok (.iload_n 1, 1) := by decide +kernel
theorem dX7_mergeDown_7 : decode cX7_mergeDown 7 = .ok (.invokevirtual 143, 3) := by decide +kernel
theorem dX7_mergeDown_10 : decode cX7_mergeDown 10 = .ok (.invokevirtual 123, 3) := by decide +kernel
theorem dX7_mergeDown_13 : decode cX7_mergeDown 13 = .ok (.ireturn, 1) := by decide +kernel
theorem dX7_castShadow_0 : decode cX7_castShadow 0 = .ok (.aload_n 0, 1) := by decide +kernel
theorem dX7_castShadow_1 : decode cX7_castShadow 1 = .ok (.invokevirtual 117, 3) := by decide +kernel
theorem dX7_castShadow_4 : decode cX7_castShadow 4 = .ok (.aload_n 0, 1) := by decide +kernel
theorem dX7_castShadow_5 : decode cX7_castShadow 5 = .ok (.aload_n 0, 1) := by decide +kernel
theorem dX7_castShadow_6 : decode cX7_castShadow 6 = .ok (.iload_n 1, 1) := by decide +kernel
theorem dX7_castShadow_7 : decode cX7_castShadow 7 = .ok (.iload_n 2, 1) := by decide +kernel
theorem dX7_castShadow_8 : decode cX7_castShadow 8 = .ok (.invokevirtual 146, 3) := by decide +kernel
theorem dX7_castShadow_11 : decode cX7_castShadow 11 = .ok (.invokevirtual 123, 3) := by decide +kernel
theorem dX7_castShadow_14 : decode cX7_castShadow 14 = .ok (.ireturn, 1) := by decide +kernel
theorem dX7_layerCount_0 : decode cX7_layerCount 0 = .ok (.aload_n 0, 1) := by decide +kernel
theorem dX7_layerCount_1 : decode cX7_layerCount 1 = .ok (.iconst 0, 1) := by decide +kernel
theorem dX7_layerCount_2 : decode cX7_layerCount 2 = .ok (.putfield 47, 3) := by decide +kernel
theorem dX7_layerCount_5 : decode cX7_layerCount 5 = .ok (.aload_n 0, 1) := by decide +kernel
theorem dX7_layerCount_6 : decode cX7_layerCount 6 = .ok (.getfield 7, 3) := by decide +kernel
theorem dX7_layerCount_9 : decode cX7_layerCount 9 = .ok (.iconst 0, 1) := by decide +kernel
theorem dX7_layerCount_10 : decode cX7_layerCount 10 = .ok (.iaload, 1) := by decide +kernel
theorem dX7_layerCount_11 : decode cX7_layerCount 11 = .ok (.ireturn, 1) := by decide +kernel
theorem dX7_mode_0 : decode cX7_mode 0 = .ok (.aload_n 0, 1) := by decide +kernel
theorem dX7_mode_1 : decode cX7_mode 1 = .ok (.aload_n 0, 1) := by decide +kernel
theorem dX7_mode_2 : decode cX7_mode 2 = .ok (.iload_n 1, 1) := by decide +kernel
theorem dX7_mode_3 : decode cX7_mode 3 = .ok (.invokevirtual 96, 3) := by decide +kernel
theorem dX7_mode_6 : decode cX7_mode 6 = .ok (.ifCond .eq 7, 3) := by decide +kernel
theorem dX7_mode_9 : decode cX7_mode 9 = .ok (.iconst 0, 1) := by decide +kernel
theorem dX7_mode_10 : decode cX7_mode 10 = .ok (.goto 4, 3) := by decide +kernel
theorem dX7_mode_13 : decode cX7_mode 13 = .ok (.iconst 1, 1) := by decide +kernel
theorem dX7_mode_14 : decode cX7_mode 14 = .ok (.putfield 47, 3) := by decide +kernel
theorem dX7_mode_17 : decode cX7_mode 17 = .ok (.aload_n 0, 1) := by decide +kernel
theorem dX7_mode_18 : decode cX7_mode 18 = .ok (.getfield 47, 3) := by decide +kernel
theorem dX7_mode_21 : decode cX7_mode 21 = .ok (.ifCond .le 7, 3) := by decide +kernel
theorem dX7_mode_24 : decode cX7_mode 24 = .ok (.iconst 0, 1) := by decide +kernel
theorem dX7_mode_25 : decode cX7_mode 25 = .ok (.goto 9, 3) := by decide +kernel
theorem dX7_mode_28 : decode cX7_mode 28 = .ok (.aload_n 0, 1) := by decide +kernel
theorem dX7_mode_29 : decode cX7_mode 29 = .ok (.iload_n 1, 1) := by decide +kernel
theorem dX7_mode_30 : decode cX7_mode 30 = .ok (.invokevirtual 75, 3) := by decide +kernel
theorem dX7_mode_33 : decode cX7_mode 33 = .ok (.i2c, 1) := by decide +kernel
theorem dX7_mode_34 : decode cX7_mode 34 = .ok (.ireturn, 1) := by decide +kernel
theorem dX7_isVisible_0 : decode cX7_isVisible 0 = .ok (.aload_n 0, 1) := by decide +kernel
theorem dX7_isVisible_1 : decode cX7_isVisible 1 = .ok (.aload_n 0, 1) := by decide +kernel
theorem dX7_isVisible_2 : decode cX7_isVisible 2 = .ok (.iload_n 1, 1) := by decide +kernel
theorem dX7_isVisible_3 : decode cX7_isVisible 3 = .ok (.invokevirtual 96, 3) := by decide +kernel
theorem dX7_isVisible_6 : decode cX7_isVisible 6 = .ok (.ifCond .eq 7, 3) := by decide +kernel
theorem dX7_isVisible_9 : decode cX7_isVisible 9 = .ok (.iconst 0, 1) := by decide +kernel
theorem dX7_isVisible_10 : decode cX7_isVisible 10 = .ok (.goto 4, 3) := by decide +kernel
theorem dX7_isVisible_13 : decode cX7_isVisible 13 = .ok (.iconst 1, 1) := by decide +kernel
theorem dX7_isVisible_14 : decode cX7_isVisible 14 = .ok (.putfield 47, 3) := by decide +kernel
theorem dX7_isVisible_17 : decode cX7_isVisible 17 = .ok (.aload_n 0, 1) := by decide +kernel
theorem dX7_isVisible_18 : decode cX7_isVisible 18 = .ok (.getfield 47, 3) := by decide +kernel
theorem dX7_isVisible_21 : decode cX7_isVisible 21 = .ok (.ifCond .ne 15, 3) := by decide +kernel
theorem dX7_isVisible_24 : decode cX7_isVisible 24 = .ok (.aload_n 0, 1) := by decide +kernel
theorem dX7_isVisible_25 : decode cX7_isVisible 25 = .ok (.iload_n 1, 1) := by decide +kernel
theorem dX7_isVisible_26 : decode cX7_isVisible 26 = .ok (.invokevirtual 71, 3) := by decide +kernel
theorem dX7_isVisible_29 : decode cX7_isVisible 29 = .ok (.ifCond .eq 7, 3) := by decide +kernel
theorem dX7_isVisible_32 : decode cX7_isVisible 32 = .ok (.iconst 1, 1) := by decide +kernel
theorem dX7_isVisible_33 : decode cX7_isVisible 33 = .ok (.goto 4, 3) := by decide +kernel
theorem dX7_isVisible_36 : decode cX7_isVisible 36 = .ok (.iconst 0, 1) := by decide +kernel
theorem dX7_isVisible_37 : decode cX7_isVisible 37 = .ok (.ireturn, 1) := by decide +kernel
theorem dX7_hasTone_0 : decode cX7_hasTone 0 = .ok (.aload_n 0, 1) := by decide +kernel
theorem dX7_hasTone_1 : decode cX7_hasTone 1 = .ok (.aload_n 0, 1) := by decide +kernel
theorem dX7_hasTone_2 : decode cX7_hasTone 2 = .ok (.iload_n 1, 1) := by decide +kernel
theorem dX7_hasTone_3 : decode cX7_hasTone 3 = .ok (.invokevirtual 96, 3) := by decide +kernel
theorem dX7_hasTone_6 : decode cX7_hasTone 6 = .ok (.ifCond .eq 15, 3) := by decide +kernel
theorem dX7_hasTone_9 : decode cX7_hasTone 9 = .ok (.iload_n 2, 1) := by decide +kernel
theorem dX7_hasTone_10 : decode cX7_hasTone 10 = .ok (.iload_n 3, 1) := by decide +kernel
theorem dX7_hasTone_11 : decode cX7_hasTone 11 = .ok (.invokestatic 103, 3) := by decide +kernel
theorem dX7_hasTone_14 : decode cX7_hasTone 14 = .ok (.ifCond .eq 7, 3) := by decide +kernel
theorem dX7_hasTone_17 : decode cX7_hasTone 17 = .ok (.iconst 0, 1) := by decide +kernel
theorem dX7_hasTone_18 : decode cX7_hasTone 18 = .ok (.goto 4, 3) := by decide +kernel
theorem dX7_hasTone_21 : decode cX7_hasTone 21 = .ok (.iconst 1, 1) := by decide +kernel
theorem dX7_hasTone_22 : decode cX7_hasTone 22 = .ok (.putfield 47, 3) := by decide +kernel
theorem dX7_hasTone_25 : decode cX7_hasTone 25 = .ok (.aload_n 0, 1) := by decide +kernel
theorem dX7_hasTone_26 : decode cX7_hasTone 26 = .ok (.getfield 47, 3) := by decide +kernel
theorem dX7_hasTone_29 : decode cX7_hasTone 29 = .ok (.ifCond .ne 21, 3) := by decide +kernel
theorem dX7_hasTone_32 : decode cX7_hasTone 32 = .ok (.aload_n 0, 1) := by decide +kernel
theorem dX7_hasTone_33 : decode cX7_hasTone 33 = .ok (.iload_n 1, 1) := by decide +kernel
theorem dX7_hasTone_34 : decode cX7_hasTone 34 = .ok (.bipush 8, 2) := by decide +kernel
theorem dX7_hasTone_36 : decode cX7_hasTone 36 = .ok (.iload_n 3, 1) := by decide +kernel
theorem dX7_hasTone_37 : decode cX7_hasTone 37 = .ok (.imul, 1) := by decide +kernel
theorem dX7_hasTone_38 : decode cX7_hasTone 38 = .ok (.iload_n 2, 1) := by decide +kernel
theorem dX7_hasTone_39 : decode cX7_hasTone 39 = .ok (.iadd, 1) := by decide +kernel
theorem dX7_hasTone_40 : decode cX7_hasTone 40 = .ok (.invokevirtual 67, 3) := by decide +kernel
theorem dX7_hasTone_43 : decode cX7_hasTone 43 = .ok (.ifCond .le 7, 3) := by decide +kernel
theorem dX7_hasTone_46 : decode cX7_hasTone 46 = .ok (.iconst 1, 1) := by decide +kernel
theorem dX7_hasTone_47 : decode cX7_hasTone 47 = .ok (.goto 4, 3) := by decide +kernel
theorem dX7_hasTone_50 : decode cX7_hasTone 50 = .ok (.iconst 0, 1) := by decide +kernel
theorem dX7_hasTone_51 : decode cX7_hasTone 51 = .ok (.ireturn, 1) := by decide +kernel
theorem dX7_tone_0 : decode cX7_tone 0 = .ok (.aload_n 0, 1) := by decide +kernel
theorem dX7_tone_1 : decode cX7_tone 1 = .ok (.aload_n 0, 1) := by decide +kernel
theorem dX7_tone_2 : decode cX7_tone 2 = .ok (.iload_n 1, 1) := by decide +kernel
theorem dX7_tone_3 : decode cX7_tone 3 = .ok (.invokevirtual 96, 3) := by decide +kernel
theorem dX7_tone_6 : decode cX7_tone 6 = .ok (.ifCond .eq 11, 3) := by decide +kernel
theorem dX7_tone_9 : decode cX7_tone 9 = .ok (.iload_n 2, 1) := by decide +kernel
theorem dX7_tone_10 : decode cX7_tone 10 = .ok (.iload_n 3, 1) := by decide +kernel
theorem dX7_tone_11 : decode cX7_tone 11 = .ok (.invokestatic 103, 3) := by decide +kernel
theorem dX7_tone_14 : decode cX7_tone 14 = .ok (.ifCond .ne 7, 3) := by decide +kernel
theorem dX7_tone_17 : decode cX7_tone 17 = .ok (.iconst 1, 1) := by decide +kernel
theorem dX7_tone_18 : decode cX7_tone 18 = .ok (.goto 22, 3) := by decide +kernel
theorem dX7_tone_21 : decode cX7_tone 21 = .ok (.aload_n 0, 1) := by decide +kernel
theorem dX7_tone_22 : decode cX7_tone 22 = .ok (.iload_n 1, 1) := by decide +kernel
theorem dX7_tone_23 : decode cX7_tone 23 = .ok (.bipush 8, 2) := by decide +kernel
theorem dX7_tone_25 : decode cX7_tone 25 = .ok (.iload_n 3, 1) := by decide +kernel
theorem dX7_tone_26 : decode cX7_tone 26 = .ok (.imul, 1) := by decide +kernel
theorem dX7_tone_27 : decode cX7_tone 27 = .ok (.iload_n 2, 1) := by decide +kernel
theorem dX7_tone_28 : decode cX7_tone 28 = .ok (.iadd, 1) := by decide +kernel
theorem dX7_tone_29 : decode cX7_tone 29 = .ok (.invokevirtual 67, 3) := by decide +kernel
theorem dX7_tone_32 : decode cX7_tone 32 = .ok (.ifCond .ne 7, 3) := by decide +kernel
theorem dX7_tone_35 : decode cX7_tone 35 = .ok (.iconst 2, 1) := by decide +kernel
theorem dX7_tone_36 : decode cX7_tone 36 = .ok (.goto 4, 3) := by decide +kernel
theorem dX7_tone_39 : decode cX7_tone 39 = .ok (.iconst 0, 1) := by decide +kernel
theorem dX7_tone_40 : decode cX7_tone 40 = .ok (.putfield 47, 3) := by decide +kernel
theorem dX7_tone_43 : decode cX7_tone 43 = .ok (.aload_n 0, 1) := by decide +kernel
theorem dX7_tone_44 : decode cX7_tone 44 = .ok (.getfield 47, 3) := by decide +kernel
theorem dX7_tone_47 : decode cX7_tone 47 = .ok (.ifCond .le 7, 3) := by decide +kernel
theorem dX7_tone_50 : decode cX7_tone 50 = .ok (.iconst 0, 1) := by decide +kernel
theorem dX7_tone_51 : decode cX7_tone 51 = .ok (.goto 16, 3) := by decide +kernel
theorem dX7_tone_54 : decode cX7_tone 54 = .ok (.aload_n 0, 1) := by decide +kernel
theorem dX7_tone_55 : decode cX7_tone 55 = .ok (.iload_n 1, 1) := by decide +kernel
theorem dX7_tone_56 : decode cX7_tone 56 = .ok (.bipush 8, 2) := by decide +kernel
theorem dX7_tone_58 : decode cX7_tone 58 = .ok (.iload_n 3, 1) := by decide +kernel
theorem dX7_tone_59 : decode cX7_tone 59 = .ok (.imul, 1) := by decide +kernel
theorem dX7_tone_60 : decode cX7_tone 60 = .ok (.iload_n 2, 1) := by decide +kernel
theorem dX7_tone_61 : decode cX7_tone 61 = .ok (.iadd, 1) := by decide +kernel
theorem dX7_tone_62 : decode cX7_tone 62 = .ok (.invokevirtual 67, 3) := by decide +kernel
theorem dX7_tone_65 : decode cX7_tone 65 = .ok (.iconst 1, 1) := by decide +kernel
theorem dX7_tone_66 : decode cX7_tone 66 = .ok (.isub, 1) := by decide +kernel
theorem dX7_tone_67 : decode cX7_tone 67 = .ok (.ireturn, 1) := by decide +kernel
theorem dX7_painted_0 : decode cX7_painted 0 = .ok (.aload_n 0, 1) := by decide +kernel
theorem dX7_painted_1 : decode cX7_painted 1 = .ok (.aload_n 0, 1) := by decide +kernel
theorem dX7_painted_2 : decode cX7_painted 2 = .ok (.iload_n 1, 1) := by decide +kernel
theorem dX7_painted_3 : decode cX7_painted 3 = .ok (.invokevirtual 96, 3) := by decide +kernel
theorem dX7_painted_6 : decode cX7_painted 6 = .ok (.ifCond .eq 7, 3) := by decide +kernel
theorem dX7_painted_9 : decode cX7_painted 9 = .ok (.iconst 0, 1) := by decide +kernel
theorem dX7_painted_10 : decode cX7_painted 10 = .ok (.goto 4, 3) := by decide +kernel
theorem dX7_painted_13 : decode cX7_painted 13 = .ok (.iconst 1, 1) := by decide +kernel
theorem dX7_painted_14 : decode cX7_painted 14 = .ok (.putfield 47, 3) := by decide +kernel
theorem dX7_painted_17 : decode cX7_painted 17 = .ok (.aload_n 0, 1) := by decide +kernel
theorem dX7_painted_18 : decode cX7_painted 18 = .ok (.getfield 47, 3) := by decide +kernel
theorem dX7_painted_21 : decode cX7_painted 21 = .ok (.ifCond .le 7, 3) := by decide +kernel
theorem dX7_painted_24 : decode cX7_painted 24 = .ok (.iconst 0, 1) := by decide +kernel
theorem dX7_painted_25 : decode cX7_painted 25 = .ok (.goto 8, 3) := by decide +kernel
theorem dX7_painted_28 : decode cX7_painted 28 = .ok (.aload_n 0, 1) := by decide +kernel
theorem dX7_painted_29 : decode cX7_painted 29 = .ok (.iload_n 1, 1) := by decide +kernel
theorem dX7_painted_30 : decode cX7_painted 30 = .ok (.invokevirtual 114, 3) := by decide +kernel
theorem dX7_painted_33 : decode cX7_painted 33 = .ok (.ireturn, 1) := by decide +kernel
theorem dX7_visibleCount_0 : decode cX7_visibleCount 0 = .ok (.aload_n 0, 1) := by decide +kernel
theorem dX7_visibleCount_1 : decode cX7_visibleCount 1 = .ok (.iconst 0, 1) := by decide +kernel
theorem dX7_visibleCount_2 : decode cX7_visibleCount 2 = .ok (.putfield 47, 3) := by decide +kernel
theorem dX7_visibleCount_5 : decode cX7_visibleCount 5 = .ok (.aload_n 0, 1) := by decide +kernel
theorem dX7_visibleCount_6 : decode cX7_visibleCount 6 = .ok (.invokevirtual 107, 3) := by decide +kernel
theorem dX7_visibleCount_9 : decode cX7_visibleCount 9 = .ok (.ireturn, 1) := by decide +kernel
theorem dX7_seen_0 : decode cX7_seen 0 = .ok (.aload_n 0, 1) := by decide +kernel
theorem dX7_seen_1 : decode cX7_seen 1 = .ok (.iload_n 1, 1) := by decide +kernel
theorem dX7_seen_2 : decode cX7_seen 2 = .ok (.iload_n 2, 1) := by decide +kernel
theorem dX7_seen_3 : decode cX7_seen 3 = .ok (.invokestatic 103, 3) := by decide +kernel
theorem dX7_seen_6 : decode cX7_seen 6 = .ok (.ifCond .eq 7, 3) := by decide +kernel
theorem dX7_seen_9 : decode cX7_seen 9 = .ok (.iconst 0, 1) := by decide +kernel
theorem dX7_seen_10 : decode cX7_seen 10 = .ok (.goto 4, 3) := by decide +kernel
theorem dX7_seen_13 : decode cX7_seen 13 = .ok (.iconst 1, 1) := by decide +kernel
theorem dX7_seen_14 : decode cX7_seen 14 = .ok (.putfield 47, 3) := by decide +kernel
theorem dX7_seen_17 : decode cX7_seen 17 = .ok (.aload_n 0, 1) := by decide +kernel
theorem dX7_seen_18 : decode cX7_seen 18 = .ok (.getfield 47, 3) := by decide +kernel
theorem dX7_seen_21 : decode cX7_seen 21 = .ok (.ifCond .le 7, 3) := by decide +kernel
theorem dX7_seen_24 : decode cX7_seen 24 = .ok (.iconst 0, 1) := by decide +kernel
theorem dX7_seen_25 : decode cX7_seen 25 = .ok (.goto 13, 3) := by decide +kernel
theorem dX7_seen_28 : decode cX7_seen 28 = .ok (.aload_n 0, 1) := by decide +kernel
theorem dX7_seen_29 : decode cX7_seen 29 = .ok (.bipush 8, 2) := by decide +kernel
theorem dX7_seen_31 : decode cX7_seen 31 = .ok (.iload_n 2, 1) := by decide +kernel
theorem dX7_seen_32 : decode cX7_seen 32 = .ok (.imul, 1) := by decide +kernel
theorem dX7_seen_33 : decode cX7_seen 33 = .ok (.iload_n 1, 1) := by decide +kernel
theorem dX7_seen_34 : decode cX7_seen 34 = .ok (.iadd, 1) := by decide +kernel
theorem dX7_seen_35 : decode cX7_seen 35 = .ok (.invokevirtual 111, 3) := by decide +kernel
theorem dX7_seen_38 : decode cX7_seen 38 = .ok (.ireturn, 1) := by decide +kernel
theorem dX7_seenFromTop_0 : decode cX7_seenFromTop 0 = .ok (.aload_n 0, 1) := by decide +kernel
theorem dX7_seenFromTop_1 : decode cX7_seenFromTop 1 = .ok (.iload_n 1, 1) := by decide +kernel
theorem dX7_seenFromTop_2 : decode cX7_seenFromTop 2 = .ok (.iload_n 2, 1) := by decide +kernel
theorem dX7_seenFromTop_3 : decode cX7_seenFromTop 3 = .ok (.invokevirtual 149, 3) := by decide +kernel
theorem dX7_seenFromTop_6 : decode cX7_seenFromTop 6 = .ok (.ireturn, 1) := by decide +kernel
theorem dX7_top_0 : decode cX7_top 0 = .ok (.aload_n 0, 1) := by decide +kernel
theorem dX7_top_1 : decode cX7_top 1 = .ok (.getfield 7, 3) := by decide +kernel
theorem dX7_top_4 : decode cX7_top 4 = .ok (.iconst 0, 1) := by decide +kernel
theorem dX7_top_5 : decode cX7_top 5 = .ok (.iaload, 1) := by decide +kernel
theorem dX7_top_6 : decode cX7_top 6 = .ok (.iconst 1, 1) := by decide +kernel
theorem dX7_top_7 : decode cX7_top 7 = .ok (.isub, 1) := by decide +kernel
theorem dX7_top_8 : decode cX7_top 8 = .ok (.istore_n 2, 1) := by decide +kernel
theorem dX7_top_9 : decode cX7_top 9 = .ok (.iload_n 2, 1) := by decide +kernel
theorem dX7_top_10 : decode cX7_top 10 = .ok (.ifCond .lt 28, 3) := by decide +kernel
theorem dX7_top_13 : decode cX7_top 13 = .ok (.aload_n 0, 1) := by decide +kernel
theorem dX7_top_14 : decode cX7_top 14 = .ok (.iload_n 2, 1) := by decide +kernel
theorem dX7_top_15 : decode cX7_top 15 = .ok (.invokevirtual 71, 3) := by decide +kernel
theorem dX7_top_18 : decode cX7_top 18 = .ok (.ifCond .eq 14, 3) := by decide +kernel
theorem dX7_top_21 : decode cX7_top 21 = .ok (.aload_n 0, 1) := by decide +kernel
theorem dX7_top_22 : decode cX7_top 22 = .ok (.iload_n 2, 1) := by decide +kernel
theorem dX7_top_23 : decode cX7_top 23 = .ok (.iload_n 1, 1) := by decide +kernel
theorem dX7_top_24 : decode cX7_top 24 = .ok (.invokevirtual 67, 3) := by decide +kernel
theorem dX7_top_27 : decode cX7_top 27 = .ok (.ifCond .le 5, 3) := by decide +kernel
theorem dX7_top_30 : decode cX7_top 30 = .ok (.iload_n 2, 1) := by decide +kernel
theorem dX7_top_31 : decode cX7_top 31 = .ok (.ireturn, 1) := by decide +kernel
theorem dX7_top_32 : decode cX7_top 32 = .ok (.iinc 2 (-1), 3) := by decide +kernel
theorem dX7_top_35 : decode cX7_top 35 = .ok (.goto (-26), 3) := by decide +kernel
theorem dX7_top_38 : decode cX7_top 38 = .ok (.iconst (-1), 1) := by decide +kernel
theorem dX7_top_39 : decode cX7_top 39 = .ok (.ireturn, 1) := by decide +kernel
theorem dX7_topLayer_0 : decode cX7_topLayer 0 = .ok (.aload_n 0, 1) := by decide +kernel
theorem dX7_topLayer_1 : decode cX7_topLayer 1 = .ok (.iload_n 1, 1) := by decide +kernel
theorem dX7_topLayer_2 : decode cX7_topLayer 2 = .ok (.iload_n 2, 1) := by decide +kernel
theorem dX7_topLayer_3 : decode cX7_topLayer 3 = .ok (.invokestatic 103, 3) := by decide +kernel
theorem dX7_topLayer_6 : decode cX7_topLayer 6 = .ok (.ifCond .ne 7, 3) := by decide +kernel
theorem dX7_topLayer_9 : decode cX7_topLayer 9 = .ok (.iconst 1, 1) := by decide +kernel
theorem dX7_topLayer_10 : decode cX7_topLayer 10 = .ok (.goto 22, 3) := by decide +kernel
theorem dX7_topLayer_13 : decode cX7_topLayer 13 = .ok (.aload_n 0, 1) := by decide +kernel
theorem dX7_topLayer_14 : decode cX7_topLayer 14 = .ok (.bipush 8, 2) := by decide +kernel
theorem dX7_topLayer_16 : decode cX7_topLayer 16 = .ok (.iload_n 2, 1) := by decide +kernel
theorem dX7_topLayer_17 : decode cX7_topLayer 17 = .ok (.imul, 1) := by decide +kernel
theorem dX7_topLayer_18 : decode cX7_topLayer 18 = .ok (.iload_n 1, 1) := by decide +kernel
theorem dX7_topLayer_19 : decode cX7_topLayer 19 = .ok (.iadd, 1) := by decide +kernel
theorem dX7_topLayer_20 : decode cX7_topLayer 20 = .ok (.invokevirtual 152, 3) := by decide +kernel
theorem dX7_topLayer_23 : decode cX7_topLayer 23 = .ok (.iconst (-1), 1) := by decide +kernel
theorem dX7_topLayer_24 : decode cX7_topLayer 24 = .ok (.if_icmp .ne 7, 3) := by decide +kernel
theorem dX7_topLayer_27 : decode cX7_topLayer 27 = .ok (.iconst 2, 1) := by decide +kernel
theorem dX7_topLayer_28 : decode cX7_topLayer 28 = .ok (.goto 4, 3) := by decide +kernel
theorem dX7_topLayer_31 : decode cX7_topLayer 31 = .ok (.iconst 0, 1) := by decide +kernel
theorem dX7_topLayer_32 : decode cX7_topLayer 32 = .ok (.putfield 47, 3) := by decide +kernel
theorem dX7_topLayer_35 : decode cX7_topLayer 35 = .ok (.aload_n 0, 1) := by decide +kernel
theorem dX7_topLayer_36 : decode cX7_topLayer 36 = .ok (.getfield 47, 3) := by decide +kernel
theorem dX7_topLayer_39 : decode cX7_topLayer 39 = .ok (.ifCond .le 7, 3) := by decide +kernel
theorem dX7_topLayer_42 : decode cX7_topLayer 42 = .ok (.iconst 0, 1) := by decide +kernel
theorem dX7_topLayer_43 : decode cX7_topLayer 43 = .ok (.goto 13, 3) := by decide +kernel
theorem dX7_topLayer_46 : decode cX7_topLayer 46 = .ok (.aload_n 0, 1) := by decide +kernel
theorem dX7_topLayer_47 : decode cX7_topLayer 47 = .ok (.bipush 8, 2) := by decide +kernel
theorem dX7_topLayer_49 : decode cX7_topLayer 49 = .ok (.iload_n 2, 1) := by decide +kernel
theorem dX7_topLayer_50 : decode cX7_topLayer 50 = .ok (.imul, 1) := by decide +kernel
theorem dX7_topLayer_51 : decode cX7_topLayer 51 = .ok (.iload_n 1, 1) := by decide +kernel
theorem dX7_topLayer_52 : decode cX7_topLayer 52 = .ok (.iadd, 1) := by decide +kernel
theorem dX7_topLayer_53 : decode cX7_topLayer 53 = .ok (.invokevirtual 152, 3) := by decide +kernel
theorem dX7_topLayer_56 : decode cX7_topLayer 56 = .ok (.ireturn, 1) := by decide +kernel
theorem dX7_coveringLayers_0 : decode cX7_coveringLayers 0 = .ok (.aload_n 0, 1) := by decide +kernel
theorem dX7_coveringLayers_1 : decode cX7_coveringLayers 1 = .ok (.iload_n 1, 1) := by decide +kernel
theorem dX7_coveringLayers_2 : decode cX7_coveringLayers 2 = .ok (.iload_n 2, 1) := by decide +kernel
theorem dX7_coveringLayers_3 : decode cX7_coveringLayers 3 = .ok (.invokestatic 103, 3) := by decide +kernel
theorem dX7_coveringLayers_6 : decode cX7_coveringLayers 6 = .ok (.ifCond .eq 7, 3) := by decide +kernel
theorem dX7_coveringLayers_9 : decode cX7_coveringLayers 9 = .ok (.iconst 0, 1) := by decide +kernel
theorem dX7_coveringLayers_10 : decode cX7_coveringLayers 10 = .ok (.goto 4, 3) := by decide +kernel
theorem dX7_coveringLayers_13 : decode cX7_coveringLayers 13 = .ok (.iconst 1, 1) := by decide +kernel
theorem dX7_coveringLayers_14 : decode cX7_coveringLayers 14 = .ok (.putfield 47, 3) := by decide +kernel
theorem dX7_coveringLayers_17 : decode cX7_coveringLayers 17 = .ok (.iconst 0, 1) := by decide +kernel
theorem dX7_coveringLayers_18 : decode cX7_coveringLayers 18 = .ok (.istore_n 3, 1) := by decide +kernel
theorem dX7_coveringLayers_19 : decode cX7_coveringLayers 19 = .ok (.iconst 0, 1) := by decide +kernel
theorem dX7_coveringLayers_20 : decode cX7_coveringLayers 20 = .ok (.istore 4, 2) := by decide +kernel
theorem dX7_coveringLayers_22 : decode cX7_coveringLayers 22 = .ok (.iload 4, 2) := by decide +kernel
theorem dX7_coveringLayers_24 : decode cX7_coveringLayers 24 = .ok (.aload_n 0, 1) := by decide +kernel
theorem dX7_coveringLayers_25 : decode cX7_coveringLayers 25 = .ok (.getfield 7, 3) := by decide +kernel
theorem dX7_coveringLayers_28 : decode cX7_coveringLayers 28 = .ok (.iconst 0, 1) := by decide +kernel
theorem dX7_coveringLayers_29 : decode cX7_coveringLayers 29 = .ok (.iaload, 1) := by decide +kernel
theorem dX7_coveringLayers_30 : decode cX7_coveringLayers 30 = .ok (.if_icmp .ge 48, 3) := by decide +kernel
theorem dX7_coveringLayers_33 : decode cX7_coveringLayers 33 = .ok (.aload_n 0, 1) := by decide +kernel
theorem dX7_coveringLayers_34 : decode cX7_coveringLayers 34 = .ok (.getfield 47, 3) := by decide +kernel
theorem dX7_coveringLayers_37 : decode cX7_coveringLayers 37 = .ok (.ifCond .ne 41, 3) := by decide +kernel
theorem dX7_coveringLayers_40 : decode cX7_coveringLayers 40 = .ok (.iload_n 3, 1) := by decide +kernel
theorem dX7_coveringLayers_41 : decode cX7_coveringLayers 41 = .ok (.aload_n 0, 1) := by decide +kernel
theorem dX7_coveringLayers_42 : decode cX7_coveringLayers 42 = .ok (.iload 4, 2) := by decide +kernel
theorem dX7_coveringLayers_44 : decode cX7_coveringLayers 44 = .ok (.invokevirtual 71, 3) := by decide +kernel
theorem dX7_coveringLayers_47 : decode cX7_coveringLayers 47 = .ok (.ifCond .eq 22, 3) := by decide +kernel
theorem dX7_coveringLayers_50 : decode cX7_coveringLayers 50 = .ok (.aload_n 0, 1) := by decide +kernel
theorem dX7_coveringLayers_51 : decode cX7_coveringLayers 51 = .ok (.iload 4, 2) := by decide +kernel
theorem dX7_coveringLayers_53 : decode cX7_coveringLayers 53 = .ok (.bipush 8, 2) := by decide +kernel
theorem dX7_coveringLayers_55 : decode cX7_coveringLayers 55 = .ok (.iload_n 2, 1) := by decide +kernel
theorem dX7_coveringLayers_56 : decode cX7_coveringLayers 56 = .ok (.imul, 1) := by decide +kernel
theorem dX7_coveringLayers_57 : decode cX7_coveringLayers 57 = .ok (.iload_n 1, 1) := by decide +kernel
theorem dX7_coveringLayers_58 : decode cX7_coveringLayers 58 = .ok (.iadd, 1) := by decide +kernel
theorem dX7_coveringLayers_59 : decode cX7_coveringLayers 59 = .ok (.invokevirtual 67, 3) := by decide +kernel
theorem dX7_coveringLayers_62 : decode cX7_coveringLayers 62 = .ok (.ifCond .le 7, 3) := by decide +kernel
theorem dX7_coveringLayers_65 : decode cX7_coveringLayers 65 = .ok (.iconst 1, 1) := by decide +kernel
theorem dX7_coveringLayers_66 : decode cX7_coveringLayers 66 = .ok (.goto 4, 3) := by decide +kernel
theorem dX7_coveringLayers_69 : decode cX7_coveringLayers 69 = .ok (.iconst 0, 1) := by decide +kernel
theorem dX7_coveringLayers_70 : decode cX7_coveringLayers 70 = .ok (.iadd, 1) := by decide +kernel
theorem dX7_coveringLayers_71 : decode cX7_coveringLayers 71 = .ok (.istore_n 3, 1) := by decide +kernel
theorem dX7_coveringLayers_72 : decode cX7_coveringLayers 72 = .ok (.iinc 4 1, 3) := by decide +kernel
theorem dX7_coveringLayers_75 : decode cX7_coveringLayers 75 = .ok (.goto (-53), 3) := by decide +kernel
theorem dX7_coveringLayers_78 : decode cX7_coveringLayers 78 = .ok (.iload_n 3, 1) := by decide +kernel
theorem dX7_coveringLayers_79 : decode cX7_coveringLayers 79 = .ok (.ireturn, 1) := by decide +kernel
theorem dX7_cellsOf_0 : decode cX7_cellsOf 0 = .ok (.iconst 0, 1) := by decide +kernel
theorem dX7_cellsOf_1 : decode cX7_cellsOf 1 = .ok (.istore_n 2, 1) := by decide +kernel
theorem dX7_cellsOf_2 : decode cX7_cellsOf 2 = .ok (.iconst 0, 1) := by decide +kernel
theorem dX7_cellsOf_3 : decode cX7_cellsOf 3 = .ok (.istore_n 3, 1) := by decide +kernel
theorem dX7_cellsOf_4 : decode cX7_cellsOf 4 = .ok (.iload_n 3, 1) := by decide +kernel
theorem dX7_cellsOf_5 : decode cX7_cellsOf 5 = .ok (.bipush 48, 2) := by decide +kernel
theorem dX7_cellsOf_7 : decode cX7_cellsOf 7 = .ok (.if_icmp .ge 26, 3) := by decide +kernel
theorem dX7_cellsOf_10 : decode cX7_cellsOf 10 = .ok (.iload_n 2, 1) := by decide +kernel
theorem dX7_cellsOf_11 : decode cX7_cellsOf 11 = .ok (.aload_n 0, 1) := by decide +kernel
theorem dX7_cellsOf_12 : decode cX7_cellsOf 12 = .ok (.iload_n 3, 1) := by decide +kernel
theorem dX7_cellsOf_13 : decode cX7_cellsOf 13 = .ok (.invokevirtual 111, 3) := by decide +kernel
theorem dX7_cellsOf_16 : decode cX7_cellsOf 16 = .ok (.iload_n 1, 1) := by decide +kernel
theorem dX7_cellsOf_17 : decode cX7_cellsOf 17 = .ok (.if_icmp .ne 7, 3) := by decide +kernel
theorem dX7_cellsOf_20 : decode cX7_cellsOf 20 = .ok (.iconst 1, 1) := by decide +kernel
theorem dX7_cellsOf_21 : decode cX7_cellsOf 21 = .ok (.goto 4, 3) := by decide +kernel
theorem dX7_cellsOf_24 : decode cX7_cellsOf 24 = .ok (.iconst 0, 1) := by decide +kernel
theorem dX7_cellsOf_25 : decode cX7_cellsOf 25 = .ok (.iadd, 1) := by decide +kernel
theorem dX7_cellsOf_26 : decode cX7_cellsOf 26 = .ok (.istore_n 2, 1) := by decide +kernel
theorem dX7_cellsOf_27 : decode cX7_cellsOf 27 = .ok (.iinc 3 1, 3) := by decide +kernel
theorem dX7_cellsOf_30 : decode cX7_cellsOf 30 = .ok (.goto (-26), 3) := by decide +kernel
theorem dX7_cellsOf_33 : decode cX7_cellsOf 33 = .ok (.iload_n 2, 1) := by decide +kernel
theorem dX7_cellsOf_34 : decode cX7_cellsOf 34 = .ok (.ireturn, 1) := by decide +kernel
theorem dX7_cellsWithTone_0 : decode cX7_cellsWithTone 0 = .ok (.aload_n 0, 1) := by decide +kernel
theorem dX7_cellsWithTone_1 : decode cX7_cellsWithTone 1 = .ok (.iload_n 1, 1) := by decide +kernel
theorem dX7_cellsWithTone_2 : decode cX7_cellsWithTone 2 = .ok (.iconst 0, 1) := by decide +kernel
theorem dX7_cellsWithTone_3 : decode cX7_cellsWithTone 3 = .ok (.bipush 15, 2) := by decide +kernel
theorem dX7_cellsWithTone_5 : decode cX7_cellsWithTone 5 = .ok (.invokestatic 63, 3) := by decide +kernel
theorem dX7_cellsWithTone_8 : decode cX7_cellsWithTone 8 = .ok (.ifCond .eq 7, 3) := by decide +kernel
theorem dX7_cellsWithTone_11 : decode cX7_cellsWithTone 11 = .ok (.iconst 0, 1) := by decide +kernel
theorem dX7_cellsWithTone_12 : decode cX7_cellsWithTone 12 = .ok (.goto 4, 3) := by decide +kernel
theorem dX7_cellsWithTone_15 : decode cX7_cellsWithTone 15 = .ok (.iconst 1, 1) := by decide +kernel
theorem dX7_cellsWithTone_16 : decode cX7_cellsWithTone 16 = .ok (.putfield 47, 3) := by decide +kernel
theorem dX7_cellsWithTone_19 : decode cX7_cellsWithTone 19 = .ok (.aload_n 0, 1) := by decide +kernel
theorem dX7_cellsWithTone_20 : decode cX7_cellsWithTone 20 = .ok (.getfield 47, 3) := by decide +kernel
theorem dX7_cellsWithTone_23 : decode cX7_cellsWithTone 23 = .ok (.ifCond .le 7, 3) := by decide +kernel
theorem dX7_cellsWithTone_26 : decode cX7_cellsWithTone 26 = .ok (.iconst 0, 1) := by decide +kernel
theorem dX7_cellsWithTone_27 : decode cX7_cellsWithTone 27 = .ok (.goto 8, 3) := by decide +kernel
theorem dX7_cellsWithTone_30 : decode cX7_cellsWithTone 30 = .ok (.aload_n 0, 1) := by decide +kernel
theorem dX7_cellsWithTone_31 : decode cX7_cellsWithTone 31 = .ok (.iload_n 1, 1) := by decide +kernel
theorem dX7_cellsWithTone_32 : decode cX7_cellsWithTone 32 = .ok (.invokevirtual 155, 3) := by decide +kernel
theorem dX7_cellsWithTone_35 : decode cX7_cellsWithTone 35 = .ok (.ireturn, 1) := by decide +kernel
theorem dX7_commonestTone_0 : decode cX7_commonestTone 0 = .ok (.aload_n 0, 1) := by decide +kernel
theorem dX7_commonestTone_1 : decode cX7_commonestTone 1 = .ok (.iconst 0, 1) := by decide +kernel
theorem dX7_commonestTone_2 : decode cX7_commonestTone 2 = .ok (.putfield 47, 3) := by decide +kernel
theorem dX7_commonestTone_5 : decode cX7_commonestTone 5 = .ok (.iconst 0, 1) := by decide +kernel
theorem dX7_commonestTone_6 : decode cX7_commonestTone 6 = .ok (.istore_n 1, 1) := by decide +kernel
theorem dX7_commonestTone_7 : decode cX7_commonestTone 7 = .ok (.iconst 1, 1) := by decide +kernel
theorem dX7_commonestTone_8 : decode cX7_commonestTone 8 = .ok (.istore_n 2, 1) := by decide +kernel
theorem dX7_commonestTone_9 : decode cX7_commonestTone 9 = .ok (.iload_n 2, 1) := by decide +kernel
theorem dX7_commonestTone_10 : decode cX7_commonestTone 10 = .ok (.bipush 15, 2) := by decide +kernel
theorem dX7_commonestTone_12 : decode cX7_commonestTone 12 = .ok (.if_icmp .gt 24, 3) := by decide +kernel
theorem dX7_commonestTone_15 : decode cX7_commonestTone 15 = .ok (.aload_n 0, 1) := by decide +kernel
theorem dX7_commonestTone_16 : decode cX7_commonestTone 16 = .ok (.iload_n 2, 1) := by decide +kernel
theorem dX7_commonestTone_17 : decode cX7_commonestTone 17 = .ok (.invokevirtual 155, 3) := by decide +kernel
theorem dX7_commonestTone_20 : decode cX7_commonestTone 20 = .ok (.aload_n 0, 1) := by decide +kernel
theorem dX7_commonestTone_21 : decode cX7_commonestTone 21 = .ok (.iload_n 1, 1) := by decide +kernel
theorem dX7_commonestTone_22 : decode cX7_commonestTone 22 = .ok (.invokevirtual 155, 3) := by decide +kernel
theorem dX7_commonestTone_25 : decode cX7_commonestTone 25 = .ok (.if_icmp .le 5, 3) := by decide +kernel
theorem dX7_commonestTone_28 : decode cX7_commonestTone 28 = .ok (.iload_n 2, 1) := by decide +kernel
theorem dX7_commonestTone_29 : decode cX7_commonestTone 29 = .ok (.istore_n 1, 1) := by decide +kernel
theorem dX7_commonestTone_30 : decode cX7_commonestTone 30 = .ok (.iinc 2 1, 3) := by decide +kernel
theorem dX7_commonestTone_33 : decode cX7_commonestTone 33 = .ok (.goto (-24), 3) := by decide +kernel
theorem dX7_commonestTone_36 : decode cX7_commonestTone 36 = .ok (.iload_n 1, 1) := by decide +kernel
theorem dX7_commonestTone_37 : decode cX7_commonestTone 37 = .ok (.ireturn, 1) := by decide +kernel
theorem dX7_sum_0 : decode cX7_sum 0 = .ok (.iconst 0, 1) := by decide +kernel
theorem dX7_sum_1 : decode cX7_sum 1 = .ok (.istore 5, 2) := by decide +kernel
theorem dX7_sum_3 : decode cX7_sum 3 = .ok (.iload_n 2, 1) := by decide +kernel
theorem dX7_sum_4 : decode cX7_sum 4 = .ok (.istore 6, 2) := by decide +kernel
theorem dX7_sum_6 : decode cX7_sum 6 = .ok (.iload 6, 2) := by decide +kernel
theorem dX7_sum_8 : decode cX7_sum 8 = .ok (.iload 4, 2) := by decide +kernel
theorem dX7_sum_10 : decode cX7_sum 10 = .ok (.if_icmp .gt 41, 3) := by decide +kernel
theorem dX7_sum_13 : decode cX7_sum 13 = .ok (.iload_n 1, 1) := by decide +kernel
theorem dX7_sum_14 : decode cX7_sum 14 = .ok (.istore 7, 2) := by decide +kernel
theorem dX7_sum_16 : decode cX7_sum 16 = .ok (.iload 7, 2) := by decide +kernel
theorem dX7_sum_18 : decode cX7_sum 18 = .ok (.iload_n 3, 1) := by decide +kernel
theorem dX7_sum_19 : decode cX7_sum 19 = .ok (.if_icmp .gt 26, 3) := by decide +kernel
theorem dX7_sum_22 : decode cX7_sum 22 = .ok (.iload 5, 2) := by decide +kernel
theorem dX7_sum_24 : decode cX7_sum 24 = .ok (.aload_n 0, 1) := by decide +kernel
theorem dX7_sum_25 : decode cX7_sum 25 = .ok (.bipush 8, 2) := by decide +kernel
theorem dX7_sum_27 : decode cX7_sum 27 = .ok (.iload 6, 2) := by decide +kernel
theorem dX7_sum_29 : decode cX7_sum 29 = .ok (.imul, 1) := by decide +kernel
theorem dX7_sum_30 : decode cX7_sum 30 = .ok (.iload 7, 2) := by decide +kernel
theorem dX7_sum_32 : decode cX7_sum 32 = .ok (.iadd, 1) := by decide +kernel
theorem dX7_sum_33 : decode cX7_sum 33 = .ok (.invokevirtual 111, 3) := by decide +kernel
theorem dX7_sum_36 : decode cX7_sum 36 = .ok (.iadd, 1) := by decide +kernel
theorem dX7_sum_37 : decode cX7_sum 37 = .ok (.istore 5, 2) := by decide +kernel
theorem dX7_sum_39 : decode cX7_sum 39 = .ok (.iinc 7 1, 3) := by decide +kernel
theorem dX7_sum_42 : decode cX7_sum 42 = .ok (.goto (-26), 3) := by decide +kernel
theorem dX7_sum_45 : decode cX7_sum 45 = .ok (.iinc 6 1, 3) := by decide +kernel
theorem dX7_sum_48 : decode cX7_sum 48 = .ok (.goto (-42), 3) := by decide +kernel
theorem dX7_sum_51 : decode cX7_sum 51 = .ok (.iload 5, 2) := by decide +kernel
theorem dX7_sum_53 : decode cX7_sum 53 = .ok (.ireturn, 1) := by decide +kernel
theorem dX7_sumOfTones_0 : decode cX7_sumOfTones 0 = .ok (.aload_n 0, 1) := by decide +kernel
theorem dX7_sumOfTones_1 : decode cX7_sumOfTones 1 = .ok (.iload_n 1, 1) := by decide +kernel
theorem dX7_sumOfTones_2 : decode cX7_sumOfTones 2 = .ok (.iload_n 2, 1) := by decide +kernel
theorem dX7_sumOfTones_3 : decode cX7_sumOfTones 3 = .ok (.invokestatic 103, 3) := by decide +kernel
theorem dX7_sumOfTones_6 : decode cX7_sumOfTones 6 = .ok (.ifCond .eq 12, 3) := by decide +kernel
theorem dX7_sumOfTones_9 : decode cX7_sumOfTones 9 = .ok (.iload_n 3, 1) := by decide +kernel
theorem dX7_sumOfTones_10 : decode cX7_sumOfTones 10 = .ok (.iload 4, 2) := by decide +kernel
theorem dX7_sumOfTones_12 : decode cX7_sumOfTones 12 = .ok (.invokestatic 103, 3) := by decide +kernel
theorem dX7_sumOfTones_15 : decode cX7_sumOfTones 15 = .ok (.ifCond .ne 7, 3) := by decide +kernel
theorem dX7_sumOfTones_18 : decode cX7_sumOfTones 18 = .ok (.iconst 1, 1) := by decide +kernel
theorem dX7_sumOfTones_19 : decode cX7_sumOfTones 19 = .ok (.goto 19, 3) := by decide +kernel
theorem dX7_sumOfTones_22 : decode cX7_sumOfTones 22 = .ok (.iload_n 1, 1) := by decide +kernel
theorem dX7_sumOfTones_23 : decode cX7_sumOfTones 23 = .ok (.iload_n 3, 1) := by decide +kernel
theorem dX7_sumOfTones_24 : decode cX7_sumOfTones 24 = .ok (.if_icmp .gt 9, 3) := by decide +kernel
theorem dX7_sumOfTones_27 : decode cX7_sumOfTones 27 = .ok (.iload_n 2, 1) := by decide +kernel
theorem dX7_sumOfTones_28 : decode cX7_sumOfTones 28 = .ok (.iload 4, 2) := by decide +kernel
theorem dX7_sumOfTones_30 : decode cX7_sumOfTones 30 = .ok (.if_icmp .le 7, 3) := by decide +kernel
theorem dX7_sumOfTones_33 : decode cX7_sumOfTones 33 = .ok (.iconst 2, 1) := by decide +kernel
theorem dX7_sumOfTones_34 : decode cX7_sumOfTones 34 = .ok (.goto 4, 3) := by decide +kernel
theorem dX7_sumOfTones_37 : decode cX7_sumOfTones 37 = .ok (.iconst 0, 1) := by decide +kernel
theorem dX7_sumOfTones_38 : decode cX7_sumOfTones 38 = .ok (.putfield 47, 3) := by decide +kernel
theorem dX7_sumOfTones_41 : decode cX7_sumOfTones 41 = .ok (.aload_n 0, 1) := by decide +kernel
theorem dX7_sumOfTones_42 : decode cX7_sumOfTones 42 = .ok (.getfield 47, 3) := by decide +kernel
theorem dX7_sumOfTones_45 : decode cX7_sumOfTones 45 = .ok (.ifCond .le 7, 3) := by decide +kernel
theorem dX7_sumOfTones_48 : decode cX7_sumOfTones 48 = .ok (.iconst 0, 1) := by decide +kernel
theorem dX7_sumOfTones_49 : decode cX7_sumOfTones 49 = .ok (.goto 12, 3) := by decide +kernel
theorem dX7_sumOfTones_52 : decode cX7_sumOfTones 52 = .ok (.aload_n 0, 1) := by decide +kernel
theorem dX7_sumOfTones_53 : decode cX7_sumOfTones 53 = .ok (.iload_n 1, 1) := by decide +kernel
theorem dX7_sumOfTones_54 : decode cX7_sumOfTones 54 = .ok (.iload_n 2, 1) := by decide +kernel
theorem dX7_sumOfTones_55 : decode cX7_sumOfTones 55 = .ok (.iload_n 3, 1) := by decide +kernel
theorem dX7_sumOfTones_56 : decode cX7_sumOfTones 56 = .ok (.iload 4, 2) := by decide +kernel
theorem dX7_sumOfTones_58 : decode cX7_sumOfTones 58 = .ok (.invokevirtual 158, 3) := by decide +kernel
theorem dX7_sumOfTones_61 : decode cX7_sumOfTones 61 = .ok (.ireturn, 1) := by decide +kernel
theorem dX7_sumOfTonesByTable_0 : decode cX7_sumOfTonesByTable 0 = .ok (.aload_n 0, 1) := by decide +kernel
theorem dX7_sumOfTonesByTable_1 : decode cX7_sumOfTonesByTable 1 = .ok (.iload_n 1, 1) := by decide +kernel
theorem dX7_sumOfTonesByTable_2 : decode cX7_sumOfTonesByTable 2 = .ok (.iload_n 2, 1) := by decide +kernel
theorem dX7_sumOfTonesByTable_3 : decode cX7_sumOfTonesByTable 3 = .ok (.iload_n 3, 1) := by decide +kernel
theorem dX7_sumOfTonesByTable_4 : decode cX7_sumOfTonesByTable 4 = .ok (.iload 4, 2) := by decide +kernel
theorem dX7_sumOfTonesByTable_6 : decode cX7_sumOfTonesByTable 6 = .ok (.invokevirtual 161, 3) := by decide +kernel
theorem dX7_sumOfTonesByTable_9 : decode cX7_sumOfTonesByTable 9 = .ok (.ireturn, 1) := by decide +kernel
theorem dX7_labels_0 : decode cX7_labels 0 = .ok (.iconst 0, 1) := by decide +kernel
theorem dX7_labels_1 : decode cX7_labels 1 = .ok (.istore_n 1, 1) := by decide +kernel
theorem dX7_labels_2 : decode cX7_labels 2 = .ok (.iload_n 1, 1) := by decide +kernel
theorem dX7_labels_3 : decode cX7_labels 3 = .ok (.bipush 48, 2) := by decide +kernel
theorem dX7_labels_5 : decode cX7_labels 5 = .ok (.if_icmp .ge 16, 3) := by decide +kernel
theorem dX7_labels_8 : decode cX7_labels 8 = .ok (.aload_n 0, 1) := by decide +kernel
theorem dX7_labels_9 : decode cX7_labels 9 = .ok (.getfield 34, 3) := by decide +kernel
theorem dX7_labels_12 : decode cX7_labels 12 = .ok (.iload_n 1, 1) := by decide +kernel
theorem dX7_labels_13 : decode cX7_labels 13 = .ok (.iload_n 1, 1) := by decide +kernel
theorem dX7_labels_14 : decode cX7_labels 14 = .ok (.iastore, 1) := by decide +kernel
theorem dX7_labels_15 : decode cX7_labels 15 = .ok (.iinc 1 1, 3) := by decide +kernel
theorem dX7_labels_18 : decode cX7_labels 18 = .ok (.goto (-16), 3) := by decide +kernel
theorem dX7_labels_21 : decode cX7_labels 21 = .ok (.iconst 1, 1) := by decide +kernel
theorem dX7_labels_22 : decode cX7_labels 22 = .ok (.istore_n 1, 1) := by decide +kernel
theorem dX7_labels_23 : decode cX7_labels 23 = .ok (.iload_n 1, 1) := by decide +kernel
theorem dX7_labels_24 : decode cX7_labels 24 = .ok (.ifCond .eq 62, 3) := by decide +kernel
theorem dX7_labels_27 : decode cX7_labels 27 = .ok (.iconst 0, 1) := by decide +kernel
theorem dX7_labels_28 : decode cX7_labels 28 = .ok (.istore_n 1, 1) := by decide +kernel
theorem dX7_labels_29 : decode cX7_labels 29 = .ok (.iconst 0, 1) := by decide +kernel
theorem dX7_labels_30 : decode cX7_labels 30 = .ok (.istore_n 2, 1) := by decide +kernel
theorem dX7_labels_31 : decode cX7_labels 31 = .ok (.iload_n 2, 1) := by decide +kernel
theorem dX7_labels_32 : decode cX7_labels 32 = .ok (.bipush 48, 2) := by decide +kernel
theorem dX7_labels_34 : decode cX7_labels 34 = .ok (.if_icmp .ge 49, 3) := by decide +kernel
theorem dX7_labels_37 : decode cX7_labels 37 = .ok (.iload_n 2, 1) := by decide +kernel
theorem dX7_labels_38 : decode cX7_labels 38 = .ok (.bipush 8, 2) := by decide +kernel
theorem dX7_labels_40 : decode cX7_labels 40 = .ok (.irem, 1) := by decide +kernel
theorem dX7_labels_41 : decode cX7_labels 41 = .ok (.ifCond .le 16, 3) := by decide +kernel
theorem dX7_labels_44 : decode cX7_labels 44 = .ok (.aload_n 0, 1) := by decide +kernel
theorem dX7_labels_45 : decode cX7_labels 45 = .ok (.iload_n 2, 1) := by decide +kernel
theorem dX7_labels_46 : decode cX7_labels 46 = .ok (.iload_n 2, 1) := by decide +kernel
theorem dX7_labels_47 : decode cX7_labels 47 = .ok (.iconst 1, 1) := by decide +kernel
theorem dX7_labels_48 : decode cX7_labels 48 = .ok (.isub, 1) := by decide +kernel
theorem dX7_labels_49 : decode cX7_labels 49 = .ok (.invokevirtual 164, 3) := by decide +kernel
theorem dX7_labels_52 : decode cX7_labels 52 = .ok (.ifCond .eq 5, 3) := by decide +kernel
theorem dX7_labels_55 : decode cX7_labels 55 = .ok (.iconst 1, 1) := by decide +kernel
theorem dX7_labels_56 : decode cX7_labels 56 = .ok (.istore_n 1, 1) := by decide +kernel
theorem dX7_labels_57 : decode cX7_labels 57 = .ok (.iload_n 2, 1) := by decide +kernel
theorem dX7_labels_58 : decode cX7_labels 58 = .ok (.bipush 8, 2) := by decide +kernel
theorem dX7_labels_60 : decode cX7_labels 60 = .ok (.if_icmp .lt 17, 3) := by decide +kernel
theorem dX7_labels_63 : decode cX7_labels 63 = .ok (.aload_n 0, 1) := by decide +kernel
theorem dX7_labels_64 : decode cX7_labels 64 = .ok (.iload_n 2, 1) := by decide +kernel
theorem dX7_labels_65 : decode cX7_labels 65 = .ok (.iload_n 2, 1) := by decide +kernel
theorem dX7_labels_66 : decode cX7_labels 66 = .ok (.bipush 8, 2) := by decide +kernel
theorem dX7_labels_68 : decode cX7_labels 68 = .ok (.isub, 1) := by decide +kernel
theorem dX7_labels_69 : decode cX7_labels 69 = .ok (.invokevirtual 164, 3) := by decide +kernel
theorem dX7_labels_72 : decode cX7_labels 72 = .ok (.ifCond .eq 5, 3) := by decide +kernel
theorem dX7_labels_75 : decode cX7_labels 75 = .ok (.iconst 1, 1) := by decide +kernel
theorem dX7_labels_76 : decode cX7_labels 76 = .ok (.istore_n 1, 1) := by decide +kernel
theorem dX7_labels_77 : decode cX7_labels 77 = .ok (.iinc 2 1, 3) := by decide +kernel
theorem dX7_labels_80 : decode cX7_labels 80 = .ok (.goto (-49), 3) := by decide +kernel
theorem dX7_labels_83 : decode cX7_labels 83 = .ok (.goto (-60), 3) := by decide +kernel
theorem dX7_labels_86 : decode cX7_labels 86 = .ok (.return_, 1) := by decide +kernel
theorem dX7_joins_0 : decode cX7_joins 0 = .ok (.aload_n 0, 1) := by decide +kernel
theorem dX7_joins_1 : decode cX7_joins 1 = .ok (.getfield 34, 3) := by decide +kernel
theorem dX7_joins_4 : decode cX7_joins 4 = .ok (.iload_n 1, 1) := by decide +kernel
theorem dX7_joins_5 : decode cX7_joins 5 = .ok (.iaload, 1) := by decide +kernel
theorem dX7_joins_6 : decode cX7_joins 6 = .ok (.aload_n 0, 1) := by decide +kernel
theorem dX7_joins_7 : decode cX7_joins 7 = .ok (.getfield 34, 3) := by decide +kernel
theorem dX7_joins_10 : decode cX7_joins 10 = .ok (.iload_n 2, 1) := by decide +kernel
theorem dX7_joins_11 : decode cX7_joins 11 = .ok (.iaload, 1) := by decide +kernel
theorem dX7_joins_12 : decode cX7_joins 12 = .ok (.if_icmp .eq 16, 3) := by decide +kernel
theorem dX7_joins_15 : decode cX7_joins 15 = .ok (.aload_n 0, 1) := by decide +kernel
theorem dX7_joins_16 : decode cX7_joins 16 = .ok (.iload_n 1, 1) := by decide +kernel
theorem dX7_joins_17 : decode cX7_joins 17 = .ok (.invokevirtual 111, 3) := by decide +kernel
theorem dX7_joins_20 : decode cX7_joins 20 = .ok (.aload_n 0, 1) := by decide +kernel
theorem dX7_joins_21 : decode cX7_joins 21 = .ok (.iload_n 2, 1) := by decide +kernel
theorem dX7_joins_22 : decode cX7_joins 22 = .ok (.invokevirtual 111, 3) := by decide +kernel
theorem dX7_joins_25 : decode cX7_joins 25 = .ok (.if_icmp .eq 5, 3) := by decide +kernel
theorem dX7_joins_28 : decode cX7_joins 28 = .ok (.iconst 0, 1) := by decide +kernel
theorem dX7_joins_29 : decode cX7_joins 29 = .ok (.ireturn, 1) := by decide +kernel
theorem dX7_joins_30 : decode cX7_joins 30 = .ok (.aload_n 0, 1) := by decide +kernel
theorem dX7_joins_31 : decode cX7_joins 31 = .ok (.getfield 34, 3) := by decide +kernel
theorem dX7_joins_34 : decode cX7_joins 34 = .ok (.iload_n 1, 1) := by decide +kernel
theorem dX7_joins_35 : decode cX7_joins 35 = .ok (.iaload, 1) := by decide +kernel
theorem dX7_joins_36 : decode cX7_joins 36 = .ok (.aload_n 0, 1) := by decide +kernel
theorem dX7_joins_37 : decode cX7_joins 37 = .ok (.getfield 34, 3) := by decide +kernel
theorem dX7_joins_40 : decode cX7_joins 40 = .ok (.iload_n 2, 1) := by decide +kernel
theorem dX7_joins_41 : decode cX7_joins 41 = .ok (.iaload, 1) := by decide +kernel
theorem dX7_joins_42 : decode cX7_joins 42 = .ok (.if_icmp .ge 12, 3) := by decide +kernel
theorem dX7_joins_45 : decode cX7_joins 45 = .ok (.aload_n 0, 1) := by decide +kernel
theorem dX7_joins_46 : decode cX7_joins 46 = .ok (.getfield 34, 3) := by decide +kernel
theorem dX7_joins_49 : decode cX7_joins 49 = .ok (.iload_n 1, 1) := by decide +kernel
theorem dX7_joins_50 : decode cX7_joins 50 = .ok (.iaload, 1) := by decide +kernel
theorem dX7_joins_51 : decode cX7_joins 51 = .ok (.goto 9, 3) := by decide +kernel
theorem dX7_joins_54 : decode cX7_joins 54 = .ok (.aload_n 0, 1) := by decide +kernel
theorem dX7_joins_55 : decode cX7_joins 55 = .ok (.getfield 34, 3) := by decide +kernel
theorem dX7_joins_58 : decode cX7_joins 58 = .ok (.iload_n 2, 1) := by decide +kernel
theorem dX7_joins_59 : decode cX7_joins 59 = .ok (.iaload, 1) := by decide +kernel
theorem dX7_joins_60 : decode cX7_joins 60 = .ok (.istore_n 3, 1) := by decide +kernel
theorem dX7_joins_61 : decode cX7_joins 61 = .ok (.aload_n 0, 1) := by decide +kernel
theorem dX7_joins_62 : decode cX7_joins 62 = .ok (.getfield 34, 3) := by decide +kernel
theorem dX7_joins_65 : decode cX7_joins 65 = .ok (.iload_n 1, 1) := by decide +kernel
theorem dX7_joins_66 : decode cX7_joins 66 = .ok (.iload_n 3, 1) := by decide +kernel
theorem dX7_joins_67 : decode cX7_joins 67 = .ok (.iastore, 1) := by decide +kernel
theorem dX7_joins_68 : decode cX7_joins 68 = .ok (.aload_n 0, 1) := by decide +kernel
theorem dX7_joins_69 : decode cX7_joins 69 = .ok (.getfield 34, 3) := by decide +kernel
theorem dX7_joins_72 : decode cX7_joins 72 = .ok (.iload_n 2, 1) := by decide +kernel
theorem dX7_joins_73 : decode cX7_joins 73 = .ok (.iload_n 3, 1) := by decide +kernel
theorem dX7_joins_74 : decode cX7_joins 74 = .ok (.iastore, 1) := by decide +kernel
theorem dX7_joins_75 : decode cX7_joins 75 = .ok (.iconst 1, 1) := by decide +kernel
theorem dX7_joins_76 : decode cX7_joins 76 = .ok (.ireturn, 1) := by decide +kernel
theorem dX7_labelled_0 : decode cX7_labelled 0 = .ok (.iconst 0, 1) := by decide +kernel
theorem dX7_labelled_1 : decode cX7_labelled 1 = .ok (.istore_n 2, 1) := by decide +kernel
theorem dX7_labelled_2 : decode cX7_labelled 2 = .ok (.iconst 0, 1) := by decide +kernel
theorem dX7_labelled_3 : decode cX7_labelled 3 = .ok (.istore_n 3, 1) := by decide +kernel
theorem dX7_labelled_4 : decode cX7_labelled 4 = .ok (.iload_n 3, 1) := by decide +kernel
theorem dX7_labelled_5 : decode cX7_labelled 5 = .ok (.bipush 48, 2) := by decide +kernel
theorem dX7_labelled_7 : decode cX7_labelled 7 = .ok (.if_icmp .ge 32, 3) := by decide +kernel
theorem dX7_labelled_10 : decode cX7_labelled 10 = .ok (.iload_n 2, 1) := by decide +kernel
theorem dX7_labelled_11 : decode cX7_labelled 11 = .ok (.aload_n 0, 1) := by decide +kernel
theorem dX7_labelled_12 : decode cX7_labelled 12 = .ok (.getfield 34, 3) := by decide +kernel
theorem dX7_labelled_15 : decode cX7_labelled 15 = .ok (.iload_n 3, 1) := by decide +kernel
theorem dX7_labelled_16 : decode cX7_labelled 16 = .ok (.iaload, 1) := by decide +kernel
theorem dX7_labelled_17 : decode cX7_labelled 17 = .ok (.aload_n 0, 1) := by decide +kernel
theorem dX7_labelled_18 : decode cX7_labelled 18 = .ok (.getfield 34, 3) := by decide +kernel
theorem dX7_labelled_21 : decode cX7_labelled 21 = .ok (.iload_n 1, 1) := by decide +kernel
theorem dX7_labelled_22 : decode cX7_labelled 22 = .ok (.iaload, 1) := by decide +kernel
theorem dX7_labelled_23 : decode cX7_labelled 23 = .ok (.if_icmp .ne 7, 3) := by decide +kernel
theorem dX7_labelled_26 : decode cX7_labelled 26 = .ok (.iconst 1, 1) := by decide +kernel
theorem dX7_labelled_27 : decode cX7_labelled 27 = .ok (.goto 4, 3) := by decide +kernel
theorem dX7_labelled_30 : decode cX7_labelled 30 = .ok (.iconst 0, 1) := by decide +kernel
theorem dX7_labelled_31 : decode cX7_labelled 31 = .ok (.iadd, 1) := by decide +kernel
theorem dX7_labelled_32 : decode cX7_labelled 32 = .ok (.istore_n 2, 1) := by decide +kernel
theorem dX7_labelled_33 : decode cX7_labelled 33 = .ok (.iinc 3 1, 3) := by decide +kernel
theorem dX7_labelled_36 : decode cX7_labelled 36 = .ok (.goto (-32), 3) := by decide +kernel
theorem dX7_labelled_39 : decode cX7_labelled 39 = .ok (.iload_n 2, 1) := by decide +kernel
theorem dX7_labelled_40 : decode cX7_labelled 40 = .ok (.ireturn, 1) := by decide +kernel
theorem dX7_areaSize_0 : decode cX7_areaSize 0 = .ok (.aload_n 0, 1) := by decide +kernel
theorem dX7_areaSize_1 : decode cX7_areaSize 1 = .ok (.iload_n 1, 1) := by decide +kernel
theorem dX7_areaSize_2 : decode cX7_areaSize 2 = .ok (.iload_n 2, 1) := by decide +kernel
theorem dX7_areaSize_3 : decode cX7_areaSize 3 = .ok (.invokestatic 103, 3) := by decide +kernel
theorem dX7_areaSize_6 : decode cX7_areaSize 6 = .ok (.ifCond .eq 7, 3) := by decide +kernel
theorem dX7_areaSize_9 : decode cX7_areaSize 9 = .ok (.iconst 0, 1) := by decide +kernel
theorem dX7_areaSize_10 : decode cX7_areaSize 10 = .ok (.goto 4, 3) := by decide +kernel
theorem dX7_areaSize_13 : decode cX7_areaSize 13 = .ok (.iconst 1, 1) := by decide +kernel
theorem dX7_areaSize_14 : decode cX7_areaSize 14 = .ok (.putfield 47, 3) := by decide +kernel
theorem dX7_areaSize_17 : decode cX7_areaSize 17 = .ok (.aload_n 0, 1) := by decide +kernel
theorem dX7_areaSize_18 : decode cX7_areaSize 18 = .ok (.getfield 47, 3) := by decide +kernel
theorem dX7_areaSize_21 : decode cX7_areaSize 21 = .ok (.ifCond .le 5, 3) := by decide +kernel
theorem dX7_areaSize_24 : decode cX7_areaSize 24 = .ok (.iconst 0, 1) := by decide +kernel
theorem dX7_areaSize_25 : decode cX7_areaSize 25 = .ok (.ireturn, 1) := by decide +kernel
theorem dX7_areaSize_26 : decode cX7_areaSize 26 = .ok (.aload_n 0, 1) := by decide +kernel
theorem dX7_areaSize_27 : decode cX7_areaSize 27 = .ok (.invokevirtual 167, 3) := by decide +kernel
theorem dX7_areaSize_30 : decode cX7_areaSize 30 = .ok (.aload_n 0, 1) := by decide +kernel
theorem dX7_areaSize_31 : decode cX7_areaSize 31 = .ok (.bipush 8, 2) := by decide +kernel
theorem dX7_areaSize_33 : decode cX7_areaSize 33 = .ok (.iload_n 2, 1) := by decide +kernel
theorem dX7_areaSize_34 : decode cX7_areaSize 34 = .ok (.imul, 1) := by decide +kernel
theorem dX7_areaSize_35 : decode cX7_areaSize 35 = .ok (.iload_n 1, 1) := by decide +kernel
theorem dX7_areaSize_36 : decode cX7_areaSize 36 = .ok (.iadd, 1) := by decide +kernel
theorem dX7_areaSize_37 : decode cX7_areaSize 37 = .ok (.invokevirtual 170, 3) := by decide +kernel
theorem dX7_areaSize_40 : decode cX7_areaSize 40 = .ok (.ireturn, 1) := by decide +kernel
theorem dX7_areaCount_0 : decode cX7_areaCount 0 = .ok (.aload_n 0, 1) := by decide +kernel
theorem dX7_areaCount_1 : decode cX7_areaCount 1 = .ok (.iconst 0, 1) := by decide +kernel
theorem dX7_areaCount_2 : decode cX7_areaCount 2 = .ok (.putfield 47, 3) := by decide +kernel
theorem dX7_areaCount_5 : decode cX7_areaCount 5 = .ok (.aload_n 0, 1) := by decide +kernel
theorem dX7_areaCount_6 : decode cX7_areaCount 6 = .ok (.invokevirtual 167, 3) := by decide +kernel
theorem dX7_areaCount_9 : decode cX7_areaCount 9 = .ok (.iconst 0, 1) := by decide +kernel
theorem dX7_areaCount_10 : decode cX7_areaCount 10 = .ok (.istore_n 1, 1) := by decide +kernel
theorem dX7_areaCount_11 : decode cX7_areaCount 11 = .ok (.iconst 0, 1) := by decide +kernel
theorem dX7_areaCount_12 : decode cX7_areaCount 12 = .ok (.istore_n 2, 1) := by decide +kernel
theorem dX7_areaCount_13 : decode cX7_areaCount 13 = .ok (.iload_n 2, 1) := by decide +kernel
theorem dX7_areaCount_14 : decode cX7_areaCount 14 = .ok (.bipush 48, 2) := by decide +kernel
theorem dX7_areaCount_16 : decode cX7_areaCount 16 = .ok (.if_icmp .ge 27, 3) := by decide +kernel
theorem dX7_areaCount_19 : decode cX7_areaCount 19 = .ok (.iload_n 1, 1) := by decide +kernel
theorem dX7_areaCount_20 : decode cX7_areaCount 20 = .ok (.aload_n 0, 1) := by decide +kernel
theorem dX7_areaCount_21 : decode cX7_areaCount 21 = .ok (.getfield 34, 3) := by decide +kernel
theorem dX7_areaCount_24 : decode cX7_areaCount 24 = .ok (.iload_n 2, 1) := by decide +kernel
theorem dX7_areaCount_25 : decode cX7_areaCount 25 = .ok (.iaload, 1) := by decide +kernel
theorem dX7_areaCount_26 : decode cX7_areaCount 26 = .ok (.iload_n 2, 1) := by decide +kernel
theorem dX7_areaCount_27 : decode cX7_areaCount 27 = .ok (.if_icmp .ne 7, 3) := by decide +kernel
theorem dX7_areaCount_30 : decode cX7_areaCount 30 = .ok (.iconst 1, 1) := by decide +kernel
theorem dX7_areaCount_31 : decode cX7_areaCount 31 = .ok (.goto 4, 3) := by decide +kernel
theorem dX7_areaCount_34 : decode cX7_areaCount 34 = .ok (.iconst 0, 1) := by decide +kernel
theorem dX7_areaCount_35 : decode cX7_areaCount 35 = .ok (.iadd, 1) := by decide +kernel
theorem dX7_areaCount_36 : decode cX7_areaCount 36 = .ok (.istore_n 1, 1) := by decide +kernel
theorem dX7_areaCount_37 : decode cX7_areaCount 37 = .ok (.iinc 2 1, 3) := by decide +kernel
theorem dX7_areaCount_40 : decode cX7_areaCount 40 = .ok (.goto (-27), 3) := by decide +kernel
theorem dX7_areaCount_43 : decode cX7_areaCount 43 = .ok (.iload_n 1, 1) := by decide +kernel
theorem dX7_areaCount_44 : decode cX7_areaCount 44 = .ok (.ireturn, 1) := by decide +kernel
theorem dX7_areaCountByJoining_0 : decode cX7_areaCountByJoining 0 = .ok (.aload_n 0, 1) := by decide +kernel
theorem dX7_areaCountByJoining_1 : decode cX7_areaCountByJoining 1 = .ok (.invokevirtual 173, 3) := by decide +kernel
theorem dX7_areaCountByJoining_4 : decode cX7_areaCountByJoining 4 = .ok (.ireturn, 1) := by decide +kernel
theorem dX7_largestArea_0 : decode cX7_largestArea 0 = .ok (.aload_n 0, 1) := by decide +kernel
theorem dX7_largestArea_1 : decode cX7_largestArea 1 = .ok (.iconst 0, 1) := by decide +kernel
theorem dX7_largestArea_2 : decode cX7_largestArea 2 = .ok (.putfield 47, 3) := by decide +kernel
theorem dX7_largestArea_5 : decode cX7_largestArea 5 = .ok (.aload_n 0, 1) := by decide +kernel
theorem dX7_largestArea_6 : decode cX7_largestArea 6 = .ok (.invokevirtual 167, 3) := by decide +kernel
theorem dX7_largestArea_9 : decode cX7_largestArea 9 = .ok (.iconst 0, 1) := by decide +kernel
theorem dX7_largestArea_10 : decode cX7_largestArea 10 = .ok (.istore_n 1, 1) := by decide +kernel
theorem dX7_largestArea_11 : decode cX7_largestArea 11 = .ok (.iconst 0, 1) := by decide +kernel
theorem dX7_largestArea_12 : decode cX7_largestArea 12 = .ok (.istore_n 2, 1) := by decide +kernel
theorem dX7_largestArea_13 : decode cX7_largestArea 13 = .ok (.iload_n 2, 1) := by decide +kernel
theorem dX7_largestArea_14 : decode cX7_largestArea 14 = .ok (.bipush 48, 2) := by decide +kernel
theorem dX7_largestArea_16 : decode cX7_largestArea 16 = .ok (.if_icmp .ge 28, 3) := by decide +kernel
theorem dX7_largestArea_19 : decode cX7_largestArea 19 = .ok (.aload_n 0, 1) := by decide +kernel
theorem dX7_largestArea_20 : decode cX7_largestArea 20 = .ok (.iload_n 2, 1) := by decide +kernel
theorem dX7_largestArea_21 : decode cX7_largestArea 21 = .ok (.invokevirtual 170, 3) := by decide +kernel
theorem dX7_largestArea_24 : decode cX7_largestArea 24 = .ok (.iload_n 1, 1) := by decide +kernel
theorem dX7_largestArea_25 : decode cX7_largestArea 25 = .ok (.if_icmp .le 11, 3) := by decide +kernel
theorem dX7_largestArea_28 : decode cX7_largestArea 28 = .ok (.aload_n 0, 1) := by decide +kernel
theorem dX7_largestArea_29 : decode cX7_largestArea 29 = .ok (.iload_n 2, 1) := by decide +kernel
theorem dX7_largestArea_30 : decode cX7_largestArea 30 = .ok (.invokevirtual 170, 3) := by decide +kernel
theorem dX7_largestArea_33 : decode cX7_largestArea 33 = .ok (.goto 4, 3) := by decide +kernel
theorem dX7_largestArea_36 : decode cX7_largestArea 36 = .ok (.iload_n 1, 1) := by decide +kernel
theorem dX7_largestArea_37 : decode cX7_largestArea 37 = .ok (.istore_n 1, 1) := by decide +kernel
theorem dX7_largestArea_38 : decode cX7_largestArea 38 = .ok (.iinc 2 1, 3) := by decide +kernel
theorem dX7_largestArea_41 : decode cX7_largestArea 41 = .ok (.goto (-28), 3) := by decide +kernel
theorem dX7_largestArea_44 : decode cX7_largestArea 44 = .ok (.iload_n 1, 1) := by decide +kernel
theorem dX7_largestArea_45 : decode cX7_largestArea 45 = .ok (.ireturn, 1) := by decide +kernel
theorem dX7_darkestRow_0 : decode cX7_darkestRow 0 = .ok (.aload_n 0, 1) := by decide +kernel
theorem dX7_darkestRow_1 : decode cX7_darkestRow 1 = .ok (.iconst 0, 1) := by decide +kernel
theorem dX7_darkestRow_2 : decode cX7_darkestRow 2 = .ok (.putfield 47, 3) := by decide +kernel
theorem dX7_darkestRow_5 : decode cX7_darkestRow 5 = .ok (.iconst 0, 1) := by decide +kernel
theorem dX7_darkestRow_6 : decode cX7_darkestRow 6 = .ok (.istore_n 1, 1) := by decide +kernel
theorem dX7_darkestRow_7 : decode cX7_darkestRow 7 = .ok (.iconst 1, 1) := by decide +kernel
theorem dX7_darkestRow_8 : decode cX7_darkestRow 8 = .ok (.istore_n 2, 1) := by decide +kernel
theorem dX7_darkestRow_9 : decode cX7_darkestRow 9 = .ok (.iload_n 2, 1) := by decide +kernel
theorem dX7_darkestRow_10 : decode cX7_darkestRow 10 = .ok (.bipush 6, 2) := by decide +kernel
theorem dX7_darkestRow_12 : decode cX7_darkestRow 12 = .ok (.if_icmp .ge 32, 3) := by decide +kernel
theorem dX7_darkestRow_15 : decode cX7_darkestRow 15 = .ok (.aload_n 0, 1) := by decide +kernel
theorem dX7_darkestRow_16 : decode cX7_darkestRow 16 = .ok (.iconst 0, 1) := by decide +kernel
theorem dX7_darkestRow_17 : decode cX7_darkestRow 17 = .ok (.iload_n 2, 1) := by decide +kernel
theorem dX7_darkestRow_18 : decode cX7_darkestRow 18 = .ok (.bipush 7, 2) := by decide +kernel
theorem dX7_darkestRow_20 : decode cX7_darkestRow 20 = .ok (.iload_n 2, 1) := by decide +kernel
theorem dX7_darkestRow_21 : decode cX7_darkestRow 21 = .ok (.invokevirtual 158, 3) := by decide +kernel
theorem dX7_darkestRow_24 : decode cX7_darkestRow 24 = .ok (.aload_n 0, 1) := by decide +kernel
theorem dX7_darkestRow_25 : decode cX7_darkestRow 25 = .ok (.iconst 0, 1) := by decide +kernel
theorem dX7_darkestRow_26 : decode cX7_darkestRow 26 = .ok (.iload_n 1, 1) := by decide +kernel
theorem dX7_darkestRow_27 : decode cX7_darkestRow 27 = .ok (.bipush 7, 2) := by decide +kernel
theorem dX7_darkestRow_29 : decode cX7_darkestRow 29 = .ok (.iload_n 1, 1) := by decide +kernel
theorem dX7_darkestRow_30 : decode cX7_darkestRow 30 = .ok (.invokevirtual 158, 3) := by decide +kernel
theorem dX7_darkestRow_33 : decode cX7_darkestRow 33 = .ok (.if_icmp .ge 5, 3) := by decide +kernel
theorem dX7_darkestRow_36 : decode cX7_darkestRow 36 = .ok (.iload_n 2, 1) := by decide +kernel
theorem dX7_darkestRow_37 : decode cX7_darkestRow 37 = .ok (.istore_n 1, 1) := by decide +kernel
theorem dX7_darkestRow_38 : decode cX7_darkestRow 38 = .ok (.iinc 2 1, 3) := by decide +kernel
theorem dX7_darkestRow_41 : decode cX7_darkestRow 41 = .ok (.goto (-32), 3) := by decide +kernel
theorem dX7_darkestRow_44 : decode cX7_darkestRow 44 = .ok (.iload_n 1, 1) := by decide +kernel
theorem dX7_darkestRow_45 : decode cX7_darkestRow 45 = .ok (.ireturn, 1) := by decide +kernel
theorem dX7_isMirrored_0 : decode cX7_isMirrored 0 = .ok (.aload_n 0, 1) := by decide +kernel
theorem dX7_isMirrored_1 : decode cX7_isMirrored 1 = .ok (.iconst 0, 1) := by decide +kernel
theorem dX7_isMirrored_2 : decode cX7_isMirrored 2 = .ok (.putfield 47, 3) := by decide +kernel
theorem dX7_isMirrored_5 : decode cX7_isMirrored 5 = .ok (.iconst 0, 1) := by decide +kernel
theorem dX7_isMirrored_6 : decode cX7_isMirrored 6 = .ok (.istore_n 1, 1) := by decide +kernel
theorem dX7_isMirrored_7 : decode cX7_isMirrored 7 = .ok (.iload_n 1, 1) := by decide +kernel
theorem dX7_isMirrored_8 : decode cX7_isMirrored 8 = .ok (.bipush 48, 2) := by decide +kernel
theorem dX7_isMirrored_10 : decode cX7_isMirrored 10 = .ok (.if_icmp .ge 39, 3) := by decide +kernel
theorem dX7_isMirrored_13 : decode cX7_isMirrored 13 = .ok (.aload_n 0, 1) := by decide +kernel
theorem dX7_isMirrored_14 : decode cX7_isMirrored 14 = .ok (.iload_n 1, 1) := by decide +kernel
theorem dX7_isMirrored_15 : decode cX7_isMirrored 15 = .ok (.invokevirtual 111, 3) := by decide +kernel
theorem dX7_isMirrored_18 : decode cX7_isMirrored 18 = .ok (.aload_n 0, 1) := by decide +kernel
theorem dX7_isMirrored_19 : decode cX7_isMirrored 19 = .ok (.iload_n 1, 1) := by decide +kernel
theorem dX7_isMirrored_20 : decode cX7_isMirrored 20 = .ok (.iload_n 1, 1) := by decide +kernel
theorem dX7_isMirrored_21 : decode cX7_isMirrored 21 = .ok (.bipush 8, 2) := by decide +kernel
theorem dX7_isMirrored_23 : decode cX7_isMirrored 23 = .ok (.irem, 1) := by decide +kernel
theorem dX7_isMirrored_24 : decode cX7_isMirrored 24 = .ok (.isub, 1) := by decide +kernel
theorem dX7_isMirrored_25 : decode cX7_isMirrored 25 = .ok (.bipush 8, 2) := by decide +kernel
theorem dX7_isMirrored_27 : decode cX7_isMirrored 27 = .ok (.iadd, 1) := by decide +kernel
theorem dX7_isMirrored_28 : decode cX7_isMirrored 28 = .ok (.iconst 1, 1) := by decide +kernel
theorem dX7_isMirrored_29 : decode cX7_isMirrored 29 = .ok (.isub, 1) := by decide +kernel
theorem dX7_isMirrored_30 : decode cX7_isMirrored 30 = .ok (.iload_n 1, 1) := by decide +kernel
theorem dX7_isMirrored_31 : decode cX7_isMirrored 31 = .ok (.bipush 8, 2) := by decide +kernel
theorem dX7_isMirrored_33 : decode cX7_isMirrored 33 = .ok (.irem, 1) := by decide +kernel
theorem dX7_isMirrored_34 : decode cX7_isMirrored 34 = .ok (.isub, 1) := by decide +kernel
theorem dX7_isMirrored_35 : decode cX7_isMirrored 35 = .ok (.invokevirtual 111, 3) := by decide +kernel
theorem dX7_isMirrored_38 : decode cX7_isMirrored 38 = .ok (.if_icmp .eq 5, 3) := by decide +kernel
theorem dX7_isMirrored_41 : decode cX7_isMirrored 41 = .ok (.iconst 0, 1) := by decide +kernel
theorem dX7_isMirrored_42 : decode cX7_isMirrored 42 = .ok (.ireturn, 1) := by decide +kernel
theorem dX7_isMirrored_43 : decode cX7_isMirrored 43 = .ok (.iinc 1 1, 3) := by decide +kernel
theorem dX7_isMirrored_46 : decode cX7_isMirrored 46 = .ok (.goto (-39), 3) := by decide +kernel
theorem dX7_isMirrored_49 : decode cX7_isMirrored 49 = .ok (.iconst 1, 1) := by decide +kernel
theorem dX7_isMirrored_50 : decode cX7_isMirrored 50 = .ok (.ireturn, 1) := by decide +kernel
theorem dX7_differentCells_0 : decode cX7_differentCells 0 = .ok (.aload_n 0, 1) := by decide +kernel
theorem dX7_differentCells_1 : decode cX7_differentCells 1 = .ok (.aload_n 0, 1) := by decide +kernel
theorem dX7_differentCells_2 : decode cX7_differentCells 2 = .ok (.iload_n 1, 1) := by decide +kernel
theorem dX7_differentCells_3 : decode cX7_differentCells 3 = .ok (.invokevirtual 96, 3) := by decide +kernel
theorem dX7_differentCells_6 : decode cX7_differentCells 6 = .ok (.ifCond .eq 15, 3) := by decide +kernel
theorem dX7_differentCells_9 : decode cX7_differentCells 9 = .ok (.aload_n 0, 1) := by decide +kernel
theorem dX7_differentCells_10 : decode cX7_differentCells 10 = .ok (.iload_n 2, 1) := by decide +kernel
theorem dX7_differentCells_11 : decode cX7_differentCells 11 = .ok (.invokevirtual 96, 3) := by decide +kernel
theorem dX7_differentCells_14 : decode cX7_differentCells 14 = .ok (.ifCond .eq 7, 3) := by decide +kernel
theorem dX7_differentCells_17 : decode cX7_differentCells 17 = .ok (.iconst 0, 1) := by decide +kernel
theorem dX7_differentCells_18 : decode cX7_differentCells 18 = .ok (.goto 4, 3) := by decide +kernel
theorem dX7_differentCells_21 : decode cX7_differentCells 21 = .ok (.iconst 1, 1) := by decide +kernel
theorem dX7_differentCells_22 : decode cX7_differentCells 22 = .ok (.putfield 47, 3) := by decide +kernel
theorem dX7_differentCells_25 : decode cX7_differentCells 25 = .ok (.iconst 0, 1) := by decide +kernel
theorem dX7_differentCells_26 : decode cX7_differentCells 26 = .ok (.istore_n 3, 1) := by decide +kernel
theorem dX7_differentCells_27 : decode cX7_differentCells 27 = .ok (.iconst 0, 1) := by decide +kernel
theorem dX7_differentCells_28 : decode cX7_differentCells 28 = .ok (.istore 4, 2) := by decide +kernel
theorem dX7_differentCells_30 : decode cX7_differentCells 30 = .ok (.iload 4, 2) := by decide +kernel
theorem dX7_differentCells_32 : decode cX7_differentCells 32 = .ok (.bipush 48, 2) := by decide +kernel
theorem dX7_differentCells_34 : decode cX7_differentCells 34 = .ok (.if_icmp .ge 41, 3) := by decide +kernel
theorem dX7_differentCells_37 : decode cX7_differentCells 37 = .ok (.aload_n 0, 1) := by decide +kernel
theorem dX7_differentCells_38 : decode cX7_differentCells 38 = .ok (.getfield 47, 3) := by decide +kernel
theorem dX7_differentCells_41 : decode cX7_differentCells 41 = .ok (.ifCond .ne 34, 3) := by decide +kernel
theorem dX7_differentCells_44 : decode cX7_differentCells 44 = .ok (.iload_n 3, 1) := by decide +kernel
theorem dX7_differentCells_45 : decode cX7_differentCells 45 = .ok (.aload_n 0, 1) := by decide +kernel
theorem dX7_differentCells_46 : decode cX7_differentCells 46 = .ok (.iload_n 1, 1) := by decide +kernel
theorem dX7_differentCells_47 : decode cX7_differentCells 47 = .ok (.iload 4, 2) := by decide +kernel
theorem dX7_differentCells_49 : decode cX7_differentCells 49 = .ok (.invokevirtual 67, 3) := by decide +kernel
theorem dX7_differentCells_52 : decode cX7_differentCells 52 = .ok (.aload_n 0, 1) := by decide +kernel
theorem dX7_differentCells_53 : decode cX7_differentCells 53 = .ok (.iload_n 2, 1) := by decide +kernel
theorem dX7_differentCells_54 : decode cX7_differentCells 54 = .ok (.iload 4, 2) := by decide +kernel
theorem dX7_differentCells_56 : decode cX7_differentCells 56 = .ok (.invokevirtual 67, 3) := by decide +kernel
theorem dX7_differentCells_59 : decode cX7_differentCells 59 = .ok (.if_icmp .ne 7, 3) := by decide +kernel
theorem dX7_differentCells_62 : decode cX7_differentCells 62 = .ok (.iconst 0, 1) := by decide +kernel
theorem dX7_differentCells_63 : decode cX7_differentCells 63 = .ok (.goto 4, 3) := by decide +kernel
theorem dX7_differentCells_66 : decode cX7_differentCells 66 = .ok (.iconst 1, 1) := by decide +kernel
theorem dX7_differentCells_67 : decode cX7_differentCells 67 = .ok (.iadd, 1) := by decide +kernel
theorem dX7_differentCells_68 : decode cX7_differentCells 68 = .ok (.istore_n 3, 1) := by decide +kernel
theorem dX7_differentCells_69 : decode cX7_differentCells 69 = .ok (.iinc 4 1, 3) := by decide +kernel
theorem dX7_differentCells_72 : decode cX7_differentCells 72 = .ok (.goto (-42), 3) := by decide +kernel
theorem dX7_differentCells_75 : decode cX7_differentCells 75 = .ok (.iload_n 3, 1) := by decide +kernel
theorem dX7_differentCells_76 : decode cX7_differentCells 76 = .ok (.ireturn, 1) := by decide +kernel
theorem dX7_layerByPaint_0 : decode cX7_layerByPaint 0 = .ok (.aload_n 0, 1) := by decide +kernel
theorem dX7_layerByPaint_1 : decode cX7_layerByPaint 1 = .ok (.iconst 0, 1) := by decide +kernel
theorem dX7_layerByPaint_2 : decode cX7_layerByPaint 2 = .ok (.putfield 47, 3) := by decide +kernel
theorem dX7_layerByPaint_5 : decode cX7_layerByPaint 5 = .ok (.iconst 0, 1) := by decide +kernel
theorem dX7_layerByPaint_6 : decode cX7_layerByPaint 6 = .ok (.istore_n 2, 1) := by decide +kernel
theorem dX7_layerByPaint_7 : decode cX7_layerByPaint 7 = .ok (.iload_n 2, 1) := by decide +kernel
theorem dX7_layerByPaint_8 : decode cX7_layerByPaint 8 = .ok (.aload_n 0, 1) := by decide +kernel
theorem dX7_layerByPaint_9 : decode cX7_layerByPaint 9 = .ok (.getfield 7, 3) := by decide +kernel
theorem dX7_layerByPaint_12 : decode cX7_layerByPaint 12 = .ok (.iconst 0, 1) := by decide +kernel
theorem dX7_layerByPaint_13 : decode cX7_layerByPaint 13 = .ok (.iaload, 1) := by decide +kernel
theorem dX7_layerByPaint_14 : decode cX7_layerByPaint 14 = .ok (.if_icmp .ge 80, 3) := by decide +kernel
theorem dX7_layerByPaint_17 : decode cX7_layerByPaint 17 = .ok (.iconst 0, 1) := by decide +kernel
theorem dX7_layerByPaint_18 : decode cX7_layerByPaint 18 = .ok (.istore_n 3, 1) := by decide +kernel
theorem dX7_layerByPaint_19 : decode cX7_layerByPaint 19 = .ok (.iconst 0, 1) := by decide +kernel
theorem dX7_layerByPaint_20 : decode cX7_layerByPaint 20 = .ok (.istore 4, 2) := by decide +kernel
theorem dX7_layerByPaint_22 : decode cX7_layerByPaint 22 = .ok (.iload 4, 2) := by decide +kernel
theorem dX7_layerByPaint_24 : decode cX7_layerByPaint 24 = .ok (.aload_n 0, 1) := by decide +kernel
theorem dX7_layerByPaint_25 : decode cX7_layerByPaint 25 = .ok (.getfield 7, 3) := by decide +kernel
theorem dX7_layerByPaint_28 : decode cX7_layerByPaint 28 = .ok (.iconst 0, 1) := by decide +kernel
theorem dX7_layerByPaint_29 : decode cX7_layerByPaint 29 = .ok (.iaload, 1) := by decide +kernel
theorem dX7_layerByPaint_30 : decode cX7_layerByPaint 30 = .ok (.if_icmp .ge 51, 3) := by decide +kernel
theorem dX7_layerByPaint_33 : decode cX7_layerByPaint 33 = .ok (.iload_n 3, 1) := by decide +kernel
theorem dX7_layerByPaint_34 : decode cX7_layerByPaint 34 = .ok (.aload_n 0, 1) := by decide +kernel
theorem dX7_layerByPaint_35 : decode cX7_layerByPaint 35 = .ok (.iload 4, 2) := by decide +kernel
theorem dX7_layerByPaint_37 : decode cX7_layerByPaint 37 = .ok (.invokevirtual 114, 3) := by decide +kernel
theorem dX7_layerByPaint_40 : decode cX7_layerByPaint 40 = .ok (.aload_n 0, 1) := by decide +kernel
theorem dX7_layerByPaint_41 : decode cX7_layerByPaint 41 = .ok (.iload_n 2, 1) := by decide +kernel
theorem dX7_layerByPaint_42 : decode cX7_layerByPaint 42 = .ok (.invokevirtual 114, 3) := by decide +kernel
theorem dX7_layerByPaint_45 : decode cX7_layerByPaint 45 = .ok (.if_icmp .gt 23, 3) := by decide +kernel
theorem dX7_layerByPaint_48 : decode cX7_layerByPaint 48 = .ok (.aload_n 0, 1) := by decide +kernel
theorem dX7_layerByPaint_49 : decode cX7_layerByPaint 49 = .ok (.iload 4, 2) := by decide +kernel
theorem dX7_layerByPaint_51 : decode cX7_layerByPaint 51 = .ok (.invokevirtual 114, 3) := by decide +kernel
theorem dX7_layerByPaint_54 : decode cX7_layerByPaint 54 = .ok (.aload_n 0, 1) := by decide +kernel
theorem dX7_layerByPaint_55 : decode cX7_layerByPaint 55 = .ok (.iload_n 2, 1) := by decide +kernel
theorem dX7_layerByPaint_56 : decode cX7_layerByPaint 56 = .ok (.invokevirtual 114, 3) := by decide +kernel
theorem dX7_layerByPaint_59 : decode cX7_layerByPaint 59 = .ok (.if_icmp .ne 13, 3) := by decide +kernel
theorem dX7_layerByPaint_62 : decode cX7_layerByPaint 62 = .ok (.iload 4, 2) := by decide +kernel
theorem dX7_layerByPaint_64 : decode cX7_layerByPaint 64 = .ok (.iload_n 2, 1) := by decide +kernel
theorem dX7_layerByPaint_65 : decode cX7_layerByPaint 65 = .ok (.if_icmp .ge 7, 3) := by decide +kernel
theorem dX7_layerByPaint_68 : decode cX7_layerByPaint 68 = .ok (.iconst 1, 1) := by decide +kernel
theorem dX7_layerByPaint_69 : decode cX7_layerByPaint 69 = .ok (.goto 4, 3) := by decide +kernel
theorem dX7_layerByPaint_72 : decode cX7_layerByPaint 72 = .ok (.iconst 0, 1) := by decide +kernel
theorem dX7_layerByPaint_73 : decode cX7_layerByPaint 73 = .ok (.iadd, 1) := by decide +kernel
theorem dX7_layerByPaint_74 : decode cX7_layerByPaint 74 = .ok (.istore_n 3, 1) := by decide +kernel
theorem dX7_layerByPaint_75 : decode cX7_layerByPaint 75 = .ok (.iinc 4 1, 3) := by decide +kernel
theorem dX7_layerByPaint_78 : decode cX7_layerByPaint 78 = .ok (.goto (-56), 3) := by decide +kernel
theorem dX7_layerByPaint_81 : decode cX7_layerByPaint 81 = .ok (.iload_n 3, 1) := by decide +kernel
theorem dX7_layerByPaint_82 : decode cX7_layerByPaint 82 = .ok (.iload_n 1, 1) := by decide +kernel
theorem dX7_layerByPaint_83 : decode cX7_layerByPaint 83 = .ok (.if_icmp .ne 5, 3) := by decide +kernel
theorem dX7_layerByPaint_86 : decode cX7_layerByPaint 86 = .ok (.iload_n 2, 1) := by decide +kernel
theorem dX7_layerByPaint_87 : decode cX7_layerByPaint 87 = .ok (.ireturn, 1) := by decide +kernel
theorem dX7_layerByPaint_88 : decode cX7_layerByPaint 88 = .ok (.iinc 2 1, 3) := by decide +kernel
theorem dX7_layerByPaint_91 : decode cX7_layerByPaint 91 = .ok (.goto (-84), 3) := by decide +kernel
theorem dX7_layerByPaint_94 : decode cX7_layerByPaint 94 = .ok (.aload_n 0, 1) := by decide +kernel
theorem dX7_layerByPaint_95 : decode cX7_layerByPaint 95 = .ok (.iconst 1, 1) := by decide +kernel
theorem dX7_layerByPaint_96 : decode cX7_layerByPaint 96 = .ok (.invokevirtual 60, 3) := by decide +kernel
theorem dX7_layerByPaint_99 : decode cX7_layerByPaint 99 = .ok (.ireturn, 1) := by decide +kernel
theorem dX7_paintedCells_0 : decode cX7_paintedCells 0 = .ok (.aload_n 0, 1) := by decide +kernel
theorem dX7_paintedCells_1 : decode cX7_paintedCells 1 = .ok (.iconst 0, 1) := by decide +kernel
theorem dX7_paintedCells_2 : decode cX7_paintedCells 2 = .ok (.putfield 47, 3) := by decide +kernel
theorem dX7_paintedCells_5 : decode cX7_paintedCells 5 = .ok (.aload_n 0, 1) := by decide +kernel
theorem dX7_paintedCells_6 : decode cX7_paintedCells 6 = .ok (.getfield 7, 3) := by decide +kernel
theorem dX7_paintedCells_9 : decode cX7_paintedCells 9 = .ok (.iconst 1, 1) := by decide +kernel
theorem dX7_paintedCells_10 : decode cX7_paintedCells 10 = .ok (.iaload, 1) := by decide +kernel
theorem dX7_paintedCells_11 : decode cX7_paintedCells 11 = .ok (.ireturn, 1) := by decide +kernel
theorem dX7_erasedCells_0 : decode cX7_erasedCells 0 = .ok (.aload_n 0, 1) := by decide +kernel
theorem dX7_erasedCells_1 : decode cX7_erasedCells 1 = .ok (.iconst 0, 1) := by decide +kernel
theorem dX7_erasedCells_2 : decode cX7_erasedCells 2 = .ok (.putfield 47, 3) := by decide +kernel
theorem dX7_erasedCells_5 : decode cX7_erasedCells 5 = .ok (.aload_n 0, 1) := by decide +kernel
theorem dX7_erasedCells_6 : decode cX7_erasedCells 6 = .ok (.getfield 7, 3) := by decide +kernel
theorem dX7_erasedCells_9 : decode cX7_erasedCells 9 = .ok (.iconst 2, 1) := by decide +kernel
theorem dX7_erasedCells_10 : decode cX7_erasedCells 10 = .ok (.iaload, 1) := by decide +kernel
theorem dX7_erasedCells_11 : decode cX7_erasedCells 11 = .ok (.ireturn, 1) := by decide +kernel
theorem dX7_meanTone_0 : decode cX7_meanTone 0 = .ok (.aload_n 0, 1) := by decide +kernel
theorem dX7_meanTone_1 : decode cX7_meanTone 1 = .ok (.iconst 0, 1) := by decide +kernel
theorem dX7_meanTone_2 : decode cX7_meanTone 2 = .ok (.putfield 47, 3) := by decide +kernel
theorem dX7_meanTone_5 : decode cX7_meanTone 5 = .ok (.aload_n 0, 1) := by decide +kernel
theorem dX7_meanTone_6 : decode cX7_meanTone 6 = .ok (.iconst 0, 1) := by decide +kernel
theorem dX7_meanTone_7 : decode cX7_meanTone 7 = .ok (.iconst 0, 1) := by decide +kernel
theorem dX7_meanTone_8 : decode cX7_meanTone 8 = .ok (.bipush 7, 2) := by decide +kernel
theorem dX7_meanTone_10 : decode cX7_meanTone 10 = .ok (.iconst 5, 1) := by decide +kernel
theorem dX7_meanTone_11 : decode cX7_meanTone 11 = .ok (.invokevirtual 158, 3) := by decide +kernel
theorem dX7_meanTone_14 : decode cX7_meanTone 14 = .ok (.i2d, 1) := by decide +kernel
theorem dX7_meanTone_15 : decode cX7_meanTone 15 = .ok (.ldc2_w 176, 3) := by decide +kernel
theorem dX7_meanTone_18 : decode cX7_meanTone 18 = .ok (.ddiv, 1) := by decide +kernel
theorem dX7_meanTone_19 : decode cX7_meanTone 19 = .ok (.dreturn, 1) := by decide +kernel
theorem dX7_coveredShare_0 : decode cX7_coveredShare 0 = .ok (.aload_n 0, 1) := by decide +kernel
theorem dX7_coveredShare_1 : decode cX7_coveredShare 1 = .ok (.iconst 0, 1) := by decide +kernel
theorem dX7_coveredShare_2 : decode cX7_coveredShare 2 = .ok (.putfield 47, 3) := by decide +kernel
theorem dX7_coveredShare_5 : decode cX7_coveredShare 5 = .ok (.iconst 0, 1) := by decide +kernel
theorem dX7_coveredShare_6 : decode cX7_coveredShare 6 = .ok (.istore_n 1, 1) := by decide +kernel
theorem dX7_coveredShare_7 : decode cX7_coveredShare 7 = .ok (.iconst 0, 1) := by decide +kernel
theorem dX7_coveredShare_8 : decode cX7_coveredShare 8 = .ok (.istore_n 2, 1) := by decide +kernel
theorem dX7_coveredShare_9 : decode cX7_coveredShare 9 = .ok (.iload_n 2, 1) := by decide +kernel
theorem dX7_coveredShare_10 : decode cX7_coveredShare 10 = .ok (.bipush 48, 2) := by decide +kernel
theorem dX7_coveredShare_12 : decode cX7_coveredShare 12 = .ok (.if_icmp .ge 26, 3) := by decide +kernel
theorem dX7_coveredShare_15 : decode cX7_coveredShare 15 = .ok (.iload_n 1, 1) := by decide +kernel
theorem dX7_coveredShare_16 : decode cX7_coveredShare 16 = .ok (.aload_n 0, 1) := by decide +kernel
theorem dX7_coveredShare_17 : decode cX7_coveredShare 17 = .ok (.iload_n 2, 1) := by decide +kernel
theorem dX7_coveredShare_18 : decode cX7_coveredShare 18 = .ok (.invokevirtual 152, 3) := by decide +kernel
theorem dX7_coveredShare_21 : decode cX7_coveredShare 21 = .ok (.iconst (-1), 1) := by decide +kernel
theorem dX7_coveredShare_22 : decode cX7_coveredShare 22 = .ok (.if_icmp .ne 7, 3) := by decide +kernel
theorem dX7_coveredShare_25 : decode cX7_coveredShare 25 = .ok (.iconst 0, 1) := by decide +kernel
theorem dX7_coveredShare_26 : decode cX7_coveredShare 26 = .ok (.goto 4, 3) := by decide +kernel
theorem dX7_coveredShare_29 : decode cX7_coveredShare 29 = .ok (.iconst 1, 1) := by decide +kernel
theorem dX7_coveredShare_30 : decode cX7_coveredShare 30 = .ok (.iadd, 1) := by decide +kernel
theorem dX7_coveredShare_31 : decode cX7_coveredShare 31 = .ok (.istore_n 1, 1) := by decide +kernel
theorem dX7_coveredShare_32 : decode cX7_coveredShare 32 = .ok (.iinc 2 1, 3) := by decide +kernel
theorem dX7_coveredShare_35 : decode cX7_coveredShare 35 = .ok (.goto (-26), 3) := by decide +kernel
theorem dX7_coveredShare_38 : decode cX7_coveredShare 38 = .ok (.iload_n 1, 1) := by decide +kernel
theorem dX7_coveredShare_39 : decode cX7_coveredShare 39 = .ok (.i2f, 1) := by decide +kernel
theorem dX7_coveredShare_40 : decode cX7_coveredShare 40 = .ok (.ldc 178, 2) := by decide +kernel
theorem dX7_coveredShare_42 : decode cX7_coveredShare 42 = .ok (.fdiv, 1) := by decide +kernel
theorem dX7_coveredShare_43 : decode cX7_coveredShare 43 = .ok (.freturn, 1) := by decide +kernel
theorem dX7_isConsistent_0 : decode cX7_isConsistent 0 = .ok (.aload_n 0, 1) := by decide +kernel
theorem dX7_isConsistent_1 : decode cX7_isConsistent 1 = .ok (.iconst 0, 1) := by decide +kernel
theorem dX7_isConsistent_2 : decode cX7_isConsistent 2 = .ok (.putfield 47, 3) := by decide +kernel
theorem dX7_isConsistent_5 : decode cX7_isConsistent 5 = .ok (.iconst 1, 1) := by decide +kernel
theorem dX7_isConsistent_6 : decode cX7_isConsistent 6 = .ok (.ireturn, 1) := by decide +kernel
theorem dX7_feed_0 : decode cX7_feed 0 = .ok (.aload_n 0, 1) := by decide +kernel
theorem dX7_feed_1 : decode cX7_feed 1 = .ok (.aload_n 0, 1) := by decide +kernel
theorem dX7_feed_2 : decode cX7_feed 2 = .ok (.getfield 179, 3) := by decide +kernel
theorem dX7_feed_5 : decode cX7_feed 5 = .ok (.bipush 60, 2) := by decide +kernel
theorem dX7_feed_7 : decode cX7_feed 7 = .ok (.if_icmp .ne 7, 3) := by decide +kernel
theorem dX7_feed_10 : decode cX7_feed 10 = .ok (.iconst 1, 1) := by decide +kernel
theorem dX7_feed_11 : decode cX7_feed 11 = .ok (.goto 4, 3) := by decide +kernel
theorem dX7_feed_14 : decode cX7_feed 14 = .ok (.iconst 0, 1) := by decide +kernel
theorem dX7_feed_15 : decode cX7_feed 15 = .ok (.putfield 47, 3) := by decide +kernel
theorem dX7_feed_18 : decode cX7_feed 18 = .ok (.aload_n 0, 1) := by decide +kernel
theorem dX7_feed_19 : decode cX7_feed 19 = .ok (.getfield 47, 3) := by decide +kernel
theorem dX7_feed_22 : decode cX7_feed 22 = .ok (.ifCond .le 5, 3) := by decide +kernel
theorem dX7_feed_25 : decode cX7_feed 25 = .ok (.iconst 0, 1) := by decide +kernel
theorem dX7_feed_26 : decode cX7_feed 26 = .ok (.ireturn, 1) := by decide +kernel
theorem dX7_feed_27 : decode cX7_feed 27 = .ok (.aload_n 0, 1) := by decide +kernel
theorem dX7_feed_28 : decode cX7_feed 28 = .ok (.getfield 22, 3) := by decide +kernel
theorem dX7_feed_31 : decode cX7_feed 31 = .ok (.aload_n 0, 1) := by decide +kernel
theorem dX7_feed_32 : decode cX7_feed 32 = .ok (.getfield 179, 3) := by decide +kernel
theorem dX7_feed_35 : decode cX7_feed 35 = .ok (.iload_n 1, 1) := by decide +kernel
theorem dX7_feed_36 : decode cX7_feed 36 = .ok (.iastore, 1) := by decide +kernel
theorem dX7_feed_37 : decode cX7_feed 37 = .ok (.aload_n 0, 1) := by decide +kernel
theorem dX7_feed_38 : decode cX7_feed 38 = .ok (.dup, 1) := by decide +kernel
theorem dX7_feed_39 : decode cX7_feed 39 = .ok (.getfield 179, 3) := by decide +kernel
theorem dX7_feed_42 : decode cX7_feed 42 = .ok (.iconst 1, 1) := by decide +kernel
theorem dX7_feed_43 : decode cX7_feed 43 = .ok (.iadd, 1) := by decide +kernel
theorem dX7_feed_44 : decode cX7_feed 44 = .ok (.putfield 179, 3) := by decide +kernel
theorem dX7_feed_47 : decode cX7_feed 47 = .ok (.aload_n 0, 1) := by decide +kernel
theorem dX7_feed_48 : decode cX7_feed 48 = .ok (.getfield 179, 3) := by decide +kernel
theorem dX7_feed_51 : decode cX7_feed 51 = .ok (.ireturn, 1) := by decide +kernel
theorem dX7_here_0 : decode cX7_here 0 = .ok (.aload_n 0, 1) := by decide +kernel
theorem dX7_here_1 : decode cX7_here 1 = .ok (.getfield 182, 3) := by decide +kernel
theorem dX7_here_4 : decode cX7_here 4 = .ok (.iload_n 1, 1) := by decide +kernel
theorem dX7_here_5 : decode cX7_here 5 = .ok (.iadd, 1) := by decide +kernel
theorem dX7_here_6 : decode cX7_here 6 = .ok (.aload_n 0, 1) := by decide +kernel
theorem dX7_here_7 : decode cX7_here 7 = .ok (.getfield 185, 3) := by decide +kernel
theorem dX7_here_10 : decode cX7_here 10 = .ok (.if_icmp .ge 17, 3) := by decide +kernel
theorem dX7_here_13 : decode cX7_here 13 = .ok (.aload_n 0, 1) := by decide +kernel
theorem dX7_here_14 : decode cX7_here 14 = .ok (.getfield 22, 3) := by decide +kernel
theorem dX7_here_17 : decode cX7_here 17 = .ok (.aload_n 0, 1) := by decide +kernel
theorem dX7_here_18 : decode cX7_here 18 = .ok (.getfield 182, 3) := by decide +kernel
theorem dX7_here_21 : decode cX7_here 21 = .ok (.iload_n 1, 1) := by decide +kernel
theorem dX7_here_22 : decode cX7_here 22 = .ok (.iadd, 1) := by decide +kernel
theorem dX7_here_23 : decode cX7_here 23 = .ok (.iaload, 1) := by decide +kernel
theorem dX7_here_24 : decode cX7_here 24 = .ok (.goto 4, 3) := by decide +kernel
theorem dX7_here_27 : decode cX7_here 27 = .ok (.iconst (-1), 1) := by decide +kernel
theorem dX7_here_28 : decode cX7_here 28 = .ok (.ireturn, 1) := by decide +kernel
theorem dX7_says_0 : decode cX7_says 0 = .ok (.iconst 0, 1) := by decide +kernel
theorem dX7_says_1 : decode cX7_says 1 = .ok (.istore_n 2, 1) := by decide +kernel
theorem dX7_says_2 : decode cX7_says 2 = .ok (.iload_n 2, 1) := by decide +kernel
theorem dX7_says_3 : decode cX7_says 3 = .ok (.aload_n 1, 1) := by decide +kernel
theorem dX7_says_4 : decode cX7_says 4 = .ok (.invokevirtual 188, 3) := by decide +kernel
theorem dX7_says_7 : decode cX7_says 7 = .ok (.if_icmp .ge 59, 3) := by decide +kernel
theorem dX7_says_10 : decode cX7_says 10 = .ok (.aload_n 0, 1) := by decide +kernel
theorem dX7_says_11 : decode cX7_says 11 = .ok (.getfield 193, 3) := by decide +kernel
theorem dX7_says_14 : decode cX7_says 14 = .ok (.ifCond .ne 52, 3) := by decide +kernel
theorem dX7_says_17 : decode cX7_says 17 = .ok (.aload_n 0, 1) := by decide +kernel
theorem dX7_says_18 : decode cX7_says 18 = .ok (.aload_n 0, 1) := by decide +kernel
theorem dX7_says_19 : decode cX7_says 19 = .ok (.iconst 0, 1) := by decide +kernel
theorem dX7_says_20 : decode cX7_says 20 = .ok (.invokevirtual 197, 3) := by decide +kernel
theorem dX7_says_23 : decode cX7_says 23 = .ok (.aload_n 1, 1) := by decide +kernel
theorem dX7_says_24 : decode cX7_says 24 = .ok (.iload_n 2, 1) := by decide +kernel
theorem dX7_says_25 : decode cX7_says 25 = .ok (.invokevirtual 200, 3) := by decide +kernel
theorem dX7_says_28 : decode cX7_says 28 = .ok (.if_icmp .eq 7, 3) := by decide +kernel
theorem dX7_says_31 : decode cX7_says 31 = .ok (.iconst 1, 1) := by decide +kernel
theorem dX7_says_32 : decode cX7_says 32 = .ok (.goto 4, 3) := by decide +kernel
theorem dX7_says_35 : decode cX7_says 35 = .ok (.iconst 0, 1) := by decide +kernel
theorem dX7_says_36 : decode cX7_says 36 = .ok (.putfield 193, 3) := by decide +kernel
theorem dX7_says_39 : decode cX7_says 39 = .ok (.aload_n 0, 1) := by decide +kernel
theorem dX7_says_40 : decode cX7_says 40 = .ok (.dup, 1) := by decide +kernel
theorem dX7_says_41 : decode cX7_says 41 = .ok (.getfield 182, 3) := by decide +kernel
theorem dX7_says_44 : decode cX7_says 44 = .ok (.aload_n 0, 1) := by decide +kernel
theorem dX7_says_45 : decode cX7_says 45 = .ok (.getfield 193, 3) := by decide +kernel
theorem dX7_says_48 : decode cX7_says 48 = .ok (.ifCond .eq 7, 3) := by decide +kernel
theorem dX7_says_51 : decode cX7_says 51 = .ok (.iconst 0, 1) := by decide +kernel
theorem dX7_says_52 : decode cX7_says 52 = .ok (.goto 4, 3) := by decide +kernel
theorem dX7_says_55 : decode cX7_says 55 = .ok (.iconst 1, 1) := by decide +kernel
theorem dX7_says_56 : decode cX7_says 56 = .ok (.iadd, 1) := by decide +kernel
theorem dX7_says_57 : decode cX7_says 57 = .ok (.putfield 182, 3) := by decide +kernel
theorem dX7_says_60 : decode cX7_says 60 = .ok (.iinc 2 1, 3) := by decide +kernel
theorem dX7_says_63 : decode cX7_says 63 = .ok (.goto (-61), 3) := by decide +kernel
theorem dX7_says_66 : decode cX7_says 66 = .ok (.return_, 1) := by decide +kernel
theorem dX7_number_0 : decode cX7_number 0 = .ok (.iconst 0, 1) := by decide +kernel
theorem dX7_number_1 : decode cX7_number 1 = .ok (.istore_n 3, 1) := by decide +kernel
theorem dX7_number_2 : decode cX7_number 2 = .ok (.iconst 0, 1) := by decide +kernel
theorem dX7_number_3 : decode cX7_number 3 = .ok (.istore 4, 2) := by decide +kernel
theorem dX7_number_5 : decode cX7_number 5 = .ok (.aload_n 0, 1) := by decide +kernel
theorem dX7_number_6 : decode cX7_number 6 = .ok (.getfield 193, 3) := by decide +kernel
theorem dX7_number_9 : decode cX7_number 9 = .ok (.ifCond .ne 54, 3) := by decide +kernel
theorem dX7_number_12 : decode cX7_number 12 = .ok (.iload 4, 2) := by decide +kernel
theorem dX7_number_14 : decode cX7_number 14 = .ok (.iload_n 2, 1) := by decide +kernel
theorem dX7_number_15 : decode cX7_number 15 = .ok (.if_icmp .ge 48, 3) := by decide +kernel
theorem dX7_number_18 : decode cX7_number 18 = .ok (.aload_n 0, 1) := by decide +kernel
theorem dX7_number_19 : decode cX7_number 19 = .ok (.iconst 0, 1) := by decide +kernel
theorem dX7_number_20 : decode cX7_number 20 = .ok (.invokevirtual 197, 3) := by decide +kernel
theorem dX7_number_23 : decode cX7_number 23 = .ok (.bipush 48, 2) := by decide +kernel
theorem dX7_number_25 : decode cX7_number 25 = .ok (.bipush 57, 2) := by decide +kernel
theorem dX7_number_27 : decode cX7_number 27 = .ok (.invokestatic 63, 3) := by decide +kernel
theorem dX7_number_30 : decode cX7_number 30 = .ok (.ifCond .eq 33, 3) := by decide +kernel
theorem dX7_number_33 : decode cX7_number 33 = .ok (.bipush 10, 2) := by decide +kernel
theorem dX7_number_35 : decode cX7_number 35 = .ok (.iload_n 3, 1) := by decide +kernel
theorem dX7_number_36 : decode cX7_number 36 = .ok (.imul, 1) := by decide +kernel
theorem dX7_number_37 : decode cX7_number 37 = .ok (.aload_n 0, 1) := by decide +kernel
theorem dX7_number_38 : decode cX7_number 38 = .ok (.iconst 0, 1) := by decide +kernel
theorem dX7_number_39 : decode cX7_number 39 = .ok (.invokevirtual 197, 3) := by decide +kernel
theorem dX7_number_42 : decode cX7_number 42 = .ok (.iadd, 1) := by decide +kernel
theorem dX7_number_43 : decode cX7_number 43 = .ok (.bipush 48, 2) := by decide +kernel
theorem dX7_number_45 : decode cX7_number 45 = .ok (.isub, 1) := by decide +kernel
theorem dX7_number_46 : decode cX7_number 46 = .ok (.istore_n 3, 1) := by decide +kernel
theorem dX7_number_47 : decode cX7_number 47 = .ok (.aload_n 0, 1) := by decide +kernel
theorem dX7_number_48 : decode cX7_number 48 = .ok (.dup, 1) := by decide +kernel
theorem dX7_number_49 : decode cX7_number 49 = .ok (.getfield 182, 3) := by decide +kernel
theorem dX7_number_52 : decode cX7_number 52 = .ok (.iconst 1, 1) := by decide +kernel
theorem dX7_number_53 : decode cX7_number 53 = .ok (.iadd, 1) := by decide +kernel
theorem dX7_number_54 : decode cX7_number 54 = .ok (.putfield 182, 3) := by decide +kernel
theorem dX7_number_57 : decode cX7_number 57 = .ok (.iinc 4 1, 3) := by decide +kernel
theorem dX7_number_60 : decode cX7_number 60 = .ok (.goto (-55), 3) := by decide +kernel
theorem dX7_number_63 : decode cX7_number 63 = .ok (.aload_n 0, 1) := by decide +kernel
theorem dX7_number_64 : decode cX7_number 64 = .ok (.aload_n 0, 1) := by decide +kernel
theorem dX7_number_65 : decode cX7_number 65 = .ok (.getfield 193, 3) := by decide +kernel
theorem dX7_number_68 : decode cX7_number 68 = .ok (.ifCond .ne 8, 3) := by decide +kernel
theorem dX7_number_71 : decode cX7_number 71 = .ok (.iload 4, 2) := by decide +kernel
theorem dX7_number_73 : decode cX7_number 73 = .ok (.ifCond .ne 7, 3) := by decide +kernel
theorem dX7_number_76 : decode cX7_number 76 = .ok (.iconst 1, 1) := by decide +kernel
theorem dX7_number_77 : decode cX7_number 77 = .ok (.goto 4, 3) := by decide +kernel
theorem dX7_number_80 : decode cX7_number 80 = .ok (.iconst 0, 1) := by decide +kernel
theorem dX7_number_81 : decode cX7_number 81 = .ok (.putfield 193, 3) := by decide +kernel
theorem dX7_number_84 : decode cX7_number 84 = .ok (.aload_n 0, 1) := by decide +kernel
theorem dX7_number_85 : decode cX7_number 85 = .ok (.getfield 25, 3) := by decide +kernel
theorem dX7_number_88 : decode cX7_number 88 = .ok (.bipush 7, 2) := by decide +kernel
theorem dX7_number_90 : decode cX7_number 90 = .ok (.aload_n 0, 1) := by decide +kernel
theorem dX7_number_91 : decode cX7_number 91 = .ok (.getfield 204, 3) := by decide +kernel
theorem dX7_number_94 : decode cX7_number 94 = .ok (.imul, 1) := by decide +kernel
theorem dX7_number_95 : decode cX7_number 95 = .ok (.iload_n 1, 1) := by decide +kernel
theorem dX7_number_96 : decode cX7_number 96 = .ok (.iadd, 1) := by decide +kernel
theorem dX7_number_97 : decode cX7_number 97 = .ok (.iload_n 3, 1) := by decide +kernel
theorem dX7_number_98 : decode cX7_number 98 = .ok (.iastore, 1) := by decide +kernel
theorem dX7_number_99 : decode cX7_number 99 = .ok (.return_, 1) := by decide +kernel
theorem dX7_begun_0 : decode cX7_begun 0 = .ok (.aload_n 0, 1) := by decide +kernel
theorem dX7_begun_1 : decode cX7_begun 1 = .ok (.getfield 25, 3) := by decide +kernel
theorem dX7_begun_4 : decode cX7_begun 4 = .ok (.bipush 7, 2) := by decide +kernel
theorem dX7_begun_6 : decode cX7_begun 6 = .ok (.aload_n 0, 1) := by decide +kernel
theorem dX7_begun_7 : decode cX7_begun 7 = .ok (.getfield 204, 3) := by decide +kernel
theorem dX7_begun_10 : decode cX7_begun 10 = .ok (.imul, 1) := by decide +kernel
theorem dX7_begun_11 : decode cX7_begun 11 = .ok (.iload_n 1, 1) := by decide +kernel
theorem dX7_begun_12 : decode cX7_begun 12 = .ok (.iastore, 1) := by decide +kernel
theorem dX7_begun_13 : decode cX7_begun 13 = .ok (.aload_n 0, 1) := by decide +kernel
theorem dX7_begun_14 : decode cX7_begun 14 = .ok (.aload_n 2, 1) := by decide +kernel
theorem dX7_begun_15 : decode cX7_begun 15 = .ok (.invokevirtual 207, 3) := by decide +kernel
theorem dX7_begun_18 : decode cX7_begun 18 = .ok (.aload_n 0, 1) := by decide +kernel
theorem dX7_begun_19 : decode cX7_begun 19 = .ok (.ldc 211, 2) := by decide +kernel
theorem dX7_begun_21 : decode cX7_begun 21 = .ok (.invokevirtual 207, 3) := by decide +kernel
theorem dX7_begun_24 : decode cX7_begun 24 = .ok (.aload_n 0, 1) := by decide +kernel
theorem dX7_begun_25 : decode cX7_begun 25 = .ok (.iconst 1, 1) := by decide +kernel
theorem dX7_begun_26 : decode cX7_begun 26 = .ok (.iconst 1, 1) := by decide +kernel
theorem dX7_begun_27 : decode cX7_begun 27 = .ok (.invokevirtual 213, 3) := by decide +kernel
theorem dX7_begun_30 : decode cX7_begun 30 = .ok (.return_, 1) := by decide +kernel
theorem dX7_readsLayer_0 : decode cX7_readsLayer 0 = .ok (.aload_n 0, 1) := by decide +kernel
theorem dX7_readsLayer_1 : decode cX7_readsLayer 1 = .ok (.getfield 25, 3) := by decide +kernel
theorem dX7_readsLayer_4 : decode cX7_readsLayer 4 = .ok (.bipush 7, 2) := by decide +kernel
theorem dX7_readsLayer_6 : decode cX7_readsLayer 6 = .ok (.aload_n 0, 1) := by decide +kernel
theorem dX7_readsLayer_7 : decode cX7_readsLayer 7 = .ok (.getfield 204, 3) := by decide +kernel
theorem dX7_readsLayer_10 : decode cX7_readsLayer 10 = .ok (.imul, 1) := by decide +kernel
theorem dX7_readsLayer_11 : decode cX7_readsLayer 11 = .ok (.bipush 108, 2) := by decide +kernel
theorem dX7_readsLayer_13 : decode cX7_readsLayer 13 = .ok (.iastore, 1) := by decide +kernel
theorem dX7_readsLayer_14 : decode cX7_readsLayer 14 = .ok (.aload_n 0, 1) := by decide +kernel
theorem dX7_readsLayer_15 : decode cX7_readsLayer 15 = .ok (.ldc 216, 2) := by decide +kernel
theorem dX7_readsLayer_17 : decode cX7_readsLayer 17 = .ok (.invokevirtual 207, 3) := by decide +kernel
theorem dX7_readsLayer_20 : decode cX7_readsLayer 20 = .ok (.aload_n 0, 1) := by decide +kernel
theorem dX7_readsLayer_21 : decode cX7_readsLayer 21 = .ok (.aload_n 0, 1) := by decide +kernel
theorem dX7_readsLayer_22 : decode cX7_readsLayer 22 = .ok (.getfield 193, 3) := by decide +kernel
theorem dX7_readsLayer_25 : decode cX7_readsLayer 25 = .ok (.ifCond .ne 14, 3) := by decide +kernel
theorem dX7_readsLayer_28 : decode cX7_readsLayer 28 = .ok (.aload_n 0, 1) := by decide +kernel
theorem dX7_readsLayer_29 : decode cX7_readsLayer 29 = .ok (.iconst 0, 1) := by decide +kernel
theorem dX7_readsLayer_30 : decode cX7_readsLayer 30 = .ok (.invokevirtual 197, 3) := by decide +kernel
theorem dX7_readsLayer_33 : decode cX7_readsLayer 33 = .ok (.invokestatic 86, 3) := by decide +kernel
theorem dX7_readsLayer_36 : decode cX7_readsLayer 36 = .ok (.ifCond .ne 7, 3) := by decide +kernel
theorem dX7_readsLayer_39 : decode cX7_readsLayer 39 = .ok (.iconst 1, 1) := by decide +kernel
theorem dX7_readsLayer_40 : decode cX7_readsLayer 40 = .ok (.goto 4, 3) := by decide +kernel
theorem dX7_readsLayer_43 : decode cX7_readsLayer 43 = .ok (.iconst 0, 1) := by decide +kernel
theorem dX7_readsLayer_44 : decode cX7_readsLayer 44 = .ok (.putfield 193, 3) := by decide +kernel
theorem dX7_readsLayer_47 : decode cX7_readsLayer 47 = .ok (.aload_n 0, 1) := by decide +kernel
theorem dX7_readsLayer_48 : decode cX7_readsLayer 48 = .ok (.getfield 25, 3) := by decide +kernel
theorem dX7_readsLayer_51 : decode cX7_readsLayer 51 = .ok (.bipush 7, 2) := by decide +kernel
theorem dX7_readsLayer_53 : decode cX7_readsLayer 53 = .ok (.aload_n 0, 1) := by decide +kernel
theorem dX7_readsLayer_54 : decode cX7_readsLayer 54 = .ok (.getfield 204, 3) := by decide +kernel
theorem dX7_readsLayer_57 : decode cX7_readsLayer 57 = .ok (.imul, 1) := by decide +kernel
theorem dX7_readsLayer_58 : decode cX7_readsLayer 58 = .ok (.iconst 1, 1) := by decide +kernel
theorem dX7_readsLayer_59 : decode cX7_readsLayer 59 = .ok (.iadd, 1) := by decide +kernel
theorem dX7_readsLayer_60 : decode cX7_readsLayer 60 = .ok (.aload_n 0, 1) := by decide +kernel
theorem dX7_readsLayer_61 : decode cX7_readsLayer 61 = .ok (.getfield 193, 3) := by decide +kernel
theorem dX7_readsLayer_64 : decode cX7_readsLayer 64 = .ok (.ifCond .eq 7, 3) := by decide +kernel
theorem dX7_readsLayer_67 : decode cX7_readsLayer 67 = .ok (.iconst 0, 1) := by decide +kernel
theorem dX7_readsLayer_68 : decode cX7_readsLayer 68 = .ok (.goto 8, 3) := by decide +kernel
theorem dX7_readsLayer_71 : decode cX7_readsLayer 71 = .ok (.aload_n 0, 1) := by decide +kernel
theorem dX7_readsLayer_72 : decode cX7_readsLayer 72 = .ok (.iconst 0, 1) := by decide +kernel
theorem dX7_readsLayer_73 : decode cX7_readsLayer 73 = .ok (.invokevirtual 197, 3) := by decide +kernel
theorem dX7_readsLayer_76 : decode cX7_readsLayer 76 = .ok (.iastore, 1) := by decide +kernel
theorem dX7_readsLayer_77 : decode cX7_readsLayer 77 = .ok (.aload_n 0, 1) := by decide +kernel
theorem dX7_readsLayer_78 : decode cX7_readsLayer 78 = .ok (.dup, 1) := by decide +kernel
theorem dX7_readsLayer_79 : decode cX7_readsLayer 79 = .ok (.getfield 182, 3) := by decide +kernel
theorem dX7_readsLayer_82 : decode cX7_readsLayer 82 = .ok (.aload_n 0, 1) := by decide +kernel
theorem dX7_readsLayer_83 : decode cX7_readsLayer 83 = .ok (.getfield 193, 3) := by decide +kernel
theorem dX7_readsLayer_86 : decode cX7_readsLayer 86 = .ok (.ifCond .eq 7, 3) := by decide +kernel
theorem dX7_readsLayer_89 : decode cX7_readsLayer 89 = .ok (.iconst 0, 1) := by decide +kernel
theorem dX7_readsLayer_90 : decode cX7_readsLayer 90 = .ok (.goto 4, 3) := by decide +kernel
theorem dX7_readsLayer_93 : decode cX7_readsLayer 93 = .ok (.iconst 1, 1) := by decide +kernel
theorem dX7_readsLayer_94 : decode cX7_readsLayer 94 = .ok (.iadd, 1) := by decide +kernel
theorem dX7_readsLayer_95 : decode cX7_readsLayer 95 = .ok (.putfield 182, 3) := by decide +kernel
theorem dX7_readsLayer_98 : decode cX7_readsLayer 98 = .ok (.return_, 1) := by decide +kernel
theorem dX7_readsOne_0 : decode cX7_readsOne 0 = .ok (.aload_n 0, 1) := by decide +kernel
theorem dX7_readsOne_1 : decode cX7_readsOne 1 = .ok (.iconst 0, 1) := by decide +kernel
theorem dX7_readsOne_2 : decode cX7_readsOne 2 = .ok (.invokevirtual 197, 3) := by decide +kernel
theorem dX7_readsOne_5 : decode cX7_readsOne 5 = .ok (.tableswitch 270 99 115 #[247, 270, 140, 270, 270, 181, 270, 270, 270, 83, 203, 270, 270, 90, 270, 270, 192], 83) := by decide +kernel
theorem dX7_readsOne_88 : decode cX7_readsOne 88 = .ok (.aload_n 0, 1) := by decide +kernel
theorem dX7_readsOne_89 : decode cX7_readsOne 89 = .ok (.invokevirtual 218, 3) := by decide +kernel
theorem dX7_readsOne_92 : decode cX7_readsOne 92 = .ok (.goto 188, 3) := by decide +kernel
theorem dX7_readsOne_95 : decode cX7_readsOne 95 = .ok (.aload_n 0, 1) := by decide +kernel
theorem dX7_readsOne_96 : decode cX7_readsOne 96 = .ok (.bipush 112, 2) := by decide +kernel
theorem dX7_readsOne_98 : decode cX7_readsOne 98 = .ok (.ldc 221, 2) := by decide +kernel
theorem dX7_readsOne_100 : decode cX7_readsOne 100 = .ok (.invokevirtual 223, 3) := by decide +kernel
theorem dX7_readsOne_103 : decode cX7_readsOne 103 = .ok (.aload_n 0, 1) := by decide +kernel
theorem dX7_readsOne_104 : decode cX7_readsOne 104 = .ok (.ldc 211, 2) := by decide +kernel
theorem dX7_readsOne_106 : decode cX7_readsOne 106 = .ok (.invokevirtual 207, 3) := by decide +kernel
theorem dX7_readsOne_109 : decode cX7_readsOne 109 = .ok (.iconst 2, 1) := by decide +kernel
theorem dX7_readsOne_110 : decode cX7_readsOne 110 = .ok (.istore_n 1, 1) := by decide +kernel
theorem dX7_readsOne_111 : decode cX7_readsOne 111 = .ok (.iload_n 1, 1) := by decide +kernel
theorem dX7_readsOne_112 : decode cX7_readsOne 112 = .ok (.bipush 6, 2) := by decide +kernel
theorem dX7_readsOne_114 : decode cX7_readsOne 114 = .ok (.if_icmp .ge 15, 3) := by decide +kernel
theorem dX7_readsOne_117 : decode cX7_readsOne 117 = .ok (.aload_n 0, 1) := by decide +kernel
theorem dX7_readsOne_118 : decode cX7_readsOne 118 = .ok (.iload_n 1, 1) := by decide +kernel
theorem dX7_readsOne_119 : decode cX7_readsOne 119 = .ok (.iconst 1, 1) := by decide +kernel
theorem dX7_readsOne_120 : decode cX7_readsOne 120 = .ok (.invokevirtual 213, 3) := by decide +kernel
theorem dX7_readsOne_123 : decode cX7_readsOne 123 = .ok (.iinc 1 1, 3) := by decide +kernel
theorem dX7_readsOne_126 : decode cX7_readsOne 126 = .ok (.goto (-15), 3) := by decide +kernel
theorem dX7_readsOne_129 : decode cX7_readsOne 129 = .ok (.aload_n 0, 1) := by decide +kernel
theorem dX7_readsOne_130 : decode cX7_readsOne 130 = .ok (.ldc 211, 2) := by decide +kernel
theorem dX7_readsOne_132 : decode cX7_readsOne 132 = .ok (.invokevirtual 207, 3) := by decide +kernel
theorem dX7_readsOne_135 : decode cX7_readsOne 135 = .ok (.aload_n 0, 1) := by decide +kernel
theorem dX7_readsOne_136 : decode cX7_readsOne 136 = .ok (.bipush 6, 2) := by decide +kernel
theorem dX7_readsOne_138 : decode cX7_readsOne 138 = .ok (.iconst 2, 1) := by decide +kernel
theorem dX7_readsOne_139 : decode cX7_readsOne 139 = .ok (.invokevirtual 213, 3) := by decide +kernel
theorem dX7_readsOne_142 : decode cX7_readsOne 142 = .ok (.goto 138, 3) := by decide +kernel
theorem dX7_readsOne_145 : decode cX7_readsOne 145 = .ok (.aload_n 0, 1) := by decide +kernel
theorem dX7_readsOne_146 : decode cX7_readsOne 146 = .ok (.bipush 101, 2) := by decide +kernel
theorem dX7_readsOne_148 : decode cX7_readsOne 148 = .ok (.ldc 227, 2) := by decide +kernel
theorem dX7_readsOne_150 : decode cX7_readsOne 150 = .ok (.invokevirtual 223, 3) := by decide +kernel
theorem dX7_readsOne_153 : decode cX7_readsOne 153 = .ok (.aload_n 0, 1) := by decide +kernel
theorem dX7_readsOne_154 : decode cX7_readsOne 154 = .ok (.ldc 211, 2) := by decide +kernel
theorem dX7_readsOne_156 : decode cX7_readsOne 156 = .ok (.invokevirtual 207, 3) := by decide +kernel
theorem dX7_readsOne_159 : decode cX7_readsOne 159 = .ok (.aload_n 0, 1) := by decide +kernel
theorem dX7_readsOne_160 : decode cX7_readsOne 160 = .ok (.iconst 2, 1) := by decide +kernel
theorem dX7_readsOne_161 : decode cX7_readsOne 161 = .ok (.iconst 1, 1) := by decide +kernel
theorem dX7_readsOne_162 : decode cX7_readsOne 162 = .ok (.invokevirtual 213, 3) := by decide +kernel
theorem dX7_readsOne_165 : decode cX7_readsOne 165 = .ok (.aload_n 0, 1) := by decide +kernel
theorem dX7_readsOne_166 : decode cX7_readsOne 166 = .ok (.iconst 3, 1) := by decide +kernel
theorem dX7_readsOne_167 : decode cX7_readsOne 167 = .ok (.iconst 1, 1) := by decide +kernel
theorem dX7_readsOne_168 : decode cX7_readsOne 168 = .ok (.invokevirtual 213, 3) := by decide +kernel
theorem dX7_readsOne_171 : decode cX7_readsOne 171 = .ok (.aload_n 0, 1) := by decide +kernel
theorem dX7_readsOne_172 : decode cX7_readsOne 172 = .ok (.ldc 211, 2) := by decide +kernel
theorem dX7_readsOne_174 : decode cX7_readsOne 174 = .ok (.invokevirtual 207, 3) := by decide +kernel
theorem dX7_readsOne_177 : decode cX7_readsOne 177 = .ok (.aload_n 0, 1) := by decide +kernel
theorem dX7_readsOne_178 : decode cX7_readsOne 178 = .ok (.iconst 4, 1) := by decide +kernel
theorem dX7_readsOne_179 : decode cX7_readsOne 179 = .ok (.iconst 1, 1) := by decide +kernel
theorem dX7_readsOne_180 : decode cX7_readsOne 180 = .ok (.invokevirtual 213, 3) := by decide +kernel
theorem dX7_readsOne_183 : decode cX7_readsOne 183 = .ok (.goto 97, 3) := by decide +kernel
theorem dX7_readsOne_186 : decode cX7_readsOne 186 = .ok (.aload_n 0, 1) := by decide +kernel
theorem dX7_readsOne_187 : decode cX7_readsOne 187 = .ok (.bipush 104, 2) := by decide +kernel
theorem dX7_readsOne_189 : decode cX7_readsOne 189 = .ok (.ldc 229, 2) := by decide +kernel
theorem dX7_readsOne_191 : decode cX7_readsOne 191 = .ok (.invokevirtual 223, 3) := by decide +kernel
theorem dX7_readsOne_194 : decode cX7_readsOne 194 = .ok (.goto 86, 3) := by decide +kernel
theorem dX7_readsOne_197 : decode cX7_readsOne 197 = .ok (.aload_n 0, 1) := by decide +kernel
theorem dX7_readsOne_198 : decode cX7_readsOne 198 = .ok (.bipush 115, 2) := by decide +kernel
theorem dX7_readsOne_200 : decode cX7_readsOne 200 = .ok (.ldc 231, 2) := by decide +kernel
theorem dX7_readsOne_202 : decode cX7_readsOne 202 = .ok (.invokevirtual 223, 3) := by decide +kernel
theorem dX7_readsOne_205 : decode cX7_readsOne 205 = .ok (.goto 75, 3) := by decide +kernel
theorem dX7_readsOne_208 : decode cX7_readsOne 208 = .ok (.aload_n 0, 1) := by decide +kernel
theorem dX7_readsOne_209 : decode cX7_readsOne 209 = .ok (.iconst 1, 1) := by decide +kernel
theorem dX7_readsOne_210 : decode cX7_readsOne 210 = .ok (.invokevirtual 197, 3) := by decide +kernel
theorem dX7_readsOne_213 : decode cX7_readsOne 213 = .ok (.bipush 111, 2) := by decide +kernel
theorem dX7_readsOne_215 : decode cX7_readsOne 215 = .ok (.if_icmp .ne 26, 3) := by decide +kernel
theorem dX7_readsOne_218 : decode cX7_readsOne 218 = .ok (.aload_n 0, 1) := by decide +kernel
theorem dX7_readsOne_219 : decode cX7_readsOne 219 = .ok (.bipush 111, 2) := by decide +kernel
theorem dX7_readsOne_221 : decode cX7_readsOne 221 = .ok (.ldc 233, 2) := by decide +kernel
theorem dX7_readsOne_223 : decode cX7_readsOne 223 = .ok (.invokevirtual 223, 3) := by decide +kernel
theorem dX7_readsOne_226 : decode cX7_readsOne 226 = .ok (.aload_n 0, 1) := by decide +kernel
theorem dX7_readsOne_227 : decode cX7_readsOne 227 = .ok (.ldc 211, 2) := by decide +kernel
theorem dX7_readsOne_229 : decode cX7_readsOne 229 = .ok (.invokevirtual 207, 3) := by decide +kernel
theorem dX7_readsOne_232 : decode cX7_readsOne 232 = .ok (.aload_n 0, 1) := by decide +kernel
theorem dX7_readsOne_233 : decode cX7_readsOne 233 = .ok (.iconst 2, 1) := by decide +kernel
theorem dX7_readsOne_234 : decode cX7_readsOne 234 = .ok (.iconst 1, 1) := by decide +kernel
theorem dX7_readsOne_235 : decode cX7_readsOne 235 = .ok (.invokevirtual 213, 3) := by decide +kernel
theorem dX7_readsOne_238 : decode cX7_readsOne 238 = .ok (.goto 42, 3) := by decide +kernel
theorem dX7_readsOne_241 : decode cX7_readsOne 241 = .ok (.aload_n 0, 1) := by decide +kernel
theorem dX7_readsOne_242 : decode cX7_readsOne 242 = .ok (.bipush 109, 2) := by decide +kernel
theorem dX7_readsOne_244 : decode cX7_readsOne 244 = .ok (.ldc 235, 2) := by decide +kernel
theorem dX7_readsOne_246 : decode cX7_readsOne 246 = .ok (.invokevirtual 223, 3) := by decide +kernel
theorem dX7_readsOne_249 : decode cX7_readsOne 249 = .ok (.goto 31, 3) := by decide +kernel
theorem dX7_readsOne_252 : decode cX7_readsOne 252 = .ok (.aload_n 0, 1) := by decide +kernel
theorem dX7_readsOne_253 : decode cX7_readsOne 253 = .ok (.bipush 99, 2) := by decide +kernel
theorem dX7_readsOne_255 : decode cX7_readsOne 255 = .ok (.ldc 237, 2) := by decide +kernel
theorem dX7_readsOne_257 : decode cX7_readsOne 257 = .ok (.invokevirtual 223, 3) := by decide +kernel
theorem dX7_readsOne_260 : decode cX7_readsOne 260 = .ok (.aload_n 0, 1) := by decide +kernel
theorem dX7_readsOne_261 : decode cX7_readsOne 261 = .ok (.ldc 211, 2) := by decide +kernel
theorem dX7_readsOne_263 : decode cX7_readsOne 263 = .ok (.invokevirtual 207, 3) := by decide +kernel
theorem dX7_readsOne_266 : decode cX7_readsOne 266 = .ok (.aload_n 0, 1) := by decide +kernel
theorem dX7_readsOne_267 : decode cX7_readsOne 267 = .ok (.iconst 2, 1) := by decide +kernel
theorem dX7_readsOne_268 : decode cX7_readsOne 268 = .ok (.iconst 2, 1) := by decide +kernel
theorem dX7_readsOne_269 : decode cX7_readsOne 269 = .ok (.invokevirtual 213, 3) := by decide +kernel
theorem dX7_readsOne_272 : decode cX7_readsOne 272 = .ok (.goto 8, 3) := by decide +kernel
theorem dX7_readsOne_275 : decode cX7_readsOne 275 = .ok (.aload_n 0, 1) := by decide +kernel
theorem dX7_readsOne_276 : decode cX7_readsOne 276 = .ok (.iconst 1, 1) := by decide +kernel
theorem dX7_readsOne_277 : decode cX7_readsOne 277 = .ok (.putfield 193, 3) := by decide +kernel
theorem dX7_readsOne_280 : decode cX7_readsOne 280 = .ok (.aload_n 0, 1) := by decide +kernel
theorem dX7_readsOne_281 : decode cX7_readsOne 281 = .ok (.dup, 1) := by decide +kernel
theorem dX7_readsOne_282 : decode cX7_readsOne 282 = .ok (.getfield 204, 3) := by decide +kernel
theorem dX7_readsOne_285 : decode cX7_readsOne 285 = .ok (.iconst 1, 1) := by decide +kernel
theorem dX7_readsOne_286 : decode cX7_readsOne 286 = .ok (.iadd, 1) := by decide +kernel
theorem dX7_readsOne_287 : decode cX7_readsOne 287 = .ok (.putfield 204, 3) := by decide +kernel
theorem dX7_readsOne_290 : decode cX7_readsOne 290 = .ok (.return_, 1) := by decide +kernel
theorem dX7_does_0 : decode cX7_does 0 = .ok (.bipush 7, 2) := by decide +kernel
theorem dX7_does_2 : decode cX7_does 2 = .ok (.iload_n 1, 1) := by decide +kernel
theorem dX7_does_3 : decode cX7_does 3 = .ok (.imul, 1) := by decide +kernel
theorem dX7_does_4 : decode cX7_does 4 = .ok (.istore_n 2, 1) := by decide +kernel
theorem dX7_does_5 : decode cX7_does 5 = .ok (.aload_n 0, 1) := by decide +kernel
theorem dX7_does_6 : decode cX7_does 6 = .ok (.getfield 25, 3) := by decide +kernel
theorem dX7_does_9 : decode cX7_does 9 = .ok (.iload_n 2, 1) := by decide +kernel
theorem dX7_does_10 : decode cX7_does 10 = .ok (.iaload, 1) := by decide +kernel
theorem dX7_does_11 : decode cX7_does 11 = .ok (.tableswitch 239 101 115 #[140, 239, 239, 177, 239, 239, 239, 73, 226, 239, 205, 86, 239, 239, 191], 73) := by decide +kernel
theorem dX7_does_84 : decode cX7_does 84 = .ok (.aload_n 0, 1) := by decide +kernel
theorem dX7_does_85 : decode cX7_does 85 = .ok (.aload_n 0, 1) := by decide +kernel
theorem dX7_does_86 : decode cX7_does 86 = .ok (.getfield 25, 3) := by decide +kernel
theorem dX7_does_89 : decode cX7_does 89 = .ok (.iload_n 2, 1) := by decide +kernel
theorem dX7_does_90 : decode cX7_does 90 = .ok (.iconst 1, 1) := by decide +kernel
theorem dX7_does_91 : decode cX7_does 91 = .ok (.iadd, 1) := by decide +kernel
theorem dX7_does_92 : decode cX7_does 92 = .ok (.iaload, 1) := by decide +kernel
theorem dX7_does_93 : decode cX7_does 93 = .ok (.invokevirtual 120, 3) := by decide +kernel
theorem dX7_does_96 : decode cX7_does 96 = .ok (.ireturn, 1) := by decide +kernel
theorem dX7_does_97 : decode cX7_does 97 = .ok (.aload_n 0, 1) := by decide +kernel
theorem dX7_does_98 : decode cX7_does 98 = .ok (.aload_n 0, 1) := by decide +kernel
theorem dX7_does_99 : decode cX7_does 99 = .ok (.getfield 25, 3) := by decide +kernel
theorem dX7_does_102 : decode cX7_does 102 = .ok (.iload_n 2, 1) := by decide +kernel
theorem dX7_does_103 : decode cX7_does 103 = .ok (.iconst 1, 1) := by decide +kernel
theorem dX7_does_104 : decode cX7_does 104 = .ok (.iadd, 1) := by decide +kernel
theorem dX7_does_105 : decode cX7_does 105 = .ok (.iaload, 1) := by decide +kernel
theorem dX7_does_106 : decode cX7_does 106 = .ok (.aload_n 0, 1) := by decide +kernel
theorem dX7_does_107 : decode cX7_does 107 = .ok (.getfield 25, 3) := by decide +kernel
theorem dX7_does_110 : decode cX7_does 110 = .ok (.iload_n 2, 1) := by decide +kernel
theorem dX7_does_111 : decode cX7_does 111 = .ok (.iconst 2, 1) := by decide +kernel
theorem dX7_does_112 : decode cX7_does 112 = .ok (.iadd, 1) := by decide +kernel
theorem dX7_does_113 : decode cX7_does 113 = .ok (.iaload, 1) := by decide +kernel
theorem dX7_does_114 : decode cX7_does 114 = .ok (.aload_n 0, 1) := by decide +kernel
theorem dX7_does_115 : decode cX7_does 115 = .ok (.getfield 25, 3) := by decide +kernel
theorem dX7_does_118 : decode cX7_does 118 = .ok (.iload_n 2, 1) := by decide +kernel
theorem dX7_does_119 : decode cX7_does 119 = .ok (.iconst 3, 1) := by decide +kernel
theorem dX7_does_120 : decode cX7_does 120 = .ok (.iadd, 1) := by decide +kernel
theorem dX7_does_121 : decode cX7_does 121 = .ok (.iaload, 1) := by decide +kernel
theorem dX7_does_122 : decode cX7_does 122 = .ok (.aload_n 0, 1) := by decide +kernel
theorem dX7_does_123 : decode cX7_does 123 = .ok (.getfield 25, 3) := by decide +kernel
theorem dX7_does_126 : decode cX7_does 126 = .ok (.iload_n 2, 1) := by decide +kernel
theorem dX7_does_127 : decode cX7_does 127 = .ok (.iconst 4, 1) := by decide +kernel
theorem dX7_does_128 : decode cX7_does 128 = .ok (.iadd, 1) := by decide +kernel
theorem dX7_does_129 : decode cX7_does 129 = .ok (.iaload, 1) := by decide +kernel
theorem dX7_does_130 : decode cX7_does 130 = .ok (.aload_n 0, 1) := by decide +kernel
theorem dX7_does_131 : decode cX7_does 131 = .ok (.getfield 25, 3) := by decide +kernel
theorem dX7_does_134 : decode cX7_does 134 = .ok (.iload_n 2, 1) := by decide +kernel
theorem dX7_does_135 : decode cX7_does 135 = .ok (.iconst 5, 1) := by decide +kernel
theorem dX7_does_136 : decode cX7_does 136 = .ok (.iadd, 1) := by decide +kernel
theorem dX7_does_137 : decode cX7_does 137 = .ok (.iaload, 1) := by decide +kernel
theorem dX7_does_138 : decode cX7_does 138 = .ok (.aload_n 0, 1) := by decide +kernel
theorem dX7_does_139 : decode cX7_does 139 = .ok (.getfield 25, 3) := by decide +kernel
theorem dX7_does_142 : decode cX7_does 142 = .ok (.iload_n 2, 1) := by decide +kernel
theorem dX7_does_143 : decode cX7_does 143 = .ok (.bipush 6, 2) := by decide +kernel
theorem dX7_does_145 : decode cX7_does 145 = .ok (.iadd, 1) := by decide +kernel
theorem dX7_does_146 : decode cX7_does 146 = .ok (.iaload, 1) := by decide +kernel
theorem dX7_does_147 : decode cX7_does 147 = .ok (.invokevirtual 129, 3) := by decide +kernel
theorem dX7_does_150 : decode cX7_does 150 = .ok (.ireturn, 1) := by decide +kernel
theorem dX7_does_151 : decode cX7_does 151 = .ok (.aload_n 0, 1) := by decide +kernel
theorem dX7_does_152 : decode cX7_does 152 = .ok (.aload_n 0, 1) := by decide +kernel
theorem dX7_does_153 : decode cX7_does 153 = .ok (.getfield 25, 3) := by decide +kernel
theorem dX7_does_156 : decode cX7_does 156 = .ok (.iload_n 2, 1) := by decide +kernel
theorem dX7_does_157 : decode cX7_does 157 = .ok (.iconst 1, 1) := by decide +kernel
theorem dX7_does_158 : decode cX7_does 158 = .ok (.iadd, 1) := by decide +kernel
theorem dX7_does_159 : decode cX7_does 159 = .ok (.iaload, 1) := by decide +kernel
theorem dX7_does_160 : decode cX7_does 160 = .ok (.aload_n 0, 1) := by decide +kernel
theorem dX7_does_161 : decode cX7_does 161 = .ok (.getfield 25, 3) := by decide +kernel
theorem dX7_does_164 : decode cX7_does 164 = .ok (.iload_n 2, 1) := by decide +kernel
theorem dX7_does_165 : decode cX7_does 165 = .ok (.iconst 2, 1) := by decide +kernel
theorem dX7_does_166 : decode cX7_does 166 = .ok (.iadd, 1) := by decide +kernel
theorem dX7_does_167 : decode cX7_does 167 = .ok (.iaload, 1) := by decide +kernel
theorem dX7_does_168 : decode cX7_does 168 = .ok (.aload_n 0, 1) := by decide +kernel
theorem dX7_does_169 : decode cX7_does 169 = .ok (.getfield 25, 3) := by decide +kernel
theorem dX7_does_172 : decode cX7_does 172 = .ok (.iload_n 2, 1) := by decide +kernel
theorem dX7_does_173 : decode cX7_does 173 = .ok (.iconst 3, 1) := by decide +kernel
theorem dX7_does_174 : decode cX7_does 174 = .ok (.iadd, 1) := by decide +kernel
theorem dX7_does_175 : decode cX7_does 175 = .ok (.iaload, 1) := by decide +kernel
theorem dX7_does_176 : decode cX7_does 176 = .ok (.aload_n 0, 1) := by decide +kernel
theorem dX7_does_177 : decode cX7_does 177 = .ok (.getfield 25, 3) := by decide +kernel
theorem dX7_does_180 : decode cX7_does 180 = .ok (.iload_n 2, 1) := by decide +kernel
theorem dX7_does_181 : decode cX7_does 181 = .ok (.iconst 4, 1) := by decide +kernel
theorem dX7_does_182 : decode cX7_does 182 = .ok (.iadd, 1) := by decide +kernel
theorem dX7_does_183 : decode cX7_does 183 = .ok (.iaload, 1) := by decide +kernel
theorem dX7_does_184 : decode cX7_does 184 = .ok (.invokevirtual 133, 3) := by decide +kernel
theorem dX7_does_187 : decode cX7_does 187 = .ok (.ireturn, 1) := by decide +kernel
theorem dX7_does_188 : decode cX7_does 188 = .ok (.aload_n 0, 1) := by decide +kernel
theorem dX7_does_189 : decode cX7_does 189 = .ok (.aload_n 0, 1) := by decide +kernel
theorem dX7_does_190 : decode cX7_does 190 = .ok (.getfield 25, 3) := by decide +kernel
theorem dX7_does_193 : decode cX7_does 193 = .ok (.iload_n 2, 1) := by decide +kernel
theorem dX7_does_194 : decode cX7_does 194 = .ok (.iconst 1, 1) := by decide +kernel
theorem dX7_does_195 : decode cX7_does 195 = .ok (.iadd, 1) := by decide +kernel
theorem dX7_does_196 : decode cX7_does 196 = .ok (.iaload, 1) := by decide +kernel
theorem dX7_does_197 : decode cX7_does 197 = .ok (.iconst 0, 1) := by decide +kernel
theorem dX7_does_198 : decode cX7_does 198 = .ok (.invokevirtual 137, 3) := by decide +kernel
theorem dX7_does_201 : decode cX7_does 201 = .ok (.ireturn, 1) := by decide +kernel
theorem dX7_does_202 : decode cX7_does 202 = .ok (.aload_n 0, 1) := by decide +kernel
theorem dX7_does_203 : decode cX7_does 203 = .ok (.aload_n 0, 1) := by decide +kernel
theorem dX7_does_204 : decode cX7_does 204 = .ok (.getfield 25, 3) := by decide +kernel
theorem dX7_does_207 : decode cX7_does 207 = .ok (.iload_n 2, 1) := by decide +kernel
theorem dX7_does_208 : decode cX7_does 208 = .ok (.iconst 1, 1) := by decide +kernel
theorem dX7_does_209 : decode cX7_does 209 = .ok (.iadd, 1) := by decide +kernel
theorem dX7_does_210 : decode cX7_does 210 = .ok (.iaload, 1) := by decide +kernel
theorem dX7_does_211 : decode cX7_does 211 = .ok (.iconst 1, 1) := by decide +kernel
theorem dX7_does_212 : decode cX7_does 212 = .ok (.invokevirtual 137, 3) := by decide +kernel
theorem dX7_does_215 : decode cX7_does 215 = .ok (.ireturn, 1) := by decide +kernel
theorem dX7_does_216 : decode cX7_does 216 = .ok (.aload_n 0, 1) := by decide +kernel
theorem dX7_does_217 : decode cX7_does 217 = .ok (.aload_n 0, 1) := by decide +kernel
theorem dX7_does_218 : decode cX7_does 218 = .ok (.getfield 25, 3) := by decide +kernel
theorem dX7_does_221 : decode cX7_does 221 = .ok (.iload_n 2, 1) := by decide +kernel
theorem dX7_does_222 : decode cX7_does 222 = .ok (.iconst 1, 1) := by decide +kernel
theorem dX7_does_223 : decode cX7_does 223 = .ok (.iadd, 1) := by decide +kernel
theorem dX7_does_224 : decode cX7_does 224 = .ok (.iaload, 1) := by decide +kernel
theorem dX7_does_225 : decode cX7_does 225 = .ok (.aload_n 0, 1) := by decide +kernel
theorem dX7_does_226 : decode cX7_does 226 = .ok (.getfield 25, 3) := by decide +kernel
theorem dX7_does_229 : decode cX7_does 229 = .ok (.iload_n 2, 1) := by decide +kernel
theorem dX7_does_230 : decode cX7_does 230 = .ok (.iconst 2, 1) := by decide +kernel
theorem dX7_does_231 : decode cX7_does 231 = .ok (.iadd, 1) := by decide +kernel
theorem dX7_does_232 : decode cX7_does 232 = .ok (.iaload, 1) := by decide +kernel
theorem dX7_does_233 : decode cX7_does 233 = .ok (.invokevirtual 140, 3) := by decide +kernel
theorem dX7_does_236 : decode cX7_does 236 = .ok (.ireturn, 1) := by decide +kernel
theorem dX7_does_237 : decode cX7_does 237 = .ok (.aload_n 0, 1) := by decide +kernel
theorem dX7_does_238 : decode cX7_does 238 = .ok (.aload_n 0, 1) := by decide +kernel
theorem dX7_does_239 : decode cX7_does 239 = .ok (.getfield 25, 3) := by decide +kernel
theorem dX7_does_242 : decode cX7_does 242 = .ok (.iload_n 2, 1) := by decide +kernel
theorem dX7_does_243 : decode cX7_does 243 = .ok (.iconst 1, 1) := by decide +kernel
theorem dX7_does_244 : decode cX7_does 244 = .ok (.iadd, 1) := by decide +kernel
theorem dX7_does_245 : decode cX7_does 245 = .ok (.iaload, 1) := by decide +kernel
theorem dX7_does_246 : decode cX7_does 246 = .ok (.invokevirtual 143, 3) := by decide +kernel
theorem dX7_does_249 : decode cX7_does 249 = .ok (.ireturn, 1) := by decide +kernel
theorem dX7_does_250 : decode cX7_does 250 = .ok (.aload_n 0, 1) := by decide +kernel
theorem dX7_does_251 : decode cX7_does 251 = .ok (.aload_n 0, 1) := by decide +kernel
theorem dX7_does_252 : decode cX7_does 252 = .ok (.getfield 25, 3) := by decide +kernel
theorem dX7_does_255 : decode cX7_does 255 = .ok (.iload_n 2, 1) := by decide +kernel
theorem dX7_does_256 : decode cX7_does 256 = .ok (.iconst 1, 1) := by decide +kernel
theorem dX7_does_257 : decode cX7_does 257 = .ok (.iadd, 1) := by decide +kernel
theorem dX7_does_258 : decode cX7_does 258 = .ok (.iaload, 1) := by decide +kernel
theorem dX7_does_259 : decode cX7_does 259 = .ok (.aload_n 0, 1) := by decide +kernel
theorem dX7_does_260 : decode cX7_does 260 = .ok (.getfield 25, 3) := by decide +kernel
theorem dX7_does_263 : decode cX7_does 263 = .ok (.iload_n 2, 1) := by decide +kernel
theorem dX7_does_264 : decode cX7_does 264 = .ok (.iconst 2, 1) := by decide +kernel
theorem dX7_does_265 : decode cX7_does 265 = .ok (.iadd, 1) := by decide +kernel
theorem dX7_does_266 : decode cX7_does 266 = .ok (.iaload, 1) := by decide +kernel
theorem dX7_does_267 : decode cX7_does 267 = .ok (.invokevirtual 146, 3) := by decide +kernel
theorem dX7_does_270 : decode cX7_does 270 = .ok (.ireturn, 1) := by decide +kernel
theorem dX7_runCommands_0 : decode cX7_runCommands 0 = .ok (.aload_n 0, 1) := by decide +kernel
theorem dX7_runCommands_1 : decode cX7_runCommands 1 = .ok (.invokevirtual 117, 3) := by decide +kernel
theorem dX7_runCommands_4 : decode cX7_runCommands 4 = .ok (.aload_n 0, 1) := by decide +kernel
theorem dX7_runCommands_5 : decode cX7_runCommands 5 = .ok (.iconst 0, 1) := by decide +kernel
theorem dX7_runCommands_6 : decode cX7_runCommands 6 = .ok (.putfield 182, 3) := by decide +kernel
theorem dX7_runCommands_9 : decode cX7_runCommands 9 = .ok (.aload_n 0, 1) := by decide +kernel
theorem dX7_runCommands_10 : decode cX7_runCommands 10 = .ok (.aload_n 0, 1) := by decide +kernel
theorem dX7_runCommands_11 : decode cX7_runCommands 11 = .ok (.getfield 179, 3) := by decide +kernel
theorem dX7_runCommands_14 : decode cX7_runCommands 14 = .ok (.putfield 185, 3) := by decide +kernel
theorem dX7_runCommands_17 : decode cX7_runCommands 17 = .ok (.aload_n 0, 1) := by decide +kernel
theorem dX7_runCommands_18 : decode cX7_runCommands 18 = .ok (.iconst 0, 1) := by decide +kernel
theorem dX7_runCommands_19 : decode cX7_runCommands 19 = .ok (.putfield 179, 3) := by decide +kernel
theorem dX7_runCommands_22 : decode cX7_runCommands 22 = .ok (.aload_n 0, 1) := by decide +kernel
theorem dX7_runCommands_23 : decode cX7_runCommands 23 = .ok (.iconst 0, 1) := by decide +kernel
theorem dX7_runCommands_24 : decode cX7_runCommands 24 = .ok (.putfield 204, 3) := by decide +kernel
theorem dX7_runCommands_27 : decode cX7_runCommands 27 = .ok (.aload_n 0, 1) := by decide +kernel
theorem dX7_runCommands_28 : decode cX7_runCommands 28 = .ok (.iconst 0, 1) := by decide +kernel
theorem dX7_runCommands_29 : decode cX7_runCommands 29 = .ok (.putfield 193, 3) := by decide +kernel
theorem dX7_runCommands_32 : decode cX7_runCommands 32 = .ok (.aload_n 0, 1) := by decide +kernel
theorem dX7_runCommands_33 : decode cX7_runCommands 33 = .ok (.invokevirtual 239, 3) := by decide +kernel
theorem dX7_runCommands_36 : decode cX7_runCommands 36 = .ok (.aload_n 0, 1) := by decide +kernel
theorem dX7_runCommands_37 : decode cX7_runCommands 37 = .ok (.getfield 193, 3) := by decide +kernel
theorem dX7_runCommands_40 : decode cX7_runCommands 40 = .ok (.ifCond .ne 30, 3) := by decide +kernel
theorem dX7_runCommands_43 : decode cX7_runCommands 43 = .ok (.aload_n 0, 1) := by decide +kernel
theorem dX7_runCommands_44 : decode cX7_runCommands 44 = .ok (.iconst 0, 1) := by decide +kernel
theorem dX7_runCommands_45 : decode cX7_runCommands 45 = .ok (.invokevirtual 197, 3) := by decide +kernel
theorem dX7_runCommands_48 : decode cX7_runCommands 48 = .ok (.bipush 59, 2) := by decide +kernel
theorem dX7_runCommands_50 : decode cX7_runCommands 50 = .ok (.if_icmp .ne 20, 3) := by decide +kernel
theorem dX7_runCommands_53 : decode cX7_runCommands 53 = .ok (.aload_n 0, 1) := by decide +kernel
theorem dX7_runCommands_54 : decode cX7_runCommands 54 = .ok (.dup, 1) := by decide +kernel
theorem dX7_runCommands_55 : decode cX7_runCommands 55 = .ok (.getfield 182, 3) := by decide +kernel
theorem dX7_runCommands_58 : decode cX7_runCommands 58 = .ok (.iconst 1, 1) := by decide +kernel
theorem dX7_runCommands_59 : decode cX7_runCommands 59 = .ok (.iadd, 1) := by decide +kernel
theorem dX7_runCommands_60 : decode cX7_runCommands 60 = .ok (.putfield 182, 3) := by decide +kernel
theorem dX7_runCommands_63 : decode cX7_runCommands 63 = .ok (.aload_n 0, 1) := by decide +kernel
theorem dX7_runCommands_64 : decode cX7_runCommands 64 = .ok (.invokevirtual 239, 3) := by decide +kernel
theorem dX7_runCommands_67 : decode cX7_runCommands 67 = .ok (.goto (-31), 3) := by decide +kernel
theorem dX7_runCommands_70 : decode cX7_runCommands 70 = .ok (.aload_n 0, 1) := by decide +kernel
theorem dX7_runCommands_71 : decode cX7_runCommands 71 = .ok (.getfield 193, 3) := by decide +kernel
theorem dX7_runCommands_74 : decode cX7_runCommands 74 = .ok (.ifCond .ne 14, 3) := by decide +kernel
theorem dX7_runCommands_77 : decode cX7_runCommands 77 = .ok (.aload_n 0, 1) := by decide +kernel
theorem dX7_runCommands_78 : decode cX7_runCommands 78 = .ok (.getfield 182, 3) := by decide +kernel
theorem dX7_runCommands_81 : decode cX7_runCommands 81 = .ok (.aload_n 0, 1) := by decide +kernel
theorem dX7_runCommands_82 : decode cX7_runCommands 82 = .ok (.getfield 185, 3) := by decide +kernel
theorem dX7_runCommands_85 : decode cX7_runCommands 85 = .ok (.if_icmp .ge 17, 3) := by decide +kernel
theorem dX7_runCommands_88 : decode cX7_runCommands 88 = .ok (.aload_n 0, 1) := by decide +kernel
theorem dX7_runCommands_89 : decode cX7_runCommands 89 = .ok (.aload_n 0, 1) := by decide +kernel
theorem dX7_runCommands_90 : decode cX7_runCommands 90 = .ok (.getfield 182, 3) := by decide +kernel
theorem dX7_runCommands_93 : decode cX7_runCommands 93 = .ok (.putfield 40, 3) := by decide +kernel
theorem dX7_runCommands_96 : decode cX7_runCommands 96 = .ok (.aload_n 0, 1) := by decide +kernel
theorem dX7_runCommands_97 : decode cX7_runCommands 97 = .ok (.iconst 1, 1) := by decide +kernel
theorem dX7_runCommands_98 : decode cX7_runCommands 98 = .ok (.invokevirtual 60, 3) := by decide +kernel
theorem dX7_runCommands_101 : decode cX7_runCommands 101 = .ok (.ireturn, 1) := by decide +kernel
theorem dX7_runCommands_102 : decode cX7_runCommands 102 = .ok (.iconst 0, 1) := by decide +kernel
theorem dX7_runCommands_103 : decode cX7_runCommands 103 = .ok (.istore_n 1, 1) := by decide +kernel
theorem dX7_runCommands_104 : decode cX7_runCommands 104 = .ok (.iload_n 1, 1) := by decide +kernel
theorem dX7_runCommands_105 : decode cX7_runCommands 105 = .ok (.aload_n 0, 1) := by decide +kernel
theorem dX7_runCommands_106 : decode cX7_runCommands 106 = .ok (.getfield 204, 3) := by decide +kernel
theorem dX7_runCommands_109 : decode cX7_runCommands 109 = .ok (.if_icmp .ge 58, 3) := by decide +kernel
theorem dX7_runCommands_112 : decode cX7_runCommands 112 = .ok (.aload_n 0, 1) := by decide +kernel
theorem dX7_runCommands_113 : decode cX7_runCommands 113 = .ok (.iload_n 1, 1) := by decide +kernel
theorem dX7_runCommands_114 : decode cX7_runCommands 114 = .ok (.invokevirtual 242, 3) := by decide +kernel
theorem dX7_runCommands_117 : decode cX7_runCommands 117 = .ok (.ifCond .ne 6, 3) := by decide +kernel
theorem dX7_runCommands_120 : decode cX7_runCommands 120 = .ok (.goto 41, 3) := by decide +kernel
theorem dX7_runCommands_123 : decode cX7_runCommands 123 = .ok (.iconst 0, 1) := by decide +kernel
theorem dX7_runCommands_124 : decode cX7_runCommands 124 = .ok (.istore_n 2, 1) := by decide +kernel
theorem dX7_runCommands_125 : decode cX7_runCommands 125 = .ok (.iload_n 2, 1) := by decide +kernel
theorem dX7_runCommands_126 : decode cX7_runCommands 126 = .ok (.sipush 303, 3) := by decide +kernel
theorem dX7_runCommands_129 : decode cX7_runCommands 129 = .ok (.if_icmp .ge 21, 3) := by decide +kernel
theorem dX7_runCommands_132 : decode cX7_runCommands 132 = .ok (.aload_n 0, 1) := by decide +kernel
theorem dX7_runCommands_133 : decode cX7_runCommands 133 = .ok (.getfield 7, 3) := by decide +kernel
theorem dX7_runCommands_136 : decode cX7_runCommands 136 = .ok (.iload_n 2, 1) := by decide +kernel
theorem dX7_runCommands_137 : decode cX7_runCommands 137 = .ok (.aload_n 0, 1) := by decide +kernel
theorem dX7_runCommands_138 : decode cX7_runCommands 138 = .ok (.getfield 13, 3) := by decide +kernel
theorem dX7_runCommands_141 : decode cX7_runCommands 141 = .ok (.iload_n 2, 1) := by decide +kernel
theorem dX7_runCommands_142 : decode cX7_runCommands 142 = .ok (.iaload, 1) := by decide +kernel
theorem dX7_runCommands_143 : decode cX7_runCommands 143 = .ok (.iastore, 1) := by decide +kernel
theorem dX7_runCommands_144 : decode cX7_runCommands 144 = .ok (.iinc 2 1, 3) := by decide +kernel
theorem dX7_runCommands_147 : decode cX7_runCommands 147 = .ok (.goto (-22), 3) := by decide +kernel
theorem dX7_runCommands_150 : decode cX7_runCommands 150 = .ok (.aload_n 0, 1) := by decide +kernel
theorem dX7_runCommands_151 : decode cX7_runCommands 151 = .ok (.iload_n 1, 1) := by decide +kernel
theorem dX7_runCommands_152 : decode cX7_runCommands 152 = .ok (.putfield 44, 3) := by decide +kernel
theorem dX7_runCommands_155 : decode cX7_runCommands 155 = .ok (.aload_n 0, 1) := by decide +kernel
theorem dX7_runCommands_156 : decode cX7_runCommands 156 = .ok (.iconst 2, 1) := by decide +kernel
theorem dX7_runCommands_157 : decode cX7_runCommands 157 = .ok (.invokevirtual 60, 3) := by decide +kernel
theorem dX7_runCommands_160 : decode cX7_runCommands 160 = .ok (.ireturn, 1) := by decide +kernel
theorem dX7_runCommands_161 : decode cX7_runCommands 161 = .ok (.iinc 1 1, 3) := by decide +kernel
theorem dX7_runCommands_164 : decode cX7_runCommands 164 = .ok (.goto (-60), 3) := by decide +kernel
theorem dX7_runCommands_167 : decode cX7_runCommands 167 = .ok (.aload_n 0, 1) := by decide +kernel
theorem dX7_runCommands_168 : decode cX7_runCommands 168 = .ok (.aload_n 0, 1) := by decide +kernel
theorem dX7_runCommands_169 : decode cX7_runCommands 169 = .ok (.getfield 204, 3) := by decide +kernel
theorem dX7_runCommands_172 : decode cX7_runCommands 172 = .ok (.invokevirtual 56, 3) := by decide +kernel
theorem dX7_runCommands_175 : decode cX7_runCommands 175 = .ok (.ireturn, 1) := by decide +kernel
theorem dX7_errorPosition_0 : decode cX7_errorPosition 0 = .ok (.aload_n 0, 1) := by decide +kernel
theorem dX7_errorPosition_1 : decode cX7_errorPosition 1 = .ok (.iconst 0, 1) := by decide +kernel
theorem dX7_errorPosition_2 : decode cX7_errorPosition 2 = .ok (.putfield 47, 3) := by decide +kernel
theorem dX7_errorPosition_5 : decode cX7_errorPosition 5 = .ok (.aload_n 0, 1) := by decide +kernel
theorem dX7_errorPosition_6 : decode cX7_errorPosition 6 = .ok (.getfield 40, 3) := by decide +kernel
theorem dX7_errorPosition_9 : decode cX7_errorPosition 9 = .ok (.iconst (-1), 1) := by decide +kernel
theorem dX7_errorPosition_10 : decode cX7_errorPosition 10 = .ok (.if_icmp .ne 11, 3) := by decide +kernel
theorem dX7_errorPosition_13 : decode cX7_errorPosition 13 = .ok (.aload_n 0, 1) := by decide +kernel
theorem dX7_errorPosition_14 : decode cX7_errorPosition 14 = .ok (.iconst 1, 1) := by decide +kernel
theorem dX7_errorPosition_15 : decode cX7_errorPosition 15 = .ok (.invokevirtual 60, 3) := by decide +kernel
theorem dX7_errorPosition_18 : decode cX7_errorPosition 18 = .ok (.goto 7, 3) := by decide +kernel
theorem dX7_errorPosition_21 : decode cX7_errorPosition 21 = .ok (.aload_n 0, 1) := by decide +kernel
theorem dX7_errorPosition_22 : decode cX7_errorPosition 22 = .ok (.getfield 40, 3) := by decide +kernel
theorem dX7_errorPosition_25 : decode cX7_errorPosition 25 = .ok (.ireturn, 1) := by decide +kernel
theorem dX7_failedCommand_0 : decode cX7_failedCommand 0 = .ok (.aload_n 0, 1) := by decide +kernel
theorem dX7_failedCommand_1 : decode cX7_failedCommand 1 = .ok (.iconst 0, 1) := by decide +kernel
theorem dX7_failedCommand_2 : decode cX7_failedCommand 2 = .ok (.putfield 47, 3) := by decide +kernel
theorem dX7_failedCommand_5 : decode cX7_failedCommand 5 = .ok (.aload_n 0, 1) := by decide +kernel
theorem dX7_failedCommand_6 : decode cX7_failedCommand 6 = .ok (.getfield 44, 3) := by decide +kernel
theorem dX7_failedCommand_9 : decode cX7_failedCommand 9 = .ok (.iconst (-1), 1) := by decide +kernel
theorem dX7_failedCommand_10 : decode cX7_failedCommand 10 = .ok (.if_icmp .ne 11, 3) := by decide +kernel
theorem dX7_failedCommand_13 : decode cX7_failedCommand 13 = .ok (.aload_n 0, 1) := by decide +kernel
theorem dX7_failedCommand_14 : decode cX7_failedCommand 14 = .ok (.iconst 1, 1) := by decide +kernel
theorem dX7_failedCommand_15 : decode cX7_failedCommand 15 = .ok (.invokevirtual 60, 3) := by decide +kernel
theorem dX7_failedCommand_18 : decode cX7_failedCommand 18 = .ok (.goto 7, 3) := by decide +kernel
theorem dX7_failedCommand_21 : decode cX7_failedCommand 21 = .ok (.aload_n 0, 1) := by decide +kernel
theorem dX7_failedCommand_22 : decode cX7_failedCommand 22 = .ok (.getfield 44, 3) := by decide +kernel
theorem dX7_failedCommand_25 : decode cX7_failedCommand 25 = .ok (.ireturn, 1) := by decide +kernel
theorem dX7_writes_0 : decode cX7_writes 0 = .ok (.aload_n 0, 1) := by decide +kernel
theorem dX7_writes_1 : decode cX7_writes 1 = .ok (.getfield 28, 3) := by decide +kernel
theorem dX7_writes_4 : decode cX7_writes 4 = .ok (.aload_n 0, 1) := by decide +kernel
theorem dX7_writes_5 : decode cX7_writes 5 = .ok (.getfield 245, 3) := by decide +kernel
theorem dX7_writes_8 : decode cX7_writes 8 = .ok (.iload_n 1, 1) := by decide +kernel
theorem dX7_writes_9 : decode cX7_writes 9 = .ok (.iastore, 1) := by decide +kernel
theorem dX7_writes_10 : decode cX7_writes 10 = .ok (.aload_n 0, 1) := by decide +kernel
theorem dX7_writes_11 : decode cX7_writes 11 = .ok (.dup, 1) := by decide +kernel
theorem dX7_writes_12 : decode cX7_writes 12 = .ok (.getfield 245, 3) := by decide +kernel
theorem dX7_writes_15 : decode cX7_writes 15 = .ok (.iconst 1, 1) := by decide +kernel
theorem dX7_writes_16 : decode cX7_writes 16 = .ok (.iadd, 1) := by decide +kernel
theorem dX7_writes_17 : decode cX7_writes 17 = .ok (.putfield 245, 3) := by decide +kernel
theorem dX7_writes_20 : decode cX7_writes 20 = .ok (.return_, 1) := by decide +kernel
theorem dX7_writeRow_0 : decode cX7_writeRow 0 = .ok (.aload_n 0, 1) := by decide +kernel
theorem dX7_writeRow_1 : decode cX7_writeRow 1 = .ok (.iload_n 1, 1) := by decide +kernel
theorem dX7_writeRow_2 : decode cX7_writeRow 2 = .ok (.iconst 0, 1) := by decide +kernel
theorem dX7_writeRow_3 : decode cX7_writeRow 3 = .ok (.iconst 5, 1) := by decide +kernel
theorem dX7_writeRow_4 : decode cX7_writeRow 4 = .ok (.invokestatic 63, 3) := by decide +kernel
theorem dX7_writeRow_7 : decode cX7_writeRow 7 = .ok (.ifCond .eq 7, 3) := by decide +kernel
theorem dX7_writeRow_10 : decode cX7_writeRow 10 = .ok (.iconst 0, 1) := by decide +kernel
theorem dX7_writeRow_11 : decode cX7_writeRow 11 = .ok (.goto 4, 3) := by decide +kernel
theorem dX7_writeRow_14 : decode cX7_writeRow 14 = .ok (.iconst 1, 1) := by decide +kernel
theorem dX7_writeRow_15 : decode cX7_writeRow 15 = .ok (.putfield 47, 3) := by decide +kernel
theorem dX7_writeRow_18 : decode cX7_writeRow 18 = .ok (.aload_n 0, 1) := by decide +kernel
theorem dX7_writeRow_19 : decode cX7_writeRow 19 = .ok (.getfield 47, 3) := by decide +kernel
theorem dX7_writeRow_22 : decode cX7_writeRow 22 = .ok (.ifCond .le 5, 3) := by decide +kernel
theorem dX7_writeRow_25 : decode cX7_writeRow 25 = .ok (.iconst 0, 1) := by decide +kernel
theorem dX7_writeRow_26 : decode cX7_writeRow 26 = .ok (.ireturn, 1) := by decide +kernel
theorem dX7_writeRow_27 : decode cX7_writeRow 27 = .ok (.aload_n 0, 1) := by decide +kernel
theorem dX7_writeRow_28 : decode cX7_writeRow 28 = .ok (.iconst 0, 1) := by decide +kernel
theorem dX7_writeRow_29 : decode cX7_writeRow 29 = .ok (.putfield 245, 3) := by decide +kernel
theorem dX7_writeRow_32 : decode cX7_writeRow 32 = .ok (.iconst 0, 1) := by decide +kernel
theorem dX7_writeRow_33 : decode cX7_writeRow 33 = .ok (.istore_n 2, 1) := by decide +kernel
theorem dX7_writeRow_34 : decode cX7_writeRow 34 = .ok (.iload_n 2, 1) := by decide +kernel
theorem dX7_writeRow_35 : decode cX7_writeRow 35 = .ok (.bipush 8, 2) := by decide +kernel
theorem dX7_writeRow_37 : decode cX7_writeRow 37 = .ok (.if_icmp .ge 44, 3) := by decide +kernel
theorem dX7_writeRow_40 : decode cX7_writeRow 40 = .ok (.aload_n 0, 1) := by decide +kernel
theorem dX7_writeRow_41 : decode cX7_writeRow 41 = .ok (.bipush 8, 2) := by decide +kernel
theorem dX7_writeRow_43 : decode cX7_writeRow 43 = .ok (.iload_n 1, 1) := by decide +kernel
theorem dX7_writeRow_44 : decode cX7_writeRow 44 = .ok (.imul, 1) := by decide +kernel
theorem dX7_writeRow_45 : decode cX7_writeRow 45 = .ok (.iload_n 2, 1) := by decide +kernel
theorem dX7_writeRow_46 : decode cX7_writeRow 46 = .ok (.iadd, 1) := by decide +kernel
theorem dX7_writeRow_47 : decode cX7_writeRow 47 = .ok (.invokevirtual 111, 3) := by decide +kernel
theorem dX7_writeRow_50 : decode cX7_writeRow 50 = .ok (.istore_n 3, 1) := by decide +kernel
theorem dX7_writeRow_51 : decode cX7_writeRow 51 = .ok (.aload_n 0, 1) := by decide +kernel
theorem dX7_writeRow_52 : decode cX7_writeRow 52 = .ok (.iload_n 3, 1) := by decide +kernel
theorem dX7_writeRow_53 : decode cX7_writeRow 53 = .ok (.bipush 10, 2) := by decide +kernel
theorem dX7_writeRow_55 : decode cX7_writeRow 55 = .ok (.if_icmp .ge 10, 3) := by decide +kernel
theorem dX7_writeRow_58 : decode cX7_writeRow 58 = .ok (.bipush 48, 2) := by decide +kernel
theorem dX7_writeRow_60 : decode cX7_writeRow 60 = .ok (.iload_n 3, 1) := by decide +kernel
theorem dX7_writeRow_61 : decode cX7_writeRow 61 = .ok (.iadd, 1) := by decide +kernel
theorem dX7_writeRow_62 : decode cX7_writeRow 62 = .ok (.goto 10, 3) := by decide +kernel
theorem dX7_writeRow_65 : decode cX7_writeRow 65 = .ok (.bipush 97, 2) := by decide +kernel
theorem dX7_writeRow_67 : decode cX7_writeRow 67 = .ok (.iload_n 3, 1) := by decide +kernel
theorem dX7_writeRow_68 : decode cX7_writeRow 68 = .ok (.iadd, 1) := by decide +kernel
theorem dX7_writeRow_69 : decode cX7_writeRow 69 = .ok (.bipush 10, 2) := by decide +kernel
theorem dX7_writeRow_71 : decode cX7_writeRow 71 = .ok (.isub, 1) := by decide +kernel
theorem dX7_writeRow_72 : decode cX7_writeRow 72 = .ok (.invokevirtual 248, 3) := by decide +kernel
theorem dX7_writeRow_75 : decode cX7_writeRow 75 = .ok (.iinc 2 1, 3) := by decide +kernel
theorem dX7_writeRow_78 : decode cX7_writeRow 78 = .ok (.goto (-44), 3) := by decide +kernel
theorem dX7_writeRow_81 : decode cX7_writeRow 81 = .ok (.aload_n 0, 1) := by decide +kernel
theorem dX7_writeRow_82 : decode cX7_writeRow 82 = .ok (.getfield 245, 3) := by decide +kernel
theorem dX7_writeRow_85 : decode cX7_writeRow 85 = .ok (.ireturn, 1) := by decide +kernel
theorem dX7_writeLayers_0 : decode cX7_writeLayers 0 = .ok (.aload_n 0, 1) := by decide +kernel
theorem dX7_writeLayers_1 : decode cX7_writeLayers 1 = .ok (.iconst 0, 1) := by decide +kernel
theorem dX7_writeLayers_2 : decode cX7_writeLayers 2 = .ok (.putfield 47, 3) := by decide +kernel
theorem dX7_writeLayers_5 : decode cX7_writeLayers 5 = .ok (.aload_n 0, 1) := by decide +kernel
theorem dX7_writeLayers_6 : decode cX7_writeLayers 6 = .ok (.iconst 0, 1) := by decide +kernel
theorem dX7_writeLayers_7 : decode cX7_writeLayers 7 = .ok (.putfield 245, 3) := by decide +kernel
theorem dX7_writeLayers_10 : decode cX7_writeLayers 10 = .ok (.iconst 0, 1) := by decide +kernel
theorem dX7_writeLayers_11 : decode cX7_writeLayers 11 = .ok (.istore_n 1, 1) := by decide +kernel
theorem dX7_writeLayers_12 : decode cX7_writeLayers 12 = .ok (.iload_n 1, 1) := by decide +kernel
theorem dX7_writeLayers_13 : decode cX7_writeLayers 13 = .ok (.aload_n 0, 1) := by decide +kernel
theorem dX7_writeLayers_14 : decode cX7_writeLayers 14 = .ok (.getfield 7, 3) := by decide +kernel
theorem dX7_writeLayers_17 : decode cX7_writeLayers 17 = .ok (.iconst 0, 1) := by decide +kernel
theorem dX7_writeLayers_18 : decode cX7_writeLayers 18 = .ok (.iaload, 1) := by decide +kernel
theorem dX7_writeLayers_19 : decode cX7_writeLayers 19 = .ok (.if_icmp .ge 76, 3) := by decide +kernel
theorem dX7_writeLayers_22 : decode cX7_writeLayers 22 = .ok (.iload_n 1, 1) := by decide +kernel
theorem dX7_writeLayers_23 : decode cX7_writeLayers 23 = .ok (.ifCond .le 9, 3) := by decide +kernel
theorem dX7_writeLayers_26 : decode cX7_writeLayers 26 = .ok (.aload_n 0, 1) := by decide +kernel
theorem dX7_writeLayers_27 : decode cX7_writeLayers 27 = .ok (.bipush 32, 2) := by decide +kernel
theorem dX7_writeLayers_29 : decode cX7_writeLayers 29 = .ok (.invokevirtual 248, 3) := by decide +kernel
theorem dX7_writeLayers_32 : decode cX7_writeLayers 32 = .ok (.aload_n 0, 1) := by decide +kernel
theorem dX7_writeLayers_33 : decode cX7_writeLayers 33 = .ok (.aload_n 0, 1) := by decide +kernel
theorem dX7_writeLayers_34 : decode cX7_writeLayers 34 = .ok (.iload_n 1, 1) := by decide +kernel
theorem dX7_writeLayers_35 : decode cX7_writeLayers 35 = .ok (.invokevirtual 75, 3) := by decide +kernel
theorem dX7_writeLayers_38 : decode cX7_writeLayers 38 = .ok (.invokevirtual 248, 3) := by decide +kernel
theorem dX7_writeLayers_41 : decode cX7_writeLayers 41 = .ok (.aload_n 0, 1) := by decide +kernel
theorem dX7_writeLayers_42 : decode cX7_writeLayers 42 = .ok (.iload_n 1, 1) := by decide +kernel
theorem dX7_writeLayers_43 : decode cX7_writeLayers 43 = .ok (.invokevirtual 71, 3) := by decide +kernel
theorem dX7_writeLayers_46 : decode cX7_writeLayers 46 = .ok (.ifCond .ne 9, 3) := by decide +kernel
theorem dX7_writeLayers_49 : decode cX7_writeLayers 49 = .ok (.aload_n 0, 1) := by decide +kernel
theorem dX7_writeLayers_50 : decode cX7_writeLayers 50 = .ok (.bipush 45, 2) := by decide +kernel
theorem dX7_writeLayers_52 : decode cX7_writeLayers 52 = .ok (.invokevirtual 248, 3) := by decide +kernel
theorem dX7_writeLayers_55 : decode cX7_writeLayers 55 = .ok (.aload_n 0, 1) := by decide +kernel
theorem dX7_writeLayers_56 : decode cX7_writeLayers 56 = .ok (.iload_n 1, 1) := by decide +kernel
theorem dX7_writeLayers_57 : decode cX7_writeLayers 57 = .ok (.invokevirtual 114, 3) := by decide +kernel
theorem dX7_writeLayers_60 : decode cX7_writeLayers 60 = .ok (.istore_n 2, 1) := by decide +kernel
theorem dX7_writeLayers_61 : decode cX7_writeLayers 61 = .ok (.iload_n 2, 1) := by decide +kernel
theorem dX7_writeLayers_62 : decode cX7_writeLayers 62 = .ok (.bipush 9, 2) := by decide +kernel
theorem dX7_writeLayers_64 : decode cX7_writeLayers 64 = .ok (.if_icmp .le 14, 3) := by decide +kernel
theorem dX7_writeLayers_67 : decode cX7_writeLayers 67 = .ok (.aload_n 0, 1) := by decide +kernel
theorem dX7_writeLayers_68 : decode cX7_writeLayers 68 = .ok (.bipush 48, 2) := by decide +kernel
theorem dX7_writeLayers_70 : decode cX7_writeLayers 70 = .ok (.iload_n 2, 1) := by decide +kernel
theorem dX7_writeLayers_71 : decode cX7_writeLayers 71 = .ok (.bipush 10, 2) := by decide +kernel
theorem dX7_writeLayers_73 : decode cX7_writeLayers 73 = .ok (.idiv, 1) := by decide +kernel
theorem dX7_writeLayers_74 : decode cX7_writeLayers 74 = .ok (.iadd, 1) := by decide +kernel
theorem dX7_writeLayers_75 : decode cX7_writeLayers 75 = .ok (.invokevirtual 248, 3) := by decide +kernel
theorem dX7_writeLayers_78 : decode cX7_writeLayers 78 = .ok (.aload_n 0, 1) := by decide +kernel
theorem dX7_writeLayers_79 : decode cX7_writeLayers 79 = .ok (.bipush 48, 2) := by decide +kernel
theorem dX7_writeLayers_81 : decode cX7_writeLayers 81 = .ok (.iload_n 2, 1) := by decide +kernel
theorem dX7_writeLayers_82 : decode cX7_writeLayers 82 = .ok (.bipush 10, 2) := by decide +kernel
theorem dX7_writeLayers_84 : decode cX7_writeLayers 84 = .ok (.irem, 1) := by decide +kernel
theorem dX7_writeLayers_85 : decode cX7_writeLayers 85 = .ok (.iadd, 1) := by decide +kernel
theorem dX7_writeLayers_86 : decode cX7_writeLayers 86 = .ok (.invokevirtual 248, 3) := by decide +kernel
theorem dX7_writeLayers_89 : decode cX7_writeLayers 89 = .ok (.iinc 1 1, 3) := by decide +kernel
theorem dX7_writeLayers_92 : decode cX7_writeLayers 92 = .ok (.goto (-80), 3) := by decide +kernel
theorem dX7_writeLayers_95 : decode cX7_writeLayers 95 = .ok (.aload_n 0, 1) := by decide +kernel
theorem dX7_writeLayers_96 : decode cX7_writeLayers 96 = .ok (.getfield 245, 3) := by decide +kernel
theorem dX7_writeLayers_99 : decode cX7_writeLayers 99 = .ok (.ireturn, 1) := by decide +kernel
theorem dX7_outputChar_0 : decode cX7_outputChar 0 = .ok (.aload_n 0, 1) := by decide +kernel
theorem dX7_outputChar_1 : decode cX7_outputChar 1 = .ok (.iload_n 1, 1) := by decide +kernel
theorem dX7_outputChar_2 : decode cX7_outputChar 2 = .ok (.iconst 0, 1) := by decide +kernel
theorem dX7_outputChar_3 : decode cX7_outputChar 3 = .ok (.aload_n 0, 1) := by decide +kernel
theorem dX7_outputChar_4 : decode cX7_outputChar 4 = .ok (.getfield 245, 3) := by decide +kernel
theorem dX7_outputChar_7 : decode cX7_outputChar 7 = .ok (.iconst 1, 1) := by decide +kernel
theorem dX7_outputChar_8 : decode cX7_outputChar 8 = .ok (.isub, 1) := by decide +kernel
theorem dX7_outputChar_9 : decode cX7_outputChar 9 = .ok (.invokestatic 63, 3) := by decide +kernel
theorem dX7_outputChar_12 : decode cX7_outputChar 12 = .ok (.ifCond .eq 7, 3) := by decide +kernel
theorem dX7_outputChar_15 : decode cX7_outputChar 15 = .ok (.iconst 0, 1) := by decide +kernel
theorem dX7_outputChar_16 : decode cX7_outputChar 16 = .ok (.goto 4, 3) := by decide +kernel
theorem dX7_outputChar_19 : decode cX7_outputChar 19 = .ok (.iconst 1, 1) := by decide +kernel
theorem dX7_outputChar_20 : decode cX7_outputChar 20 = .ok (.putfield 47, 3) := by decide +kernel
theorem dX7_outputChar_23 : decode cX7_outputChar 23 = .ok (.aload_n 0, 1) := by decide +kernel
theorem dX7_outputChar_24 : decode cX7_outputChar 24 = .ok (.getfield 47, 3) := by decide +kernel
theorem dX7_outputChar_27 : decode cX7_outputChar 27 = .ok (.ifCond .le 7, 3) := by decide +kernel
theorem dX7_outputChar_30 : decode cX7_outputChar 30 = .ok (.iconst 0, 1) := by decide +kernel
theorem dX7_outputChar_31 : decode cX7_outputChar 31 = .ok (.goto 10, 3) := by decide +kernel
theorem dX7_outputChar_34 : decode cX7_outputChar 34 = .ok (.aload_n 0, 1) := by decide +kernel
theorem dX7_outputChar_35 : decode cX7_outputChar 35 = .ok (.getfield 28, 3) := by decide +kernel
theorem dX7_outputChar_38 : decode cX7_outputChar 38 = .ok (.iload_n 1, 1) := by decide +kernel
theorem dX7_outputChar_39 : decode cX7_outputChar 39 = .ok (.iaload, 1) := by decide +kernel
theorem dX7_outputChar_40 : decode cX7_outputChar 40 = .ok (.i2c, 1) := by decide +kernel
theorem dX7_outputChar_41 : decode cX7_outputChar 41 = .ok (.ireturn, 1) := by decide +kernel
theorem dX7_undoCount_0 : decode cX7_undoCount 0 = .ok (.aload_n 0, 1) := by decide +kernel
theorem dX7_undoCount_1 : decode cX7_undoCount 1 = .ok (.iconst 0, 1) := by decide +kernel
theorem dX7_undoCount_2 : decode cX7_undoCount 2 = .ok (.putfield 47, 3) := by decide +kernel
theorem dX7_undoCount_5 : decode cX7_undoCount 5 = .ok (.aload_n 0, 1) := by decide +kernel
theorem dX7_undoCount_6 : decode cX7_undoCount 6 = .ok (.getfield 50, 3) := by decide +kernel
theorem dX7_undoCount_9 : decode cX7_undoCount 9 = .ok (.ireturn, 1) := by decide +kernel
theorem dX7_undo_0 : decode cX7_undo 0 = .ok (.aload_n 0, 1) := by decide +kernel
theorem dX7_undo_1 : decode cX7_undo 1 = .ok (.iconst 0, 1) := by decide +kernel
theorem dX7_undo_2 : decode cX7_undo 2 = .ok (.putfield 47, 3) := by decide +kernel
theorem dX7_undo_5 : decode cX7_undo 5 = .ok (.aload_n 0, 1) := by decide +kernel
theorem dX7_undo_6 : decode cX7_undo 6 = .ok (.getfield 50, 3) := by decide +kernel
theorem dX7_undo_9 : decode cX7_undo 9 = .ok (.ifCond .ne 9, 3) := by decide +kernel
theorem dX7_undo_12 : decode cX7_undo 12 = .ok (.aload_n 0, 1) := by decide +kernel
theorem dX7_undo_13 : decode cX7_undo 13 = .ok (.iconst 1, 1) := by decide +kernel
theorem dX7_undo_14 : decode cX7_undo 14 = .ok (.invokevirtual 60, 3) := by decide +kernel
theorem dX7_undo_17 : decode cX7_undo 17 = .ok (.ireturn, 1) := by decide +kernel
theorem dX7_undo_18 : decode cX7_undo 18 = .ok (.aload_n 0, 1) := by decide +kernel
theorem dX7_undo_19 : decode cX7_undo 19 = .ok (.dup, 1) := by decide +kernel
theorem dX7_undo_20 : decode cX7_undo 20 = .ok (.getfield 50, 3) := by decide +kernel
theorem dX7_undo_23 : decode cX7_undo 23 = .ok (.iconst 1, 1) := by decide +kernel
theorem dX7_undo_24 : decode cX7_undo 24 = .ok (.isub, 1) := by decide +kernel
theorem dX7_undo_25 : decode cX7_undo 25 = .ok (.putfield 50, 3) := by decide +kernel
theorem dX7_undo_28 : decode cX7_undo 28 = .ok (.iconst 0, 1) := by decide +kernel
theorem dX7_undo_29 : decode cX7_undo 29 = .ok (.istore_n 1, 1) := by decide +kernel
theorem dX7_undo_30 : decode cX7_undo 30 = .ok (.iload_n 1, 1) := by decide +kernel
theorem dX7_undo_31 : decode cX7_undo 31 = .ok (.sipush 303, 3) := by decide +kernel
theorem dX7_undo_34 : decode cX7_undo 34 = .ok (.if_icmp .ge 30, 3) := by decide +kernel
theorem dX7_undo_37 : decode cX7_undo 37 = .ok (.aload_n 0, 1) := by decide +kernel
theorem dX7_undo_38 : decode cX7_undo 38 = .ok (.getfield 7, 3) := by decide +kernel
theorem dX7_undo_41 : decode cX7_undo 41 = .ok (.iload_n 1, 1) := by decide +kernel
theorem dX7_undo_42 : decode cX7_undo 42 = .ok (.aload_n 0, 1) := by decide +kernel
theorem dX7_undo_43 : decode cX7_undo 43 = .ok (.getfield 19, 3) := by decide +kernel
theorem dX7_undo_46 : decode cX7_undo 46 = .ok (.sipush 303, 3) := by decide +kernel
theorem dX7_undo_49 : decode cX7_undo 49 = .ok (.aload_n 0, 1) := by decide +kernel
theorem dX7_undo_50 : decode cX7_undo 50 = .ok (.getfield 50, 3) := by decide +kernel
theorem dX7_undo_53 : decode cX7_undo 53 = .ok (.imul, 1) := by decide +kernel
theorem dX7_undo_54 : decode cX7_undo 54 = .ok (.iload_n 1, 1) := by decide +kernel
theorem dX7_undo_55 : decode cX7_undo 55 = .ok (.iadd, 1) := by decide +kernel
theorem dX7_undo_56 : decode cX7_undo 56 = .ok (.iaload, 1) := by decide +kernel
theorem dX7_undo_57 : decode cX7_undo 57 = .ok (.iastore, 1) := by decide +kernel
theorem dX7_undo_58 : decode cX7_undo 58 = .ok (.iinc 1 1, 3) := by decide +kernel
theorem dX7_undo_61 : decode cX7_undo 61 = .ok (.goto (-31), 3) := by decide +kernel
theorem dX7_undo_64 : decode cX7_undo 64 = .ok (.aload_n 0, 1) := by decide +kernel
theorem dX7_undo_65 : decode cX7_undo 65 = .ok (.getfield 50, 3) := by decide +kernel
theorem dX7_undo_68 : decode cX7_undo 68 = .ok (.ireturn, 1) := by decide +kernel
theorem dX7_save_0 : decode cX7_save 0 = .ok (.aload_n 0, 1) := by decide +kernel
theorem dX7_save_1 : decode cX7_save 1 = .ok (.iconst 0, 1) := by decide +kernel
theorem dX7_save_2 : decode cX7_save 2 = .ok (.putfield 47, 3) := by decide +kernel
theorem dX7_save_5 : decode cX7_save 5 = .ok (.iconst 0, 1) := by decide +kernel
theorem dX7_save_6 : decode cX7_save 6 = .ok (.istore_n 1, 1) := by decide +kernel
theorem dX7_save_7 : decode cX7_save 7 = .ok (.iload_n 1, 1) := by decide +kernel
theorem dX7_save_8 : decode cX7_save 8 = .ok (.sipush 303, 3) := by decide +kernel
theorem dX7_save_11 : decode cX7_save 11 = .ok (.if_icmp .ge 21, 3) := by decide +kernel
theorem dX7_save_14 : decode cX7_save 14 = .ok (.aload_n 0, 1) := by decide +kernel
theorem dX7_save_15 : decode cX7_save 15 = .ok (.getfield 16, 3) := by decide +kernel
theorem dX7_save_18 : decode cX7_save 18 = .ok (.iload_n 1, 1) := by decide +kernel
theorem dX7_save_19 : decode cX7_save 19 = .ok (.aload_n 0, 1) := by decide +kernel
theorem dX7_save_20 : decode cX7_save 20 = .ok (.getfield 7, 3) := by decide +kernel
theorem dX7_save_23 : decode cX7_save 23 = .ok (.iload_n 1, 1) := by decide +kernel
theorem dX7_save_24 : decode cX7_save 24 = .ok (.iaload, 1) := by decide +kernel
theorem dX7_save_25 : decode cX7_save 25 = .ok (.iastore, 1) := by decide +kernel
theorem dX7_save_26 : decode cX7_save 26 = .ok (.iinc 1 1, 3) := by decide +kernel
theorem dX7_save_29 : decode cX7_save 29 = .ok (.goto (-22), 3) := by decide +kernel
theorem dX7_save_32 : decode cX7_save 32 = .ok (.aload_n 0, 1) := by decide +kernel
theorem dX7_save_33 : decode cX7_save 33 = .ok (.iconst 1, 1) := by decide +kernel
theorem dX7_save_34 : decode cX7_save 34 = .ok (.putfield 251, 3) := by decide +kernel
theorem dX7_save_37 : decode cX7_save 37 = .ok (.aload_n 0, 1) := by decide +kernel
theorem dX7_save_38 : decode cX7_save 38 = .ok (.getfield 7, 3) := by decide +kernel
theorem dX7_save_41 : decode cX7_save 41 = .ok (.iconst 0, 1) := by decide +kernel
theorem dX7_save_42 : decode cX7_save 42 = .ok (.iaload, 1) := by decide +kernel
theorem dX7_save_43 : decode cX7_save 43 = .ok (.ireturn, 1) := by decide +kernel
theorem dX7_restore_0 : decode cX7_restore 0 = .ok (.aload_n 0, 1) := by decide +kernel
theorem dX7_restore_1 : decode cX7_restore 1 = .ok (.iconst 0, 1) := by decide +kernel
theorem dX7_restore_2 : decode cX7_restore 2 = .ok (.putfield 47, 3) := by decide +kernel
theorem dX7_restore_5 : decode cX7_restore 5 = .ok (.aload_n 0, 1) := by decide +kernel
theorem dX7_restore_6 : decode cX7_restore 6 = .ok (.getfield 251, 3) := by decide +kernel
theorem dX7_restore_9 : decode cX7_restore 9 = .ok (.ifCond .ne 9, 3) := by decide +kernel
theorem dX7_restore_12 : decode cX7_restore 12 = .ok (.aload_n 0, 1) := by decide +kernel
theorem dX7_restore_13 : decode cX7_restore 13 = .ok (.iconst 1, 1) := by decide +kernel
theorem dX7_restore_14 : decode cX7_restore 14 = .ok (.invokevirtual 60, 3) := by decide +kernel
theorem dX7_restore_17 : decode cX7_restore 17 = .ok (.ireturn, 1) := by decide +kernel
theorem dX7_restore_18 : decode cX7_restore 18 = .ok (.iconst 0, 1) := by decide +kernel
theorem dX7_restore_19 : decode cX7_restore 19 = .ok (.istore_n 1, 1) := by decide +kernel
theorem dX7_restore_20 : decode cX7_restore 20 = .ok (.iload_n 1, 1) := by decide +kernel
theorem dX7_restore_21 : decode cX7_restore 21 = .ok (.sipush 303, 3) := by decide +kernel
theorem dX7_restore_24 : decode cX7_restore 24 = .ok (.if_icmp .ge 21, 3) := by decide +kernel
theorem dX7_restore_27 : decode cX7_restore 27 = .ok (.aload_n 0, 1) := by decide +kernel
theorem dX7_restore_28 : decode cX7_restore 28 = .ok (.getfield 7, 3) := by decide +kernel
theorem dX7_restore_31 : decode cX7_restore 31 = .ok (.iload_n 1, 1) := by decide +kernel
theorem dX7_restore_32 : decode cX7_restore 32 = .ok (.aload_n 0, 1) := by decide +kernel
theorem dX7_restore_33 : decode cX7_restore 33 = .ok (.getfield 16, 3) := by decide +kernel
theorem dX7_restore_36 : decode cX7_restore 36 = .ok (.iload_n 1, 1) := by decide +kernel
theorem dX7_restore_37 : decode cX7_restore 37 = .ok (.iaload, 1) := by decide +kernel
theorem dX7_restore_38 : decode cX7_restore 38 = .ok (.iastore, 1) := by decide +kernel
theorem dX7_restore_39 : decode cX7_restore 39 = .ok (.iinc 1 1, 3) := by decide +kernel
theorem dX7_restore_42 : decode cX7_restore 42 = .ok (.goto (-22), 3) := by decide +kernel
theorem dX7_restore_45 : decode cX7_restore 45 = .ok (.aload_n 0, 1) := by decide +kernel
theorem dX7_restore_46 : decode cX7_restore 46 = .ok (.iconst 0, 1) := by decide +kernel
theorem dX7_restore_47 : decode cX7_restore 47 = .ok (.putfield 50, 3) := by decide +kernel
theorem dX7_restore_50 : decode cX7_restore 50 = .ok (.aload_n 0, 1) := by decide +kernel
theorem dX7_restore_51 : decode cX7_restore 51 = .ok (.getfield 7, 3) := by decide +kernel
theorem dX7_restore_54 : decode cX7_restore 54 = .ok (.iconst 0, 1) := by decide +kernel
theorem dX7_restore_55 : decode cX7_restore 55 = .ok (.iaload, 1) := by decide +kernel
theorem dX7_restore_56 : decode cX7_restore 56 = .ok (.ireturn, 1) := by decide +kernel
theorem dJ9_max_7cf53_0 : decode cJ9_max_7cf53 0 = .ok (.iload_n 0, 1) := by decide +kernel
theorem dJ9_max_7cf53_1 : decode cJ9_max_7cf53 1 = .ok (.iload_n 1, 1) := by decide +kernel
theorem dJ9_max_7cf53_2 : decode cJ9_max_7cf53 2 = .ok (.if_icmp .lt 7, 3) := by decide +kernel
theorem dJ9_max_7cf53_5 : decode cJ9_max_7cf53 5 = .ok (.iload_n 0, 1) := by decide +kernel
theorem dJ9_max_7cf53_6 : decode cJ9_max_7cf53 6 = .ok (.goto 4, 3) := by decide +kernel
theorem dJ9_max_7cf53_9 : decode cJ9_max_7cf53 9 = .ok (.iload_n 1, 1) := by decide +kernel
theorem dJ9_max_7cf53_10 : decode cJ9_max_7cf53 10 = .ok (.ireturn, 1) := by decide +kernel
theorem dJ9_min_7cf53_0 : decode cJ9_min_7cf53 0 = .ok (.iload_n 0, 1) := by decide +kernel
theorem dJ9_min_7cf53_1 : decode cJ9_min_7cf53 1 = .ok (.iload_n 1, 1) := by decide +kernel
theorem dJ9_min_7cf53_2 : decode cJ9_min_7cf53 2 = .ok (.if_icmp .gt 7, 3) := by decide +kernel
theorem dJ9_min_7cf53_5 : decode cJ9_min_7cf53 5 = .ok (.iload_n 0, 1) := by decide +kernel
theorem dJ9_min_7cf53_6 : decode cJ9_min_7cf53 6 = .ok (.goto 4, 3) := by decide +kernel
theorem dJ9_min_7cf53_9 : decode cJ9_min_7cf53 9 = .ok (.iload_n 1, 1) := by decide +kernel
theorem dJ9_min_7cf53_10 : decode cJ9_min_7cf53 10 = .ok (.ireturn, 1) := by decide +kernel
theorem dJ0_length_8abf5_0 : decode cJ0_length_8abf5 0 = .ok (.aload_n 0, 1) := by decide +kernel
theorem dJ0_length_8abf5_1 : decode cJ0_length_8abf5 1 = .ok (.getfield 9, 3) := by decide +kernel
theorem dJ0_length_8abf5_4 : decode cJ0_length_8abf5 4 = .ok (.arraylength, 1) := by decide +kernel
theorem dJ0_length_8abf5_5 : decode cJ0_length_8abf5 5 = .ok (.aload_n 0, 1) := by decide +kernel
theorem dJ0_length_8abf5_6 : decode cJ0_length_8abf5 6 = .ok (.invokevirtual 335, 3) := by decide +kernel
theorem dJ0_length_8abf5_9 : decode cJ0_length_8abf5 9 = .ok (.ishr, 1) := by decide +kernel
theorem dJ0_length_8abf5_10 : decode cJ0_length_8abf5 10 = .ok (.ireturn, 1) := by decide +kernel
theorem dJ0_charAt_5068e_0 : decode cJ0_charAt_5068e 0 = .ok (.aload_n 0, 1) := by decide +kernel
theorem dJ0_charAt_5068e_1 : decode cJ0_charAt_5068e 1 = .ok (.invokevirtual 492, 3) := by decide +kernel
theorem dJ0_charAt_5068e_4 : decode cJ0_charAt_5068e 4 = .ok (.ifCond .eq 12, 3) := by decide +kernel
theorem dJ0_charAt_5068e_7 : decode cJ0_charAt_5068e 7 = .ok (.aload_n 0, 1) := by decide +kernel
theorem dJ0_charAt_5068e_8 : decode cJ0_charAt_5068e 8 = .ok (.getfield 9, 3) := by decide +kernel
theorem dJ0_charAt_5068e_11 : decode cJ0_charAt_5068e 11 = .ok (.iload_n 1, 1) := by decide +kernel
theorem dJ0_charAt_5068e_12 : decode cJ0_charAt_5068e 12 = .ok (.invokestatic 495, 3) := by decide +kernel
theorem dJ0_charAt_5068e_15 : decode cJ0_charAt_5068e 15 = .ok (.ireturn, 1) := by decide +kernel
theorem dJ0_charAt_5068e_16 : decode cJ0_charAt_5068e 16 = .ok (.aload_n 0, 1) := by decide +kernel
theorem dJ0_charAt_5068e_17 : decode cJ0_charAt_5068e 17 = .ok (.getfield 9, 3) := by decide +kernel
theorem dJ0_charAt_5068e_20 : decode cJ0_charAt_5068e 20 = .ok (.iload_n 1, 1) := by decide +kernel
theorem dJ0_charAt_5068e_21 : decode cJ0_charAt_5068e 21 = .ok (.invokestatic 498, 3) := by decide +kernel
theorem dJ0_charAt_5068e_24 : decode cJ0_charAt_5068e 24 = .ok (.ireturn, 1) := by decide +kernel
theorem dJ0_coder_7d493_0 : decode cJ0_coder_7d493 0 = .ok (.getstatic 38, 3) := by decide +kernel
theorem dJ0_coder_7d493_3 : decode cJ0_coder_7d493 3 = .ok (.ifCond .eq 10, 3) := by decide +kernel
theorem dJ0_coder_7d493_6 : decode cJ0_coder_7d493 6 = .ok (.aload_n 0, 1) := by decide +kernel
theorem dJ0_coder_7d493_7 : decode cJ0_coder_7d493 7 = .ok (.getfield 15, 3) := by decide +kernel
theorem dJ0_coder_7d493_10 : decode cJ0_coder_7d493 10 = .ok (.goto 4, 3) := by decide +kernel
theorem dJ0_coder_7d493_13 : decode cJ0_coder_7d493 13 = .ok (.iconst 1, 1) := by decide +kernel
theorem dJ0_coder_7d493_14 : decode cJ0_coder_7d493 14 = .ok (.ireturn, 1) := by decide +kernel
theorem dJ0_isLatin1_aae02_0 : decode cJ0_isLatin1_aae02 0 = .ok (.getstatic 38, 3) := by decide +kernel
theorem dJ0_isLatin1_aae02_3 : decode cJ0_isLatin1_aae02 3 = .ok (.ifCond .eq 14, 3) := by decide +kernel
theorem dJ0_isLatin1_aae02_6 : decode cJ0_isLatin1_aae02 6 = .ok (.aload_n 0, 1) := by decide +kernel
theorem dJ0_isLatin1_aae02_7 : decode cJ0_isLatin1_aae02 7 = .ok (.getfield 15, 3) := by decide +kernel
theorem dJ0_isLatin1_aae02_10 : decode cJ0_isLatin1_aae02 10 = .ok (.ifCond .ne 7, 3) := by decide +kernel
theorem dJ0_isLatin1_aae02_13 : decode cJ0_isLatin1_aae02 13 = .ok (.iconst 1, 1) := by decide +kernel
theorem dJ0_isLatin1_aae02_14 : decode cJ0_isLatin1_aae02 14 = .ok (.goto 4, 3) := by decide +kernel
theorem dJ0_isLatin1_aae02_17 : decode cJ0_isLatin1_aae02 17 = .ok (.iconst 0, 1) := by decide +kernel
theorem dJ0_isLatin1_aae02_18 : decode cJ0_isLatin1_aae02 18 = .ok (.ireturn, 1) := by decide +kernel
theorem dJ0_checkIndex_df160_0 : decode cJ0_checkIndex_df160 0 = .ok (.iload_n 0, 1) := by decide +kernel
theorem dJ0_checkIndex_df160_1 : decode cJ0_checkIndex_df160 1 = .ok (.iload_n 1, 1) := by decide +kernel
theorem dJ0_checkIndex_df160_2 : decode cJ0_checkIndex_df160 2 = .ok (.getstatic 1053, 3) := by decide +kernel
theorem dJ0_checkIndex_df160_5 : decode cJ0_checkIndex_df160 5 = .ok (.invokestatic 1059, 3) := by decide +kernel
theorem dJ0_checkIndex_df160_8 : decode cJ0_checkIndex_df160 8 = .ok (.pop, 1) := by decide +kernel
theorem dJ0_checkIndex_df160_9 : decode cJ0_checkIndex_df160 9 = .ok (.return_, 1) := by decide +kernel
theorem dJ1_charAt_3b067_0 : decode cJ1_charAt_3b067 0 = .ok (.iload_n 1, 1) := by decide +kernel
theorem dJ1_charAt_3b067_1 : decode cJ1_charAt_3b067 1 = .ok (.aload_n 0, 1) := by decide +kernel
theorem dJ1_charAt_3b067_2 : decode cJ1_charAt_3b067 2 = .ok (.arraylength, 1) := by decide +kernel
theorem dJ1_charAt_3b067_3 : decode cJ1_charAt_3b067 3 = .ok (.invokestatic 9, 3) := by decide +kernel
theorem dJ1_charAt_3b067_6 : decode cJ1_charAt_3b067 6 = .ok (.aload_n 0, 1) := by decide +kernel
theorem dJ1_charAt_3b067_7 : decode cJ1_charAt_3b067 7 = .ok (.iload_n 1, 1) := by decide +kernel
theorem dJ1_charAt_3b067_8 : decode cJ1_charAt_3b067 8 = .ok (.baload, 1) := by decide +kernel
theorem dJ1_charAt_3b067_9 : decode cJ1_charAt_3b067 9 = .ok (.sipush 255, 3) := by decide +kernel
theorem dJ1_charAt_3b067_12 : decode cJ1_charAt_3b067 12 = .ok (.iand, 1) := by decide +kernel
theorem dJ1_charAt_3b067_13 : decode cJ1_charAt_3b067 13 = .ok (.i2c, 1) := by decide +kernel
theorem dJ1_charAt_3b067_14 : decode cJ1_charAt_3b067 14 = .ok (.ireturn, 1) := by decide +kernel
theorem dJ2_getChar_3b067_0 : decode cJ2_getChar_3b067 0 = .ok (.getstatic 44, 3) := by decide +kernel
theorem dJ2_getChar_3b067_3 : decode cJ2_getChar_3b067 3 = .ok (.ifCond .ne 25, 3) := by decide +kernel
theorem dJ2_getChar_3b067_6 : decode cJ2_getChar_3b067 6 = .ok (.iload_n 1, 1) := by decide +kernel
theorem dJ2_getChar_3b067_7 : decode cJ2_getChar_3b067 7 = .ok (.ifCond .lt 11, 3) := by decide +kernel
theorem dJ2_getChar_3b067_10 : decode cJ2_getChar_3b067 10 = .ok (.iload_n 1, 1) := by decide +kernel
theorem dJ2_getChar_3b067_11 : decode cJ2_getChar_3b067 11 = .ok (.aload_n 0, 1) := by decide +kernel
theorem dJ2_getChar_3b067_12 : decode cJ2_getChar_3b067 12 = .ok (.invokestatic 48, 3) := by decide +kernel
theorem dJ2_getChar_3b067_15 : decode cJ2_getChar_3b067 15 = .ok (.if_icmp .lt 13, 3) := by decide +kernel
theorem dJ2_getChar_3b067_18 : decode cJ2_getChar_3b067 18 = .ok (.new 52, 3) := by decide +kernel
theorem dJ2_getChar_3b067_21 : decode cJ2_getChar_3b067 21 = .ok (.dup, 1) := by decide +kernel
theorem dJ2_getChar_3b067_22 : decode cJ2_getChar_3b067 22 = .ok (.ldc 54, 2) := by decide +kernel
theorem dJ2_getChar_3b067_24 : decode cJ2_getChar_3b067 24 = .ok (.invokespecial 56, 3) := by decide +kernel
theorem dJ2_getChar_3b067_27 : decode cJ2_getChar_3b067 27 = .ok (.athrow, 1) := by decide +kernel
theorem dJ2_getChar_3b067_28 : decode cJ2_getChar_3b067 28 = .ok (.iload_n 1, 1) := by decide +kernel
theorem dJ2_getChar_3b067_29 : decode cJ2_getChar_3b067 29 = .ok (.iconst 1, 1) := by decide +kernel
theorem dJ2_getChar_3b067_30 : decode cJ2_getChar_3b067 30 = .ok (.ishl, 1) := by decide +kernel
theorem dJ2_getChar_3b067_31 : decode cJ2_getChar_3b067 31 = .ok (.istore_n 1, 1) := by decide +kernel
theorem dJ2_getChar_3b067_32 : decode cJ2_getChar_3b067 32 = .ok (.aload_n 0, 1) := by decide +kernel
theorem dJ2_getChar_3b067_33 : decode cJ2_getChar_3b067 33 = .ok (.iload_n 1, 1) := by decide +kernel
theorem dJ2_getChar_3b067_34 : decode cJ2_getChar_3b067 34 = .ok (.iinc 1 1, 3) := by decide +kernel
theorem dJ2_getChar_3b067_37 : decode cJ2_getChar_3b067 37 = .ok (.baload, 1) := by decide +kernel
theorem dJ2_getChar_3b067_38 : decode cJ2_getChar_3b067 38 = .ok (.sipush 255, 3) := by decide +kernel
theorem dJ2_getChar_3b067_41 : decode cJ2_getChar_3b067 41 = .ok (.iand, 1) := by decide +kernel
theorem dJ2_getChar_3b067_42 : decode cJ2_getChar_3b067 42 = .ok (.getstatic 59, 3) := by decide +kernel
theorem dJ2_getChar_3b067_45 : decode cJ2_getChar_3b067 45 = .ok (.ishl, 1) := by decide +kernel
theorem dJ2_getChar_3b067_46 : decode cJ2_getChar_3b067 46 = .ok (.aload_n 0, 1) := by decide +kernel
theorem dJ2_getChar_3b067_47 : decode cJ2_getChar_3b067 47 = .ok (.iload_n 1, 1) := by decide +kernel
theorem dJ2_getChar_3b067_48 : decode cJ2_getChar_3b067 48 = .ok (.baload, 1) := by decide +kernel
theorem dJ2_getChar_3b067_49 : decode cJ2_getChar_3b067 49 = .ok (.sipush 255, 3) := by decide +kernel
theorem dJ2_getChar_3b067_52 : decode cJ2_getChar_3b067 52 = .ok (.iand, 1) := by decide +kernel
theorem dJ2_getChar_3b067_53 : decode cJ2_getChar_3b067 53 = .ok (.getstatic 63, 3) := by decide +kernel
theorem dJ2_getChar_3b067_56 : decode cJ2_getChar_3b067 56 = .ok (.ishl, 1) := by decide +kernel
theorem dJ2_getChar_3b067_57 : decode cJ2_getChar_3b067 57 = .ok (.ior, 1) := by decide +kernel
theorem dJ2_getChar_3b067_58 : decode cJ2_getChar_3b067 58 = .ok (.i2c, 1) := by decide +kernel
theorem dJ2_getChar_3b067_59 : decode cJ2_getChar_3b067 59 = .ok (.ireturn, 1) := by decide +kernel
theorem dJ2_length_9d52b_0 : decode cJ2_length_9d52b 0 = .ok (.aload_n 0, 1) := by decide +kernel
theorem dJ2_length_9d52b_1 : decode cJ2_length_9d52b 1 = .ok (.arraylength, 1) := by decide +kernel
theorem dJ2_length_9d52b_2 : decode cJ2_length_9d52b 2 = .ok (.iconst 1, 1) := by decide +kernel
theorem dJ2_length_9d52b_3 : decode cJ2_length_9d52b 3 = .ok (.ishr, 1) := by decide +kernel
theorem dJ2_length_9d52b_4 : decode cJ2_length_9d52b 4 = .ok (.ireturn, 1) := by decide +kernel
theorem dJ2_charAt_3b067_0 : decode cJ2_charAt_3b067 0 = .ok (.iload_n 1, 1) := by decide +kernel
theorem dJ2_charAt_3b067_1 : decode cJ2_charAt_3b067 1 = .ok (.aload_n 0, 1) := by decide +kernel
theorem dJ2_charAt_3b067_2 : decode cJ2_charAt_3b067 2 = .ok (.invokestatic 67, 3) := by decide +kernel
theorem dJ2_charAt_3b067_5 : decode cJ2_charAt_3b067 5 = .ok (.aload_n 0, 1) := by decide +kernel
theorem dJ2_charAt_3b067_6 : decode cJ2_charAt_3b067 6 = .ok (.iload_n 1, 1) := by decide +kernel
theorem dJ2_charAt_3b067_7 : decode cJ2_charAt_3b067 7 = .ok (.invokestatic 71, 3) := by decide +kernel
theorem dJ2_charAt_3b067_10 : decode cJ2_charAt_3b067 10 = .ok (.ireturn, 1) := by decide +kernel
theorem dJ2_checkIndex_2214a_0 : decode cJ2_checkIndex_2214a 0 = .ok (.iload_n 0, 1) := by decide +kernel
theorem dJ2_checkIndex_2214a_1 : decode cJ2_checkIndex_2214a 1 = .ok (.aload_n 1, 1) := by decide +kernel
theorem dJ2_checkIndex_2214a_2 : decode cJ2_checkIndex_2214a 2 = .ok (.invokestatic 48, 3) := by decide +kernel
theorem dJ2_checkIndex_2214a_5 : decode cJ2_checkIndex_2214a 5 = .ok (.invokestatic 414, 3) := by decide +kernel
theorem dJ2_checkIndex_2214a_8 : decode cJ2_checkIndex_2214a 8 = .ok (.return_, 1) := by decide +kernel
theorem dJ7_fill_53178_0 : decode cJ7_fill_53178 0 = .ok (.iconst 0, 1) := by decide +kernel
theorem dJ7_fill_53178_1 : decode cJ7_fill_53178 1 = .ok (.istore_n 2, 1) := by decide +kernel
theorem dJ7_fill_53178_2 : decode cJ7_fill_53178 2 = .ok (.aload_n 0, 1) := by decide +kernel
theorem dJ7_fill_53178_3 : decode cJ7_fill_53178 3 = .ok (.arraylength, 1) := by decide +kernel
theorem dJ7_fill_53178_4 : decode cJ7_fill_53178 4 = .ok (.istore_n 3, 1) := by decide +kernel
theorem dJ7_fill_53178_5 : decode cJ7_fill_53178 5 = .ok (.iload_n 2, 1) := by decide +kernel
theorem dJ7_fill_53178_6 : decode cJ7_fill_53178 6 = .ok (.iload_n 3, 1) := by decide +kernel
theorem dJ7_fill_53178_7 : decode cJ7_fill_53178 7 = .ok (.if_icmp .ge 13, 3) := by decide +kernel
theorem dJ7_fill_53178_10 : decode cJ7_fill_53178 10 = .ok (.aload_n 0, 1) := by decide +kernel
theorem dJ7_fill_53178_11 : decode cJ7_fill_53178 11 = .ok (.iload_n 2, 1) := by decide +kernel
theorem dJ7_fill_53178_12 : decode cJ7_fill_53178 12 = .ok (.iload_n 1, 1) := by decide +kernel
theorem dJ7_fill_53178_13 : decode cJ7_fill_53178 13 = .ok (.iastore, 1) := by decide +kernel
theorem dJ7_fill_53178_14 : decode cJ7_fill_53178 14 = .ok (.iinc 2 1, 3) := by decide +kernel
theorem dJ7_fill_53178_17 : decode cJ7_fill_53178 17 = .ok (.goto (-12), 3) := by decide +kernel
theorem dJ7_fill_53178_20 : decode cJ7_fill_53178 20 = .ok (.return_, 1) := by decide +kernel
theorem dJ3_checkIndex_8e157_0 : decode cJ3_checkIndex_8e157 0 = .ok (.iload_n 0, 1) := by decide +kernel
theorem dJ3_checkIndex_8e157_1 : decode cJ3_checkIndex_8e157 1 = .ok (.ifCond .lt 8, 3) := by decide +kernel
theorem dJ3_checkIndex_8e157_4 : decode cJ3_checkIndex_8e157 4 = .ok (.iload_n 0, 1) := by decide +kernel
theorem dJ3_checkIndex_8e157_5 : decode cJ3_checkIndex_8e157 5 = .ok (.iload_n 1, 1) := by decide +kernel
theorem dJ3_checkIndex_8e157_6 : decode cJ3_checkIndex_8e157 6 = .ok (.if_icmp .lt 10, 3) := by decide +kernel
theorem dJ3_checkIndex_8e157_9 : decode cJ3_checkIndex_8e157 9 = .ok (.aload_n 2, 1) := by decide +kernel
theorem dJ3_checkIndex_8e157_10 : decode cJ3_checkIndex_8e157 10 = .ok (.iload_n 0, 1) := by decide +kernel
theorem dJ3_checkIndex_8e157_11 : decode cJ3_checkIndex_8e157 11 = .ok (.iload_n 1, 1) := by decide +kernel
theorem dJ3_checkIndex_8e157_12 : decode cJ3_checkIndex_8e157 12 = .ok (.invokestatic 95, 3) := by decide +kernel
theorem dJ3_checkIndex_8e157_15 : decode cJ3_checkIndex_8e157 15 = .ok (.athrow, 1) := by decide +kernel
theorem dJ3_checkIndex_8e157_16 : decode cJ3_checkIndex_8e157 16 = .ok (.iload_n 0, 1) := by decide +kernel
theorem dJ3_checkIndex_8e157_17 : decode cJ3_checkIndex_8e157 17 = .ok (.ireturn, 1) := by decide +kernel
theorem dL_addLayer_0 : decode cL_addLayer 0 = .ok (.aload_n 2, 1) := by decide +kernel
theorem dL_addLayer_1 : decode cL_addLayer 1 = .ok (.iconst 0, 1) := by decide +kernel
theorem dL_addLayer_2 : decode cL_addLayer 2 = .ok (.aload_n 0, 1) := by decide +kernel
theorem dL_addLayer_3 : decode cL_addLayer 3 = .ok (.iload_n 1, 1) := by decide +kernel
theorem dL_addLayer_4 : decode cL_addLayer 4 = .ok (.invokevirtual 7, 3) := by decide +kernel
theorem dL_addLayer_7 : decode cL_addLayer 7 = .ok (.i2l, 1) := by decide +kernel
theorem dL_addLayer_8 : decode cL_addLayer 8 = .ok (.lastore, 1) := by decide +kernel
theorem dL_addLayer_9 : decode cL_addLayer 9 = .ok (.goto 9, 3) := by decide +kernel
theorem dL_addLayer_12 : decode cL_addLayer 12 = .ok (.astore_n 3, 1) := by decide +kernel
theorem dL_addLayer_13 : decode cL_addLayer 13 = .ok (.iconst 1, 1) := by decide +kernel
theorem dL_addLayer_14 : decode cL_addLayer 14 = .ok (.ireturn, 1) := by decide +kernel
theorem dL_addLayer_15 : decode cL_addLayer 15 = .ok (.astore_n 3, 1) := by decide +kernel
theorem dL_addLayer_16 : decode cL_addLayer 16 = .ok (.iconst 2, 1) := by decide +kernel
theorem dL_addLayer_17 : decode cL_addLayer 17 = .ok (.ireturn, 1) := by decide +kernel
theorem dL_addLayer_18 : decode cL_addLayer 18 = .ok (.iconst 0, 1) := by decide +kernel
theorem dL_addLayer_19 : decode cL_addLayer 19 = .ok (.ireturn, 1) := by decide +kernel
theorem dL_removeLayer_0 : decode cL_removeLayer 0 = .ok (.aload_n 2, 1) := by decide +kernel
theorem dL_removeLayer_1 : decode cL_removeLayer 1 = .ok (.iconst 0, 1) := by decide +kernel
theorem dL_removeLayer_2 : decode cL_removeLayer 2 = .ok (.aload_n 0, 1) := by decide +kernel
theorem dL_removeLayer_3 : decode cL_removeLayer 3 = .ok (.iload_n 1, 1) := by decide +kernel
theorem dL_removeLayer_4 : decode cL_removeLayer 4 = .ok (.invokevirtual 17, 3) := by decide +kernel
theorem dL_removeLayer_7 : decode cL_removeLayer 7 = .ok (.i2l, 1) := by decide +kernel
theorem dL_removeLayer_8 : decode cL_removeLayer 8 = .ok (.lastore, 1) := by decide +kernel
theorem dL_removeLayer_9 : decode cL_removeLayer 9 = .ok (.goto 6, 3) := by decide +kernel
theorem dL_removeLayer_12 : decode cL_removeLayer 12 = .ok (.astore_n 3, 1) := by decide +kernel
theorem dL_removeLayer_13 : decode cL_removeLayer 13 = .ok (.iconst 1, 1) := by decide +kernel
theorem dL_removeLayer_14 : decode cL_removeLayer 14 = .ok (.ireturn, 1) := by decide +kernel
theorem dL_removeLayer_15 : decode cL_removeLayer 15 = .ok (.iconst 0, 1) := by decide +kernel
theorem dL_removeLayer_16 : decode cL_removeLayer 16 = .ok (.ireturn, 1) := by decide +kernel
theorem dL_paint_0 : decode cL_paint 0 = .ok (.aload 7, 2) := by decide +kernel
theorem dL_paint_2 : decode cL_paint 2 = .ok (.iconst 0, 1) := by decide +kernel
theorem dL_paint_3 : decode cL_paint 3 = .ok (.aload_n 0, 1) := by decide +kernel
theorem dL_paint_4 : decode cL_paint 4 = .ok (.iload_n 1, 1) := by decide +kernel
theorem dL_paint_5 : decode cL_paint 5 = .ok (.iload_n 2, 1) := by decide +kernel
theorem dL_paint_6 : decode cL_paint 6 = .ok (.iload_n 3, 1) := by decide +kernel
theorem dL_paint_7 : decode cL_paint 7 = .ok (.iload 4, 2) := by decide +kernel
theorem dL_paint_9 : decode cL_paint 9 = .ok (.iload 5, 2) := by decide +kernel
theorem dL_paint_11 : decode cL_paint 11 = .ok (.iload 6, 2) := by decide +kernel
theorem dL_paint_13 : decode cL_paint 13 = .ok (.invokevirtual 23, 3) := by decide +kernel
theorem dL_paint_16 : decode cL_paint 16 = .ok (.i2l, 1) := by decide +kernel
theorem dL_paint_17 : decode cL_paint 17 = .ok (.lastore, 1) := by decide +kernel
theorem dL_paint_18 : decode cL_paint 18 = .ok (.goto 11, 3) := by decide +kernel
theorem dL_paint_21 : decode cL_paint 21 = .ok (.astore 8, 2) := by decide +kernel
theorem dL_paint_23 : decode cL_paint 23 = .ok (.iconst 1, 1) := by decide +kernel
theorem dL_paint_24 : decode cL_paint 24 = .ok (.ireturn, 1) := by decide +kernel
theorem dL_paint_25 : decode cL_paint 25 = .ok (.astore 8, 2) := by decide +kernel
theorem dL_paint_27 : decode cL_paint 27 = .ok (.iconst 2, 1) := by decide +kernel
theorem dL_paint_28 : decode cL_paint 28 = .ok (.ireturn, 1) := by decide +kernel
theorem dL_paint_29 : decode cL_paint 29 = .ok (.iconst 0, 1) := by decide +kernel
theorem dL_paint_30 : decode cL_paint 30 = .ok (.ireturn, 1) := by decide +kernel
theorem dL_erase_0 : decode cL_erase 0 = .ok (.aload 5, 2) := by decide +kernel
theorem dL_erase_2 : decode cL_erase 2 = .ok (.iconst 0, 1) := by decide +kernel
theorem dL_erase_3 : decode cL_erase 3 = .ok (.aload_n 0, 1) := by decide +kernel
theorem dL_erase_4 : decode cL_erase 4 = .ok (.iload_n 1, 1) := by decide +kernel
theorem dL_erase_5 : decode cL_erase 5 = .ok (.iload_n 2, 1) := by decide +kernel
theorem dL_erase_6 : decode cL_erase 6 = .ok (.iload_n 3, 1) := by decide +kernel
theorem dL_erase_7 : decode cL_erase 7 = .ok (.iload 4, 2) := by decide +kernel
theorem dL_erase_9 : decode cL_erase 9 = .ok (.invokevirtual 27, 3) := by decide +kernel
theorem dL_erase_12 : decode cL_erase 12 = .ok (.i2l, 1) := by decide +kernel
theorem dL_erase_13 : decode cL_erase 13 = .ok (.lastore, 1) := by decide +kernel
theorem dL_erase_14 : decode cL_erase 14 = .ok (.goto 11, 3) := by decide +kernel
theorem dL_erase_17 : decode cL_erase 17 = .ok (.astore 6, 2) := by decide +kernel
theorem dL_erase_19 : decode cL_erase 19 = .ok (.iconst 1, 1) := by decide +kernel
theorem dL_erase_20 : decode cL_erase 20 = .ok (.ireturn, 1) := by decide +kernel
theorem dL_erase_21 : decode cL_erase 21 = .ok (.astore 6, 2) := by decide +kernel
theorem dL_erase_23 : decode cL_erase 23 = .ok (.iconst 2, 1) := by decide +kernel
theorem dL_erase_24 : decode cL_erase 24 = .ok (.ireturn, 1) := by decide +kernel
theorem dL_erase_25 : decode cL_erase 25 = .ok (.iconst 0, 1) := by decide +kernel
theorem dL_erase_26 : decode cL_erase 26 = .ok (.ireturn, 1) := by decide +kernel
theorem dL_hide_0 : decode cL_hide 0 = .ok (.aload_n 2, 1) := by decide +kernel
theorem dL_hide_1 : decode cL_hide 1 = .ok (.iconst 0, 1) := by decide +kernel
theorem dL_hide_2 : decode cL_hide 2 = .ok (.aload_n 0, 1) := by decide +kernel
theorem dL_hide_3 : decode cL_hide 3 = .ok (.iload_n 1, 1) := by decide +kernel
theorem dL_hide_4 : decode cL_hide 4 = .ok (.invokevirtual 31, 3) := by decide +kernel
theorem dL_hide_7 : decode cL_hide 7 = .ok (.i2l, 1) := by decide +kernel
theorem dL_hide_8 : decode cL_hide 8 = .ok (.lastore, 1) := by decide +kernel
theorem dL_hide_9 : decode cL_hide 9 = .ok (.goto 9, 3) := by decide +kernel
theorem dL_hide_12 : decode cL_hide 12 = .ok (.astore_n 3, 1) := by decide +kernel
theorem dL_hide_13 : decode cL_hide 13 = .ok (.iconst 1, 1) := by decide +kernel
theorem dL_hide_14 : decode cL_hide 14 = .ok (.ireturn, 1) := by decide +kernel
theorem dL_hide_15 : decode cL_hide 15 = .ok (.astore_n 3, 1) := by decide +kernel
theorem dL_hide_16 : decode cL_hide 16 = .ok (.iconst 2, 1) := by decide +kernel
theorem dL_hide_17 : decode cL_hide 17 = .ok (.ireturn, 1) := by decide +kernel
theorem dL_hide_18 : decode cL_hide 18 = .ok (.iconst 0, 1) := by decide +kernel
theorem dL_hide_19 : decode cL_hide 19 = .ok (.ireturn, 1) := by decide +kernel
theorem dL_show_0 : decode cL_show 0 = .ok (.aload_n 2, 1) := by decide +kernel
theorem dL_show_1 : decode cL_show 1 = .ok (.iconst 0, 1) := by decide +kernel
theorem dL_show_2 : decode cL_show 2 = .ok (.aload_n 0, 1) := by decide +kernel
theorem dL_show_3 : decode cL_show 3 = .ok (.iload_n 1, 1) := by decide +kernel
theorem dL_show_4 : decode cL_show 4 = .ok (.invokevirtual 34, 3) := by decide +kernel
theorem dL_show_7 : decode cL_show 7 = .ok (.i2l, 1) := by decide +kernel
theorem dL_show_8 : decode cL_show 8 = .ok (.lastore, 1) := by decide +kernel
theorem dL_show_9 : decode cL_show 9 = .ok (.goto 9, 3) := by decide +kernel
theorem dL_show_12 : decode cL_show 12 = .ok (.astore_n 3, 1) := by decide +kernel
theorem dL_show_13 : decode cL_show 13 = .ok (.iconst 1, 1) := by decide +kernel
theorem dL_show_14 : decode cL_show 14 = .ok (.ireturn, 1) := by decide +kernel
theorem dL_show_15 : decode cL_show 15 = .ok (.astore_n 3, 1) := by decide +kernel
theorem dL_show_16 : decode cL_show 16 = .ok (.iconst 2, 1) := by decide +kernel
theorem dL_show_17 : decode cL_show 17 = .ok (.ireturn, 1) := by decide +kernel
theorem dL_show_18 : decode cL_show 18 = .ok (.iconst 0, 1) := by decide +kernel
theorem dL_show_19 : decode cL_show 19 = .ok (.ireturn, 1) := by decide +kernel
theorem dL_moveLayer_0 : decode cL_moveLayer 0 = .ok (.aload_n 3, 1) := by decide +kernel
theorem dL_moveLayer_1 : decode cL_moveLayer 1 = .ok (.iconst 0, 1) := by decide +kernel
theorem dL_moveLayer_2 : decode cL_moveLayer 2 = .ok (.aload_n 0, 1) := by decide +kernel
theorem dL_moveLayer_3 : decode cL_moveLayer 3 = .ok (.iload_n 1, 1) := by decide +kernel
theorem dL_moveLayer_4 : decode cL_moveLayer 4 = .ok (.iload_n 2, 1) := by decide +kernel
theorem dL_moveLayer_5 : decode cL_moveLayer 5 = .ok (.invokevirtual 37, 3) := by decide +kernel
theorem dL_moveLayer_8 : decode cL_moveLayer 8 = .ok (.i2l, 1) := by decide +kernel
theorem dL_moveLayer_9 : decode cL_moveLayer 9 = .ok (.lastore, 1) := by decide +kernel
theorem dL_moveLayer_10 : decode cL_moveLayer 10 = .ok (.goto 7, 3) := by decide +kernel
theorem dL_moveLayer_13 : decode cL_moveLayer 13 = .ok (.astore 4, 2) := by decide +kernel
theorem dL_moveLayer_15 : decode cL_moveLayer 15 = .ok (.iconst 1, 1) := by decide +kernel
theorem dL_moveLayer_16 : decode cL_moveLayer 16 = .ok (.ireturn, 1) := by decide +kernel
theorem dL_moveLayer_17 : decode cL_moveLayer 17 = .ok (.iconst 0, 1) := by decide +kernel
theorem dL_moveLayer_18 : decode cL_moveLayer 18 = .ok (.ireturn, 1) := by decide +kernel
theorem dL_mergeDown_0 : decode cL_mergeDown 0 = .ok (.aload_n 2, 1) := by decide +kernel
theorem dL_mergeDown_1 : decode cL_mergeDown 1 = .ok (.iconst 0, 1) := by decide +kernel
theorem dL_mergeDown_2 : decode cL_mergeDown 2 = .ok (.aload_n 0, 1) := by decide +kernel
theorem dL_mergeDown_3 : decode cL_mergeDown 3 = .ok (.iload_n 1, 1) := by decide +kernel
theorem dL_mergeDown_4 : decode cL_mergeDown 4 = .ok (.invokevirtual 41, 3) := by decide +kernel
theorem dL_mergeDown_7 : decode cL_mergeDown 7 = .ok (.i2l, 1) := by decide +kernel
theorem dL_mergeDown_8 : decode cL_mergeDown 8 = .ok (.lastore, 1) := by decide +kernel
theorem dL_mergeDown_9 : decode cL_mergeDown 9 = .ok (.goto 12, 3) := by decide +kernel
theorem dL_mergeDown_12 : decode cL_mergeDown 12 = .ok (.astore_n 3, 1) := by decide +kernel
theorem dL_mergeDown_13 : decode cL_mergeDown 13 = .ok (.iconst 1, 1) := by decide +kernel
theorem dL_mergeDown_14 : decode cL_mergeDown 14 = .ok (.ireturn, 1) := by decide +kernel
theorem dL_mergeDown_15 : decode cL_mergeDown 15 = .ok (.astore_n 3, 1) := by decide +kernel
theorem dL_mergeDown_16 : decode cL_mergeDown 16 = .ok (.iconst 2, 1) := by decide +kernel
theorem dL_mergeDown_17 : decode cL_mergeDown 17 = .ok (.ireturn, 1) := by decide +kernel
theorem dL_mergeDown_18 : decode cL_mergeDown 18 = .ok (.astore_n 3, 1) := by decide +kernel
theorem dL_mergeDown_19 : decode cL_mergeDown 19 = .ok (.iconst 3, 1) := by decide +kernel
theorem dL_mergeDown_20 : decode cL_mergeDown 20 = .ok (.ireturn, 1) := by decide +kernel
theorem dL_mergeDown_21 : decode cL_mergeDown 21 = .ok (.iconst 0, 1) := by decide +kernel
theorem dL_mergeDown_22 : decode cL_mergeDown 22 = .ok (.ireturn, 1) := by decide +kernel
theorem dL_castShadow_0 : decode cL_castShadow 0 = .ok (.aload_n 3, 1) := by decide +kernel
theorem dL_castShadow_1 : decode cL_castShadow 1 = .ok (.iconst 0, 1) := by decide +kernel
theorem dL_castShadow_2 : decode cL_castShadow 2 = .ok (.aload_n 0, 1) := by decide +kernel
theorem dL_castShadow_3 : decode cL_castShadow 3 = .ok (.iload_n 1, 1) := by decide +kernel
theorem dL_castShadow_4 : decode cL_castShadow 4 = .ok (.iload_n 2, 1) := by decide +kernel
theorem dL_castShadow_5 : decode cL_castShadow 5 = .ok (.invokevirtual 48, 3) := by decide +kernel
theorem dL_castShadow_8 : decode cL_castShadow 8 = .ok (.i2l, 1) := by decide +kernel
theorem dL_castShadow_9 : decode cL_castShadow 9 = .ok (.lastore, 1) := by decide +kernel
theorem dL_castShadow_10 : decode cL_castShadow 10 = .ok (.goto 15, 3) := by decide +kernel
theorem dL_castShadow_13 : decode cL_castShadow 13 = .ok (.astore 4, 2) := by decide +kernel
theorem dL_castShadow_15 : decode cL_castShadow 15 = .ok (.iconst 1, 1) := by decide +kernel
theorem dL_castShadow_16 : decode cL_castShadow 16 = .ok (.ireturn, 1) := by decide +kernel
theorem dL_castShadow_17 : decode cL_castShadow 17 = .ok (.astore 4, 2) := by decide +kernel
theorem dL_castShadow_19 : decode cL_castShadow 19 = .ok (.iconst 2, 1) := by decide +kernel
theorem dL_castShadow_20 : decode cL_castShadow 20 = .ok (.ireturn, 1) := by decide +kernel
theorem dL_castShadow_21 : decode cL_castShadow 21 = .ok (.astore 4, 2) := by decide +kernel
theorem dL_castShadow_23 : decode cL_castShadow 23 = .ok (.iconst 3, 1) := by decide +kernel
theorem dL_castShadow_24 : decode cL_castShadow 24 = .ok (.ireturn, 1) := by decide +kernel
theorem dL_castShadow_25 : decode cL_castShadow 25 = .ok (.iconst 0, 1) := by decide +kernel
theorem dL_castShadow_26 : decode cL_castShadow 26 = .ok (.ireturn, 1) := by decide +kernel
theorem dL_mode_0 : decode cL_mode 0 = .ok (.aload_n 2, 1) := by decide +kernel
theorem dL_mode_1 : decode cL_mode 1 = .ok (.iconst 0, 1) := by decide +kernel
theorem dL_mode_2 : decode cL_mode 2 = .ok (.aload_n 0, 1) := by decide +kernel
theorem dL_mode_3 : decode cL_mode 3 = .ok (.iload_n 1, 1) := by decide +kernel
theorem dL_mode_4 : decode cL_mode 4 = .ok (.invokevirtual 51, 3) := by decide +kernel
theorem dL_mode_7 : decode cL_mode 7 = .ok (.i2l, 1) := by decide +kernel
theorem dL_mode_8 : decode cL_mode 8 = .ok (.lastore, 1) := by decide +kernel
theorem dL_mode_9 : decode cL_mode 9 = .ok (.goto 6, 3) := by decide +kernel
theorem dL_mode_12 : decode cL_mode 12 = .ok (.astore_n 3, 1) := by decide +kernel
theorem dL_mode_13 : decode cL_mode 13 = .ok (.iconst 1, 1) := by decide +kernel
theorem dL_mode_14 : decode cL_mode 14 = .ok (.ireturn, 1) := by decide +kernel
theorem dL_mode_15 : decode cL_mode 15 = .ok (.iconst 0, 1) := by decide +kernel
theorem dL_mode_16 : decode cL_mode 16 = .ok (.ireturn, 1) := by decide +kernel
theorem dL_isVisible_0 : decode cL_isVisible 0 = .ok (.aload_n 2, 1) := by decide +kernel
theorem dL_isVisible_1 : decode cL_isVisible 1 = .ok (.iconst 0, 1) := by decide +kernel
theorem dL_isVisible_2 : decode cL_isVisible 2 = .ok (.aload_n 0, 1) := by decide +kernel
theorem dL_isVisible_3 : decode cL_isVisible 3 = .ok (.iload_n 1, 1) := by decide +kernel
theorem dL_isVisible_4 : decode cL_isVisible 4 = .ok (.invokevirtual 55, 3) := by decide +kernel
theorem dL_isVisible_7 : decode cL_isVisible 7 = .ok (.ifCond .eq 7, 3) := by decide +kernel
theorem dL_isVisible_10 : decode cL_isVisible 10 = .ok (.lconst 1, 1) := by decide +kernel
theorem dL_isVisible_11 : decode cL_isVisible 11 = .ok (.goto 4, 3) := by decide +kernel
theorem dL_isVisible_14 : decode cL_isVisible 14 = .ok (.lconst 0, 1) := by decide +kernel
theorem dL_isVisible_15 : decode cL_isVisible 15 = .ok (.lastore, 1) := by decide +kernel
theorem dL_isVisible_16 : decode cL_isVisible 16 = .ok (.goto 6, 3) := by decide +kernel
theorem dL_isVisible_19 : decode cL_isVisible 19 = .ok (.astore_n 3, 1) := by decide +kernel
theorem dL_isVisible_20 : decode cL_isVisible 20 = .ok (.iconst 1, 1) := by decide +kernel
theorem dL_isVisible_21 : decode cL_isVisible 21 = .ok (.ireturn, 1) := by decide +kernel
theorem dL_isVisible_22 : decode cL_isVisible 22 = .ok (.iconst 0, 1) := by decide +kernel
theorem dL_isVisible_23 : decode cL_isVisible 23 = .ok (.ireturn, 1) := by decide +kernel
theorem dL_hasTone_0 : decode cL_hasTone 0 = .ok (.aload 4, 2) := by decide +kernel
theorem dL_hasTone_2 : decode cL_hasTone 2 = .ok (.iconst 0, 1) := by decide +kernel
theorem dL_hasTone_3 : decode cL_hasTone 3 = .ok (.aload_n 0, 1) := by decide +kernel
theorem dL_hasTone_4 : decode cL_hasTone 4 = .ok (.iload_n 1, 1) := by decide +kernel
theorem dL_hasTone_5 : decode cL_hasTone 5 = .ok (.iload_n 2, 1) := by decide +kernel
theorem dL_hasTone_6 : decode cL_hasTone 6 = .ok (.iload_n 3, 1) := by decide +kernel
theorem dL_hasTone_7 : decode cL_hasTone 7 = .ok (.invokevirtual 59, 3) := by decide +kernel
theorem dL_hasTone_10 : decode cL_hasTone 10 = .ok (.ifCond .eq 7, 3) := by decide +kernel
theorem dL_hasTone_13 : decode cL_hasTone 13 = .ok (.lconst 1, 1) := by decide +kernel
theorem dL_hasTone_14 : decode cL_hasTone 14 = .ok (.goto 4, 3) := by decide +kernel
theorem dL_hasTone_17 : decode cL_hasTone 17 = .ok (.lconst 0, 1) := by decide +kernel
theorem dL_hasTone_18 : decode cL_hasTone 18 = .ok (.lastore, 1) := by decide +kernel
theorem dL_hasTone_19 : decode cL_hasTone 19 = .ok (.goto 7, 3) := by decide +kernel
theorem dL_hasTone_22 : decode cL_hasTone 22 = .ok (.astore 5, 2) := by decide +kernel
theorem dL_hasTone_24 : decode cL_hasTone 24 = .ok (.iconst 1, 1) := by decide +kernel
theorem dL_hasTone_25 : decode cL_hasTone 25 = .ok (.ireturn, 1) := by decide +kernel
theorem dL_hasTone_26 : decode cL_hasTone 26 = .ok (.iconst 0, 1) := by decide +kernel
theorem dL_hasTone_27 : decode cL_hasTone 27 = .ok (.ireturn, 1) := by decide +kernel
theorem dL_tone_0 : decode cL_tone 0 = .ok (.aload 4, 2) := by decide +kernel
theorem dL_tone_2 : decode cL_tone 2 = .ok (.iconst 0, 1) := by decide +kernel
theorem dL_tone_3 : decode cL_tone 3 = .ok (.aload_n 0, 1) := by decide +kernel
theorem dL_tone_4 : decode cL_tone 4 = .ok (.iload_n 1, 1) := by decide +kernel
theorem dL_tone_5 : decode cL_tone 5 = .ok (.iload_n 2, 1) := by decide +kernel
theorem dL_tone_6 : decode cL_tone 6 = .ok (.iload_n 3, 1) := by decide +kernel
theorem dL_tone_7 : decode cL_tone 7 = .ok (.invokevirtual 63, 3) := by decide +kernel
theorem dL_tone_10 : decode cL_tone 10 = .ok (.i2l, 1) := by decide +kernel
theorem dL_tone_11 : decode cL_tone 11 = .ok (.lastore, 1) := by decide +kernel
theorem dL_tone_12 : decode cL_tone 12 = .ok (.goto 11, 3) := by decide +kernel
theorem dL_tone_15 : decode cL_tone 15 = .ok (.astore 5, 2) := by decide +kernel
theorem dL_tone_17 : decode cL_tone 17 = .ok (.iconst 1, 1) := by decide +kernel
theorem dL_tone_18 : decode cL_tone 18 = .ok (.ireturn, 1) := by decide +kernel
theorem dL_tone_19 : decode cL_tone 19 = .ok (.astore 5, 2) := by decide +kernel
theorem dL_tone_21 : decode cL_tone 21 = .ok (.iconst 2, 1) := by decide +kernel
theorem dL_tone_22 : decode cL_tone 22 = .ok (.ireturn, 1) := by decide +kernel
theorem dL_tone_23 : decode cL_tone 23 = .ok (.iconst 0, 1) := by decide +kernel
theorem dL_tone_24 : decode cL_tone 24 = .ok (.ireturn, 1) := by decide +kernel
theorem dL_painted_0 : decode cL_painted 0 = .ok (.aload_n 2, 1) := by decide +kernel
theorem dL_painted_1 : decode cL_painted 1 = .ok (.iconst 0, 1) := by decide +kernel
theorem dL_painted_2 : decode cL_painted 2 = .ok (.aload_n 0, 1) := by decide +kernel
theorem dL_painted_3 : decode cL_painted 3 = .ok (.iload_n 1, 1) := by decide +kernel
theorem dL_painted_4 : decode cL_painted 4 = .ok (.invokevirtual 67, 3) := by decide +kernel
theorem dL_painted_7 : decode cL_painted 7 = .ok (.i2l, 1) := by decide +kernel
theorem dL_painted_8 : decode cL_painted 8 = .ok (.lastore, 1) := by decide +kernel
theorem dL_painted_9 : decode cL_painted 9 = .ok (.goto 6, 3) := by decide +kernel
theorem dL_painted_12 : decode cL_painted 12 = .ok (.astore_n 3, 1) := by decide +kernel
theorem dL_painted_13 : decode cL_painted 13 = .ok (.iconst 1, 1) := by decide +kernel
theorem dL_painted_14 : decode cL_painted 14 = .ok (.ireturn, 1) := by decide +kernel
theorem dL_painted_15 : decode cL_painted 15 = .ok (.iconst 0, 1) := by decide +kernel
theorem dL_painted_16 : decode cL_painted 16 = .ok (.ireturn, 1) := by decide +kernel
theorem dL_seen_0 : decode cL_seen 0 = .ok (.aload_n 3, 1) := by decide +kernel
theorem dL_seen_1 : decode cL_seen 1 = .ok (.iconst 0, 1) := by decide +kernel
theorem dL_seen_2 : decode cL_seen 2 = .ok (.aload_n 0, 1) := by decide +kernel
theorem dL_seen_3 : decode cL_seen 3 = .ok (.iload_n 1, 1) := by decide +kernel
theorem dL_seen_4 : decode cL_seen 4 = .ok (.iload_n 2, 1) := by decide +kernel
theorem dL_seen_5 : decode cL_seen 5 = .ok (.invokevirtual 70, 3) := by decide +kernel
theorem dL_seen_8 : decode cL_seen 8 = .ok (.i2l, 1) := by decide +kernel
theorem dL_seen_9 : decode cL_seen 9 = .ok (.lastore, 1) := by decide +kernel
theorem dL_seen_10 : decode cL_seen 10 = .ok (.goto 7, 3) := by decide +kernel
theorem dL_seen_13 : decode cL_seen 13 = .ok (.astore 4, 2) := by decide +kernel
theorem dL_seen_15 : decode cL_seen 15 = .ok (.iconst 1, 1) := by decide +kernel
theorem dL_seen_16 : decode cL_seen 16 = .ok (.ireturn, 1) := by decide +kernel
theorem dL_seen_17 : decode cL_seen 17 = .ok (.iconst 0, 1) := by decide +kernel
theorem dL_seen_18 : decode cL_seen 18 = .ok (.ireturn, 1) := by decide +kernel
theorem dL_seenFromTop_0 : decode cL_seenFromTop 0 = .ok (.aload_n 3, 1) := by decide +kernel
theorem dL_seenFromTop_1 : decode cL_seenFromTop 1 = .ok (.iconst 0, 1) := by decide +kernel
theorem dL_seenFromTop_2 : decode cL_seenFromTop 2 = .ok (.aload_n 0, 1) := by decide +kernel
theorem dL_seenFromTop_3 : decode cL_seenFromTop 3 = .ok (.iload_n 1, 1) := by decide +kernel
theorem dL_seenFromTop_4 : decode cL_seenFromTop 4 = .ok (.iload_n 2, 1) := by decide +kernel
theorem dL_seenFromTop_5 : decode cL_seenFromTop 5 = .ok (.invokevirtual 73, 3) := by decide +kernel
theorem dL_seenFromTop_8 : decode cL_seenFromTop 8 = .ok (.i2l, 1) := by decide +kernel
theorem dL_seenFromTop_9 : decode cL_seenFromTop 9 = .ok (.lastore, 1) := by decide +kernel
theorem dL_seenFromTop_10 : decode cL_seenFromTop 10 = .ok (.goto 7, 3) := by decide +kernel
theorem dL_seenFromTop_13 : decode cL_seenFromTop 13 = .ok (.astore 4, 2) := by decide +kernel
theorem dL_seenFromTop_15 : decode cL_seenFromTop 15 = .ok (.iconst 1, 1) := by decide +kernel
theorem dL_seenFromTop_16 : decode cL_seenFromTop 16 = .ok (.ireturn, 1) := by decide +kernel
theorem dL_seenFromTop_17 : decode cL_seenFromTop 17 = .ok (.iconst 0, 1) := by decide +kernel
theorem dL_seenFromTop_18 : decode cL_seenFromTop 18 = .ok (.ireturn, 1) := by decide +kernel
theorem dL_topLayer_0 : decode cL_topLayer 0 = .ok (.aload_n 3, 1) := by decide +kernel
theorem dL_topLayer_1 : decode cL_topLayer 1 = .ok (.iconst 0, 1) := by decide +kernel
theorem dL_topLayer_2 : decode cL_topLayer 2 = .ok (.aload_n 0, 1) := by decide +kernel
theorem dL_topLayer_3 : decode cL_topLayer 3 = .ok (.iload_n 1, 1) := by decide +kernel
theorem dL_topLayer_4 : decode cL_topLayer 4 = .ok (.iload_n 2, 1) := by decide +kernel
theorem dL_topLayer_5 : decode cL_topLayer 5 = .ok (.invokevirtual 76, 3) := by decide +kernel
theorem dL_topLayer_8 : decode cL_topLayer 8 = .ok (.i2l, 1) := by decide +kernel
theorem dL_topLayer_9 : decode cL_topLayer 9 = .ok (.lastore, 1) := by decide +kernel
theorem dL_topLayer_10 : decode cL_topLayer 10 = .ok (.goto 11, 3) := by decide +kernel
theorem dL_topLayer_13 : decode cL_topLayer 13 = .ok (.astore 4, 2) := by decide +kernel
theorem dL_topLayer_15 : decode cL_topLayer 15 = .ok (.iconst 1, 1) := by decide +kernel
theorem dL_topLayer_16 : decode cL_topLayer 16 = .ok (.ireturn, 1) := by decide +kernel
theorem dL_topLayer_17 : decode cL_topLayer 17 = .ok (.astore 4, 2) := by decide +kernel
theorem dL_topLayer_19 : decode cL_topLayer 19 = .ok (.iconst 2, 1) := by decide +kernel
theorem dL_topLayer_20 : decode cL_topLayer 20 = .ok (.ireturn, 1) := by decide +kernel
theorem dL_topLayer_21 : decode cL_topLayer 21 = .ok (.iconst 0, 1) := by decide +kernel
theorem dL_topLayer_22 : decode cL_topLayer 22 = .ok (.ireturn, 1) := by decide +kernel
theorem dL_coveringLayers_0 : decode cL_coveringLayers 0 = .ok (.aload_n 3, 1) := by decide +kernel
theorem dL_coveringLayers_1 : decode cL_coveringLayers 1 = .ok (.iconst 0, 1) := by decide +kernel
theorem dL_coveringLayers_2 : decode cL_coveringLayers 2 = .ok (.aload_n 0, 1) := by decide +kernel
theorem dL_coveringLayers_3 : decode cL_coveringLayers 3 = .ok (.iload_n 1, 1) := by decide +kernel
theorem dL_coveringLayers_4 : decode cL_coveringLayers 4 = .ok (.iload_n 2, 1) := by decide +kernel
theorem dL_coveringLayers_5 : decode cL_coveringLayers 5 = .ok (.invokevirtual 79, 3) := by decide +kernel
theorem dL_coveringLayers_8 : decode cL_coveringLayers 8 = .ok (.i2l, 1) := by decide +kernel
theorem dL_coveringLayers_9 : decode cL_coveringLayers 9 = .ok (.lastore, 1) := by decide +kernel
theorem dL_coveringLayers_10 : decode cL_coveringLayers 10 = .ok (.goto 7, 3) := by decide +kernel
theorem dL_coveringLayers_13 : decode cL_coveringLayers 13 = .ok (.astore 4, 2) := by decide +kernel
theorem dL_coveringLayers_15 : decode cL_coveringLayers 15 = .ok (.iconst 1, 1) := by decide +kernel
theorem dL_coveringLayers_16 : decode cL_coveringLayers 16 = .ok (.ireturn, 1) := by decide +kernel
theorem dL_coveringLayers_17 : decode cL_coveringLayers 17 = .ok (.iconst 0, 1) := by decide +kernel
theorem dL_coveringLayers_18 : decode cL_coveringLayers 18 = .ok (.ireturn, 1) := by decide +kernel
theorem dL_cellsWithTone_0 : decode cL_cellsWithTone 0 = .ok (.aload_n 2, 1) := by decide +kernel
theorem dL_cellsWithTone_1 : decode cL_cellsWithTone 1 = .ok (.iconst 0, 1) := by decide +kernel
theorem dL_cellsWithTone_2 : decode cL_cellsWithTone 2 = .ok (.aload_n 0, 1) := by decide +kernel
theorem dL_cellsWithTone_3 : decode cL_cellsWithTone 3 = .ok (.iload_n 1, 1) := by decide +kernel
theorem dL_cellsWithTone_4 : decode cL_cellsWithTone 4 = .ok (.invokevirtual 82, 3) := by decide +kernel
theorem dL_cellsWithTone_7 : decode cL_cellsWithTone 7 = .ok (.i2l, 1) := by decide +kernel
theorem dL_cellsWithTone_8 : decode cL_cellsWithTone 8 = .ok (.lastore, 1) := by decide +kernel
theorem dL_cellsWithTone_9 : decode cL_cellsWithTone 9 = .ok (.goto 6, 3) := by decide +kernel
theorem dL_cellsWithTone_12 : decode cL_cellsWithTone 12 = .ok (.astore_n 3, 1) := by decide +kernel
theorem dL_cellsWithTone_13 : decode cL_cellsWithTone 13 = .ok (.iconst 1, 1) := by decide +kernel
theorem dL_cellsWithTone_14 : decode cL_cellsWithTone 14 = .ok (.ireturn, 1) := by decide +kernel
theorem dL_cellsWithTone_15 : decode cL_cellsWithTone 15 = .ok (.iconst 0, 1) := by decide +kernel
theorem dL_cellsWithTone_16 : decode cL_cellsWithTone 16 = .ok (.ireturn, 1) := by decide +kernel
theorem dL_sumOfTones_0 : decode cL_sumOfTones 0 = .ok (.aload 5, 2) := by decide +kernel
theorem dL_sumOfTones_2 : decode cL_sumOfTones 2 = .ok (.iconst 0, 1) := by decide +kernel
theorem dL_sumOfTones_3 : decode cL_sumOfTones 3 = .ok (.aload_n 0, 1) := by decide +kernel
theorem dL_sumOfTones_4 : decode cL_sumOfTones 4 = .ok (.iload_n 1, 1) := by decide +kernel
theorem dL_sumOfTones_5 : decode cL_sumOfTones 5 = .ok (.iload_n 2, 1) := by decide +kernel
theorem dL_sumOfTones_6 : decode cL_sumOfTones 6 = .ok (.iload_n 3, 1) := by decide +kernel
theorem dL_sumOfTones_7 : decode cL_sumOfTones 7 = .ok (.iload 4, 2) := by decide +kernel
theorem dL_sumOfTones_9 : decode cL_sumOfTones 9 = .ok (.invokevirtual 85, 3) := by decide +kernel
theorem dL_sumOfTones_12 : decode cL_sumOfTones 12 = .ok (.i2l, 1) := by decide +kernel
theorem dL_sumOfTones_13 : decode cL_sumOfTones 13 = .ok (.lastore, 1) := by decide +kernel
theorem dL_sumOfTones_14 : decode cL_sumOfTones 14 = .ok (.goto 11, 3) := by decide +kernel
theorem dL_sumOfTones_17 : decode cL_sumOfTones 17 = .ok (.astore 6, 2) := by decide +kernel
theorem dL_sumOfTones_19 : decode cL_sumOfTones 19 = .ok (.iconst 1, 1) := by decide +kernel
theorem dL_sumOfTones_20 : decode cL_sumOfTones 20 = .ok (.ireturn, 1) := by decide +kernel
theorem dL_sumOfTones_21 : decode cL_sumOfTones 21 = .ok (.astore 6, 2) := by decide +kernel
theorem dL_sumOfTones_23 : decode cL_sumOfTones 23 = .ok (.iconst 2, 1) := by decide +kernel
theorem dL_sumOfTones_24 : decode cL_sumOfTones 24 = .ok (.ireturn, 1) := by decide +kernel
theorem dL_sumOfTones_25 : decode cL_sumOfTones 25 = .ok (.iconst 0, 1) := by decide +kernel
theorem dL_sumOfTones_26 : decode cL_sumOfTones 26 = .ok (.ireturn, 1) := by decide +kernel
theorem dL_sumOfTonesByTable_0 : decode cL_sumOfTonesByTable 0 = .ok (.aload 5, 2) := by decide +kernel
theorem dL_sumOfTonesByTable_2 : decode cL_sumOfTonesByTable 2 = .ok (.iconst 0, 1) := by decide +kernel
theorem dL_sumOfTonesByTable_3 : decode cL_sumOfTonesByTable 3 = .ok (.aload_n 0, 1) := by decide +kernel
theorem dL_sumOfTonesByTable_4 : decode cL_sumOfTonesByTable 4 = .ok (.iload_n 1, 1) := by decide +kernel
theorem dL_sumOfTonesByTable_5 : decode cL_sumOfTonesByTable 5 = .ok (.iload_n 2, 1) := by decide +kernel
theorem dL_sumOfTonesByTable_6 : decode cL_sumOfTonesByTable 6 = .ok (.iload_n 3, 1) := by decide +kernel
theorem dL_sumOfTonesByTable_7 : decode cL_sumOfTonesByTable 7 = .ok (.iload 4, 2) := by decide +kernel
theorem dL_sumOfTonesByTable_9 : decode cL_sumOfTonesByTable 9 = .ok (.invokevirtual 88, 3) := by decide +kernel
theorem dL_sumOfTonesByTable_12 : decode cL_sumOfTonesByTable 12 = .ok (.i2l, 1) := by decide +kernel
theorem dL_sumOfTonesByTable_13 : decode cL_sumOfTonesByTable 13 = .ok (.lastore, 1) := by decide +kernel
theorem dL_sumOfTonesByTable_14 : decode cL_sumOfTonesByTable 14 = .ok (.goto 11, 3) := by decide +kernel
theorem dL_sumOfTonesByTable_17 : decode cL_sumOfTonesByTable 17 = .ok (.astore 6, 2) := by decide +kernel
theorem dL_sumOfTonesByTable_19 : decode cL_sumOfTonesByTable 19 = .ok (.iconst 1, 1) := by decide +kernel
theorem dL_sumOfTonesByTable_20 : decode cL_sumOfTonesByTable 20 = .ok (.ireturn, 1) := by decide +kernel
theorem dL_sumOfTonesByTable_21 : decode cL_sumOfTonesByTable 21 = .ok (.astore 6, 2) := by decide +kernel
theorem dL_sumOfTonesByTable_23 : decode cL_sumOfTonesByTable 23 = .ok (.iconst 2, 1) := by decide +kernel
theorem dL_sumOfTonesByTable_24 : decode cL_sumOfTonesByTable 24 = .ok (.ireturn, 1) := by decide +kernel
theorem dL_sumOfTonesByTable_25 : decode cL_sumOfTonesByTable 25 = .ok (.iconst 0, 1) := by decide +kernel
theorem dL_sumOfTonesByTable_26 : decode cL_sumOfTonesByTable 26 = .ok (.ireturn, 1) := by decide +kernel
theorem dL_areaSize_0 : decode cL_areaSize 0 = .ok (.aload_n 3, 1) := by decide +kernel
theorem dL_areaSize_1 : decode cL_areaSize 1 = .ok (.iconst 0, 1) := by decide +kernel
theorem dL_areaSize_2 : decode cL_areaSize 2 = .ok (.aload_n 0, 1) := by decide +kernel
theorem dL_areaSize_3 : decode cL_areaSize 3 = .ok (.iload_n 1, 1) := by decide +kernel
theorem dL_areaSize_4 : decode cL_areaSize 4 = .ok (.iload_n 2, 1) := by decide +kernel
theorem dL_areaSize_5 : decode cL_areaSize 5 = .ok (.invokevirtual 91, 3) := by decide +kernel
theorem dL_areaSize_8 : decode cL_areaSize 8 = .ok (.i2l, 1) := by decide +kernel
theorem dL_areaSize_9 : decode cL_areaSize 9 = .ok (.lastore, 1) := by decide +kernel
theorem dL_areaSize_10 : decode cL_areaSize 10 = .ok (.goto 7, 3) := by decide +kernel
theorem dL_areaSize_13 : decode cL_areaSize 13 = .ok (.astore 4, 2) := by decide +kernel
theorem dL_areaSize_15 : decode cL_areaSize 15 = .ok (.iconst 1, 1) := by decide +kernel
theorem dL_areaSize_16 : decode cL_areaSize 16 = .ok (.ireturn, 1) := by decide +kernel
theorem dL_areaSize_17 : decode cL_areaSize 17 = .ok (.iconst 0, 1) := by decide +kernel
theorem dL_areaSize_18 : decode cL_areaSize 18 = .ok (.ireturn, 1) := by decide +kernel
theorem dL_differentCells_0 : decode cL_differentCells 0 = .ok (.aload_n 3, 1) := by decide +kernel
theorem dL_differentCells_1 : decode cL_differentCells 1 = .ok (.iconst 0, 1) := by decide +kernel
theorem dL_differentCells_2 : decode cL_differentCells 2 = .ok (.aload_n 0, 1) := by decide +kernel
theorem dL_differentCells_3 : decode cL_differentCells 3 = .ok (.iload_n 1, 1) := by decide +kernel
theorem dL_differentCells_4 : decode cL_differentCells 4 = .ok (.iload_n 2, 1) := by decide +kernel
theorem dL_differentCells_5 : decode cL_differentCells 5 = .ok (.invokevirtual 94, 3) := by decide +kernel
theorem dL_differentCells_8 : decode cL_differentCells 8 = .ok (.i2l, 1) := by decide +kernel
theorem dL_differentCells_9 : decode cL_differentCells 9 = .ok (.lastore, 1) := by decide +kernel
theorem dL_differentCells_10 : decode cL_differentCells 10 = .ok (.goto 7, 3) := by decide +kernel
theorem dL_differentCells_13 : decode cL_differentCells 13 = .ok (.astore 4, 2) := by decide +kernel
theorem dL_differentCells_15 : decode cL_differentCells 15 = .ok (.iconst 1, 1) := by decide +kernel
theorem dL_differentCells_16 : decode cL_differentCells 16 = .ok (.ireturn, 1) := by decide +kernel
theorem dL_differentCells_17 : decode cL_differentCells 17 = .ok (.iconst 0, 1) := by decide +kernel
theorem dL_differentCells_18 : decode cL_differentCells 18 = .ok (.ireturn, 1) := by decide +kernel
theorem dL_layerByPaint_0 : decode cL_layerByPaint 0 = .ok (.aload_n 2, 1) := by decide +kernel
theorem dL_layerByPaint_1 : decode cL_layerByPaint 1 = .ok (.iconst 0, 1) := by decide +kernel
theorem dL_layerByPaint_2 : decode cL_layerByPaint 2 = .ok (.aload_n 0, 1) := by decide +kernel
theorem dL_layerByPaint_3 : decode cL_layerByPaint 3 = .ok (.iload_n 1, 1) := by decide +kernel
theorem dL_layerByPaint_4 : decode cL_layerByPaint 4 = .ok (.invokevirtual 97, 3) := by decide +kernel
theorem dL_layerByPaint_7 : decode cL_layerByPaint 7 = .ok (.i2l, 1) := by decide +kernel
theorem dL_layerByPaint_8 : decode cL_layerByPaint 8 = .ok (.lastore, 1) := by decide +kernel
theorem dL_layerByPaint_9 : decode cL_layerByPaint 9 = .ok (.goto 6, 3) := by decide +kernel
theorem dL_layerByPaint_12 : decode cL_layerByPaint 12 = .ok (.astore_n 3, 1) := by decide +kernel
theorem dL_layerByPaint_13 : decode cL_layerByPaint 13 = .ok (.iconst 1, 1) := by decide +kernel
theorem dL_layerByPaint_14 : decode cL_layerByPaint 14 = .ok (.ireturn, 1) := by decide +kernel
theorem dL_layerByPaint_15 : decode cL_layerByPaint 15 = .ok (.iconst 0, 1) := by decide +kernel
theorem dL_layerByPaint_16 : decode cL_layerByPaint 16 = .ok (.ireturn, 1) := by decide +kernel
theorem dL_feed_0 : decode cL_feed 0 = .ok (.aload_n 2, 1) := by decide +kernel
theorem dL_feed_1 : decode cL_feed 1 = .ok (.iconst 0, 1) := by decide +kernel
theorem dL_feed_2 : decode cL_feed 2 = .ok (.aload_n 0, 1) := by decide +kernel
theorem dL_feed_3 : decode cL_feed 3 = .ok (.iload_n 1, 1) := by decide +kernel
theorem dL_feed_4 : decode cL_feed 4 = .ok (.invokevirtual 100, 3) := by decide +kernel
theorem dL_feed_7 : decode cL_feed 7 = .ok (.i2l, 1) := by decide +kernel
theorem dL_feed_8 : decode cL_feed 8 = .ok (.lastore, 1) := by decide +kernel
theorem dL_feed_9 : decode cL_feed 9 = .ok (.goto 6, 3) := by decide +kernel
theorem dL_feed_12 : decode cL_feed 12 = .ok (.astore_n 3, 1) := by decide +kernel
theorem dL_feed_13 : decode cL_feed 13 = .ok (.iconst 1, 1) := by decide +kernel
theorem dL_feed_14 : decode cL_feed 14 = .ok (.ireturn, 1) := by decide +kernel
theorem dL_feed_15 : decode cL_feed 15 = .ok (.iconst 0, 1) := by decide +kernel
theorem dL_feed_16 : decode cL_feed 16 = .ok (.ireturn, 1) := by decide +kernel
theorem dL_runCommands_0 : decode cL_runCommands 0 = .ok (.aload_n 1, 1) := by decide +kernel
theorem dL_runCommands_1 : decode cL_runCommands 1 = .ok (.iconst 0, 1) := by decide +kernel
theorem dL_runCommands_2 : decode cL_runCommands 2 = .ok (.aload_n 0, 1) := by decide +kernel
theorem dL_runCommands_3 : decode cL_runCommands 3 = .ok (.invokevirtual 103, 3) := by decide +kernel
theorem dL_runCommands_6 : decode cL_runCommands 6 = .ok (.i2l, 1) := by decide +kernel
theorem dL_runCommands_7 : decode cL_runCommands 7 = .ok (.lastore, 1) := by decide +kernel
theorem dL_runCommands_8 : decode cL_runCommands 8 = .ok (.goto 9, 3) := by decide +kernel
theorem dL_runCommands_11 : decode cL_runCommands 11 = .ok (.astore_n 2, 1) := by decide +kernel
theorem dL_runCommands_12 : decode cL_runCommands 12 = .ok (.iconst 1, 1) := by decide +kernel
theorem dL_runCommands_13 : decode cL_runCommands 13 = .ok (.ireturn, 1) := by decide +kernel
theorem dL_runCommands_14 : decode cL_runCommands 14 = .ok (.astore_n 2, 1) := by decide +kernel
theorem dL_runCommands_15 : decode cL_runCommands 15 = .ok (.iconst 2, 1) := by decide +kernel
theorem dL_runCommands_16 : decode cL_runCommands 16 = .ok (.ireturn, 1) := by decide +kernel
theorem dL_runCommands_17 : decode cL_runCommands 17 = .ok (.iconst 0, 1) := by decide +kernel
theorem dL_runCommands_18 : decode cL_runCommands 18 = .ok (.ireturn, 1) := by decide +kernel
theorem dL_errorPosition_0 : decode cL_errorPosition 0 = .ok (.aload_n 1, 1) := by decide +kernel
theorem dL_errorPosition_1 : decode cL_errorPosition 1 = .ok (.iconst 0, 1) := by decide +kernel
theorem dL_errorPosition_2 : decode cL_errorPosition 2 = .ok (.aload_n 0, 1) := by decide +kernel
theorem dL_errorPosition_3 : decode cL_errorPosition 3 = .ok (.invokevirtual 107, 3) := by decide +kernel
theorem dL_errorPosition_6 : decode cL_errorPosition 6 = .ok (.i2l, 1) := by decide +kernel
theorem dL_errorPosition_7 : decode cL_errorPosition 7 = .ok (.lastore, 1) := by decide +kernel
theorem dL_errorPosition_8 : decode cL_errorPosition 8 = .ok (.goto 6, 3) := by decide +kernel
theorem dL_errorPosition_11 : decode cL_errorPosition 11 = .ok (.astore_n 2, 1) := by decide +kernel
theorem dL_errorPosition_12 : decode cL_errorPosition 12 = .ok (.iconst 1, 1) := by decide +kernel
theorem dL_errorPosition_13 : decode cL_errorPosition 13 = .ok (.ireturn, 1) := by decide +kernel
theorem dL_errorPosition_14 : decode cL_errorPosition 14 = .ok (.iconst 0, 1) := by decide +kernel
theorem dL_errorPosition_15 : decode cL_errorPosition 15 = .ok (.ireturn, 1) := by decide +kernel
theorem dL_failedCommand_0 : decode cL_failedCommand 0 = .ok (.aload_n 1, 1) := by decide +kernel
theorem dL_failedCommand_1 : decode cL_failedCommand 1 = .ok (.iconst 0, 1) := by decide +kernel
theorem dL_failedCommand_2 : decode cL_failedCommand 2 = .ok (.aload_n 0, 1) := by decide +kernel
theorem dL_failedCommand_3 : decode cL_failedCommand 3 = .ok (.invokevirtual 110, 3) := by decide +kernel
theorem dL_failedCommand_6 : decode cL_failedCommand 6 = .ok (.i2l, 1) := by decide +kernel
theorem dL_failedCommand_7 : decode cL_failedCommand 7 = .ok (.lastore, 1) := by decide +kernel
theorem dL_failedCommand_8 : decode cL_failedCommand 8 = .ok (.goto 6, 3) := by decide +kernel
theorem dL_failedCommand_11 : decode cL_failedCommand 11 = .ok (.astore_n 2, 1) := by decide +kernel
theorem dL_failedCommand_12 : decode cL_failedCommand 12 = .ok (.iconst 1, 1) := by decide +kernel
theorem dL_failedCommand_13 : decode cL_failedCommand 13 = .ok (.ireturn, 1) := by decide +kernel
theorem dL_failedCommand_14 : decode cL_failedCommand 14 = .ok (.iconst 0, 1) := by decide +kernel
theorem dL_failedCommand_15 : decode cL_failedCommand 15 = .ok (.ireturn, 1) := by decide +kernel
theorem dL_writeRow_0 : decode cL_writeRow 0 = .ok (.aload_n 2, 1) := by decide +kernel
theorem dL_writeRow_1 : decode cL_writeRow 1 = .ok (.iconst 0, 1) := by decide +kernel
theorem dL_writeRow_2 : decode cL_writeRow 2 = .ok (.aload_n 0, 1) := by decide +kernel
theorem dL_writeRow_3 : decode cL_writeRow 3 = .ok (.iload_n 1, 1) := by decide +kernel
theorem dL_writeRow_4 : decode cL_writeRow 4 = .ok (.invokevirtual 113, 3) := by decide +kernel
theorem dL_writeRow_7 : decode cL_writeRow 7 = .ok (.i2l, 1) := by decide +kernel
theorem dL_writeRow_8 : decode cL_writeRow 8 = .ok (.lastore, 1) := by decide +kernel
theorem dL_writeRow_9 : decode cL_writeRow 9 = .ok (.goto 6, 3) := by decide +kernel
theorem dL_writeRow_12 : decode cL_writeRow 12 = .ok (.astore_n 3, 1) := by decide +kernel
theorem dL_writeRow_13 : decode cL_writeRow 13 = .ok (.iconst 1, 1) := by decide +kernel
theorem dL_writeRow_14 : decode cL_writeRow 14 = .ok (.ireturn, 1) := by decide +kernel
theorem dL_writeRow_15 : decode cL_writeRow 15 = .ok (.iconst 0, 1) := by decide +kernel
theorem dL_writeRow_16 : decode cL_writeRow 16 = .ok (.ireturn, 1) := by decide +kernel
theorem dL_outputChar_0 : decode cL_outputChar 0 = .ok (.aload_n 2, 1) := by decide +kernel
theorem dL_outputChar_1 : decode cL_outputChar 1 = .ok (.iconst 0, 1) := by decide +kernel
theorem dL_outputChar_2 : decode cL_outputChar 2 = .ok (.aload_n 0, 1) := by decide +kernel
theorem dL_outputChar_3 : decode cL_outputChar 3 = .ok (.iload_n 1, 1) := by decide +kernel
theorem dL_outputChar_4 : decode cL_outputChar 4 = .ok (.invokevirtual 116, 3) := by decide +kernel
theorem dL_outputChar_7 : decode cL_outputChar 7 = .ok (.i2l, 1) := by decide +kernel
theorem dL_outputChar_8 : decode cL_outputChar 8 = .ok (.lastore, 1) := by decide +kernel
theorem dL_outputChar_9 : decode cL_outputChar 9 = .ok (.goto 6, 3) := by decide +kernel
theorem dL_outputChar_12 : decode cL_outputChar 12 = .ok (.astore_n 3, 1) := by decide +kernel
theorem dL_outputChar_13 : decode cL_outputChar 13 = .ok (.iconst 1, 1) := by decide +kernel
theorem dL_outputChar_14 : decode cL_outputChar 14 = .ok (.ireturn, 1) := by decide +kernel
theorem dL_outputChar_15 : decode cL_outputChar 15 = .ok (.iconst 0, 1) := by decide +kernel
theorem dL_outputChar_16 : decode cL_outputChar 16 = .ok (.ireturn, 1) := by decide +kernel
theorem dL_undo_0 : decode cL_undo 0 = .ok (.aload_n 1, 1) := by decide +kernel
theorem dL_undo_1 : decode cL_undo 1 = .ok (.iconst 0, 1) := by decide +kernel
theorem dL_undo_2 : decode cL_undo 2 = .ok (.aload_n 0, 1) := by decide +kernel
theorem dL_undo_3 : decode cL_undo 3 = .ok (.invokevirtual 119, 3) := by decide +kernel
theorem dL_undo_6 : decode cL_undo 6 = .ok (.i2l, 1) := by decide +kernel
theorem dL_undo_7 : decode cL_undo 7 = .ok (.lastore, 1) := by decide +kernel
theorem dL_undo_8 : decode cL_undo 8 = .ok (.goto 6, 3) := by decide +kernel
theorem dL_undo_11 : decode cL_undo 11 = .ok (.astore_n 2, 1) := by decide +kernel
theorem dL_undo_12 : decode cL_undo 12 = .ok (.iconst 1, 1) := by decide +kernel
theorem dL_undo_13 : decode cL_undo 13 = .ok (.ireturn, 1) := by decide +kernel
theorem dL_undo_14 : decode cL_undo 14 = .ok (.iconst 0, 1) := by decide +kernel
theorem dL_undo_15 : decode cL_undo 15 = .ok (.ireturn, 1) := by decide +kernel
theorem dL_restore_0 : decode cL_restore 0 = .ok (.aload_n 1, 1) := by decide +kernel
theorem dL_restore_1 : decode cL_restore 1 = .ok (.iconst 0, 1) := by decide +kernel
theorem dL_restore_2 : decode cL_restore 2 = .ok (.aload_n 0, 1) := by decide +kernel
theorem dL_restore_3 : decode cL_restore 3 = .ok (.invokevirtual 122, 3) := by decide +kernel
theorem dL_restore_6 : decode cL_restore 6 = .ok (.i2l, 1) := by decide +kernel
theorem dL_restore_7 : decode cL_restore 7 = .ok (.lastore, 1) := by decide +kernel
theorem dL_restore_8 : decode cL_restore 8 = .ok (.goto 6, 3) := by decide +kernel
theorem dL_restore_11 : decode cL_restore 11 = .ok (.astore_n 2, 1) := by decide +kernel
theorem dL_restore_12 : decode cL_restore 12 = .ok (.iconst 1, 1) := by decide +kernel
theorem dL_restore_13 : decode cL_restore 13 = .ok (.ireturn, 1) := by decide +kernel
theorem dL_restore_14 : decode cL_restore 14 = .ok (.iconst 0, 1) := by decide +kernel
theorem dL_restore_15 : decode cL_restore 15 = .ok (.ireturn, 1) := by decide +kernel
