section
-- ===== PART A: goes FIRST, ahead of the names: the tables' words, and 'selects' of the private methods out of them =====
/-- a private method of a class that the tables say can be made, by its rows of tables_1 -/
def lw_okq (q : MethodName × Nat) : Prop := (q.1.cls ≠ "java/lang/invoke/MethodHandle" ∧ q.1.cls ≠ "java/lang/invoke/VarHandle") ∧ Cond.instantiable q.1.cls q.2 ∈ tables_1 ∧ Cond.privateMethod q.1 ∈ tables_1 ∧ Cond.instanceMethod q.1 ∈ tables_1
theorem lw_p0 : lw_okq (⟨"ObedientDice", "recordChange", "()V"⟩, 6) := ⟨⟨by decide +kernel, by decide +kernel⟩, List.mem_of_getElem? (i := 8) (by decide +kernel), List.mem_of_getElem? (i := 158) (by decide +kernel), List.mem_of_getElem? (i := 159) (by decide +kernel)⟩
theorem lw_p1 : lw_okq (⟨"ObedientDice", "dropOldestChange", "()V"⟩, 6) := ⟨⟨by decide +kernel, by decide +kernel⟩, List.mem_of_getElem? (i := 8) (by decide +kernel), List.mem_of_getElem? (i := 162) (by decide +kernel), List.mem_of_getElem? (i := 163) (by decide +kernel)⟩
theorem lw_p2 : lw_okq (⟨"ObedientDice$Extremes", "startWithSingleCells", "(I)V"⟩, 11) := ⟨⟨by decide +kernel, by decide +kernel⟩, List.mem_of_getElem? (i := 56) (by decide +kernel), List.mem_of_getElem? (i := 246) (by decide +kernel), List.mem_of_getElem? (i := 247) (by decide +kernel)⟩
theorem lw_p3 : lw_okq (⟨"ObedientDice$Extremes", "startOfNext", "()I"⟩, 11) := ⟨⟨by decide +kernel, by decide +kernel⟩, List.mem_of_getElem? (i := 56) (by decide +kernel), List.mem_of_getElem? (i := 250) (by decide +kernel), List.mem_of_getElem? (i := 251) (by decide +kernel)⟩
theorem lw_p4 : lw_okq (⟨"ObedientDice$Extremes", "setNext", "(IJ)V"⟩, 11) := ⟨⟨by decide +kernel, by decide +kernel⟩, List.mem_of_getElem? (i := 56) (by decide +kernel), List.mem_of_getElem? (i := 254) (by decide +kernel), List.mem_of_getElem? (i := 255) (by decide +kernel)⟩
theorem lw_p5 : lw_okq (⟨"ObedientDice$Extremes", "finishNext", "(I)V"⟩, 11) := ⟨⟨by decide +kernel, by decide +kernel⟩, List.mem_of_getElem? (i := 56) (by decide +kernel), List.mem_of_getElem? (i := 258) (by decide +kernel), List.mem_of_getElem? (i := 259) (by decide +kernel)⟩
theorem lw_p6 : lw_okq (⟨"ObedientDice$Extremes", "turnToNext", "()V"⟩, 11) := ⟨⟨by decide +kernel, by decide +kernel⟩, List.mem_of_getElem? (i := 56) (by decide +kernel), List.mem_of_getElem? (i := 262) (by decide +kernel), List.mem_of_getElem? (i := 263) (by decide +kernel)⟩
theorem lw_p7 : lw_okq (⟨"ObedientDice$Extremes", "cutWith", "(LObedientDice$State;I)V"⟩, 11) := ⟨⟨by decide +kernel, by decide +kernel⟩, List.mem_of_getElem? (i := 56) (by decide +kernel), List.mem_of_getElem? (i := 267) (by decide +kernel), List.mem_of_getElem? (i := 268) (by decide +kernel)⟩
theorem lw_p8 : lw_okq (⟨"ObedientDice$Extremes", "takeSlacks", "(LObedientDice$State;I)V"⟩, 11) := ⟨⟨by decide +kernel, by decide +kernel⟩, List.mem_of_getElem? (i := 56) (by decide +kernel), List.mem_of_getElem? (i := 271) (by decide +kernel), List.mem_of_getElem? (i := 272) (by decide +kernel)⟩
theorem lw_p9 : lw_okq (⟨"ObedientDice$Extremes", "slackOf", "(I)J"⟩, 11) := ⟨⟨by decide +kernel, by decide +kernel⟩, List.mem_of_getElem? (i := 56) (by decide +kernel), List.mem_of_getElem? (i := 284) (by decide +kernel), List.mem_of_getElem? (i := 285) (by decide +kernel)⟩
theorem lw_p10 : lw_okq (⟨"ObedientDice$Extremes", "keep", "(II)V"⟩, 11) := ⟨⟨by decide +kernel, by decide +kernel⟩, List.mem_of_getElem? (i := 56) (by decide +kernel), List.mem_of_getElem? (i := 288) (by decide +kernel), List.mem_of_getElem? (i := 289) (by decide +kernel)⟩
theorem lw_p11 : lw_okq (⟨"ObedientDice$Extremes", "tightOf", "(I)I"⟩, 11) := ⟨⟨by decide +kernel, by decide +kernel⟩, List.mem_of_getElem? (i := 56) (by decide +kernel), List.mem_of_getElem? (i := 292) (by decide +kernel), List.mem_of_getElem? (i := 293) (by decide +kernel)⟩
theorem lw_p12 : lw_okq (⟨"ObedientDice$Extremes", "addNeighboursBelow", "(II)V"⟩, 11) := ⟨⟨by decide +kernel, by decide +kernel⟩, List.mem_of_getElem? (i := 56) (by decide +kernel), List.mem_of_getElem? (i := 296) (by decide +kernel), List.mem_of_getElem? (i := 297) (by decide +kernel)⟩
theorem lw_p13 : lw_okq (⟨"ObedientDice$Extremes", "areNeighbours", "(II)Z"⟩, 11) := ⟨⟨by decide +kernel, by decide +kernel⟩, List.mem_of_getElem? (i := 56) (by decide +kernel), List.mem_of_getElem? (i := 300) (by decide +kernel), List.mem_of_getElem? (i := 301) (by decide +kernel)⟩
theorem lw_p14 : lw_okq (⟨"ObedientDice$Extremes", "addBetween", "(III)V"⟩, 11) := ⟨⟨by decide +kernel, by decide +kernel⟩, List.mem_of_getElem? (i := 56) (by decide +kernel), List.mem_of_getElem? (i := 304) (by decide +kernel), List.mem_of_getElem? (i := 305) (by decide +kernel)⟩
theorem lw_p15 : lw_okq (⟨"ObedientDice$Extremes", "mixedAtCut", "(III)J"⟩, 11) := ⟨⟨by decide +kernel, by decide +kernel⟩, List.mem_of_getElem? (i := 56) (by decide +kernel), List.mem_of_getElem? (i := 308) (by decide +kernel), List.mem_of_getElem? (i := 309) (by decide +kernel)⟩
def lw_privs_1 : List (MethodName × Nat) := [(⟨"ObedientDice", "recordChange", "()V"⟩, 6), (⟨"ObedientDice", "dropOldestChange", "()V"⟩, 6), (⟨"ObedientDice$Extremes", "startWithSingleCells", "(I)V"⟩, 11), (⟨"ObedientDice$Extremes", "startOfNext", "()I"⟩, 11), (⟨"ObedientDice$Extremes", "setNext", "(IJ)V"⟩, 11), (⟨"ObedientDice$Extremes", "finishNext", "(I)V"⟩, 11), (⟨"ObedientDice$Extremes", "turnToNext", "()V"⟩, 11), (⟨"ObedientDice$Extremes", "cutWith", "(LObedientDice$State;I)V"⟩, 11), (⟨"ObedientDice$Extremes", "takeSlacks", "(LObedientDice$State;I)V"⟩, 11), (⟨"ObedientDice$Extremes", "slackOf", "(I)J"⟩, 11), (⟨"ObedientDice$Extremes", "keep", "(II)V"⟩, 11), (⟨"ObedientDice$Extremes", "tightOf", "(I)I"⟩, 11), (⟨"ObedientDice$Extremes", "addNeighboursBelow", "(II)V"⟩, 11), (⟨"ObedientDice$Extremes", "areNeighbours", "(II)Z"⟩, 11), (⟨"ObedientDice$Extremes", "addBetween", "(III)V"⟩, 11), (⟨"ObedientDice$Extremes", "mixedAtCut", "(III)J"⟩, 11)]
theorem lw_r1 : ∀ q ∈ lw_privs_1, lw_okq q := List.forall_mem_cons.mpr ⟨lw_p0, List.forall_mem_cons.mpr ⟨lw_p1, List.forall_mem_cons.mpr ⟨lw_p2, List.forall_mem_cons.mpr ⟨lw_p3, List.forall_mem_cons.mpr ⟨lw_p4, List.forall_mem_cons.mpr ⟨lw_p5, List.forall_mem_cons.mpr ⟨lw_p6, List.forall_mem_cons.mpr ⟨lw_p7, List.forall_mem_cons.mpr ⟨lw_p8, List.forall_mem_cons.mpr ⟨lw_p9, List.forall_mem_cons.mpr ⟨lw_p10, List.forall_mem_cons.mpr ⟨lw_p11, List.forall_mem_cons.mpr ⟨lw_p12, List.forall_mem_cons.mpr ⟨lw_p13, List.forall_mem_cons.mpr ⟨lw_p14, List.forall_mem_cons.mpr ⟨lw_p15, fun _ h => absurd h List.not_mem_nil⟩⟩⟩⟩⟩⟩⟩⟩⟩⟩⟩⟩⟩⟩⟩⟩
theorem lw_p16 : lw_okq (⟨"ObedientDice$Extremes", "sumUp", "()V"⟩, 11) := ⟨⟨by decide +kernel, by decide +kernel⟩, List.mem_of_getElem? (i := 56) (by decide +kernel), List.mem_of_getElem? (i := 321) (by decide +kernel), List.mem_of_getElem? (i := 322) (by decide +kernel)⟩
theorem lw_p17 : lw_okq (⟨"ObedientDice$Extremes", "sort", "()V"⟩, 11) := ⟨⟨by decide +kernel, by decide +kernel⟩, List.mem_of_getElem? (i := 56) (by decide +kernel), List.mem_of_getElem? (i := 325) (by decide +kernel), List.mem_of_getElem? (i := 326) (by decide +kernel)⟩
theorem lw_p18 : lw_okq (⟨"ObedientDice$Extremes", "comesBefore", "(II)Z"⟩, 11) := ⟨⟨by decide +kernel, by decide +kernel⟩, List.mem_of_getElem? (i := 56) (by decide +kernel), List.mem_of_getElem? (i := 329) (by decide +kernel), List.mem_of_getElem? (i := 330) (by decide +kernel)⟩
theorem lw_p19 : lw_okq (⟨"ObedientDice$Extremes", "exchange", "(II)V"⟩, 11) := ⟨⟨by decide +kernel, by decide +kernel⟩, List.mem_of_getElem? (i := 56) (by decide +kernel), List.mem_of_getElem? (i := 337) (by decide +kernel), List.mem_of_getElem? (i := 338) (by decide +kernel)⟩
theorem lw_p20 : lw_okq (⟨"ObedientDice", "isCell", "(II)Z"⟩, 6) := ⟨⟨by decide +kernel, by decide +kernel⟩, List.mem_of_getElem? (i := 8) (by decide +kernel), List.mem_of_getElem? (i := 358) (by decide +kernel), List.mem_of_getElem? (i := 359) (by decide +kernel)⟩
theorem lw_p21 : lw_okq (⟨"ObedientDice", "mixWith", "(LObedientDice$Extremes;III)I"⟩, 6) := ⟨⟨by decide +kernel, by decide +kernel⟩, List.mem_of_getElem? (i := 8) (by decide +kernel), List.mem_of_getElem? (i := 455) (by decide +kernel), List.mem_of_getElem? (i := 456) (by decide +kernel)⟩
theorem lw_p22 : lw_okq (⟨"ObedientDice", "mixedWeight", "(LObedientDice$Extremes;IIII)J"⟩, 6) := ⟨⟨by decide +kernel, by decide +kernel⟩, List.mem_of_getElem? (i := 8) (by decide +kernel), List.mem_of_getElem? (i := 459) (by decide +kernel), List.mem_of_getElem? (i := 460) (by decide +kernel)⟩
def lw_privs_2 : List (MethodName × Nat) := [(⟨"ObedientDice$Extremes", "sumUp", "()V"⟩, 11), (⟨"ObedientDice$Extremes", "sort", "()V"⟩, 11), (⟨"ObedientDice$Extremes", "comesBefore", "(II)Z"⟩, 11), (⟨"ObedientDice$Extremes", "exchange", "(II)V"⟩, 11), (⟨"ObedientDice", "isCell", "(II)Z"⟩, 6), (⟨"ObedientDice", "mixWith", "(LObedientDice$Extremes;III)I"⟩, 6), (⟨"ObedientDice", "mixedWeight", "(LObedientDice$Extremes;IIII)J"⟩, 6)]
theorem lw_r2 : ∀ q ∈ lw_privs_2, lw_okq q := List.forall_mem_cons.mpr ⟨lw_p16, List.forall_mem_cons.mpr ⟨lw_p17, List.forall_mem_cons.mpr ⟨lw_p18, List.forall_mem_cons.mpr ⟨lw_p19, List.forall_mem_cons.mpr ⟨lw_p20, List.forall_mem_cons.mpr ⟨lw_p21, List.forall_mem_cons.mpr ⟨lw_p22, fun _ h => absurd h List.not_mem_nil⟩⟩⟩⟩⟩⟩⟩
def lw_privs : List (MethodName × Nat) := lw_privs_1 ++ (lw_privs_2)
def lw_tbl : List Cond := k2_sels lw_privs ++ tables_1
theorem lw_privs_ok : ∀ q ∈ lw_privs, lw_okq q := by
  show ∀ q ∈ lw_privs_1 ++ (lw_privs_2), lw_okq q
  exact List.forall_mem_append.mpr ⟨lw_r1, lw_r2⟩
-- ===== end of PART A; then your names; then what follows =====
/-! names, as printed for this claim (claim/NAMES.whole.lean.txt), what of them is used -/
def RX0 : String := "ObedientDice$Extremes"
def TX0 : u_T := fun k => match k with
  | 0 => ("ObedientDice$Extremes", "size", "I", false)
  | 1 => ("ObedientDice$Extremes", "nextSize", "I", false)
  | 2 => ("ObedientDice$Extremes", "weights", "[J", false)
  | 3 => ("ObedientDice$Extremes", "nextWeights", "[J", false)
  | 4 => ("ObedientDice$Extremes", "tight", "[I", false)
  | 5 => ("ObedientDice$Extremes", "nextTight", "[I", false)
  | 6 => ("ObedientDice$Extremes", "slacks", "[J", true)
  | 7 => ("ObedientDice$Extremes", "sums", "[J", true)
  | 8 => ("ObedientDice$Extremes", "losses", "[I", true)
  | 9 => ("ObedientDice$Extremes", "ofColumns", "I", false)
  | _ => ("ObedientDice$Extremes", "ofGains", "[I", true)
def tyX0 : Nat → FieldType := fun k => match k with
  | 0 => .int
  | 1 => .int
  | 2 => .array .long
  | 3 => .array .long
  | 4 => .array .int
  | 5 => .array .int
  | 6 => .array .long
  | 7 => .array .long
  | 8 => .array .int
  | 9 => .int
  | _ => .array .int
abbrev wsX00 : List Cond := u_ws RX0 TX0 11
theorem nmX0 : ∀ a, a < 11 → ∀ b, b < 11 → a ≠ b → (TX0 a).2.1 ≠ (TX0 b).2.1 := by decide +kernel
theorem tyX0_ok : ∀ k, k < 11 → parseFieldDescriptor (TX0 k).2.2.1 = some (tyX0 k) := by decide +kernel
abbrev cX0_init : ByteArray := prog_2_method_1_code
def yX0_init : MethodName := ⟨RX0, "<init>", "()V"⟩
abbrev cX0_workedOut : ByteArray := prog_2_method_2_code
def yX0_workedOut : MethodName := ⟨RX0, "workedOut", "(LObedientDice$State;)LObedientDice$Extremes;"⟩
abbrev cX0_has : ByteArray := prog_2_method_3_code
def yX0_has : MethodName := ⟨RX0, "has", "(I)Z"⟩
abbrev cX0_weight : ByteArray := prog_2_method_4_code
def yX0_weight : MethodName := ⟨RX0, "weight", "(II)J"⟩
abbrev cX0_weightSum : ByteArray := prog_2_method_5_code
def yX0_weightSum : MethodName := ⟨RX0, "weightSum", "(I)J"⟩
abbrev cX0_toldCells : ByteArray := prog_2_method_6_code
def yX0_toldCells : MethodName := ⟨RX0, "toldCells", "(I)I"⟩
abbrev cX0_tightInequalities : ByteArray := prog_2_method_7_code
def yX0_tightInequalities : MethodName := ⟨RX0, "tightInequalities", "(I)I"⟩
abbrev cX0_everTold : ByteArray := prog_2_method_8_code
def yX0_everTold : MethodName := ⟨RX0, "everTold", "()I"⟩
abbrev cX0_pointsBy : ByteArray := prog_2_method_9_code
def yX0_pointsBy : MethodName := ⟨RX0, "pointsBy", "(LObedientDice$State;II)J"⟩
abbrev cX0_bestFor : ByteArray := prog_2_method_10_code
def yX0_bestFor : MethodName := ⟨RX0, "bestFor", "(LObedientDice$State;I)I"⟩
abbrev cX0_tightOf : ByteArray := prog_2_method_11_code
def yX0_tightOf : MethodName := ⟨RX0, "tightOf", "(I)I"⟩
abbrev cX0_slackOf : ByteArray := prog_2_method_12_code
def yX0_slackOf : MethodName := ⟨RX0, "slackOf", "(I)J"⟩
abbrev cX0_startWithSingleCells : ByteArray := prog_2_method_13_code
def yX0_startWithSingleCells : MethodName := ⟨RX0, "startWithSingleCells", "(I)V"⟩
abbrev cX0_cutWith : ByteArray := prog_2_method_14_code
def yX0_cutWith : MethodName := ⟨RX0, "cutWith", "(LObedientDice$State;I)V"⟩
abbrev cX0_addNeighboursBelow : ByteArray := prog_2_method_15_code
def yX0_addNeighboursBelow : MethodName := ⟨RX0, "addNeighboursBelow", "(II)V"⟩
abbrev cX0_takeSlacks : ByteArray := prog_2_method_16_code
def yX0_takeSlacks : MethodName := ⟨RX0, "takeSlacks", "(LObedientDice$State;I)V"⟩
abbrev cX0_areNeighbours : ByteArray := prog_2_method_17_code
def yX0_areNeighbours : MethodName := ⟨RX0, "areNeighbours", "(II)Z"⟩
abbrev cX0_keep : ByteArray := prog_2_method_18_code
def yX0_keep : MethodName := ⟨RX0, "keep", "(II)V"⟩
abbrev cX0_addBetween : ByteArray := prog_2_method_19_code
def yX0_addBetween : MethodName := ⟨RX0, "addBetween", "(III)V"⟩
abbrev cX0_mixedAtCut : ByteArray := prog_2_method_20_code
def yX0_mixedAtCut : MethodName := ⟨RX0, "mixedAtCut", "(III)J"⟩
abbrev cX0_startOfNext : ByteArray := prog_2_method_21_code
def yX0_startOfNext : MethodName := ⟨RX0, "startOfNext", "()I"⟩
abbrev cX0_setNext : ByteArray := prog_2_method_22_code
def yX0_setNext : MethodName := ⟨RX0, "setNext", "(IJ)V"⟩
abbrev cX0_finishNext : ByteArray := prog_2_method_23_code
def yX0_finishNext : MethodName := ⟨RX0, "finishNext", "(I)V"⟩
abbrev cX0_turnToNext : ByteArray := prog_2_method_24_code
def yX0_turnToNext : MethodName := ⟨RX0, "turnToNext", "()V"⟩
abbrev cX0_sumUp : ByteArray := prog_2_method_25_code
def yX0_sumUp : MethodName := ⟨RX0, "sumUp", "()V"⟩
abbrev cX0_sort : ByteArray := prog_2_method_26_code
def yX0_sort : MethodName := ⟨RX0, "sort", "()V"⟩
abbrev cX0_comesBefore : ByteArray := prog_2_method_27_code
def yX0_comesBefore : MethodName := ⟨RX0, "comesBefore", "(II)Z"⟩
abbrev cX0_exchange : ByteArray := prog_2_method_28_code
def yX0_exchange : MethodName := ⟨RX0, "exchange", "(II)V"⟩
abbrev cX0_commonDivisor : ByteArray := prog_2_method_29_code
def yX0_commonDivisor : MethodName := ⟨RX0, "commonDivisor", "(JJ)J"⟩
def RX1 : String := "ObedientDice$Pad"
def TX1 : u_T := fun k => match k with
  | 0 => ("ObedientDice$Pad", "length", "I", false)
  | 1 => ("ObedientDice$Pad", "columns", "I", false)
  | 2 => ("ObedientDice$Pad", "text", "[C", true)
  | 3 => ("ObedientDice$Pad", "numbers", "[I", true)
  | 4 => ("ObedientDice$Pad", "due", "I", false)
  | 5 => ("ObedientDice$Pad", "row", "I", false)
  | 6 => ("ObedientDice$Pad", "cellsOfRow", "I", false)
  | 7 => ("ObedientDice$Pad", "player", "I", false)
  | _ => ("ObedientDice$Pad", "negative", "Z", false)
def tyX1 : Nat → FieldType := fun k => match k with
  | 0 => .int
  | 1 => .int
  | 2 => .array .char
  | 3 => .array .int
  | 4 => .int
  | 5 => .int
  | 6 => .int
  | 7 => .int
  | _ => .boolean
abbrev wsX10 : List Cond := u_ws RX1 TX1 9
theorem nmX1 : ∀ a, a < 9 → ∀ b, b < 9 → a ≠ b → (TX1 a).2.1 ≠ (TX1 b).2.1 := by decide +kernel
theorem tyX1_ok : ∀ k, k < 9 → parseFieldDescriptor (TX1 k).2.2.1 = some (tyX1 k) := by decide +kernel
abbrev cX1_init : ByteArray := prog_3_method_1_code
def yX1_init : MethodName := ⟨RX1, "<init>", "()V"⟩
def RX2 : String := "ObedientDice$State"
def TX2 : u_T := fun k => match k with
  | 0 => ("ObedientDice$State", "columns", "I", false)
  | 1 => ("ObedientDice$State", "thrower", "I", false)
  | 2 => ("ObedientDice$State", "gains", "[I", true)
  | 3 => ("ObedientDice$State", "weights", "[I", true)
  | _ => ("ObedientDice$State", "falls", "[I", true)
def tyX2 : Nat → FieldType := fun k => match k with
  | 0 => .int
  | 1 => .int
  | 2 => .array .int
  | 3 => .array .int
  | _ => .array .int
abbrev wsX20 : List Cond := u_ws RX2 TX2 5
theorem nmX2 : ∀ a, a < 5 → ∀ b, b < 5 → a ≠ b → (TX2 a).2.1 ≠ (TX2 b).2.1 := by decide +kernel
theorem tyX2_ok : ∀ k, k < 5 → parseFieldDescriptor (TX2 k).2.2.1 = some (tyX2 k) := by decide +kernel
abbrev cX2_init : ByteArray := prog_4_method_1_code
def yX2_init : MethodName := ⟨RX2, "<init>", "()V"⟩
abbrev cX2_startAnew : ByteArray := prog_4_method_2_code
def yX2_startAnew : MethodName := ⟨RX2, "startAnew", "(I)V"⟩
abbrev cX2_copyFrom : ByteArray := prog_4_method_3_code
def yX2_copyFrom : MethodName := ⟨RX2, "copyFrom", "(LObedientDice$State;)V"⟩
abbrev cX2_isSameGame : ByteArray := prog_4_method_4_code
def yX2_isSameGame : MethodName := ⟨RX2, "isSameGame", "(I[I)Z"⟩
abbrev cX2_cells : ByteArray := prog_4_method_5_code
def yX2_cells : MethodName := ⟨RX2, "cells", "()I"⟩
abbrev cX2_cellAt : ByteArray := prog_4_method_6_code
def yX2_cellAt : MethodName := ⟨RX2, "cellAt", "(II)I"⟩
abbrev cX2_moveIn : ByteArray := prog_4_method_7_code
def yX2_moveIn : MethodName := ⟨RX2, "moveIn", "(II)I"⟩
abbrev cX2_gain : ByteArray := prog_4_method_8_code
def yX2_gain : MethodName := ⟨RX2, "gain", "(II)I"⟩
abbrev cX2_setGain : ByteArray := prog_4_method_9_code
def yX2_setGain : MethodName := ⟨RX2, "setGain", "(III)V"⟩
abbrev cX2_gainForOneOrBoth : ByteArray := prog_4_method_10_code
def yX2_gainForOneOrBoth : MethodName := ⟨RX2, "gainForOneOrBoth", "(II)I"⟩
abbrev cX2_pointsBy : ByteArray := prog_4_method_11_code
def yX2_pointsBy : MethodName := ⟨RX2, "pointsBy", "([II)I"⟩
abbrev cX2_inequalities : ByteArray := prog_4_method_12_code
def yX2_inequalities : MethodName := ⟨RX2, "inequalities", "()I"⟩
abbrev cX2_playerOf : ByteArray := prog_4_method_13_code
def yX2_playerOf : MethodName := ⟨RX2, "playerOf", "(I)I"⟩
abbrev cX2_toldMove : ByteArray := prog_4_method_14_code
def yX2_toldMove : MethodName := ⟨RX2, "toldMove", "(I)I"⟩
abbrev cX2_otherMove : ByteArray := prog_4_method_15_code
def yX2_otherMove : MethodName := ⟨RX2, "otherMove", "(I)I"⟩
abbrev cX2_loss : ByteArray := prog_4_method_16_code
def yX2_loss : MethodName := ⟨RX2, "loss", "(II)I"⟩
abbrev cX2_leftSide : ByteArray := prog_4_method_17_code
def yX2_leftSide : MethodName := ⟨RX2, "leftSide", "(I[I)I"⟩
abbrev cX2_brokenInequalities : ByteArray := prog_4_method_18_code
def yX2_brokenInequalities : MethodName := ⟨RX2, "brokenInequalities", "()I"⟩
abbrev cX2_isSure : ByteArray := prog_4_method_19_code
def yX2_isSure : MethodName := ⟨RX2, "isSure", "(I)Z"⟩
abbrev cX2_throwDice : ByteArray := prog_4_method_20_code
def yX2_throwDice : MethodName := ⟨RX2, "throwDice", "()I"⟩
def RX3 : String := "ObedientDice"
def TX3 : u_T := fun k => match k with
  | 0 => ("ObedientDice", "now", "LObedientDice$State;", true)
  | 1 => ("ObedientDice", "found", "LObedientDice$Extremes;", true)
  | 2 => ("ObedientDice", "pad", "LObedientDice$Pad;", true)
  | 3 => ("ObedientDice", "history", "[LObedientDice$State;", true)
  | 4 => ("ObedientDice", "slots", "[LObedientDice$State;", true)
  | _ => ("ObedientDice", "changes", "I", false)
def tyX3 : Nat → FieldType := fun k => match k with
  | 0 => .object "ObedientDice$State"
  | 1 => .object "ObedientDice$Extremes"
  | 2 => .object "ObedientDice$Pad"
  | 3 => .array (.object "ObedientDice$State")
  | 4 => .array (.object "ObedientDice$State")
  | _ => .int
abbrev wsX30 : List Cond := u_ws RX3 TX3 6
theorem nmX3 : ∀ a, a < 6 → ∀ b, b < 6 → a ≠ b → (TX3 a).2.1 ≠ (TX3 b).2.1 := by decide +kernel
theorem tyX3_ok : ∀ k, k < 6 → parseFieldDescriptor (TX3 k).2.2.1 = some (tyX3 k) := by decide +kernel
abbrev cX3_init : ByteArray := prog_1_method_1_code
def yX3_init : MethodName := ⟨RX3, "<init>", "()V"⟩
abbrev cX3_begin : ByteArray := prog_1_method_2_code
def yX3_begin : MethodName := ⟨RX3, "begin", "(I)I"⟩
abbrev cX3_points : ByteArray := prog_1_method_3_code
def yX3_points : MethodName := ⟨RX3, "points", "(IIII)I"⟩
abbrev cX3_weigh : ByteArray := prog_1_method_4_code
def yX3_weigh : MethodName := ⟨RX3, "weigh", "(III)I"⟩
abbrev cX3_take : ByteArray := prog_1_method_5_code
def yX3_take : MethodName := ⟨RX3, "take", "(I)I"⟩
abbrev cX3_mix : ByteArray := prog_1_method_6_code
def yX3_mix : MethodName := ⟨RX3, "mix", "(III)I"⟩
abbrev cX3_roll : ByteArray := prog_1_method_7_code
def yX3_roll : MethodName := ⟨RX3, "roll", "(I)I"⟩
abbrev cX3_forget : ByteArray := prog_1_method_8_code
def yX3_forget : MethodName := ⟨RX3, "forget", "(I)I"⟩
abbrev cX3_cell : ByteArray := prog_1_method_10_code
def yX3_cell : MethodName := ⟨RX3, "cell", "(III)I"⟩
abbrev cX3_inequality : ByteArray := prog_1_method_11_code
def yX3_inequality : MethodName := ⟨RX3, "inequality", "(II)I"⟩
abbrev cX3_count : ByteArray := prog_1_method_12_code
def yX3_count : MethodName := ⟨RX3, "count", "(I)I"⟩
abbrev cX3_worth : ByteArray := prog_1_method_13_code
def yX3_worth : MethodName := ⟨RX3, "worth", "(I)I"⟩
abbrev cX3_extreme : ByteArray := prog_1_method_14_code
def yX3_extreme : MethodName := ⟨RX3, "extreme", "(II)I"⟩
abbrev cX3_best : ByteArray := prog_1_method_15_code
def yX3_best : MethodName := ⟨RX3, "best", "(II)I"⟩
abbrev cX3_neverTold : ByteArray := prog_1_method_16_code
def yX3_neverTold : MethodName := ⟨RX3, "neverTold", "(I)I"⟩
abbrev cX3_undo : ByteArray := prog_1_method_21_code
def yX3_undo : MethodName := ⟨RX3, "undo", "()I"⟩
abbrev cX3_isPlayer : ByteArray := prog_1_method_24_code
def yX3_isPlayer : MethodName := ⟨RX3, "isPlayer", "(I)Z"⟩
abbrev cX3_isPlayerOrBoth : ByteArray := prog_1_method_25_code
def yX3_isPlayerOrBoth : MethodName := ⟨RX3, "isPlayerOrBoth", "(I)Z"⟩
abbrev cX3_isCell : ByteArray := prog_1_method_26_code
def yX3_isCell : MethodName := ⟨RX3, "isCell", "(II)Z"⟩
abbrev cX3_mixWith : ByteArray := prog_1_method_27_code
def yX3_mixWith : MethodName := ⟨RX3, "mixWith", "(LObedientDice$Extremes;III)I"⟩
abbrev cX3_mixedWeight : ByteArray := prog_1_method_28_code
def yX3_mixedWeight : MethodName := ⟨RX3, "mixedWeight", "(LObedientDice$Extremes;IIII)J"⟩
abbrev cX3_thousandths : ByteArray := prog_1_method_29_code
def yX3_thousandths : MethodName := ⟨RX3, "thousandths", "(JJ)I"⟩
abbrev cX3_recordChange : ByteArray := prog_1_method_30_code
def yX3_recordChange : MethodName := ⟨RX3, "recordChange", "()V"⟩
abbrev cX3_dropOldestChange : ByteArray := prog_1_method_31_code
def yX3_dropOldestChange : MethodName := ⟨RX3, "dropOldestChange", "()V"⟩
abbrev cX3_amount : ByteArray := prog_1_method_32_code
def yX3_amount : MethodName := ⟨RX3, "amount", "([II)I"⟩
abbrev cX3_setAmount : ByteArray := prog_1_method_33_code
def yX3_setAmount : MethodName := ⟨RX3, "setAmount", "([III)V"⟩
abbrev cX3_fillAmounts : ByteArray := prog_1_method_34_code
def yX3_fillAmounts : MethodName := ⟨RX3, "fillAmounts", "([III)V"⟩
abbrev cX3_sumOf : ByteArray := prog_1_method_35_code
def yX3_sumOf : MethodName := ⟨RX3, "sumOf", "([I)I"⟩
def RX4 : String := "ObedientDiceModel"
def TX4 : u_T := fun k => match k with
  | _ => ("", "", "", false)
def tyX4 : Nat → FieldType := fun k => match k with
  | _ => .int
abbrev wsX40 : List Cond := u_ws RX4 TX4 0
theorem nmX4 : ∀ a, a < 0 → ∀ b, b < 0 → a ≠ b → (TX4 a).2.1 ≠ (TX4 b).2.1 := by decide +kernel
theorem tyX4_ok : ∀ k, k < 0 → parseFieldDescriptor (TX4 k).2.2.1 = some (tyX4 k) := by decide +kernel
def RJ9 : String := "java/lang/Math"
abbrev cJ9_floorDiv_f86c9 : ByteArray := prog_7_method_49_code
def yJ9_floorDiv_f86c9 : MethodName := ⟨RJ9, "floorDiv", "(JJ)J"⟩
abbrev cJ9_max_f86c9 : ByteArray := prog_7_method_66_code
def yJ9_max_f86c9 : MethodName := ⟨RJ9, "max", "(JJ)J"⟩
abbrev cJ9_min_f86c9 : ByteArray := prog_7_method_70_code
def yJ9_min_f86c9 : MethodName := ⟨RJ9, "min", "(JJ)J"⟩
def RL : String := "ObedientDiceLaw"
abbrev cL_cell : ByteArray := method_2_code
def yL_cell : MethodName := ⟨RL, "cell", "([II)I"⟩
abbrev cL_up : ByteArray := method_3_code
def yL_up : MethodName := ⟨RL, "up", "(II)I"⟩
abbrev cL_row : ByteArray := method_4_code
def yL_row : MethodName := ⟨RL, "row", "(II)I"⟩
abbrev cL_column : ByteArray := method_5_code
def yL_column : MethodName := ⟨RL, "column", "(III)I"⟩
abbrev cL_isStep : ByteArray := method_6_code
def yL_isStep : MethodName := ⟨RL, "isStep", "(LObedientDice;LObedientDice;II)Z"⟩
abbrev cL_areAlike : ByteArray := method_7_code
def yL_areAlike : MethodName := ⟨RL, "areAlike", "(LObedientDice;LObedientDice;II)Z"⟩
abbrev cL_isMixed : ByteArray := method_8_code
def yL_isMixed : MethodName := ⟨RL, "isMixed", "(LObedientDice;I)Z"⟩
abbrev cL_isThrown : ByteArray := method_9_code
def yL_isThrown : MethodName := ⟨RL, "isThrown", "(LObedientDice;I)Z"⟩
abbrev cL_law : ByteArray := code
def yL_law : MethodName := ⟨RL, "law", "([I)Z"⟩
abbrev vwCl : List vw_C := [(RX0, TX0, 11), (RX1, TX1, 9), (RX2, TX2, 5), (RX3, TX3, 6)]
theorem sm_inPos {big ws : List Cond} (ps : List Nat) (h : ws = ps.filterMap (fun i => big[i]?)) : ∀ w ∈ ws, w ∈ big := by
  intro w hw
  rw [h] at hw
  obtain ⟨i, -, hi⟩ := List.mem_filterMap.mp hw
  exact List.mem_of_getElem? hi
set_option maxRecDepth 20000 in
theorem inX0 : ∀ w ∈ wsX00, w ∈ lw_tbl := sm_inPos [96, 98, 100, 102, 104, 106, 108, 110, 112, 114, 116] (by decide +kernel)
set_option maxRecDepth 20000 in
theorem inX1 : ∀ w ∈ wsX10, w ∈ lw_tbl := sm_inPos [136, 138, 140, 142, 144, 146, 148, 150, 152] (by decide +kernel)
set_option maxRecDepth 20000 in
theorem inX2 : ∀ w ∈ wsX20, w ∈ lw_tbl := sm_inPos [66, 68, 70, 72, 74] (by decide +kernel)
set_option maxRecDepth 20000 in
theorem inX3 : ∀ w ∈ wsX30, w ∈ lw_tbl := sm_inPos [163, 165, 167, 169, 171, 173] (by decide +kernel)
end
section
/-! ===== THE SMALL MACHINE: a JVM of ints, longs and references over a plain memory, as a function; no kit in it but the names of instructions and values ===== -/
/-- what stands where no local is -/
abbrev am_ph : Value := .retAddr 0
/-- a memory: for each cell its kind (0 to 4 an object of that class, 5 int[], 6 long[], 7 char[], 8 State[], 9 the script) and its size; its ints, longs, references -/
abbrev AH : Type := List (Nat × Nat) × (Nat → Nat → Int32) × (Nat → Nat → Int64) × (Nat → Nat → Option Nat)
abbrev AR : Type := Option (Option Value × AH)
def am_kd (h : AH) (a : Nat) : Nat := (h.1.getD a (99, 0)).1
def am_ln (h : AH) (a : Nat) : Nat := (h.1.getD a (99, 0)).2
def am_I (h : AH) : Nat → Nat → Int32 := h.2.1
def am_J (h : AH) : Nat → Nat → Int64 := h.2.2.1
def am_R (h : AH) : Nat → Nat → Option Nat := h.2.2.2
def am_ud {α : Type} (f : Nat → α) (k : Nat) (v : α) : Nat → α := fun j => if j = k then v else f j
def am_rI (h : AH) (a : Nat) (f : Nat → Int32) : AH := (h.1, am_ud h.2.1 a f, h.2.2.1, h.2.2.2)
def am_rJ (h : AH) (a : Nat) (f : Nat → Int64) : AH := (h.1, h.2.1, am_ud h.2.2.1 a f, h.2.2.2)
def am_rR (h : AH) (a : Nat) (f : Nat → Option Nat) : AH := (h.1, h.2.1, h.2.2.1, am_ud h.2.2.2 a f)
def am_sI (h : AH) (a k : Nat) (v : Int32) : AH := am_rI h a (am_ud (am_I h a) k v)
def am_sJ (h : AH) (a k : Nat) (v : Int64) : AH := am_rJ h a (am_ud (am_J h a) k v)
def am_sR (h : AH) (a k : Nat) (v : Option Nat) : AH := am_rR h a (am_ud (am_R h a) k v)
def am_nw (h : AH) (k n : Nat) : AH := (h.1 ++ [(k, n)], am_ud h.2.1 h.1.length (fun _ => 0), am_ud h.2.2.1 h.1.length (fun _ => 0), am_ud h.2.2.2 h.1.length (fun _ => none))
/-- an instruction: where, what, the next one's place, its numbers (targets, fields, methods), its constants -/
abbrev AE : Type := Nat × Instr × Nat × List Nat × Int32 × Int64
/-- a method: its code, its locals, what it returns (0 nothing, 1 int, 2 boolean, 3 long, 4 a reference), which locals are dead at a place -/
abbrev AMe : Type := List AE × Nat × Nat × List (Nat × List Nat)
def am_fetch : List AE → Nat → Option AE
  | [], _ => none
  | q :: r, pc => bif Nat.beq q.1 pc then some q else am_fetch r pc
section helpers
def am_half : Value → Value
  | .long _ => am_ph
  | .double _ => am_ph
  | v => v
def am_i1.{u} {α : Sort u} (no : α) (f : Int32 → List Value → α) : List Value → α
  | .int x :: r => f x r
  | _ => no
def am_i2.{u} {α : Sort u} (no : α) (f : Int32 → Int32 → List Value → α) : List Value → α
  | .int y :: .int x :: r => f x y r
  | _ => no
def am_l1.{u} {α : Sort u} (no : α) (f : Int64 → List Value → α) : List Value → α
  | .long x :: r => f x r
  | _ => no
def am_l2.{u} {α : Sort u} (no : α) (f : Int64 → Int64 → List Value → α) : List Value → α
  | .long y :: .long x :: r => f x y r
  | _ => no
def am_li.{u} {α : Sort u} (no : α) (f : Int64 → Int32 → List Value → α) : List Value → α
  | .int y :: .long x :: r => f x y r
  | _ => no
def am_r1.{u} {α : Sort u} (no : α) (f : Nat → List Value → α) : List Value → α
  | .ref a :: r => f a r
  | _ => no
/-- a reference or null -/
def am_o1.{u} {α : Sort u} (no : α) (f : Option Nat → List Value → α) : List Value → α
  | .ref a :: r => f (some a) r
  | .null :: r => f none r
  | _ => no
def am_ai.{u} {α : Sort u} (no : α) (f : Nat → Int32 → List Value → α) : List Value → α
  | .int i :: .ref a :: r => f a i r
  | _ => no
def am_aii.{u} {α : Sort u} (no : α) (f : Nat → Int32 → Int32 → List Value → α) : List Value → α
  | .int x :: .int i :: .ref a :: r => f a i x r
  | _ => no
def am_ail.{u} {α : Sort u} (no : α) (f : Nat → Int32 → Int64 → List Value → α) : List Value → α
  | .long x :: .int i :: .ref a :: r => f a i x r
  | _ => no
def am_air.{u} {α : Sort u} (no : α) (f : Nat → Int32 → Option Nat → List Value → α) : List Value → α
  | .ref b :: .int i :: .ref a :: r => f a i (some b) r
  | .null :: .int i :: .ref a :: r => f a i none r
  | _ => no
def am_ri.{u} {α : Sort u} (no : α) (f : Nat → Int32 → List Value → α) : List Value → α
  | .int x :: .ref a :: r => f a x r
  | _ => no
def am_rr.{u} {α : Sort u} (no : α) (f : Nat → Option Nat → List Value → α) : List Value → α
  | .ref b :: .ref a :: r => f a (some b) r
  | .null :: .ref a :: r => f a none r
  | _ => no
def am_v1.{u} {α : Sort u} (no : α) (f : Value → List Value → α) : List Value → α
  | v :: r => if v.category = 1 then f v r else no
  | _ => no
def am_v2.{u} {α : Sort u} (no : α) (f : Value → Value → List Value → α) : List Value → α
  | v :: w :: r => if v.category = 1 ∧ w.category = 1 then f v w r else no
  | _ => no
def am_ldI.{u} {α : Sort u} (no : α) (f : Int32 → α) : Option Value → α
  | some (.int x) => f x
  | _ => no
def am_ldJ.{u} {α : Sort u} (no : α) (f : Int64 → α) : Option Value → α
  | some (.long x) => f x
  | _ => no
def am_ldA.{u} {α : Sort u} (no : α) (f : Option Nat → α) : Option Value → α
  | some (.ref a) => f (some a)
  | some .null => f none
  | _ => no
def am_oe.{u} {α : Sort u} (o : Option Nat) (x : α) (f : Nat → α) : α := match o with
  | none => x
  | some a => f a
/-- a value of one word laid into a place: the first half of a long that ended there is no more -/
def am_set1 : List Value → Nat → Value → List Value
  | [], _, _ => []
  | _ :: r, 0, v => v :: r
  | a :: r, 1, v => am_half a :: am_set1 r 0 v
  | a :: r, k + 2, v => a :: am_set1 r (k + 1) v
/-- a long laid into a place and the next one -/
def am_set2 : List Value → Nat → Value → List Value
  | [], _, _ => []
  | _ :: r, 0, v => v :: am_set1 r 0 am_ph
  | a :: r, 1, v => am_half a :: am_set2 r 0 v
  | a :: r, k + 2, v => a :: am_set2 r (k + 1) v
def am_sw.{u} {α : Sort u} (f : Nat → α) (x : Int32) (d : Nat) : Nat → List Nat → α
  | _, [] => f d
  | k, t :: r => if x = nI k then f t else am_sw f x d (k + 1) r
def am_pop : Nat → List Value → List Value → Option (List Value × List Value)
  | 0, st, acc => some (acc, st)
  | n + 1, v :: st, acc => am_pop n st (v :: acc)
  | _ + 1, [], _ => none
def am_w8 (st : List Value) : Nat := (st.map fun v => v.category).sum
def am_ob (v : Option Nat) : Value := match v with
  | none => .null
  | some a => .ref a
def am_bit (x : Int32) : Prop := x = 0 ∨ x = 1
end helpers
def am_pad : List Value → List Value
  | [] => []
  | .long x :: r => .long x :: am_ph :: am_pad r
  | v :: r => v :: am_pad r
def am_cpy (f g : Nat → Int32) (sp dp n : Nat) : Nat → Int32 := fun k => if dp ≤ k ∧ k < dp + n then f (sp + (k - dp)) else g k
/-- a call: numbers are the method, its arguments behind the receiver, the kind (0 with a receiver, 1 static), what the method returns, its locals, the receiver's class; 2 Object's constructor, 3 arraycopy -/
def am_inv.{u} {α : Sort u} (nx : Nat → List Value → List Value → AH → α) (cl : Nat → Nat → Nat → List Value → Nat → List Value → List Value → AH → α) (no : α) (n : Nat) (ts : List Nat) (ls st : List Value) (h : AH) : α := match ts with
  | [mi, na, 1, rk, nL] => match am_pop na st [] with
    | some (as, r) => if am_w8 r ≤ 8 ∧ (am_pad as).length ≤ nL then cl mi rk nL as n ls r h else no
    | none => no
  | [mi, na, 0, rk, nL, rc] => match am_pop na st [] with
    | some (as, .ref b :: r) => if am_kd h b = rc then (if am_w8 r ≤ 8 ∧ (am_pad (.ref b :: as)).length ≤ nL then cl mi rk nL (.ref b :: as) n ls r h else no) else no
    | _ => no
  | [2] => match st with
    | .ref _ :: r => if am_w8 r ≤ 8 then nx n ls r h else no
    | _ => no
  | [3, _] => match st with
    | .int c :: .int dp :: .ref d :: .int sp :: .ref s :: r => if am_kd h s = 5 ∧ am_kd h d = 5 ∧ ¬ sp < 0 ∧ ¬ dp < 0 ∧ ¬ c < 0 ∧ sp.toNatClampNeg + c.toNatClampNeg ≤ am_ln h s ∧ dp.toNatClampNeg + c.toNatClampNeg ≤ am_ln h d ∧ am_w8 r ≤ 8 then nx n ls r (am_rI h d (am_cpy (am_I h s) (am_I h d) sp.toNatClampNeg dp.toNatClampNeg c.toNatClampNeg)) else no
    | _ => no
  | _ => no
section ops
def am_x_cI.{u} {α : Sort u} (nx : Nat → List Value → List Value → AH → α) (cl : Nat → Nat → Nat → List Value → Nat → List Value → List Value → AH → α) (rt : Option Value → AH → α) (no : α) (rk : Nat) (n : Nat) (ts : List Nat) (cv : Int32) (cj : Int64) (ls st : List Value) (h : AH) : α := nx n ls (.int cv :: st) h
def am_x_cJ.{u} {α : Sort u} (nx : Nat → List Value → List Value → AH → α) (cl : Nat → Nat → Nat → List Value → Nat → List Value → List Value → AH → α) (rt : Option Value → AH → α) (no : α) (rk : Nat) (n : Nat) (ts : List Nat) (cv : Int32) (cj : Int64) (ls st : List Value) (h : AH) : α := nx n ls (.long cj :: st) h
def am_x_aconst_null.{u} {α : Sort u} (nx : Nat → List Value → List Value → AH → α) (cl : Nat → Nat → Nat → List Value → Nat → List Value → List Value → AH → α) (rt : Option Value → AH → α) (no : α) (rk : Nat) (n : Nat) (ts : List Nat) (cv : Int32) (cj : Int64) (ls st : List Value) (h : AH) : α := nx n ls (.null :: st) h
def am_x_iload.{u} (k : Nat) {α : Sort u} (nx : Nat → List Value → List Value → AH → α) (cl : Nat → Nat → Nat → List Value → Nat → List Value → List Value → AH → α) (rt : Option Value → AH → α) (no : α) (rk : Nat) (n : Nat) (ts : List Nat) (cv : Int32) (cj : Int64) (ls st : List Value) (h : AH) : α := am_ldI no (fun x => nx n ls (.int x :: st) h) ls[k]?
def am_x_lload.{u} (k : Nat) {α : Sort u} (nx : Nat → List Value → List Value → AH → α) (cl : Nat → Nat → Nat → List Value → Nat → List Value → List Value → AH → α) (rt : Option Value → AH → α) (no : α) (rk : Nat) (n : Nat) (ts : List Nat) (cv : Int32) (cj : Int64) (ls st : List Value) (h : AH) : α := am_ldJ no (fun x => nx n ls (.long x :: st) h) ls[k]?
def am_x_aload.{u} (k : Nat) {α : Sort u} (nx : Nat → List Value → List Value → AH → α) (cl : Nat → Nat → Nat → List Value → Nat → List Value → List Value → AH → α) (rt : Option Value → AH → α) (no : α) (rk : Nat) (n : Nat) (ts : List Nat) (cv : Int32) (cj : Int64) (ls st : List Value) (h : AH) : α := am_ldA no (fun o => nx n ls (am_ob o :: st) h) ls[k]?
def am_x_istore.{u} (k : Nat) {α : Sort u} (nx : Nat → List Value → List Value → AH → α) (cl : Nat → Nat → Nat → List Value → Nat → List Value → List Value → AH → α) (rt : Option Value → AH → α) (no : α) (rk : Nat) (n : Nat) (ts : List Nat) (cv : Int32) (cj : Int64) (ls st : List Value) (h : AH) : α := am_i1 no (fun x r => if k < ls.length then nx n (am_set1 ls k (.int x)) r h else no) st
def am_x_lstore.{u} (k : Nat) {α : Sort u} (nx : Nat → List Value → List Value → AH → α) (cl : Nat → Nat → Nat → List Value → Nat → List Value → List Value → AH → α) (rt : Option Value → AH → α) (no : α) (rk : Nat) (n : Nat) (ts : List Nat) (cv : Int32) (cj : Int64) (ls st : List Value) (h : AH) : α := am_l1 no (fun x r => if k + 1 < ls.length then nx n (am_set2 ls k (.long x)) r h else no) st
def am_x_astore.{u} (k : Nat) {α : Sort u} (nx : Nat → List Value → List Value → AH → α) (cl : Nat → Nat → Nat → List Value → Nat → List Value → List Value → AH → α) (rt : Option Value → AH → α) (no : α) (rk : Nat) (n : Nat) (ts : List Nat) (cv : Int32) (cj : Int64) (ls st : List Value) (h : AH) : α := am_o1 no (fun o r => if k < ls.length then nx n (am_set1 ls k (am_ob o)) r h else no) st
def am_x_iinc.{u} (k : Nat) {α : Sort u} (nx : Nat → List Value → List Value → AH → α) (cl : Nat → Nat → Nat → List Value → Nat → List Value → List Value → AH → α) (rt : Option Value → AH → α) (no : α) (rk : Nat) (n : Nat) (ts : List Nat) (cv : Int32) (cj : Int64) (ls st : List Value) (h : AH) : α := am_ldI no (fun x => if k < ls.length then nx n (am_set1 ls k (.int (x + cv))) st h else no) ls[k]?
def am_x_iadd.{u} {α : Sort u} (nx : Nat → List Value → List Value → AH → α) (cl : Nat → Nat → Nat → List Value → Nat → List Value → List Value → AH → α) (rt : Option Value → AH → α) (no : α) (rk : Nat) (n : Nat) (ts : List Nat) (cv : Int32) (cj : Int64) (ls st : List Value) (h : AH) : α := am_i2 no (fun x y r => nx n ls (.int (x + y) :: r) h) st
def am_x_isub.{u} {α : Sort u} (nx : Nat → List Value → List Value → AH → α) (cl : Nat → Nat → Nat → List Value → Nat → List Value → List Value → AH → α) (rt : Option Value → AH → α) (no : α) (rk : Nat) (n : Nat) (ts : List Nat) (cv : Int32) (cj : Int64) (ls st : List Value) (h : AH) : α := am_i2 no (fun x y r => nx n ls (.int (x - y) :: r) h) st
def am_x_imul.{u} {α : Sort u} (nx : Nat → List Value → List Value → AH → α) (cl : Nat → Nat → Nat → List Value → Nat → List Value → List Value → AH → α) (rt : Option Value → AH → α) (no : α) (rk : Nat) (n : Nat) (ts : List Nat) (cv : Int32) (cj : Int64) (ls st : List Value) (h : AH) : α := am_i2 no (fun x y r => nx n ls (.int (x * y) :: r) h) st
def am_x_iand.{u} {α : Sort u} (nx : Nat → List Value → List Value → AH → α) (cl : Nat → Nat → Nat → List Value → Nat → List Value → List Value → AH → α) (rt : Option Value → AH → α) (no : α) (rk : Nat) (n : Nat) (ts : List Nat) (cv : Int32) (cj : Int64) (ls st : List Value) (h : AH) : α := am_i2 no (fun x y r => nx n ls (.int (x &&& y) :: r) h) st
def am_x_ior.{u} {α : Sort u} (nx : Nat → List Value → List Value → AH → α) (cl : Nat → Nat → Nat → List Value → Nat → List Value → List Value → AH → α) (rt : Option Value → AH → α) (no : α) (rk : Nat) (n : Nat) (ts : List Nat) (cv : Int32) (cj : Int64) (ls st : List Value) (h : AH) : α := am_i2 no (fun x y r => nx n ls (.int (x ||| y) :: r) h) st
def am_x_ixor.{u} {α : Sort u} (nx : Nat → List Value → List Value → AH → α) (cl : Nat → Nat → Nat → List Value → Nat → List Value → List Value → AH → α) (rt : Option Value → AH → α) (no : α) (rk : Nat) (n : Nat) (ts : List Nat) (cv : Int32) (cj : Int64) (ls st : List Value) (h : AH) : α := am_i2 no (fun x y r => nx n ls (.int (x ^^^ y) :: r) h) st
def am_x_idiv.{u} {α : Sort u} (nx : Nat → List Value → List Value → AH → α) (cl : Nat → Nat → Nat → List Value → Nat → List Value → List Value → AH → α) (rt : Option Value → AH → α) (no : α) (rk : Nat) (n : Nat) (ts : List Nat) (cv : Int32) (cj : Int64) (ls st : List Value) (h : AH) : α := am_i2 no (fun x y r => if y = 0 then no else nx n ls (.int (x / y) :: r) h) st
def am_x_irem.{u} {α : Sort u} (nx : Nat → List Value → List Value → AH → α) (cl : Nat → Nat → Nat → List Value → Nat → List Value → List Value → AH → α) (rt : Option Value → AH → α) (no : α) (rk : Nat) (n : Nat) (ts : List Nat) (cv : Int32) (cj : Int64) (ls st : List Value) (h : AH) : α := am_i2 no (fun x y r => if y = 0 then no else nx n ls (.int (x - x / y * y) :: r) h) st
def am_x_ishl.{u} {α : Sort u} (nx : Nat → List Value → List Value → AH → α) (cl : Nat → Nat → Nat → List Value → Nat → List Value → List Value → AH → α) (rt : Option Value → AH → α) (no : α) (rk : Nat) (n : Nat) (ts : List Nat) (cv : Int32) (cj : Int64) (ls st : List Value) (h : AH) : α := am_i2 no (fun x y r => nx n ls (.int (x <<< (y &&& 31)) :: r) h) st
def am_x_ishr.{u} {α : Sort u} (nx : Nat → List Value → List Value → AH → α) (cl : Nat → Nat → Nat → List Value → Nat → List Value → List Value → AH → α) (rt : Option Value → AH → α) (no : α) (rk : Nat) (n : Nat) (ts : List Nat) (cv : Int32) (cj : Int64) (ls st : List Value) (h : AH) : α := am_i2 no (fun x y r => nx n ls (.int (x >>> (y &&& 31)) :: r) h) st
def am_x_ladd.{u} {α : Sort u} (nx : Nat → List Value → List Value → AH → α) (cl : Nat → Nat → Nat → List Value → Nat → List Value → List Value → AH → α) (rt : Option Value → AH → α) (no : α) (rk : Nat) (n : Nat) (ts : List Nat) (cv : Int32) (cj : Int64) (ls st : List Value) (h : AH) : α := am_l2 no (fun x y r => nx n ls (.long (x + y) :: r) h) st
def am_x_lsub.{u} {α : Sort u} (nx : Nat → List Value → List Value → AH → α) (cl : Nat → Nat → Nat → List Value → Nat → List Value → List Value → AH → α) (rt : Option Value → AH → α) (no : α) (rk : Nat) (n : Nat) (ts : List Nat) (cv : Int32) (cj : Int64) (ls st : List Value) (h : AH) : α := am_l2 no (fun x y r => nx n ls (.long (x - y) :: r) h) st
def am_x_lmul.{u} {α : Sort u} (nx : Nat → List Value → List Value → AH → α) (cl : Nat → Nat → Nat → List Value → Nat → List Value → List Value → AH → α) (rt : Option Value → AH → α) (no : α) (rk : Nat) (n : Nat) (ts : List Nat) (cv : Int32) (cj : Int64) (ls st : List Value) (h : AH) : α := am_l2 no (fun x y r => nx n ls (.long (x * y) :: r) h) st
def am_x_land.{u} {α : Sort u} (nx : Nat → List Value → List Value → AH → α) (cl : Nat → Nat → Nat → List Value → Nat → List Value → List Value → AH → α) (rt : Option Value → AH → α) (no : α) (rk : Nat) (n : Nat) (ts : List Nat) (cv : Int32) (cj : Int64) (ls st : List Value) (h : AH) : α := am_l2 no (fun x y r => nx n ls (.long (x &&& y) :: r) h) st
def am_x_lor.{u} {α : Sort u} (nx : Nat → List Value → List Value → AH → α) (cl : Nat → Nat → Nat → List Value → Nat → List Value → List Value → AH → α) (rt : Option Value → AH → α) (no : α) (rk : Nat) (n : Nat) (ts : List Nat) (cv : Int32) (cj : Int64) (ls st : List Value) (h : AH) : α := am_l2 no (fun x y r => nx n ls (.long (x ||| y) :: r) h) st
def am_x_lxor.{u} {α : Sort u} (nx : Nat → List Value → List Value → AH → α) (cl : Nat → Nat → Nat → List Value → Nat → List Value → List Value → AH → α) (rt : Option Value → AH → α) (no : α) (rk : Nat) (n : Nat) (ts : List Nat) (cv : Int32) (cj : Int64) (ls st : List Value) (h : AH) : α := am_l2 no (fun x y r => nx n ls (.long (x ^^^ y) :: r) h) st
def am_x_ldiv.{u} {α : Sort u} (nx : Nat → List Value → List Value → AH → α) (cl : Nat → Nat → Nat → List Value → Nat → List Value → List Value → AH → α) (rt : Option Value → AH → α) (no : α) (rk : Nat) (n : Nat) (ts : List Nat) (cv : Int32) (cj : Int64) (ls st : List Value) (h : AH) : α := am_l2 no (fun x y r => if y = 0 then no else nx n ls (.long (x / y) :: r) h) st
def am_x_lrem.{u} {α : Sort u} (nx : Nat → List Value → List Value → AH → α) (cl : Nat → Nat → Nat → List Value → Nat → List Value → List Value → AH → α) (rt : Option Value → AH → α) (no : α) (rk : Nat) (n : Nat) (ts : List Nat) (cv : Int32) (cj : Int64) (ls st : List Value) (h : AH) : α := am_l2 no (fun x y r => if y = 0 then no else nx n ls (.long (x - x / y * y) :: r) h) st
def am_x_lneg.{u} {α : Sort u} (nx : Nat → List Value → List Value → AH → α) (cl : Nat → Nat → Nat → List Value → Nat → List Value → List Value → AH → α) (rt : Option Value → AH → α) (no : α) (rk : Nat) (n : Nat) (ts : List Nat) (cv : Int32) (cj : Int64) (ls st : List Value) (h : AH) : α := am_l1 no (fun x r => nx n ls (.long (-x) :: r) h) st
def am_x_lshl.{u} {α : Sort u} (nx : Nat → List Value → List Value → AH → α) (cl : Nat → Nat → Nat → List Value → Nat → List Value → List Value → AH → α) (rt : Option Value → AH → α) (no : α) (rk : Nat) (n : Nat) (ts : List Nat) (cv : Int32) (cj : Int64) (ls st : List Value) (h : AH) : α := am_li no (fun x y r => nx n ls (.long (x <<< (y.toInt64 &&& 63)) :: r) h) st
def am_x_lushr.{u} {α : Sort u} (nx : Nat → List Value → List Value → AH → α) (cl : Nat → Nat → Nat → List Value → Nat → List Value → List Value → AH → α) (rt : Option Value → AH → α) (no : α) (rk : Nat) (n : Nat) (ts : List Nat) (cv : Int32) (cj : Int64) (ls st : List Value) (h : AH) : α := am_li no (fun x y r => nx n ls (.long ((x.toUInt64 >>> (y.toInt64.toUInt64 &&& Int64.toUInt64 63)).toInt64) :: r) h) st
def am_x_lcmp.{u} {α : Sort u} (nx : Nat → List Value → List Value → AH → α) (cl : Nat → Nat → Nat → List Value → Nat → List Value → List Value → AH → α) (rt : Option Value → AH → α) (no : α) (rk : Nat) (n : Nat) (ts : List Nat) (cv : Int32) (cj : Int64) (ls st : List Value) (h : AH) : α := am_l2 no (fun x y r => nx n ls (.int (lg_cmp x y) :: r) h) st
def am_x_i2l.{u} {α : Sort u} (nx : Nat → List Value → List Value → AH → α) (cl : Nat → Nat → Nat → List Value → Nat → List Value → List Value → AH → α) (rt : Option Value → AH → α) (no : α) (rk : Nat) (n : Nat) (ts : List Nat) (cv : Int32) (cj : Int64) (ls st : List Value) (h : AH) : α := am_i1 no (fun x r => nx n ls (.long x.toInt64 :: r) h) st
def am_x_l2i.{u} {α : Sort u} (nx : Nat → List Value → List Value → AH → α) (cl : Nat → Nat → Nat → List Value → Nat → List Value → List Value → AH → α) (rt : Option Value → AH → α) (no : α) (rk : Nat) (n : Nat) (ts : List Nat) (cv : Int32) (cj : Int64) (ls st : List Value) (h : AH) : α := am_l1 no (fun x r => nx n ls (.int x.toInt32 :: r) h) st
def am_x_i2c.{u} {α : Sort u} (nx : Nat → List Value → List Value → AH → α) (cl : Nat → Nat → Nat → List Value → Nat → List Value → List Value → AH → α) (rt : Option Value → AH → α) (no : α) (rk : Nat) (n : Nat) (ts : List Nat) (cv : Int32) (cj : Int64) (ls st : List Value) (h : AH) : α := am_i1 no (fun x r => nx n ls (.int (x.toUInt32 % 65536).toInt32 :: r) h) st
def am_x_dup.{u} {α : Sort u} (nx : Nat → List Value → List Value → AH → α) (cl : Nat → Nat → Nat → List Value → Nat → List Value → List Value → AH → α) (rt : Option Value → AH → α) (no : α) (rk : Nat) (n : Nat) (ts : List Nat) (cv : Int32) (cj : Int64) (ls st : List Value) (h : AH) : α := am_v1 no (fun v r => nx n ls (v :: v :: r) h) st
def am_x_dup2.{u} {α : Sort u} (nx : Nat → List Value → List Value → AH → α) (cl : Nat → Nat → Nat → List Value → Nat → List Value → List Value → AH → α) (rt : Option Value → AH → α) (no : α) (rk : Nat) (n : Nat) (ts : List Nat) (cv : Int32) (cj : Int64) (ls st : List Value) (h : AH) : α := am_v2 no (fun v w r => nx n ls (v :: w :: v :: w :: r) h) st
def am_x_ifCond_eq.{u} {α : Sort u} (nx : Nat → List Value → List Value → AH → α) (cl : Nat → Nat → Nat → List Value → Nat → List Value → List Value → AH → α) (rt : Option Value → AH → α) (no : α) (rk : Nat) (n : Nat) (ts : List Nat) (cv : Int32) (cj : Int64) (ls st : List Value) (h : AH) : α := match ts with
    | [t] => am_i1 no (fun x r => if x = 0 then nx t ls r h else nx n ls r h) st
    | _ => no
def am_x_ifCond_ne.{u} {α : Sort u} (nx : Nat → List Value → List Value → AH → α) (cl : Nat → Nat → Nat → List Value → Nat → List Value → List Value → AH → α) (rt : Option Value → AH → α) (no : α) (rk : Nat) (n : Nat) (ts : List Nat) (cv : Int32) (cj : Int64) (ls st : List Value) (h : AH) : α := match ts with
    | [t] => am_i1 no (fun x r => if x = 0 then nx n ls r h else nx t ls r h) st
    | _ => no
def am_x_ifCond_lt.{u} {α : Sort u} (nx : Nat → List Value → List Value → AH → α) (cl : Nat → Nat → Nat → List Value → Nat → List Value → List Value → AH → α) (rt : Option Value → AH → α) (no : α) (rk : Nat) (n : Nat) (ts : List Nat) (cv : Int32) (cj : Int64) (ls st : List Value) (h : AH) : α := match ts with
    | [t] => am_i1 no (fun x r => if x < 0 then nx t ls r h else nx n ls r h) st
    | _ => no
def am_x_ifCond_ge.{u} {α : Sort u} (nx : Nat → List Value → List Value → AH → α) (cl : Nat → Nat → Nat → List Value → Nat → List Value → List Value → AH → α) (rt : Option Value → AH → α) (no : α) (rk : Nat) (n : Nat) (ts : List Nat) (cv : Int32) (cj : Int64) (ls st : List Value) (h : AH) : α := match ts with
    | [t] => am_i1 no (fun x r => if x < 0 then nx n ls r h else nx t ls r h) st
    | _ => no
def am_x_ifCond_gt.{u} {α : Sort u} (nx : Nat → List Value → List Value → AH → α) (cl : Nat → Nat → Nat → List Value → Nat → List Value → List Value → AH → α) (rt : Option Value → AH → α) (no : α) (rk : Nat) (n : Nat) (ts : List Nat) (cv : Int32) (cj : Int64) (ls st : List Value) (h : AH) : α := match ts with
    | [t] => am_i1 no (fun x r => if 0 < x then nx t ls r h else nx n ls r h) st
    | _ => no
def am_x_ifCond_le.{u} {α : Sort u} (nx : Nat → List Value → List Value → AH → α) (cl : Nat → Nat → Nat → List Value → Nat → List Value → List Value → AH → α) (rt : Option Value → AH → α) (no : α) (rk : Nat) (n : Nat) (ts : List Nat) (cv : Int32) (cj : Int64) (ls st : List Value) (h : AH) : α := match ts with
    | [t] => am_i1 no (fun x r => if 0 < x then nx n ls r h else nx t ls r h) st
    | _ => no
def am_x_if_icmp_eq.{u} {α : Sort u} (nx : Nat → List Value → List Value → AH → α) (cl : Nat → Nat → Nat → List Value → Nat → List Value → List Value → AH → α) (rt : Option Value → AH → α) (no : α) (rk : Nat) (n : Nat) (ts : List Nat) (cv : Int32) (cj : Int64) (ls st : List Value) (h : AH) : α := match ts with
    | [t] => am_i2 no (fun x y r => if x = y then nx t ls r h else nx n ls r h) st
    | _ => no
def am_x_if_icmp_ne.{u} {α : Sort u} (nx : Nat → List Value → List Value → AH → α) (cl : Nat → Nat → Nat → List Value → Nat → List Value → List Value → AH → α) (rt : Option Value → AH → α) (no : α) (rk : Nat) (n : Nat) (ts : List Nat) (cv : Int32) (cj : Int64) (ls st : List Value) (h : AH) : α := match ts with
    | [t] => am_i2 no (fun x y r => if x = y then nx n ls r h else nx t ls r h) st
    | _ => no
def am_x_if_icmp_lt.{u} {α : Sort u} (nx : Nat → List Value → List Value → AH → α) (cl : Nat → Nat → Nat → List Value → Nat → List Value → List Value → AH → α) (rt : Option Value → AH → α) (no : α) (rk : Nat) (n : Nat) (ts : List Nat) (cv : Int32) (cj : Int64) (ls st : List Value) (h : AH) : α := match ts with
    | [t] => am_i2 no (fun x y r => if x < y then nx t ls r h else nx n ls r h) st
    | _ => no
def am_x_if_icmp_ge.{u} {α : Sort u} (nx : Nat → List Value → List Value → AH → α) (cl : Nat → Nat → Nat → List Value → Nat → List Value → List Value → AH → α) (rt : Option Value → AH → α) (no : α) (rk : Nat) (n : Nat) (ts : List Nat) (cv : Int32) (cj : Int64) (ls st : List Value) (h : AH) : α := match ts with
    | [t] => am_i2 no (fun x y r => if x < y then nx n ls r h else nx t ls r h) st
    | _ => no
def am_x_if_icmp_gt.{u} {α : Sort u} (nx : Nat → List Value → List Value → AH → α) (cl : Nat → Nat → Nat → List Value → Nat → List Value → List Value → AH → α) (rt : Option Value → AH → α) (no : α) (rk : Nat) (n : Nat) (ts : List Nat) (cv : Int32) (cj : Int64) (ls st : List Value) (h : AH) : α := match ts with
    | [t] => am_i2 no (fun x y r => if y < x then nx t ls r h else nx n ls r h) st
    | _ => no
def am_x_if_icmp_le.{u} {α : Sort u} (nx : Nat → List Value → List Value → AH → α) (cl : Nat → Nat → Nat → List Value → Nat → List Value → List Value → AH → α) (rt : Option Value → AH → α) (no : α) (rk : Nat) (n : Nat) (ts : List Nat) (cv : Int32) (cj : Int64) (ls st : List Value) (h : AH) : α := match ts with
    | [t] => am_i2 no (fun x y r => if y < x then nx n ls r h else nx t ls r h) st
    | _ => no
def am_x_ifnonnull.{u} {α : Sort u} (nx : Nat → List Value → List Value → AH → α) (cl : Nat → Nat → Nat → List Value → Nat → List Value → List Value → AH → α) (rt : Option Value → AH → α) (no : α) (rk : Nat) (n : Nat) (ts : List Nat) (cv : Int32) (cj : Int64) (ls st : List Value) (h : AH) : α := match ts with
    | [t] => am_o1 no (fun o r => am_oe o (nx n ls r h) (fun _ => nx t ls r h)) st
    | _ => no
def am_x_goto.{u} {α : Sort u} (nx : Nat → List Value → List Value → AH → α) (cl : Nat → Nat → Nat → List Value → Nat → List Value → List Value → AH → α) (rt : Option Value → AH → α) (no : α) (rk : Nat) (n : Nat) (ts : List Nat) (cv : Int32) (cj : Int64) (ls st : List Value) (h : AH) : α := match ts with
    | [t] => nx t ls st h
    | _ => no
def am_x_tableswitch.{u} {α : Sort u} (nx : Nat → List Value → List Value → AH → α) (cl : Nat → Nat → Nat → List Value → Nat → List Value → List Value → AH → α) (rt : Option Value → AH → α) (no : α) (rk : Nat) (n : Nat) (ts : List Nat) (cv : Int32) (cj : Int64) (ls st : List Value) (h : AH) : α := match ts with
    | k :: d :: r0 => am_i1 no (fun x r => am_sw (fun p => nx p ls r h) x d k r0) st
    | _ => no
def am_x_getfield.{u} {α : Sort u} (nx : Nat → List Value → List Value → AH → α) (cl : Nat → Nat → Nat → List Value → Nat → List Value → List Value → AH → α) (rt : Option Value → AH → α) (no : α) (rk : Nat) (n : Nat) (ts : List Nat) (cv : Int32) (cj : Int64) (ls st : List Value) (h : AH) : α := match ts with
    | [ci, k, 1] => am_r1 no (fun a r => if am_kd h a = ci then am_oe (am_R h a k) (nx n ls (.null :: r) h) (fun b => nx n ls (.ref b :: r) h) else no) st
    | [ci, k, _] => am_r1 no (fun a r => if am_kd h a = ci then nx n ls (.int (am_I h a k) :: r) h else no) st
    | _ => no
def am_x_putfield.{u} {α : Sort u} (nx : Nat → List Value → List Value → AH → α) (cl : Nat → Nat → Nat → List Value → Nat → List Value → List Value → AH → α) (rt : Option Value → AH → α) (no : α) (rk : Nat) (n : Nat) (ts : List Nat) (cv : Int32) (cj : Int64) (ls st : List Value) (h : AH) : α := match ts with
    | [ci, k, 1] => am_rr no (fun a o r => if am_kd h a = ci then nx n ls r (am_sR h a k o) else no) st
    | [ci, k, 2] => am_ri no (fun a x r => if am_kd h a = ci then (if x = 0 ∨ x = 1 then nx n ls r (am_sI h a k x) else no) else no) st
    | [ci, k, 0] => am_ri no (fun a x r => if am_kd h a = ci then nx n ls r (am_sI h a k x) else no) st
    | _ => no
def am_x_new.{u} {α : Sort u} (nx : Nat → List Value → List Value → AH → α) (cl : Nat → Nat → Nat → List Value → Nat → List Value → List Value → AH → α) (rt : Option Value → AH → α) (no : α) (rk : Nat) (n : Nat) (ts : List Nat) (cv : Int32) (cj : Int64) (ls st : List Value) (h : AH) : α := match ts with
    | [ci, nf] => nx n ls (.ref h.1.length :: st) (am_nw h ci nf)
    | _ => no
def am_x_newarray.{u} {α : Sort u} (nx : Nat → List Value → List Value → AH → α) (cl : Nat → Nat → Nat → List Value → Nat → List Value → List Value → AH → α) (rt : Option Value → AH → α) (no : α) (rk : Nat) (n : Nat) (ts : List Nat) (cv : Int32) (cj : Int64) (ls st : List Value) (h : AH) : α := match ts with
    | [k] => am_i1 no (fun x r => if x < 0 ∨ 1000 < x.toNatClampNeg then no else nx n ls (.ref h.1.length :: r) (am_nw h k x.toNatClampNeg)) st
    | _ => no
def am_x_anewarray.{u} {α : Sort u} (nx : Nat → List Value → List Value → AH → α) (cl : Nat → Nat → Nat → List Value → Nat → List Value → List Value → AH → α) (rt : Option Value → AH → α) (no : α) (rk : Nat) (n : Nat) (ts : List Nat) (cv : Int32) (cj : Int64) (ls st : List Value) (h : AH) : α := am_i1 no (fun x r => if x < 0 ∨ 1000 < x.toNatClampNeg then no else nx n ls (.ref h.1.length :: r) (am_nw h 8 x.toNatClampNeg)) st
def am_x_arraylength.{u} {α : Sort u} (nx : Nat → List Value → List Value → AH → α) (cl : Nat → Nat → Nat → List Value → Nat → List Value → List Value → AH → α) (rt : Option Value → AH → α) (no : α) (rk : Nat) (n : Nat) (ts : List Nat) (cv : Int32) (cj : Int64) (ls st : List Value) (h : AH) : α := am_r1 no (fun a r => if 5 ≤ am_kd h a ∧ am_kd h a ≤ 9 then nx n ls (.int (Int32.ofNat (am_ln h a)) :: r) h else no) st
def am_x_iaload.{u} {α : Sort u} (nx : Nat → List Value → List Value → AH → α) (cl : Nat → Nat → Nat → List Value → Nat → List Value → List Value → AH → α) (rt : Option Value → AH → α) (no : α) (rk : Nat) (n : Nat) (ts : List Nat) (cv : Int32) (cj : Int64) (ls st : List Value) (h : AH) : α := am_ai no (fun a x r => if (am_kd h a = 5 ∨ am_kd h a = 9) ∧ ¬ (x < 0 ∨ am_ln h a ≤ x.toNatClampNeg) then nx n ls (.int (am_I h a x.toNatClampNeg) :: r) h else no) st
def am_x_laload.{u} {α : Sort u} (nx : Nat → List Value → List Value → AH → α) (cl : Nat → Nat → Nat → List Value → Nat → List Value → List Value → AH → α) (rt : Option Value → AH → α) (no : α) (rk : Nat) (n : Nat) (ts : List Nat) (cv : Int32) (cj : Int64) (ls st : List Value) (h : AH) : α := am_ai no (fun a x r => if am_kd h a = 6 ∧ ¬ (x < 0 ∨ am_ln h a ≤ x.toNatClampNeg) then nx n ls (.long (am_J h a x.toNatClampNeg) :: r) h else no) st
def am_x_caload.{u} {α : Sort u} (nx : Nat → List Value → List Value → AH → α) (cl : Nat → Nat → Nat → List Value → Nat → List Value → List Value → AH → α) (rt : Option Value → AH → α) (no : α) (rk : Nat) (n : Nat) (ts : List Nat) (cv : Int32) (cj : Int64) (ls st : List Value) (h : AH) : α := am_ai no (fun a x r => if am_kd h a = 7 ∧ ¬ (x < 0 ∨ am_ln h a ≤ x.toNatClampNeg) then nx n ls (.int (am_I h a x.toNatClampNeg) :: r) h else no) st
def am_x_aaload.{u} {α : Sort u} (nx : Nat → List Value → List Value → AH → α) (cl : Nat → Nat → Nat → List Value → Nat → List Value → List Value → AH → α) (rt : Option Value → AH → α) (no : α) (rk : Nat) (n : Nat) (ts : List Nat) (cv : Int32) (cj : Int64) (ls st : List Value) (h : AH) : α := am_ai no (fun a x r => if am_kd h a = 8 ∧ ¬ (x < 0 ∨ am_ln h a ≤ x.toNatClampNeg) then am_oe (am_R h a x.toNatClampNeg) (nx n ls (.null :: r) h) (fun b => nx n ls (.ref b :: r) h) else no) st
def am_x_iastore.{u} {α : Sort u} (nx : Nat → List Value → List Value → AH → α) (cl : Nat → Nat → Nat → List Value → Nat → List Value → List Value → AH → α) (rt : Option Value → AH → α) (no : α) (rk : Nat) (n : Nat) (ts : List Nat) (cv : Int32) (cj : Int64) (ls st : List Value) (h : AH) : α := am_aii no (fun a x v r => if am_kd h a = 5 ∧ ¬ (x < 0 ∨ am_ln h a ≤ x.toNatClampNeg) then nx n ls r (am_sI h a x.toNatClampNeg v) else no) st
def am_x_lastore.{u} {α : Sort u} (nx : Nat → List Value → List Value → AH → α) (cl : Nat → Nat → Nat → List Value → Nat → List Value → List Value → AH → α) (rt : Option Value → AH → α) (no : α) (rk : Nat) (n : Nat) (ts : List Nat) (cv : Int32) (cj : Int64) (ls st : List Value) (h : AH) : α := am_ail no (fun a x v r => if am_kd h a = 6 ∧ ¬ (x < 0 ∨ am_ln h a ≤ x.toNatClampNeg) then nx n ls r (am_sJ h a x.toNatClampNeg v) else no) st
def am_x_castore.{u} {α : Sort u} (nx : Nat → List Value → List Value → AH → α) (cl : Nat → Nat → Nat → List Value → Nat → List Value → List Value → AH → α) (rt : Option Value → AH → α) (no : α) (rk : Nat) (n : Nat) (ts : List Nat) (cv : Int32) (cj : Int64) (ls st : List Value) (h : AH) : α := am_aii no (fun a x v r => if am_kd h a = 7 ∧ ¬ (x < 0 ∨ am_ln h a ≤ x.toNatClampNeg) then nx n ls r (am_sI h a x.toNatClampNeg v.toUInt32.toUInt16.toUInt32.toInt32) else no) st
def am_x_aastore.{u} {α : Sort u} (nx : Nat → List Value → List Value → AH → α) (cl : Nat → Nat → Nat → List Value → Nat → List Value → List Value → AH → α) (rt : Option Value → AH → α) (no : α) (rk : Nat) (n : Nat) (ts : List Nat) (cv : Int32) (cj : Int64) (ls st : List Value) (h : AH) : α := am_air no (fun a x o r => if am_kd h a = 8 ∧ ¬ (x < 0 ∨ am_ln h a ≤ x.toNatClampNeg) then am_oe o (nx n ls r (am_sR h a x.toNatClampNeg none)) (fun b => if am_kd h b = 2 then nx n ls r (am_sR h a x.toNatClampNeg (some b)) else no) else no) st
def am_x_inv.{u} {α : Sort u} (nx : Nat → List Value → List Value → AH → α) (cl : Nat → Nat → Nat → List Value → Nat → List Value → List Value → AH → α) (rt : Option Value → AH → α) (no : α) (rk : Nat) (n : Nat) (ts : List Nat) (cv : Int32) (cj : Int64) (ls st : List Value) (h : AH) : α := am_inv nx cl no n ts ls st h
def am_x_ireturn.{u} {α : Sort u} (nx : Nat → List Value → List Value → AH → α) (cl : Nat → Nat → Nat → List Value → Nat → List Value → List Value → AH → α) (rt : Option Value → AH → α) (no : α) (rk : Nat) (n : Nat) (ts : List Nat) (cv : Int32) (cj : Int64) (ls st : List Value) (h : AH) : α := match st with
    | [.int x] => match rk with
      | 1 => rt (some (.int x)) h
      | 2 => if x = 0 ∨ x = 1 then rt (some (.int x)) h else no
      | _ => no
    | _ => no
def am_x_lreturn.{u} {α : Sort u} (nx : Nat → List Value → List Value → AH → α) (cl : Nat → Nat → Nat → List Value → Nat → List Value → List Value → AH → α) (rt : Option Value → AH → α) (no : α) (rk : Nat) (n : Nat) (ts : List Nat) (cv : Int32) (cj : Int64) (ls st : List Value) (h : AH) : α := match st with
    | [.long x] => match rk with
      | 3 => rt (some (.long x)) h
      | _ => no
    | _ => no
def am_x_areturn.{u} {α : Sort u} (nx : Nat → List Value → List Value → AH → α) (cl : Nat → Nat → Nat → List Value → Nat → List Value → List Value → AH → α) (rt : Option Value → AH → α) (no : α) (rk : Nat) (n : Nat) (ts : List Nat) (cv : Int32) (cj : Int64) (ls st : List Value) (h : AH) : α := match st with
    | [.ref a] => match rk with
      | 4 => rt (some (.ref a)) h
      | _ => no
    | _ => no
def am_x_return_.{u} {α : Sort u} (nx : Nat → List Value → List Value → AH → α) (cl : Nat → Nat → Nat → List Value → Nat → List Value → List Value → AH → α) (rt : Option Value → AH → α) (no : α) (rk : Nat) (n : Nat) (ts : List Nat) (cv : Int32) (cj : Int64) (ls st : List Value) (h : AH) : α := match st with
    | [] => match rk with
      | 0 => rt none h
      | _ => no
    | _ => no
def am_x_no.{u} {α : Sort u} (nx : Nat → List Value → List Value → AH → α) (cl : Nat → Nat → Nat → List Value → Nat → List Value → List Value → AH → α) (rt : Option Value → AH → α) (no : α) (rk : Nat) (n : Nat) (ts : List Nat) (cv : Int32) (cj : Int64) (ls st : List Value) (h : AH) : α := no
def am_sel.{u} {α : Sort u} (i : Instr) : (Nat → List Value → List Value → AH → α) → (Nat → Nat → Nat → List Value → Nat → List Value → List Value → AH → α) → (Option Value → AH → α) → α → Nat → Nat → List Nat → Int32 → Int64 → List Value → List Value → AH → α := match i with
  | .iconst _ => am_x_cI
  | .bipush _ => am_x_cI
  | .sipush _ => am_x_cI
  | .ldc _ => am_x_cI
  | .ldc2_w _ => am_x_cJ
  | .lconst _ => am_x_cJ
  | .aconst_null => am_x_aconst_null
  | .iload k => am_x_iload k
  | .iload_n k => am_x_iload k
  | .lload k => am_x_lload k
  | .lload_n k => am_x_lload k
  | .aload k => am_x_aload k
  | .aload_n k => am_x_aload k
  | .istore k => am_x_istore k
  | .istore_n k => am_x_istore k
  | .lstore k => am_x_lstore k
  | .lstore_n k => am_x_lstore k
  | .astore k => am_x_astore k
  | .astore_n k => am_x_astore k
  | .iinc k _ => am_x_iinc k
  | .iadd => am_x_iadd
  | .isub => am_x_isub
  | .imul => am_x_imul
  | .iand => am_x_iand
  | .ior => am_x_ior
  | .ixor => am_x_ixor
  | .idiv => am_x_idiv
  | .irem => am_x_irem
  | .ishl => am_x_ishl
  | .ishr => am_x_ishr
  | .ladd => am_x_ladd
  | .lsub => am_x_lsub
  | .lmul => am_x_lmul
  | .land => am_x_land
  | .lor => am_x_lor
  | .lxor => am_x_lxor
  | .ldiv => am_x_ldiv
  | .lrem => am_x_lrem
  | .lneg => am_x_lneg
  | .lshl => am_x_lshl
  | .lushr => am_x_lushr
  | .lcmp => am_x_lcmp
  | .i2l => am_x_i2l
  | .l2i => am_x_l2i
  | .i2c => am_x_i2c
  | .dup => am_x_dup
  | .dup2 => am_x_dup2
  | .ifCond .eq _ => am_x_ifCond_eq
  | .ifCond .ne _ => am_x_ifCond_ne
  | .ifCond .lt _ => am_x_ifCond_lt
  | .ifCond .ge _ => am_x_ifCond_ge
  | .ifCond .gt _ => am_x_ifCond_gt
  | .ifCond .le _ => am_x_ifCond_le
  | .if_icmp .eq _ => am_x_if_icmp_eq
  | .if_icmp .ne _ => am_x_if_icmp_ne
  | .if_icmp .lt _ => am_x_if_icmp_lt
  | .if_icmp .ge _ => am_x_if_icmp_ge
  | .if_icmp .gt _ => am_x_if_icmp_gt
  | .if_icmp .le _ => am_x_if_icmp_le
  | .ifnonnull _ => am_x_ifnonnull
  | .goto _ => am_x_goto
  | .tableswitch .. => am_x_tableswitch
  | .getfield _ => am_x_getfield
  | .putfield _ => am_x_putfield
  | .new _ => am_x_new
  | .newarray _ => am_x_newarray
  | .anewarray _ => am_x_anewarray
  | .arraylength => am_x_arraylength
  | .iaload => am_x_iaload
  | .laload => am_x_laload
  | .caload => am_x_caload
  | .aaload => am_x_aaload
  | .iastore => am_x_iastore
  | .lastore => am_x_lastore
  | .castore => am_x_castore
  | .aastore => am_x_aastore
  | .invokevirtual _ => am_x_inv
  | .invokespecial _ => am_x_inv
  | .invokestatic _ => am_x_inv
  | .ireturn => am_x_ireturn
  | .lreturn => am_x_lreturn
  | .areturn => am_x_areturn
  | .return_ => am_x_return_
  | _ => am_x_no
end ops
def am_exe.{u} {α : Sort u} (nx : Nat → List Value → List Value → AH → α) (cl : Nat → Nat → Nat → List Value → Nat → List Value → List Value → AH → α) (rt : Option Value → AH → α) (no : α) (rk : Nat) (i : Instr) (n : Nat) (ts : List Nat) (cv : Int32) (cj : Int64) (ls st : List Value) (h : AH) : α := am_sel i nx cl rt no rk n ts cv cj ls st h
def am_entry (nL : Nat) (as : List Value) : List Value := am_pad as ++ List.replicate (nL - (am_pad as).length) am_ph
def am_clr : List Nat → List Value → List Value
  | [], ls => ls
  | k :: r, ls => am_clr r (ls.set k am_ph)
def am_fg : List (Nat × List Nat) → Nat → List Value → List Value
  | [], _, ls => ls
  | q :: r, pc, ls => bif Nat.beq q.1 pc then am_clr q.2 ls else am_fg r pc ls
def am_bV (x : AR) (f : AH → AR) : AR := match x with
  | some (none, h) => f h
  | _ => none
def am_bI (x : AR) (f : Int32 → AH → AR) : AR := match x with
  | some (some (.int v), h) => f v h
  | _ => none
def am_bJ (x : AR) (f : Int64 → AH → AR) : AR := match x with
  | some (some (.long v), h) => f v h
  | _ => none
def am_bA (x : AR) (f : Nat → AH → AR) : AR := match x with
  | some (some (.ref v), h) => f v h
  | _ => none
/-- what a callee came to, and what comes of it -/
def am_bd (rk : Nat) (x : AR) (f : List Value → AH → AR) : AR := match rk with
  | 0 => am_bV x (fun h => f [] h)
  | 1 => am_bI x (fun v h => f [.int v] h)
  | 2 => am_bI x (fun v h => f [.int v] h)
  | 3 => am_bJ x (fun v h => f [.long v] h)
  | 4 => am_bA x (fun v h => f [.ref v] h)
  | _ => none
def am_runP (M : Nat → AMe) : Nat → Nat → Nat → List Value → List Value → AH → AR
  | 0, _, _, _, _, _ => none
  | n + 1, mi, pc, ls, st, h => match am_fetch (M mi).1 pc with
    | none => none
    | some q => am_exe (fun pc ls st h => am_runP M n mi pc (am_fg (M mi).2.2.2 pc ls) st h)
        (fun mi' rk nL as pc ls st h => am_bd rk (am_runP M n mi' 0 (am_entry nL as) [] h) fun vs h => am_runP M n mi pc (am_fg (M mi).2.2.2 pc ls) (vs ++ st) h)
        (fun v h => some (v, h)) none (M mi).2.2.1 q.2.1 q.2.2.1 q.2.2.2.1 q.2.2.2.2.1 q.2.2.2.2.2 ls st h
end
section
theorem am_i1_nat.{u, v} {α : Sort u} {β : Sort v} (f : α → β) (no : α) (g : Int32 → List Value → α) (st : List Value) : f (am_i1 no g st) = am_i1 (f no) (fun x r => f (g x r)) st := by
  unfold am_i1
  split <;> first | rfl | (split <;> rfl)
theorem am_i2_nat.{u, v} {α : Sort u} {β : Sort v} (f : α → β) (no : α) (g : Int32 → Int32 → List Value → α) (st : List Value) : f (am_i2 no g st) = am_i2 (f no) (fun x y r => f (g x y r)) st := by
  unfold am_i2
  split <;> first | rfl | (split <;> rfl)
theorem am_l1_nat.{u, v} {α : Sort u} {β : Sort v} (f : α → β) (no : α) (g : Int64 → List Value → α) (st : List Value) : f (am_l1 no g st) = am_l1 (f no) (fun x r => f (g x r)) st := by
  unfold am_l1
  split <;> first | rfl | (split <;> rfl)
theorem am_l2_nat.{u, v} {α : Sort u} {β : Sort v} (f : α → β) (no : α) (g : Int64 → Int64 → List Value → α) (st : List Value) : f (am_l2 no g st) = am_l2 (f no) (fun x y r => f (g x y r)) st := by
  unfold am_l2
  split <;> first | rfl | (split <;> rfl)
theorem am_li_nat.{u, v} {α : Sort u} {β : Sort v} (f : α → β) (no : α) (g : Int64 → Int32 → List Value → α) (st : List Value) : f (am_li no g st) = am_li (f no) (fun x y r => f (g x y r)) st := by
  unfold am_li
  split <;> first | rfl | (split <;> rfl)
theorem am_r1_nat.{u, v} {α : Sort u} {β : Sort v} (f : α → β) (no : α) (g : Nat → List Value → α) (st : List Value) : f (am_r1 no g st) = am_r1 (f no) (fun x r => f (g x r)) st := by
  unfold am_r1
  split <;> first | rfl | (split <;> rfl)
theorem am_o1_nat.{u, v} {α : Sort u} {β : Sort v} (f : α → β) (no : α) (g : Option Nat → List Value → α) (st : List Value) : f (am_o1 no g st) = am_o1 (f no) (fun x r => f (g x r)) st := by
  unfold am_o1
  split <;> first | rfl | (split <;> rfl)
theorem am_ai_nat.{u, v} {α : Sort u} {β : Sort v} (f : α → β) (no : α) (g : Nat → Int32 → List Value → α) (st : List Value) : f (am_ai no g st) = am_ai (f no) (fun a x r => f (g a x r)) st := by
  unfold am_ai
  split <;> first | rfl | (split <;> rfl)
theorem am_aii_nat.{u, v} {α : Sort u} {β : Sort v} (f : α → β) (no : α) (g : Nat → Int32 → Int32 → List Value → α) (st : List Value) : f (am_aii no g st) = am_aii (f no) (fun a x y r => f (g a x y r)) st := by
  unfold am_aii
  split <;> first | rfl | (split <;> rfl)
theorem am_ail_nat.{u, v} {α : Sort u} {β : Sort v} (f : α → β) (no : α) (g : Nat → Int32 → Int64 → List Value → α) (st : List Value) : f (am_ail no g st) = am_ail (f no) (fun a x y r => f (g a x y r)) st := by
  unfold am_ail
  split <;> first | rfl | (split <;> rfl)
theorem am_air_nat.{u, v} {α : Sort u} {β : Sort v} (f : α → β) (no : α) (g : Nat → Int32 → Option Nat → List Value → α) (st : List Value) : f (am_air no g st) = am_air (f no) (fun a x y r => f (g a x y r)) st := by
  unfold am_air
  split <;> first | rfl | (split <;> rfl)
theorem am_ri_nat.{u, v} {α : Sort u} {β : Sort v} (f : α → β) (no : α) (g : Nat → Int32 → List Value → α) (st : List Value) : f (am_ri no g st) = am_ri (f no) (fun a x r => f (g a x r)) st := by
  unfold am_ri
  split <;> first | rfl | (split <;> rfl)
theorem am_rr_nat.{u, v} {α : Sort u} {β : Sort v} (f : α → β) (no : α) (g : Nat → Option Nat → List Value → α) (st : List Value) : f (am_rr no g st) = am_rr (f no) (fun a x r => f (g a x r)) st := by
  unfold am_rr
  split <;> first | rfl | (split <;> rfl)
theorem am_v1_nat.{u, v} {α : Sort u} {β : Sort v} (f : α → β) (no : α) (g : Value → List Value → α) (st : List Value) : f (am_v1 no g st) = am_v1 (f no) (fun v r => f (g v r)) st := by
  unfold am_v1
  split <;> first | rfl | (split <;> rfl)
theorem am_v2_nat.{u, v} {α : Sort u} {β : Sort v} (f : α → β) (no : α) (g : Value → Value → List Value → α) (st : List Value) : f (am_v2 no g st) = am_v2 (f no) (fun v w r => f (g v w r)) st := by
  unfold am_v2
  split <;> first | rfl | (split <;> rfl)
theorem am_ldI_nat.{u, v} {α : Sort u} {β : Sort v} (f : α → β) (no : α) (g : Int32 → α) (o : Option Value) : f (am_ldI no g o) = am_ldI (f no) (fun x => f (g x)) o := by
  unfold am_ldI
  split <;> rfl
theorem am_ldJ_nat.{u, v} {α : Sort u} {β : Sort v} (f : α → β) (no : α) (g : Int64 → α) (o : Option Value) : f (am_ldJ no g o) = am_ldJ (f no) (fun x => f (g x)) o := by
  unfold am_ldJ
  split <;> rfl
theorem am_ldA_nat.{u, v} {α : Sort u} {β : Sort v} (f : α → β) (no : α) (g : Option Nat → α) (o : Option Value) : f (am_ldA no g o) = am_ldA (f no) (fun x => f (g x)) o := by
  unfold am_ldA
  split <;> rfl
theorem am_oe_nat.{u, v} {α : Sort u} {β : Sort v} (f : α → β) (o : Option Nat) (x : α) (g : Nat → α) : f (am_oe o x g) = am_oe o (f x) (fun b => f (g b)) := by
  unfold am_oe
  split <;> rfl
theorem am_sw_nat.{u, v} {α : Sort u} {β : Sort v} (f : α → β) (g : Nat → α) (x : Int32) (d : Nat) : ∀ (l : List Nat) (k : Nat), f (am_sw g x d k l) = am_sw (fun p => f (g p)) x d k l
  | [], k => rfl
  | t :: r, k => by
    unfold am_sw
    split
    · rfl
    · exact am_sw_nat f g x d r (k + 1)
theorem am_ite_nat.{u, v} {α : Sort u} {β : Sort v} (f : α → β) (c : Prop) [Decidable c] (a b : α) : f (if c then a else b) = if c then f a else f b := by split <;> rfl
theorem am_inv_nat.{u, v} {α : Sort u} {β : Sort v} (f : α → β) (nx : Nat → List Value → List Value → AH → α) (cl : Nat → Nat → Nat → List Value → Nat → List Value → List Value → AH → α) (no : α) (n : Nat) (ts : List Nat) (ls st : List Value) (h : AH) : f (am_inv nx cl no n ts ls st h) = am_inv (fun a b c d => f (nx a b c d)) (fun a b c d e g i j => f (cl a b c d e g i j)) (f no) n ts ls st h := by
  unfold am_inv
  split
  · split <;> simp only [am_ite_nat f]
  · split <;> simp only [am_ite_nat f]
  · split <;> simp only [am_ite_nat f]
  · split <;> simp only [am_ite_nat f]
  · rfl
set_option maxHeartbeats 4000000 in
theorem am_exe_nat.{u, v} {α : Sort u} {β : Sort v} (f : α → β) (nx : Nat → List Value → List Value → AH → α) (cl : Nat → Nat → Nat → List Value → Nat → List Value → List Value → AH → α) (rt : Option Value → AH → α) (no : α) (rk : Nat) (i : Instr) (n : Nat) (ts : List Nat) (cv : Int32) (cj : Int64) (ls st : List Value) (h : AH) : f (am_exe nx cl rt no rk i n ts cv cj ls st h) = am_exe (fun a b c d => f (nx a b c d)) (fun a b c d e g i j => f (cl a b c d e g i j)) (fun v h => f (rt v h)) (f no) rk i n ts cv cj ls st h := by
  cases i <;> dsimp only [am_exe, am_sel, am_x_cI, am_x_cJ, am_x_aconst_null, am_x_iload, am_x_lload, am_x_aload, am_x_istore, am_x_lstore, am_x_astore, am_x_iinc, am_x_iadd, am_x_isub, am_x_imul, am_x_iand, am_x_ior, am_x_ixor, am_x_idiv, am_x_irem, am_x_ishl, am_x_ishr, am_x_ladd, am_x_lsub, am_x_lmul, am_x_land, am_x_lor, am_x_lxor, am_x_ldiv, am_x_lrem, am_x_lneg, am_x_lshl, am_x_lushr, am_x_lcmp, am_x_i2l, am_x_l2i, am_x_i2c, am_x_dup, am_x_dup2, am_x_ifCond_eq, am_x_ifCond_ne, am_x_ifCond_lt, am_x_ifCond_ge, am_x_ifCond_gt, am_x_ifCond_le, am_x_if_icmp_eq, am_x_if_icmp_ne, am_x_if_icmp_lt, am_x_if_icmp_ge, am_x_if_icmp_gt, am_x_if_icmp_le, am_x_ifnonnull, am_x_goto, am_x_tableswitch, am_x_getfield, am_x_putfield, am_x_new, am_x_newarray, am_x_anewarray, am_x_arraylength, am_x_iaload, am_x_laload, am_x_caload, am_x_aaload, am_x_iastore, am_x_lastore, am_x_castore, am_x_aastore, am_x_inv, am_x_ireturn, am_x_lreturn, am_x_areturn, am_x_return_, am_x_no] <;> first
    | rfl
    | exact am_inv_nat f nx cl no n ts ls st h
    | (simp only [am_i1_nat f, am_i2_nat f, am_l1_nat f, am_l2_nat f, am_li_nat f, am_r1_nat f, am_o1_nat f, am_ai_nat f, am_aii_nat f, am_ail_nat f, am_air_nat f, am_ri_nat f, am_rr_nat f, am_v1_nat f, am_v2_nat f, am_ldI_nat f, am_ldJ_nat f, am_ldA_nat f, am_oe_nat f, am_sw_nat f, am_ite_nat f]; done)
    | (split <;> first | rfl | (split <;> first | rfl | (split <;> rfl)) | (simp only [am_i1_nat f, am_i2_nat f, am_l1_nat f, am_l2_nat f, am_li_nat f, am_r1_nat f, am_o1_nat f, am_ai_nat f, am_aii_nat f, am_ail_nat f, am_air_nat f, am_ri_nat f, am_rr_nat f, am_v1_nat f, am_v2_nat f, am_ldI_nat f, am_ldJ_nat f, am_ldA_nat f, am_oe_nat f, am_sw_nat f, am_ite_nat f]; done))
    | (rename_i c _; cases c <;> dsimp only [am_x_ifCond_eq, am_x_ifCond_ne, am_x_ifCond_lt, am_x_ifCond_ge, am_x_ifCond_gt, am_x_ifCond_le, am_x_if_icmp_eq, am_x_if_icmp_ne, am_x_if_icmp_lt, am_x_if_icmp_ge, am_x_if_icmp_gt, am_x_if_icmp_le, am_x_ifnonnull] <;> (split <;> first | rfl | (simp only [am_i1_nat f, am_i2_nat f, am_l1_nat f, am_l2_nat f, am_li_nat f, am_r1_nat f, am_o1_nat f, am_ai_nat f, am_aii_nat f, am_ail_nat f, am_air_nat f, am_ri_nat f, am_rr_nat f, am_v1_nat f, am_v2_nat f, am_ldI_nat f, am_ldJ_nat f, am_ldA_nat f, am_oe_nat f, am_sw_nat f, am_ite_nat f]; done)))
    | skip
end
section
/-! the run's own laws: it grows with its steps, its limit, the equation of the limit -/
def am_le (a b : AR) : Prop := ∀ r, a = some r → b = some r
theorem am_exe_mono {nx nx' : Nat → List Value → List Value → AH → AR} {cl cl' : Nat → Nat → Nat → List Value → Nat → List Value → List Value → AH → AR} {rt : Option Value → AH → AR} (hn : ∀ a b c d, am_le (nx a b c d) (nx' a b c d)) (hc : ∀ a b c d e g i j, am_le (cl a b c d e g i j) (cl' a b c d e g i j)) (rk : Nat) (i : Instr) (n : Nat) (ts : List Nat) (cv : Int32) (cj : Int64) (ls st : List Value) (h : AH) : am_le (am_exe nx cl rt none rk i n ts cv cj ls st h) (am_exe nx' cl' rt none rk i n ts cv cj ls st h) := by
  have e := am_exe_nat (fun p : AR × AR => p.1) (fun a b c d => (nx a b c d, nx' a b c d)) (fun a b c d e g i j => (cl a b c d e g i j, cl' a b c d e g i j)) (fun v h => (rt v h, rt v h)) (none, none) rk i n ts cv cj ls st h
  have e' := am_exe_nat (fun p : AR × AR => p.2) (fun a b c d => (nx a b c d, nx' a b c d)) (fun a b c d e g i j => (cl a b c d e g i j, cl' a b c d e g i j)) (fun v h => (rt v h, rt v h)) (none, none) rk i n ts cv cj ls st h
  dsimp only at e e'
  rw [← e, ← e']
  have key : ∀ (p : AR × AR), (∃ q : {p : AR × AR // am_le p.1 p.2}, q.1 = p) → am_le p.1 p.2 := fun p ⟨q, h⟩ => h ▸ q.2
  refine key _ ⟨am_exe (fun a b c d => ⟨(nx a b c d, nx' a b c d), hn a b c d⟩) (fun a b c d e g i j => ⟨(cl a b c d e g i j, cl' a b c d e g i j), hc a b c d e g i j⟩) (fun v h => ⟨(rt v h, rt v h), fun _ x => x⟩) ⟨(none, none), fun _ x => x⟩ rk i n ts cv cj ls st h, ?_⟩
  exact am_exe_nat (fun q : {p : AR × AR // am_le p.1 p.2} => q.1) _ _ _ _ rk i n ts cv cj ls st h
theorem am_bd_some {rk : Nat} {a : AR} {f : List Value → AH → AR} {r : Option Value × AH} (e : am_bd rk a f = some r) : ∃ x, a = some x ∧ f x.1.toList x.2 = some r ∧ ∀ f', am_bd rk (some x) f' = f' x.1.toList x.2 := by
  unfold am_bd at e
  split at e
  · unfold am_bV at e
    split at e
    · exact ⟨_, rfl, e, fun _ => rfl⟩
    · cases e
  · unfold am_bI at e
    split at e
    · exact ⟨_, rfl, e, fun _ => rfl⟩
    · cases e
  · unfold am_bI at e
    split at e
    · exact ⟨_, rfl, e, fun _ => rfl⟩
    · cases e
  · unfold am_bJ at e
    split at e
    · exact ⟨_, rfl, e, fun _ => rfl⟩
    · cases e
  · unfold am_bA at e
    split at e
    · exact ⟨_, rfl, e, fun _ => rfl⟩
    · cases e
  · cases e
theorem am_bind_mono {rk : Nat} {a a' : AR} {f f' : List Value → AH → AR} (h : am_le a a') (hf : ∀ x y, am_le (f x y) (f' x y)) : am_le (am_bd rk a f) (am_bd rk a' f') := by
  intro r hr
  obtain ⟨x, ha, e, k⟩ := am_bd_some hr
  rw [h x ha, k]
  exact hf _ _ r e
section run
variable {M : Nat → AMe}
theorem am_run_succ : ∀ (n mi pc : Nat) (ls st : List Value) (h : AH), am_le (am_runP M n mi pc ls st h) (am_runP M (n + 1) mi pc ls st h)
  | 0, mi, pc, ls, st, h => fun r hr => by cases hr
  | n + 1, mi, pc, ls, st, h => by
    unfold am_runP
    split
    · exact fun r hr => by cases hr
    · exact am_exe_mono (fun a b c d => am_run_succ n _ _ _ _ _) (fun a b c d e g i j => am_bind_mono (am_run_succ n _ _ _ _ _) (fun x y => am_run_succ n _ _ _ _ _)) _ _ _ _ _ _ _ _ _
theorem am_run_le {n k : Nat} (hk : n ≤ k) (mi pc : Nat) (ls st : List Value) (h : AH) : am_le (am_runP M n mi pc ls st h) (am_runP M k mi pc ls st h) := by
  obtain ⟨d, rfl⟩ := Nat.exists_eq_add_of_le hk
  induction d with
  | zero => exact fun r hr => hr
  | succ d ih => exact fun r hr => am_run_succ _ _ _ _ _ _ r (ih (Nat.le_add_right _ _) r hr)
/-- what the run comes to, with any number of steps -/
noncomputable def am_evP (M : Nat → AMe) (mi pc : Nat) (ls st : List Value) (h : AH) : AR := by
  classical
  exact if hx : ∃ n r, am_runP M n mi pc ls st h = some r then some (Classical.choose (Classical.choose_spec hx)) else none
theorem am_ev_iff {mi pc : Nat} {ls st : List Value} {h : AH} {r : Option Value × AH} : am_evP M mi pc ls st h = some r ↔ ∃ n, am_runP M n mi pc ls st h = some r := by
  unfold am_evP
  by_cases hx : ∃ n r, am_runP M n mi pc ls st h = some r
  · rw [dif_pos hx]
    have h1 := Classical.choose_spec (Classical.choose_spec hx)
    constructor
    · intro e
      cases e
      exact ⟨_, h1⟩
    · rintro ⟨n, hn⟩
      have a := am_run_le (Nat.le_max_left n (Classical.choose hx)) mi pc ls st h r hn
      have b := am_run_le (Nat.le_max_right n (Classical.choose hx)) mi pc ls st h _ h1
      rw [a] at b
      exact b.symm
  · rw [dif_neg hx]
    constructor
    · intro e; cases e
    · rintro ⟨n, hn⟩; exact absurd ⟨n, r, hn⟩ hx
theorem am_run_ev (n mi pc : Nat) (ls st : List Value) (h : AH) : am_le (am_runP M n mi pc ls st h) (am_evP M mi pc ls st h) := fun r hr => am_ev_iff.mpr ⟨n, hr⟩
/-- one step, and what it comes to then -/
noncomputable def am_nextP (M : Nat → AMe) (mi : Nat) (q : AE) (ls st : List Value) (h : AH) : AR :=
  am_exe (fun pc ls st h => am_evP M mi pc (am_fg (M mi).2.2.2 pc ls) st h)
    (fun mi' rk nL as pc ls st h => am_bd rk (am_evP M mi' 0 (am_entry nL as) [] h) fun vs h => am_evP M mi pc (am_fg (M mi).2.2.2 pc ls) (vs ++ st) h)
    (fun v h => some (v, h)) none (M mi).2.2.1 q.2.1 q.2.2.1 q.2.2.2.1 q.2.2.2.2.1 q.2.2.2.2.2 ls st h
theorem am_next_run {mi : Nat} {q : AE} {ls st : List Value} {h : AH} {r : Option Value × AH} (e : am_nextP M mi q ls st h = some r) : ∃ n, am_exe (fun pc ls st h => am_runP M n mi pc (am_fg (M mi).2.2.2 pc ls) st h)
    (fun mi' rk nL as pc ls st h => am_bd rk (am_runP M n mi' 0 (am_entry nL as) [] h) fun vs h => am_runP M n mi pc (am_fg (M mi).2.2.2 pc ls) (vs ++ st) h)
    (fun v h => some (v, h)) none (M mi).2.2.1 q.2.1 q.2.2.1 q.2.2.2.1 q.2.2.2.2.1 q.2.2.2.2.2 ls st h = some r := by
  -- pairs of a limit and the sequence that comes to it
  have key : ∀ (p : AR × (Nat → AR)), (∃ q : {p : AR × (Nat → AR) // ∀ r, p.1 = some r → ∃ n, p.2 n = some r}, q.1 = p) → p.1 = some r → ∃ n, p.2 n = some r := fun p ⟨q, h⟩ => h ▸ q.2 r
  have e1 := am_exe_nat (fun p : AR × (Nat → AR) => p.1) (fun pc ls st h => (am_evP M mi pc (am_fg (M mi).2.2.2 pc ls) st h, fun n => am_runP M n mi pc (am_fg (M mi).2.2.2 pc ls) st h))
    (fun mi' rk nL as pc ls st h => (am_bd rk (am_evP M mi' 0 (am_entry nL as) [] h) fun vs h => am_evP M mi pc (am_fg (M mi).2.2.2 pc ls) (vs ++ st) h, fun n => am_bd rk (am_runP M n mi' 0 (am_entry nL as) [] h) fun vs h => am_runP M n mi pc (am_fg (M mi).2.2.2 pc ls) (vs ++ st) h))
    (fun v h => (some (v, h), fun _ => some (v, h))) (none, fun _ => none) (M mi).2.2.1 q.2.1 q.2.2.1 q.2.2.2.1 q.2.2.2.2.1 q.2.2.2.2.2 ls st h
  have e2 : ∀ n, _ := fun n => am_exe_nat (fun p : AR × (Nat → AR) => p.2 n) (fun pc ls st h => (am_evP M mi pc (am_fg (M mi).2.2.2 pc ls) st h, fun n => am_runP M n mi pc (am_fg (M mi).2.2.2 pc ls) st h))
    (fun mi' rk nL as pc ls st h => (am_bd rk (am_evP M mi' 0 (am_entry nL as) [] h) fun vs h => am_evP M mi pc (am_fg (M mi).2.2.2 pc ls) (vs ++ st) h, fun n => am_bd rk (am_runP M n mi' 0 (am_entry nL as) [] h) fun vs h => am_runP M n mi pc (am_fg (M mi).2.2.2 pc ls) (vs ++ st) h))
    (fun v h => (some (v, h), fun _ => some (v, h))) (none, fun _ => none) (M mi).2.2.1 q.2.1 q.2.2.1 q.2.2.2.1 q.2.2.2.2.1 q.2.2.2.2.2 ls st h
  dsimp only at e1 e2
  unfold am_nextP at e
  rw [← e1] at e
  obtain ⟨n, hn⟩ := key _ ⟨am_exe (fun pc ls st h => ⟨(am_evP M mi pc (am_fg (M mi).2.2.2 pc ls) st h, fun n => am_runP M n mi pc (am_fg (M mi).2.2.2 pc ls) st h), fun r hr => am_ev_iff.mp hr⟩)
    (fun mi' rk nL as pc ls st h => ⟨(am_bd rk (am_evP M mi' 0 (am_entry nL as) [] h) fun vs h => am_evP M mi pc (am_fg (M mi).2.2.2 pc ls) (vs ++ st) h, fun n => am_bd rk (am_runP M n mi' 0 (am_entry nL as) [] h) fun vs h => am_runP M n mi pc (am_fg (M mi).2.2.2 pc ls) (vs ++ st) h), fun r hr => by
      dsimp only at hr ⊢
      obtain ⟨x, ha, e, k⟩ := am_bd_some hr
      obtain ⟨n1, h1⟩ := am_ev_iff.mp ha
      obtain ⟨n2, h2⟩ := am_ev_iff.mp e
      refine ⟨max n1 n2, ?_⟩
      rw [am_run_le (Nat.le_max_left n1 n2) _ _ _ _ _ _ h1, k]
      exact am_run_le (Nat.le_max_right n1 n2) _ _ _ _ _ _ h2⟩)
    (fun v h => ⟨(some (v, h), fun _ => some (v, h)), fun r hr => ⟨0, hr⟩⟩) ⟨(none, fun _ => none), fun r hr => by cases hr⟩ (M mi).2.2.1 q.2.1 q.2.2.1 q.2.2.2.1 q.2.2.2.2.1 q.2.2.2.2.2 ls st h, am_exe_nat (fun q : {p : AR × (Nat → AR) // ∀ r, p.1 = some r → ∃ n, p.2 n = some r} => q.1) _ _ _ _ _ _ _ _ _ _ _ _ _⟩ e
  exact ⟨n, (e2 n) ▸ hn⟩
/-- THE EQUATION: what a frame comes to is one step of it, and what that comes to -/
theorem am_ev_eq (mi pc : Nat) (ls st : List Value) (h : AH) : am_evP M mi pc ls st h = match am_fetch (M mi).1 pc with
    | none => none
    | some q => am_nextP M mi q ls st h := by
  have hsome : ∀ r, am_evP M mi pc ls st h = some r ↔ (match am_fetch (M mi).1 pc with
    | none => none
    | some q => am_nextP M mi q ls st h) = some r := by
    intro r
    constructor
    · intro e
      obtain ⟨n, hn⟩ := am_ev_iff.mp e
      cases n with
      | zero => cases hn
      | succ n =>
        unfold am_runP at hn
        split at hn
        · cases hn
        · rename_i q hq
          rw [hq]
          exact am_exe_mono (fun a b c d => am_run_ev n _ _ _ _ _) (fun a b c d e g i j => am_bind_mono (am_run_ev n _ _ _ _ _) (fun x y => am_run_ev n _ _ _ _ _)) _ _ _ _ _ _ _ _ _ r hn
    · intro e
      split at e
      · cases e
      · rename_i q hq
        obtain ⟨n, hn⟩ := am_next_run e
        refine am_ev_iff.mpr ⟨n + 1, ?_⟩
        unfold am_runP
        rw [hq]
        exact hn
  cases h1 : am_evP M mi pc ls st h with
  | none =>
    cases h2 : (match am_fetch (M mi).1 pc with
    | none => none
    | some q => am_nextP M mi q ls st h) with
    | none => rfl
    | some r => exact absurd ((hsome r).mpr h2) (by rw [h1]; exact fun z => by cases z)
  | some r => exact ((hsome r).mp h1).symm
/-- what a frame comes to, its next k steps laid open, up to the places in sp -/
noncomputable def am_ctP (M : Nat → AMe) (mi : Nat) (cd : List AE) (rk : Nat) (fg : List (Nat × List Nat)) (sp : List Nat) : Nat → Nat → List Value → List Value → AH → AR
  | 0, pc, ls, st, h => am_evP M mi pc ls st h
  | k + 1, pc, ls, st, h => match am_fetch cd pc with
    | none => none
    | some q => am_exe (fun pc ls st h => bif sp.any (fun z => Nat.beq z pc) then am_evP M mi pc (am_fg fg pc ls) st h else am_ctP M mi cd rk fg sp k pc (am_fg fg pc ls) st h)
      (fun mi' rk' nL as pc ls st h => am_bd rk' (am_evP M mi' 0 (am_entry nL as) [] h) fun vs h => bif sp.any (fun z => Nat.beq z pc) then am_evP M mi pc (am_fg fg pc ls) (vs ++ st) h else am_ctP M mi cd rk fg sp k pc (am_fg fg pc ls) (vs ++ st) h)
      (fun v h => some (v, h)) none rk q.2.1 q.2.2.1 q.2.2.2.1 q.2.2.2.2.1 q.2.2.2.2.2 ls st h
theorem am_ct_eq {mi : Nat} {cd : List AE} {nL rk : Nat} {fg : List (Nat × List Nat)} (hM : M mi = (cd, nL, rk, fg)) (sp : List Nat) : ∀ (k pc : Nat) (ls st : List Value) (h : AH), am_evP M mi pc ls st h = am_ctP M mi cd rk fg sp k pc ls st h
  | 0, pc, ls, st, h => rfl
  | k + 1, pc, ls, st, h => by
    rw [am_ev_eq, hM]
    unfold am_ctP am_nextP
    simp only [hM]
    have e : ∀ (pc : Nat) (ls st : List Value) (h : AH), (bif sp.any (fun z => Nat.beq z pc) then am_evP M mi pc ls st h else am_ctP M mi cd rk fg sp k pc ls st h) = am_evP M mi pc ls st h := by
      intro pc ls st h
      rw [← am_ct_eq hM sp k pc ls st h]
      cases sp.any (fun z => Nat.beq z pc) <;> rfl
    have e2 : ∀ (rk' : Nat) (x : AR) (pc : Nat) (ls st : List Value), (am_bd rk' x fun vs h => bif sp.any (fun z => Nat.beq z pc) then am_evP M mi pc (am_fg fg pc ls) (vs ++ st) h else am_ctP M mi cd rk fg sp k pc (am_fg fg pc ls) (vs ++ st) h) = am_bd rk' x fun vs h => am_evP M mi pc (am_fg fg pc ls) (vs ++ st) h := by
      intro rk' x pc ls st
      exact congrArg (am_bd rk' x) (funext fun vs => funext fun h => e pc _ _ h)
    have en : (fun (pc : Nat) (ls st : List Value) (h : AH) => bif sp.any (fun z => Nat.beq z pc) then am_evP M mi pc (am_fg fg pc ls) st h else am_ctP M mi cd rk fg sp k pc (am_fg fg pc ls) st h) = fun pc ls st h => am_evP M mi pc (am_fg fg pc ls) st h := by
      funext pc ls st h
      exact e pc _ st h
    have ec : (fun (mi' rk' nL : Nat) (as : List Value) (pc : Nat) (ls st : List Value) (h : AH) => am_bd rk' (am_evP M mi' 0 (am_entry nL as) [] h) fun vs h => bif sp.any (fun z => Nat.beq z pc) then am_evP M mi pc (am_fg fg pc ls) (vs ++ st) h else am_ctP M mi cd rk fg sp k pc (am_fg fg pc ls) (vs ++ st) h) = fun mi' rk' nL as pc ls st h => am_bd rk' (am_evP M mi' 0 (am_entry nL as) [] h) fun vs h => am_evP M mi pc (am_fg fg pc ls) (vs ++ st) h := by
      funext mi' rk' nL as pc ls st h
      exact e2 rk' _ pc ls st
    rw [en, ec]
end run
/-! the same, walking on from instruction to instruction without a search where nothing jumps -/
def am_drop : List AE → Nat → List AE
  | [], _ => []
  | q :: r, pc => bif Nat.beq q.1 pc then q :: r else am_drop r pc
def am_hd (r : List AE) (pc : Nat) : Bool := match r with
  | [] => false
  | q :: _ => Nat.beq q.1 pc
def am_srt : List AE → Nat → Bool
  | [], _ => true
  | q :: r, k => Nat.ble k q.1 && am_srt r (q.1 + 1)
theorem am_srt_hd : ∀ (p : List AE) (k : Nat) {r : List AE} {pc : Nat}, am_srt (p ++ r) k = true → am_hd r pc = true → k ≤ pc ∧ am_drop (p ++ r) pc = r
  | [], k, r, pc, h, hd => by
    cases r with
    | nil => cases hd
    | cons q r =>
      have e : q.1 = pc := Nat.eq_of_beq_eq_true hd
      simp only [List.nil_append, am_srt, Bool.and_eq_true] at h
      refine ⟨e ▸ Nat.le_of_ble_eq_true h.1, ?_⟩
      show (bif Nat.beq q.1 pc then q :: r else am_drop r pc) = q :: r
      rw [show Nat.beq q.1 pc = true from hd]
      rfl
  | q :: p, k, r, pc, h, hd => by
    simp only [List.cons_append, am_srt, Bool.and_eq_true] at h
    obtain ⟨h1, h2⟩ := am_srt_hd p (q.1 + 1) h.2 hd
    have hk := Nat.le_of_ble_eq_true h.1
    refine ⟨by omega, ?_⟩
    show (bif Nat.beq q.1 pc then q :: (p ++ r) else am_drop (p ++ r) pc) = r
    have : Nat.beq q.1 pc = false := by
      cases hb : Nat.beq q.1 pc with
      | false => rfl
      | true => have := Nat.eq_of_beq_eq_true hb; omega
    rw [this]
    exact h2
theorem am_fetch_drop : ∀ (cd : List AE) (pc : Nat), am_fetch cd pc = (am_drop cd pc).head?
  | [], pc => rfl
  | q :: r, pc => by
    unfold am_fetch am_drop
    cases Nat.beq q.1 pc with
    | true => rfl
    | false => exact am_fetch_drop r pc
theorem am_drop_suf : ∀ (cd : List AE) (pc : Nat), ∃ p, cd = p ++ am_drop cd pc
  | [], pc => ⟨[], rfl⟩
  | q :: r, pc => by
    unfold am_drop
    cases Nat.beq q.1 pc with
    | true => exact ⟨[], rfl⟩
    | false =>
      obtain ⟨p, h⟩ := am_drop_suf r pc
      exact ⟨q :: p, congrArg (q :: ·) h⟩
theorem am_fg_no (sp : List Nat) {pc : Nat} {ls : List Value} : ∀ (fg : List (Nat × List Nat)), fg.all (fun q => sp.any (fun z => Nat.beq z q.1)) = true → sp.any (fun z => Nat.beq z pc) = false → am_fg fg pc ls = ls
  | [], _, _ => rfl
  | q :: r, h, hp => by
    simp only [List.all_cons, Bool.and_eq_true] at h
    unfold am_fg
    cases hq : Nat.beq q.1 pc with
    | false => exact am_fg_no sp r h.2 hp
    | true =>
      rw [Nat.eq_of_beq_eq_true hq, hp] at h
      cases h.1
section run2
variable {M : Nat → AMe}
noncomputable def am_c2P (M : Nat → AMe) (mi : Nat) (cd : List AE) (rk : Nat) (fg : List (Nat × List Nat)) (sp : List Nat) : Nat → List AE → Nat → List Value → List Value → AH → AR
  | 0, _, pc, ls, st, h => am_evP M mi pc ls st h
  | _ + 1, [], _, _, _, _ => none
  | k + 1, q :: r, _, ls, st, h => am_exe (fun pc ls st h => bif sp.any (fun z => Nat.beq z pc) then am_evP M mi pc (am_fg fg pc ls) st h else bif am_hd r pc then am_c2P M mi cd rk fg sp k r pc ls st h else am_c2P M mi cd rk fg sp k (am_drop cd pc) pc ls st h)
      (fun mi' rk' nL as pc ls st h => am_bd rk' (am_evP M mi' 0 (am_entry nL as) [] h) fun vs h => bif sp.any (fun z => Nat.beq z pc) then am_evP M mi pc (am_fg fg pc ls) (vs ++ st) h else bif am_hd r pc then am_c2P M mi cd rk fg sp k r pc ls (vs ++ st) h else am_c2P M mi cd rk fg sp k (am_drop cd pc) pc ls (vs ++ st) h)
      (fun v h => some (v, h)) none rk q.2.1 q.2.2.1 q.2.2.2.1 q.2.2.2.2.1 q.2.2.2.2.2 ls st h
theorem am_c2_eq {mi : Nat} {cd : List AE} {nL rk : Nat} {fg : List (Nat × List Nat)} (hM : M mi = (cd, nL, rk, fg)) (hs : am_srt cd 0 = true) (sp : List Nat) (hf : fg.all (fun q => sp.any (fun z => Nat.beq z q.1)) = true) : ∀ (k pc : Nat) (ls st : List Value) (h : AH), am_evP M mi pc ls st h = am_c2P M mi cd rk fg sp k (am_drop cd pc) pc ls st h
  | 0, pc, ls, st, h => rfl
  | k + 1, pc, ls, st, h => by
    rw [am_ev_eq, hM]
    dsimp only
    rw [am_fetch_drop]
    obtain ⟨p, hp⟩ := am_drop_suf cd pc
    cases hd : am_drop cd pc with
    | nil => rfl
    | cons q r =>
      have e : ∀ (pc : Nat) (ls st : List Value) (h : AH), (bif sp.any (fun z => Nat.beq z pc) then am_evP M mi pc (am_fg fg pc ls) st h else bif am_hd r pc then am_c2P M mi cd rk fg sp k r pc ls st h else am_c2P M mi cd rk fg sp k (am_drop cd pc) pc ls st h) = am_evP M mi pc (am_fg fg pc ls) st h := by
        intro pc2 ls st h
        cases hsp : sp.any (fun z => Nat.beq z pc2) with
        | true => rfl
        | false =>
          rw [am_fg_no sp fg hf hsp]
          show (bif am_hd r pc2 then am_c2P M mi cd rk fg sp k r pc2 ls st h else am_c2P M mi cd rk fg sp k (am_drop cd pc2) pc2 ls st h) = _
          cases hh : am_hd r pc2 with
          | false => exact (am_c2_eq hM hs sp hf k pc2 ls st h).symm
          | true =>
            have h2 : am_drop cd pc2 = r := by
              have hc : cd = (p ++ [q]) ++ r := by rw [List.append_assoc, List.singleton_append, ← hd]; exact hp
              have := (am_srt_hd (p ++ [q]) 0 (hc ▸ hs) hh).2
              rw [← hc] at this
              exact this
            show am_c2P M mi cd rk fg sp k r pc2 ls st h = _
            rw [← h2]
            exact (am_c2_eq hM hs sp hf k pc2 ls st h).symm
      have en : (fun (pc : Nat) (ls st : List Value) (h : AH) => bif sp.any (fun z => Nat.beq z pc) then am_evP M mi pc (am_fg fg pc ls) st h else bif am_hd r pc then am_c2P M mi cd rk fg sp k r pc ls st h else am_c2P M mi cd rk fg sp k (am_drop cd pc) pc ls st h) = fun pc ls st h => am_evP M mi pc (am_fg fg pc ls) st h := by
        funext pc ls st h
        exact e pc ls st h
      have ec : (fun (mi' rk' nL : Nat) (as : List Value) (pc : Nat) (ls st : List Value) (h : AH) => am_bd rk' (am_evP M mi' 0 (am_entry nL as) [] h) fun vs h => bif sp.any (fun z => Nat.beq z pc) then am_evP M mi pc (am_fg fg pc ls) (vs ++ st) h else bif am_hd r pc then am_c2P M mi cd rk fg sp k r pc ls (vs ++ st) h else am_c2P M mi cd rk fg sp k (am_drop cd pc) pc ls (vs ++ st) h) = fun mi' rk' nL as pc ls st h => am_bd rk' (am_evP M mi' 0 (am_entry nL as) [] h) fun vs h => am_evP M mi pc (am_fg fg pc ls) (vs ++ st) h := by
        funext mi' rk' nL as pc ls st h
        exact congrArg (am_bd rk' _) (funext fun vs => funext fun h => e pc ls _ h)
      show am_nextP M mi q ls st h = _
      unfold am_nextP am_c2P
      rw [en, ec, hM]
end run2
end
section
/-! the code of each method for the small machine: place, instruction, next place, numbers, constants; printed by program out of the decode rows of this claim -/
def am_c0 : List AE := [(0, .aload_n 0, 1, [], 0, 0), (1, .invokespecial 3, 4, [2], 0, 0), (4, .aload_n 0, 5, [], 0, 0), (5, .iconst 0, 6, [], 0, 0), (6, .putfield 9, 9, [0, 0, 0], 0, 0), (9, .aload_n 0, 10, [], 0, 0), (10, .iconst 0, 11, [], 0, 0), (11, .putfield 15, 14, [0, 1, 0], 0, 0), (14, .aload_n 0, 15, [], 0, 0), (15, .sipush 768, 18, [], 768, 0), (18, .newarray .long, 20, [6], 0, 0), (20, .putfield 18, 23, [0, 2, 1], 0, 0), (23, .aload_n 0, 24, [], 0, 0), (24, .sipush 768, 27, [], 768, 0), (27, .newarray .long, 29, [6], 0, 0), (29, .putfield 22, 32, [0, 3, 1], 0, 0), (32, .aload_n 0, 33, [], 0, 0), (33, .sipush 128, 36, [], 128, 0), (36, .newarray .int, 38, [5], 0, 0), (38, .putfield 25, 41, [0, 4, 1], 0, 0), (41, .aload_n 0, 42, [], 0, 0), (42, .sipush 128, 45, [], 128, 0), (45, .newarray .int, 47, [5], 0, 0), (47, .putfield 29, 50, [0, 5, 1], 0, 0), (50, .aload_n 0, 51, [], 0, 0), (51, .sipush 128, 54, [], 128, 0), (54, .newarray .long, 56, [6], 0, 0), (56, .putfield 32, 59, [0, 6, 1], 0, 0), (59, .aload_n 0, 60, [], 0, 0), (60, .sipush 128, 63, [], 128, 0), (63, .newarray .long, 65, [6], 0, 0), (65, .putfield 35, 68, [0, 7, 1], 0, 0), (68, .aload_n 0, 69, [], 0, 0), (69, .bipush 6, 71, [], 6, 0), (71, .newarray .int, 73, [5], 0, 0), (73, .putfield 38, 76, [0, 8, 1], 0, 0), (76, .aload_n 0, 77, [], 0, 0), (77, .iconst 0, 78, [], 0, 0), (78, .putfield 41, 81, [0, 9, 0], 0, 0), (81, .aload_n 0, 82, [], 0, 0), (82, .bipush 12, 84, [], 12, 0), (84, .newarray .int, 86, [5], 0, 0), (86, .putfield 44, 89, [0, 10, 1], 0, 0), (89, .return_, 90, [], 0, 0)]
def am_c1 : List AE := [(0, .aload_n 1, 1, [], 0, 0), (1, .aload_n 0, 2, [], 0, 0), (2, .getfield 41, 5, [0, 9, 0], 0, 0), (5, .aload_n 0, 6, [], 0, 0), (6, .getfield 44, 9, [0, 10, 1], 0, 0), (9, .invokevirtual 47, 12, [43, 2, 0, 2, 4, 2], 0, 0), (12, .ifCond .eq 5, 15, [17], 0, 0), (15, .aload_n 0, 16, [], 0, 0), (16, .areturn, 17, [], 0, 0), (17, .aload_n 0, 18, [], 0, 0), (18, .aload_n 1, 19, [], 0, 0), (19, .invokevirtual 53, 22, [44, 0, 0, 1, 1, 2], 0, 0), (22, .invokevirtual 57, 25, [12, 1, 0, 0, 6, 0], 0, 0), (25, .iconst 0, 26, [], 0, 0), (26, .istore_n 2, 27, [], 0, 0), (27, .iload_n 2, 28, [], 0, 0), (28, .aload_n 1, 29, [], 0, 0), (29, .invokevirtual 61, 32, [51, 0, 0, 1, 1, 2], 0, 0), (32, .if_icmp .ge 15, 35, [47], 0, 0), (35, .aload_n 0, 36, [], 0, 0), (36, .aload_n 1, 37, [], 0, 0), (37, .iload_n 2, 38, [], 0, 0), (38, .invokevirtual 64, 41, [13, 2, 0, 0, 5, 0], 0, 0), (41, .iinc 2 1, 44, [], 1, 0), (44, .goto (-17), 47, [27], 0, 0), (47, .aload_n 0, 48, [], 0, 0), (48, .invokevirtual 68, 51, [24, 0, 0, 0, 5, 0], 0, 0), (51, .aload_n 0, 52, [], 0, 0), (52, .invokevirtual 71, 55, [25, 0, 0, 0, 3, 0], 0, 0), (55, .aload_n 0, 56, [], 0, 0), (56, .aload_n 1, 57, [], 0, 0), (57, .getfield 74, 60, [2, 0, 0], 0, 0), (60, .putfield 41, 63, [0, 9, 0], 0, 0), (63, .aload_n 1, 64, [], 0, 0), (64, .getfield 77, 67, [2, 2, 1], 0, 0), (67, .iconst 0, 68, [], 0, 0), (68, .aload_n 0, 69, [], 0, 0), (69, .getfield 44, 72, [0, 10, 1], 0, 0), (72, .iconst 0, 73, [], 0, 0), (73, .bipush 12, 75, [], 12, 0), (75, .invokestatic 80, 78, [3, 0], 0, 0), (78, .aload_n 0, 79, [], 0, 0), (79, .areturn, 80, [], 0, 0)]
def am_c2 : List AE := [(0, .iload_n 1, 1, [], 0, 0), (1, .ifCond .lt 15, 4, [16], 0, 0), (4, .iload_n 1, 5, [], 0, 0), (5, .aload_n 0, 6, [], 0, 0), (6, .getfield 9, 9, [0, 0, 0], 0, 0), (9, .if_icmp .ge 7, 12, [16], 0, 0), (12, .iconst 1, 13, [], 1, 0), (13, .goto 4, 16, [17], 0, 0), (16, .iconst 0, 17, [], 0, 0), (17, .ireturn, 18, [], 0, 0)]
def am_c3 : List AE := [(0, .iload_n 1, 1, [], 0, 0), (1, .bipush 6, 3, [], 6, 0), (3, .imul, 4, [], 0, 0), (4, .iload_n 2, 5, [], 0, 0), (5, .iadd, 6, [], 0, 0), (6, .istore_n 3, 7, [], 0, 0), (7, .iload_n 1, 8, [], 0, 0), (8, .ifCond .lt 30, 11, [38], 0, 0), (11, .iload_n 1, 12, [], 0, 0), (12, .aload_n 0, 13, [], 0, 0), (13, .getfield 9, 16, [0, 0, 0], 0, 0), (16, .if_icmp .ge 22, 19, [38], 0, 0), (19, .iload_n 2, 20, [], 0, 0), (20, .ifCond .lt 18, 23, [38], 0, 0), (23, .iload_n 2, 24, [], 0, 0), (24, .bipush 6, 26, [], 6, 0), (26, .if_icmp .ge 12, 29, [38], 0, 0), (29, .iload_n 3, 30, [], 0, 0), (30, .aload_n 0, 31, [], 0, 0), (31, .getfield 18, 34, [0, 2, 1], 0, 0), (34, .arraylength, 35, [], 0, 0), (35, .if_icmp .lt 5, 38, [40], 0, 0), (38, .lconst 0, 39, [], 0, 0), (39, .lreturn, 40, [], 0, 0), (40, .aload_n 0, 41, [], 0, 0), (41, .getfield 18, 44, [0, 2, 1], 0, 0), (44, .iload_n 3, 45, [], 0, 0), (45, .laload, 46, [], 0, 0), (46, .lreturn, 47, [], 0, 0)]
def am_c4 : List AE := [(0, .iload_n 1, 1, [], 0, 0), (1, .ifCond .lt 12, 4, [13], 0, 0), (4, .iload_n 1, 5, [], 0, 0), (5, .aload_n 0, 6, [], 0, 0), (6, .getfield 35, 9, [0, 7, 1], 0, 0), (9, .arraylength, 10, [], 0, 0), (10, .if_icmp .lt 5, 13, [15], 0, 0), (13, .lconst 0, 14, [], 0, 0), (14, .lreturn, 15, [], 0, 0), (15, .aload_n 0, 16, [], 0, 0), (16, .getfield 35, 19, [0, 7, 1], 0, 0), (19, .iload_n 1, 20, [], 0, 0), (20, .laload, 21, [], 0, 0), (21, .lreturn, 22, [], 0, 0)]
def am_c5 : List AE := [(0, .iconst 0, 1, [], 0, 0), (1, .istore_n 2, 2, [], 0, 0), (2, .iconst 0, 3, [], 0, 0), (3, .istore_n 3, 4, [], 0, 0), (4, .iload_n 3, 5, [], 0, 0), (5, .bipush 6, 7, [], 6, 0), (7, .if_icmp .ge 26, 10, [33], 0, 0), (10, .aload_n 0, 11, [], 0, 0), (11, .iload_n 1, 12, [], 0, 0), (12, .iload_n 3, 13, [], 0, 0), (13, .invokevirtual 86, 16, [3, 2, 0, 3, 4, 0], 0, 0), (16, .lconst 0, 17, [], 0, 0), (17, .lcmp, 18, [], 0, 0), (18, .ifCond .le 9, 21, [27], 0, 0), (21, .iload_n 2, 22, [], 0, 0), (22, .iconst 1, 23, [], 1, 0), (23, .iload_n 3, 24, [], 0, 0), (24, .ishl, 25, [], 0, 0), (25, .ior, 26, [], 0, 0), (26, .istore_n 2, 27, [], 0, 0), (27, .iinc 3 1, 30, [], 1, 0), (30, .goto (-26), 33, [4], 0, 0), (33, .iload_n 2, 34, [], 0, 0), (34, .ireturn, 35, [], 0, 0)]
def am_c6 : List AE := [(0, .aload_n 0, 1, [], 0, 0), (1, .iload_n 1, 2, [], 0, 0), (2, .invokevirtual 90, 5, [10, 1, 0, 1, 2, 0], 0, 0), (5, .bipush 6, 7, [], 6, 0), (7, .ishr, 8, [], 0, 0), (8, .ireturn, 9, [], 0, 0)]
def am_c7 : List AE := [(0, .iconst 0, 1, [], 0, 0), (1, .istore_n 1, 2, [], 0, 0), (2, .iconst 0, 3, [], 0, 0), (3, .istore_n 2, 4, [], 0, 0), (4, .iload_n 2, 5, [], 0, 0), (5, .aload_n 0, 6, [], 0, 0), (6, .getfield 9, 9, [0, 0, 0], 0, 0), (9, .if_icmp .ge 17, 12, [26], 0, 0), (12, .iload_n 1, 13, [], 0, 0), (13, .aload_n 0, 14, [], 0, 0), (14, .iload_n 2, 15, [], 0, 0), (15, .invokevirtual 94, 18, [5, 1, 0, 1, 4, 0], 0, 0), (18, .ior, 19, [], 0, 0), (19, .istore_n 1, 20, [], 0, 0), (20, .iinc 2 1, 23, [], 1, 0), (23, .goto (-19), 26, [4], 0, 0), (26, .iload_n 1, 27, [], 0, 0), (27, .ireturn, 28, [], 0, 0)]
def am_c8 : List AE := [(0, .lconst 0, 1, [], 0, 0), (1, .lstore 4, 3, [], 0, 0), (3, .iconst 0, 4, [], 0, 0), (4, .istore 6, 6, [], 0, 0), (6, .iload 6, 8, [], 0, 0), (8, .aload_n 1, 9, [], 0, 0), (9, .invokevirtual 53, 12, [44, 0, 0, 1, 1, 2], 0, 0), (12, .if_icmp .ge 30, 15, [42], 0, 0), (15, .lload 4, 17, [], 0, 0), (17, .aload_n 0, 18, [], 0, 0), (18, .iload_n 2, 19, [], 0, 0), (19, .iload 6, 21, [], 0, 0), (21, .invokevirtual 86, 24, [3, 2, 0, 3, 4, 0], 0, 0), (24, .aload_n 1, 25, [], 0, 0), (25, .iload_n 3, 26, [], 0, 0), (26, .iload 6, 28, [], 0, 0), (28, .invokevirtual 97, 31, [49, 2, 0, 1, 3, 2], 0, 0), (31, .i2l, 32, [], 0, 0), (32, .lmul, 33, [], 0, 0), (33, .ladd, 34, [], 0, 0), (34, .lstore 4, 36, [], 0, 0), (36, .iinc 6 1, 39, [], 1, 0), (39, .goto (-33), 42, [6], 0, 0), (42, .lload 4, 44, [], 0, 0), (44, .lreturn, 45, [], 0, 0)]
def am_c9 : List AE := [(0, .iconst 0, 1, [], 0, 0), (1, .istore_n 3, 2, [], 0, 0), (2, .aload_n 0, 3, [], 0, 0), (3, .aload_n 1, 4, [], 0, 0), (4, .iconst 0, 5, [], 0, 0), (5, .iload_n 2, 6, [], 0, 0), (6, .invokevirtual 101, 9, [8, 3, 0, 3, 7, 0], 0, 0), (9, .lstore 4, 11, [], 0, 0), (11, .iconst 1, 12, [], 1, 0), (12, .istore 6, 14, [], 0, 0), (14, .iload 6, 16, [], 0, 0), (16, .aload_n 0, 17, [], 0, 0), (17, .getfield 9, 20, [0, 0, 0], 0, 0), (20, .if_icmp .ge 47, 23, [67], 0, 0), (23, .aload_n 0, 24, [], 0, 0), (24, .aload_n 1, 25, [], 0, 0), (25, .iload 6, 27, [], 0, 0), (27, .iload_n 2, 28, [], 0, 0), (28, .invokevirtual 101, 31, [8, 3, 0, 3, 7, 0], 0, 0), (31, .lstore 7, 33, [], 0, 0), (33, .lload 7, 35, [], 0, 0), (35, .aload_n 0, 36, [], 0, 0), (36, .iload_n 3, 37, [], 0, 0), (37, .invokevirtual 105, 40, [4, 1, 0, 3, 2, 0], 0, 0), (40, .lmul, 41, [], 0, 0), (41, .lload 4, 43, [], 0, 0), (43, .aload_n 0, 44, [], 0, 0), (44, .iload 6, 46, [], 0, 0), (46, .invokevirtual 105, 49, [4, 1, 0, 3, 2, 0], 0, 0), (49, .lmul, 50, [], 0, 0), (50, .lcmp, 51, [], 0, 0), (51, .ifCond .le 10, 54, [61], 0, 0), (54, .iload 6, 56, [], 0, 0), (56, .istore_n 3, 57, [], 0, 0), (57, .lload 7, 59, [], 0, 0), (59, .lstore 4, 61, [], 0, 0), (61, .iinc 6 1, 64, [], 1, 0), (64, .goto (-50), 67, [14], 0, 0), (67, .iload_n 3, 68, [], 0, 0), (68, .ireturn, 69, [], 0, 0)]
def am_c10 : List AE := [(0, .iload_n 1, 1, [], 0, 0), (1, .ifCond .lt 12, 4, [13], 0, 0), (4, .iload_n 1, 5, [], 0, 0), (5, .aload_n 0, 6, [], 0, 0), (6, .getfield 25, 9, [0, 4, 1], 0, 0), (9, .arraylength, 10, [], 0, 0), (10, .if_icmp .lt 5, 13, [15], 0, 0), (13, .iconst 0, 14, [], 0, 0), (14, .ireturn, 15, [], 0, 0), (15, .aload_n 0, 16, [], 0, 0), (16, .getfield 25, 19, [0, 4, 1], 0, 0), (19, .iload_n 1, 20, [], 0, 0), (20, .iaload, 21, [], 0, 0), (21, .ireturn, 22, [], 0, 0)]
def am_c11 : List AE := [(0, .iload_n 1, 1, [], 0, 0), (1, .ifCond .lt 12, 4, [13], 0, 0), (4, .iload_n 1, 5, [], 0, 0), (5, .aload_n 0, 6, [], 0, 0), (6, .getfield 32, 9, [0, 6, 1], 0, 0), (9, .arraylength, 10, [], 0, 0), (10, .if_icmp .lt 5, 13, [15], 0, 0), (13, .lconst 0, 14, [], 0, 0), (14, .lreturn, 15, [], 0, 0), (15, .aload_n 0, 16, [], 0, 0), (16, .getfield 32, 19, [0, 6, 1], 0, 0), (19, .iload_n 1, 20, [], 0, 0), (20, .laload, 21, [], 0, 0), (21, .lreturn, 22, [], 0, 0)]
def am_c12 : List AE := [(0, .iconst 1, 1, [], 1, 0), (1, .iload_n 1, 2, [], 0, 0), (2, .ishl, 3, [], 0, 0), (3, .iconst 1, 4, [], 1, 0), (4, .isub, 5, [], 0, 0), (5, .istore_n 2, 6, [], 0, 0), (6, .aload_n 0, 7, [], 0, 0), (7, .iconst 0, 8, [], 0, 0), (8, .putfield 15, 11, [0, 1, 0], 0, 0), (11, .iconst 0, 12, [], 0, 0), (12, .istore_n 3, 13, [], 0, 0), (13, .iload_n 3, 14, [], 0, 0), (14, .iload_n 1, 15, [], 0, 0), (15, .if_icmp .ge 62, 18, [77], 0, 0), (18, .aload_n 0, 19, [], 0, 0), (19, .invokevirtual 109, 22, [20, 0, 0, 1, 1, 0], 0, 0), (22, .istore 4, 24, [], 0, 0), (24, .iconst 0, 25, [], 0, 0), (25, .istore 5, 27, [], 0, 0), (27, .iload 5, 29, [], 0, 0), (29, .bipush 6, 31, [], 6, 0), (31, .if_icmp .ge 29, 34, [60], 0, 0), (34, .aload_n 0, 35, [], 0, 0), (35, .iload 4, 37, [], 0, 0), (37, .iload 5, 39, [], 0, 0), (39, .iadd, 40, [], 0, 0), (40, .iload 5, 42, [], 0, 0), (42, .iload_n 3, 43, [], 0, 0), (43, .if_icmp .ne 7, 46, [50], 0, 0), (46, .lconst 1, 47, [], 0, 1), (47, .goto 4, 50, [51], 0, 0), (50, .lconst 0, 51, [], 0, 0), (51, .invokevirtual 112, 54, [21, 2, 0, 0, 4, 0], 0, 0), (54, .iinc 5 1, 57, [], 1, 0), (57, .goto (-30), 60, [27], 0, 0), (60, .aload_n 0, 61, [], 0, 0), (61, .iload_n 2, 62, [], 0, 0), (62, .iconst 1, 63, [], 1, 0), (63, .iload_n 3, 64, [], 0, 0), (64, .ishl, 65, [], 0, 0), (65, .iconst (-1), 66, [], -1, 0), (66, .ixor, 67, [], 0, 0), (67, .iand, 68, [], 0, 0), (68, .invokevirtual 116, 71, [22, 1, 0, 0, 2, 0], 0, 0), (71, .iinc 3 1, 74, [], 1, 0), (74, .goto (-61), 77, [13], 0, 0), (77, .aload_n 0, 78, [], 0, 0), (78, .invokevirtual 119, 81, [23, 0, 0, 0, 3, 0], 0, 0), (81, .return_, 82, [], 0, 0)]
def am_c13 : List AE := [(0, .aload_n 0, 1, [], 0, 0), (1, .aload_n 1, 2, [], 0, 0), (2, .iload_n 2, 3, [], 0, 0), (3, .invokevirtual 122, 6, [15, 2, 0, 0, 7, 0], 0, 0), (6, .iconst 1, 7, [], 1, 0), (7, .bipush 6, 9, [], 6, 0), (9, .iload_n 2, 10, [], 0, 0), (10, .iadd, 11, [], 0, 0), (11, .ishl, 12, [], 0, 0), (12, .istore_n 3, 13, [], 0, 0), (13, .aload_n 0, 14, [], 0, 0), (14, .iconst 0, 15, [], 0, 0), (15, .putfield 15, 18, [0, 1, 0], 0, 0), (18, .iconst 0, 19, [], 0, 0), (19, .istore 4, 21, [], 0, 0), (21, .iload 4, 23, [], 0, 0), (23, .aload_n 0, 24, [], 0, 0), (24, .getfield 9, 27, [0, 0, 0], 0, 0), (27, .if_icmp .ge 42, 30, [69], 0, 0), (30, .aload_n 0, 31, [], 0, 0), (31, .iload 4, 33, [], 0, 0), (33, .invokevirtual 125, 36, [11, 1, 0, 3, 2, 0], 0, 0), (36, .lconst 0, 37, [], 0, 0), (37, .lcmp, 38, [], 0, 0), (38, .ifCond .lt 25, 41, [63], 0, 0), (41, .aload_n 0, 42, [], 0, 0), (42, .iload 4, 44, [], 0, 0), (44, .aload_n 0, 45, [], 0, 0), (45, .iload 4, 47, [], 0, 0), (47, .invokevirtual 125, 50, [11, 1, 0, 3, 2, 0], 0, 0), (50, .lconst 0, 51, [], 0, 0), (51, .lcmp, 52, [], 0, 0), (52, .ifCond .ne 7, 55, [59], 0, 0), (55, .iload_n 3, 56, [], 0, 0), (56, .goto 4, 59, [60], 0, 0), (59, .iconst 0, 60, [], 0, 0), (60, .invokevirtual 128, 63, [17, 2, 0, 0, 5, 0], 0, 0), (63, .iinc 4 1, 66, [], 1, 0), (66, .goto (-45), 69, [21], 0, 0), (69, .iconst 0, 70, [], 0, 0), (70, .istore 4, 72, [], 0, 0), (72, .iload 4, 74, [], 0, 0), (74, .aload_n 0, 75, [], 0, 0), (75, .getfield 9, 78, [0, 0, 0], 0, 0), (78, .if_icmp .ge 27, 81, [105], 0, 0), (81, .aload_n 0, 82, [], 0, 0), (82, .iload 4, 84, [], 0, 0), (84, .invokevirtual 125, 87, [11, 1, 0, 3, 2, 0], 0, 0), (87, .lconst 0, 88, [], 0, 0), (88, .lcmp, 89, [], 0, 0), (89, .ifCond .le 10, 92, [99], 0, 0), (92, .aload_n 0, 93, [], 0, 0), (93, .iload 4, 95, [], 0, 0), (95, .iload_n 3, 96, [], 0, 0), (96, .invokevirtual 132, 99, [14, 2, 0, 0, 4, 0], 0, 0), (99, .iinc 4 1, 102, [], 1, 0), (102, .goto (-30), 105, [72], 0, 0), (105, .aload_n 0, 106, [], 0, 0), (106, .invokevirtual 119, 109, [23, 0, 0, 0, 3, 0], 0, 0), (109, .return_, 110, [], 0, 0)]
def am_c14 : List AE := [(0, .iconst 0, 1, [], 0, 0), (1, .istore_n 3, 2, [], 0, 0), (2, .iload_n 3, 3, [], 0, 0), (3, .aload_n 0, 4, [], 0, 0), (4, .getfield 9, 7, [0, 0, 0], 0, 0), (7, .if_icmp .ge 35, 10, [42], 0, 0), (10, .aload_n 0, 11, [], 0, 0), (11, .iload_n 3, 12, [], 0, 0), (12, .invokevirtual 125, 15, [11, 1, 0, 3, 2, 0], 0, 0), (15, .lconst 0, 16, [], 0, 0), (16, .lcmp, 17, [], 0, 0), (17, .ifCond .ge 19, 20, [36], 0, 0), (20, .aload_n 0, 21, [], 0, 0), (21, .iload_n 1, 22, [], 0, 0), (22, .iload_n 3, 23, [], 0, 0), (23, .invokevirtual 135, 26, [16, 2, 0, 2, 5, 0], 0, 0), (26, .ifCond .eq 10, 29, [36], 0, 0), (29, .aload_n 0, 30, [], 0, 0), (30, .iload_n 1, 31, [], 0, 0), (31, .iload_n 3, 32, [], 0, 0), (32, .iload_n 2, 33, [], 0, 0), (33, .invokevirtual 139, 36, [18, 3, 0, 0, 10, 0], 0, 0), (36, .iinc 3 1, 39, [], 1, 0), (39, .goto (-37), 42, [2], 0, 0), (42, .return_, 43, [], 0, 0)]
def am_c15 : List AE := [(0, .iconst 0, 1, [], 0, 0), (1, .istore_n 3, 2, [], 0, 0), (2, .iload_n 3, 3, [], 0, 0), (3, .bipush 6, 5, [], 6, 0), (5, .if_icmp .ge 35, 8, [40], 0, 0), (8, .aload_n 0, 9, [], 0, 0), (9, .getfield 38, 12, [0, 8, 1], 0, 0), (12, .iload_n 3, 13, [], 0, 0), (13, .iload_n 3, 14, [], 0, 0), (14, .aload_n 1, 15, [], 0, 0), (15, .invokevirtual 53, 18, [44, 0, 0, 1, 1, 2], 0, 0), (18, .if_icmp .ge 12, 21, [30], 0, 0), (21, .aload_n 1, 22, [], 0, 0), (22, .iload_n 2, 23, [], 0, 0), (23, .iload_n 3, 24, [], 0, 0), (24, .invokevirtual 143, 27, [55, 2, 0, 1, 8, 2], 0, 0), (27, .goto 4, 30, [31], 0, 0), (30, .iconst 0, 31, [], 0, 0), (31, .invokestatic 146, 34, [92, 3, 1, 0, 3], 0, 0), (34, .iinc 3 1, 37, [], 1, 0), (37, .goto (-35), 40, [2], 0, 0), (40, .iconst 0, 41, [], 0, 0), (41, .istore_n 3, 42, [], 0, 0), (42, .iload_n 3, 43, [], 0, 0), (43, .aload_n 0, 44, [], 0, 0), (44, .getfield 9, 47, [0, 0, 0], 0, 0), (47, .if_icmp .ge 68, 50, [115], 0, 0), (50, .iload_n 3, 51, [], 0, 0), (51, .aload_n 0, 52, [], 0, 0), (52, .getfield 32, 55, [0, 6, 1], 0, 0), (55, .arraylength, 56, [], 0, 0), (56, .if_icmp .ge 59, 59, [115], 0, 0), (59, .lconst 0, 60, [], 0, 0), (60, .lstore 4, 62, [], 0, 0), (62, .iconst 0, 63, [], 0, 0), (63, .istore 6, 65, [], 0, 0), (65, .iload 6, 67, [], 0, 0), (67, .bipush 6, 69, [], 6, 0), (69, .if_icmp .ge 32, 72, [101], 0, 0), (72, .lload 4, 74, [], 0, 0), (74, .aload_n 0, 75, [], 0, 0), (75, .iload_n 3, 76, [], 0, 0), (76, .iload 6, 78, [], 0, 0), (78, .invokevirtual 86, 81, [3, 2, 0, 3, 4, 0], 0, 0), (81, .aload_n 0, 82, [], 0, 0), (82, .getfield 38, 85, [0, 8, 1], 0, 0), (85, .iload 6, 87, [], 0, 0), (87, .invokestatic 150, 90, [91, 2, 1, 1, 2], 0, 0), (90, .i2l, 91, [], 0, 0), (91, .lmul, 92, [], 0, 0), (92, .ladd, 93, [], 0, 0), (93, .lstore 4, 95, [], 0, 0), (95, .iinc 6 1, 98, [], 1, 0), (98, .goto (-33), 101, [65], 0, 0), (101, .aload_n 0, 102, [], 0, 0), (102, .getfield 32, 105, [0, 6, 1], 0, 0), (105, .iload_n 3, 106, [], 0, 0), (106, .lload 4, 108, [], 0, 0), (108, .lastore, 109, [], 0, 0), (109, .iinc 3 1, 112, [], 1, 0), (112, .goto (-70), 115, [42], 0, 0), (115, .return_, 116, [], 0, 0)]
def am_c16 : List AE := [(0, .aload_n 0, 1, [], 0, 0), (1, .iload_n 1, 2, [], 0, 0), (2, .invokevirtual 90, 5, [10, 1, 0, 1, 2, 0], 0, 0), (5, .aload_n 0, 6, [], 0, 0), (6, .iload_n 2, 7, [], 0, 0), (7, .invokevirtual 90, 10, [10, 1, 0, 1, 2, 0], 0, 0), (10, .iand, 11, [], 0, 0), (11, .istore_n 3, 12, [], 0, 0), (12, .iconst 0, 13, [], 0, 0), (13, .istore 4, 15, [], 0, 0), (15, .iload 4, 17, [], 0, 0), (17, .aload_n 0, 18, [], 0, 0), (18, .getfield 9, 21, [0, 0, 0], 0, 0), (21, .if_icmp .ge 35, 24, [56], 0, 0), (24, .iload 4, 26, [], 0, 0), (26, .iload_n 1, 27, [], 0, 0), (27, .if_icmp .eq 23, 30, [50], 0, 0), (30, .iload 4, 32, [], 0, 0), (32, .iload_n 2, 33, [], 0, 0), (33, .if_icmp .eq 17, 36, [50], 0, 0), (36, .aload_n 0, 37, [], 0, 0), (37, .iload 4, 39, [], 0, 0), (39, .invokevirtual 90, 42, [10, 1, 0, 1, 2, 0], 0, 0), (42, .iload_n 3, 43, [], 0, 0), (43, .iand, 44, [], 0, 0), (44, .iload_n 3, 45, [], 0, 0), (45, .if_icmp .ne 5, 48, [50], 0, 0), (48, .iconst 0, 49, [], 0, 0), (49, .ireturn, 50, [], 0, 0), (50, .iinc 4 1, 53, [], 1, 0), (53, .goto (-38), 56, [15], 0, 0), (56, .iconst 1, 57, [], 1, 0), (57, .ireturn, 58, [], 0, 0)]
def am_c17 : List AE := [(0, .aload_n 0, 1, [], 0, 0), (1, .invokevirtual 109, 4, [20, 0, 0, 1, 1, 0], 0, 0), (4, .istore_n 3, 5, [], 0, 0), (5, .iconst 0, 6, [], 0, 0), (6, .istore 4, 8, [], 0, 0), (8, .iload 4, 10, [], 0, 0), (10, .bipush 6, 12, [], 6, 0), (12, .if_icmp .ge 24, 15, [36], 0, 0), (15, .aload_n 0, 16, [], 0, 0), (16, .iload_n 3, 17, [], 0, 0), (17, .iload 4, 19, [], 0, 0), (19, .iadd, 20, [], 0, 0), (20, .aload_n 0, 21, [], 0, 0), (21, .iload_n 1, 22, [], 0, 0), (22, .iload 4, 24, [], 0, 0), (24, .invokevirtual 86, 27, [3, 2, 0, 3, 4, 0], 0, 0), (27, .invokevirtual 112, 30, [21, 2, 0, 0, 4, 0], 0, 0), (30, .iinc 4 1, 33, [], 1, 0), (33, .goto (-25), 36, [8], 0, 0), (36, .aload_n 0, 37, [], 0, 0), (37, .aload_n 0, 38, [], 0, 0), (38, .iload_n 1, 39, [], 0, 0), (39, .invokevirtual 90, 42, [10, 1, 0, 1, 2, 0], 0, 0), (42, .iload_n 2, 43, [], 0, 0), (43, .ior, 44, [], 0, 0), (44, .invokevirtual 116, 47, [22, 1, 0, 0, 2, 0], 0, 0), (47, .return_, 48, [], 0, 0)]
def am_c18 : List AE := [(0, .aload_n 0, 1, [], 0, 0), (1, .invokevirtual 109, 4, [20, 0, 0, 1, 1, 0], 0, 0), (4, .istore 4, 6, [], 0, 0), (6, .lconst 0, 7, [], 0, 0), (7, .lstore 5, 9, [], 0, 0), (9, .iconst 0, 10, [], 0, 0), (10, .istore 7, 12, [], 0, 0), (12, .iload 7, 14, [], 0, 0), (14, .bipush 6, 16, [], 6, 0), (16, .if_icmp .ge 28, 19, [44], 0, 0), (19, .aload_n 0, 20, [], 0, 0), (20, .iload_n 1, 21, [], 0, 0), (21, .iload_n 2, 22, [], 0, 0), (22, .iload 7, 24, [], 0, 0), (24, .invokevirtual 154, 27, [19, 3, 0, 3, 4, 0], 0, 0), (27, .lstore 8, 29, [], 0, 0), (29, .lload 8, 31, [], 0, 0), (31, .lload 5, 33, [], 0, 0), (33, .invokestatic 158, 36, [28, 2, 1, 3, 11], 0, 0), (36, .lstore 5, 38, [], 0, 0), (38, .iinc 7 1, 41, [], 1, 0), (41, .goto (-29), 44, [12], 0, 0), (44, .iconst 0, 45, [], 0, 0), (45, .istore 7, 47, [], 0, 0), (47, .iload 7, 49, [], 0, 0), (49, .bipush 6, 51, [], 6, 0), (51, .if_icmp .ge 45, 54, [96], 0, 0), (54, .aload_n 0, 55, [], 0, 0), (55, .iload_n 1, 56, [], 0, 0), (56, .iload_n 2, 57, [], 0, 0), (57, .iload 7, 59, [], 0, 0), (59, .invokevirtual 154, 62, [19, 3, 0, 3, 4, 0], 0, 0), (62, .lstore 8, 64, [], 0, 0), (64, .aload_n 0, 65, [], 0, 0), (65, .iload 4, 67, [], 0, 0), (67, .iload 7, 69, [], 0, 0), (69, .iadd, 70, [], 0, 0), (70, .lload 5, 72, [], 0, 0), (72, .lconst 1, 73, [], 0, 1), (73, .lcmp, 74, [], 0, 0), (74, .ifCond .le 11, 77, [85], 0, 0), (77, .lload 8, 79, [], 0, 0), (79, .lload 5, 81, [], 0, 0), (81, .ldiv, 82, [], 0, 0), (82, .goto 5, 85, [87], 0, 0), (85, .lload 8, 87, [], 0, 0), (87, .invokevirtual 112, 90, [21, 2, 0, 0, 4, 0], 0, 0), (90, .iinc 7 1, 93, [], 1, 0), (93, .goto (-46), 96, [47], 0, 0), (96, .aload_n 0, 97, [], 0, 0), (97, .aload_n 0, 98, [], 0, 0), (98, .iload_n 1, 99, [], 0, 0), (99, .invokevirtual 90, 102, [10, 1, 0, 1, 2, 0], 0, 0), (102, .aload_n 0, 103, [], 0, 0), (103, .iload_n 2, 104, [], 0, 0), (104, .invokevirtual 90, 107, [10, 1, 0, 1, 2, 0], 0, 0), (107, .iand, 108, [], 0, 0), (108, .iload_n 3, 109, [], 0, 0), (109, .ior, 110, [], 0, 0), (110, .invokevirtual 116, 113, [22, 1, 0, 0, 2, 0], 0, 0), (113, .return_, 114, [], 0, 0)]
def am_c19 : List AE := [(0, .aload_n 0, 1, [], 0, 0), (1, .iload_n 1, 2, [], 0, 0), (2, .invokevirtual 125, 5, [11, 1, 0, 3, 2, 0], 0, 0), (5, .aload_n 0, 6, [], 0, 0), (6, .iload_n 2, 7, [], 0, 0), (7, .iload_n 3, 8, [], 0, 0), (8, .invokevirtual 86, 11, [3, 2, 0, 3, 4, 0], 0, 0), (11, .lmul, 12, [], 0, 0), (12, .aload_n 0, 13, [], 0, 0), (13, .iload_n 2, 14, [], 0, 0), (14, .invokevirtual 125, 17, [11, 1, 0, 3, 2, 0], 0, 0), (17, .aload_n 0, 18, [], 0, 0), (18, .iload_n 1, 19, [], 0, 0), (19, .iload_n 3, 20, [], 0, 0), (20, .invokevirtual 86, 23, [3, 2, 0, 3, 4, 0], 0, 0), (23, .lmul, 24, [], 0, 0), (24, .lsub, 25, [], 0, 0), (25, .lreturn, 26, [], 0, 0)]
def am_c20 : List AE := [(0, .aload_n 0, 1, [], 0, 0), (1, .getfield 15, 4, [0, 1, 0], 0, 0), (4, .bipush 6, 6, [], 6, 0), (6, .imul, 7, [], 0, 0), (7, .ireturn, 8, [], 0, 0)]
def am_c21 : List AE := [(0, .iload_n 1, 1, [], 0, 0), (1, .ifCond .lt 19, 4, [20], 0, 0), (4, .iload_n 1, 5, [], 0, 0), (5, .aload_n 0, 6, [], 0, 0), (6, .getfield 22, 9, [0, 3, 1], 0, 0), (9, .arraylength, 10, [], 0, 0), (10, .if_icmp .ge 10, 13, [20], 0, 0), (13, .aload_n 0, 14, [], 0, 0), (14, .getfield 22, 17, [0, 3, 1], 0, 0), (17, .iload_n 1, 18, [], 0, 0), (18, .lload_n 2, 19, [], 0, 0), (19, .lastore, 20, [], 0, 0), (20, .return_, 21, [], 0, 0)]
def am_c22 : List AE := [(0, .aload_n 0, 1, [], 0, 0), (1, .getfield 15, 4, [0, 1, 0], 0, 0), (4, .ifCond .lt 35, 7, [39], 0, 0), (7, .aload_n 0, 8, [], 0, 0), (8, .getfield 15, 11, [0, 1, 0], 0, 0), (11, .aload_n 0, 12, [], 0, 0), (12, .getfield 29, 15, [0, 5, 1], 0, 0), (15, .arraylength, 16, [], 0, 0), (16, .if_icmp .ge 23, 19, [39], 0, 0), (19, .aload_n 0, 20, [], 0, 0), (20, .getfield 29, 23, [0, 5, 1], 0, 0), (23, .aload_n 0, 24, [], 0, 0), (24, .getfield 15, 27, [0, 1, 0], 0, 0), (27, .iload_n 1, 28, [], 0, 0), (28, .iastore, 29, [], 0, 0), (29, .aload_n 0, 30, [], 0, 0), (30, .dup, 31, [], 0, 0), (31, .getfield 15, 34, [0, 1, 0], 0, 0), (34, .iconst 1, 35, [], 1, 0), (35, .iadd, 36, [], 0, 0), (36, .putfield 15, 39, [0, 1, 0], 0, 0), (39, .return_, 40, [], 0, 0)]
def am_c23 : List AE := [(0, .aload_n 0, 1, [], 0, 0), (1, .getfield 18, 4, [0, 2, 1], 0, 0), (4, .astore_n 1, 5, [], 0, 0), (5, .aload_n 0, 6, [], 0, 0), (6, .aload_n 0, 7, [], 0, 0), (7, .getfield 22, 10, [0, 3, 1], 0, 0), (10, .putfield 18, 13, [0, 2, 1], 0, 0), (13, .aload_n 0, 14, [], 0, 0), (14, .aload_n 1, 15, [], 0, 0), (15, .putfield 22, 18, [0, 3, 1], 0, 0), (18, .aload_n 0, 19, [], 0, 0), (19, .getfield 25, 22, [0, 4, 1], 0, 0), (22, .astore_n 2, 23, [], 0, 0), (23, .aload_n 0, 24, [], 0, 0), (24, .aload_n 0, 25, [], 0, 0), (25, .getfield 29, 28, [0, 5, 1], 0, 0), (28, .putfield 25, 31, [0, 4, 1], 0, 0), (31, .aload_n 0, 32, [], 0, 0), (32, .aload_n 2, 33, [], 0, 0), (33, .putfield 29, 36, [0, 5, 1], 0, 0), (36, .aload_n 0, 37, [], 0, 0), (37, .aload_n 0, 38, [], 0, 0), (38, .getfield 15, 41, [0, 1, 0], 0, 0), (41, .putfield 9, 44, [0, 0, 0], 0, 0), (44, .return_, 45, [], 0, 0)]
def am_c24 : List AE := [(0, .iconst 0, 1, [], 0, 0), (1, .istore_n 1, 2, [], 0, 0), (2, .iload_n 1, 3, [], 0, 0), (3, .aload_n 0, 4, [], 0, 0), (4, .getfield 9, 7, [0, 0, 0], 0, 0), (7, .if_icmp .ge 53, 10, [60], 0, 0), (10, .iload_n 1, 11, [], 0, 0), (11, .aload_n 0, 12, [], 0, 0), (12, .getfield 35, 15, [0, 7, 1], 0, 0), (15, .arraylength, 16, [], 0, 0), (16, .if_icmp .ge 44, 19, [60], 0, 0), (19, .lconst 0, 20, [], 0, 0), (20, .lstore_n 2, 21, [], 0, 0), (21, .iconst 0, 22, [], 0, 0), (22, .istore 4, 24, [], 0, 0), (24, .iload 4, 26, [], 0, 0), (26, .bipush 6, 28, [], 6, 0), (28, .if_icmp .ge 19, 31, [47], 0, 0), (31, .lload_n 2, 32, [], 0, 0), (32, .aload_n 0, 33, [], 0, 0), (33, .iload_n 1, 34, [], 0, 0), (34, .iload 4, 36, [], 0, 0), (36, .invokevirtual 86, 39, [3, 2, 0, 3, 4, 0], 0, 0), (39, .ladd, 40, [], 0, 0), (40, .lstore_n 2, 41, [], 0, 0), (41, .iinc 4 1, 44, [], 1, 0), (44, .goto (-20), 47, [24], 0, 0), (47, .aload_n 0, 48, [], 0, 0), (48, .getfield 35, 51, [0, 7, 1], 0, 0), (51, .iload_n 1, 52, [], 0, 0), (52, .lload_n 2, 53, [], 0, 0), (53, .lastore, 54, [], 0, 0), (54, .iinc 1 1, 57, [], 1, 0), (57, .goto (-55), 60, [2], 0, 0), (60, .return_, 61, [], 0, 0)]
def am_c25 : List AE := [(0, .iconst 1, 1, [], 1, 0), (1, .istore_n 1, 2, [], 0, 0), (2, .iload_n 1, 3, [], 0, 0), (3, .aload_n 0, 4, [], 0, 0), (4, .getfield 9, 7, [0, 0, 0], 0, 0), (7, .if_icmp .ge 40, 10, [47], 0, 0), (10, .iload_n 1, 11, [], 0, 0), (11, .istore_n 2, 12, [], 0, 0), (12, .iload_n 2, 13, [], 0, 0), (13, .ifCond .le 28, 16, [41], 0, 0), (16, .aload_n 0, 17, [], 0, 0), (17, .iload_n 2, 18, [], 0, 0), (18, .iload_n 2, 19, [], 0, 0), (19, .iconst 1, 20, [], 1, 0), (20, .isub, 21, [], 0, 0), (21, .invokevirtual 162, 24, [26, 2, 0, 2, 8, 0], 0, 0), (24, .ifCond .eq 17, 27, [41], 0, 0), (27, .aload_n 0, 28, [], 0, 0), (28, .iload_n 2, 29, [], 0, 0), (29, .iload_n 2, 30, [], 0, 0), (30, .iconst 1, 31, [], 1, 0), (31, .isub, 32, [], 0, 0), (32, .invokevirtual 165, 35, [27, 2, 0, 0, 6, 0], 0, 0), (35, .iinc 2 (-1), 38, [], -1, 0), (38, .goto (-26), 41, [12], 0, 0), (41, .iinc 1 1, 44, [], 1, 0), (44, .goto (-42), 47, [2], 0, 0), (47, .return_, 48, [], 0, 0)]
def am_c26 : List AE := [(0, .iconst 0, 1, [], 0, 0), (1, .istore_n 3, 2, [], 0, 0), (2, .iload_n 3, 3, [], 0, 0), (3, .bipush 6, 5, [], 6, 0), (5, .if_icmp .ge 59, 8, [64], 0, 0), (8, .aload_n 0, 9, [], 0, 0), (9, .iload_n 1, 10, [], 0, 0), (10, .iload_n 3, 11, [], 0, 0), (11, .invokevirtual 86, 14, [3, 2, 0, 3, 4, 0], 0, 0), (14, .aload_n 0, 15, [], 0, 0), (15, .iload_n 2, 16, [], 0, 0), (16, .invokevirtual 105, 19, [4, 1, 0, 3, 2, 0], 0, 0), (19, .lmul, 20, [], 0, 0), (20, .lstore 4, 22, [], 0, 0), (22, .aload_n 0, 23, [], 0, 0), (23, .iload_n 2, 24, [], 0, 0), (24, .iload_n 3, 25, [], 0, 0), (25, .invokevirtual 86, 28, [3, 2, 0, 3, 4, 0], 0, 0), (28, .aload_n 0, 29, [], 0, 0), (29, .iload_n 1, 30, [], 0, 0), (30, .invokevirtual 105, 33, [4, 1, 0, 3, 2, 0], 0, 0), (33, .lmul, 34, [], 0, 0), (34, .lstore 6, 36, [], 0, 0), (36, .lload 4, 38, [], 0, 0), (38, .lload 6, 40, [], 0, 0), (40, .lcmp, 41, [], 0, 0), (41, .ifCond .eq 17, 44, [58], 0, 0), (44, .lload 4, 46, [], 0, 0), (46, .lload 6, 48, [], 0, 0), (48, .lcmp, 49, [], 0, 0), (49, .ifCond .le 7, 52, [56], 0, 0), (52, .iconst 1, 53, [], 1, 0), (53, .goto 4, 56, [57], 0, 0), (56, .iconst 0, 57, [], 0, 0), (57, .ireturn, 58, [], 0, 0), (58, .iinc 3 1, 61, [], 1, 0), (61, .goto (-59), 64, [2], 0, 0), (64, .iconst 0, 65, [], 0, 0), (65, .ireturn, 66, [], 0, 0)]
def am_c27 : List AE := [(0, .iload_n 1, 1, [], 0, 0), (1, .ifCond .lt 33, 4, [34], 0, 0), (4, .iload_n 1, 5, [], 0, 0), (5, .aload_n 0, 6, [], 0, 0), (6, .getfield 9, 9, [0, 0, 0], 0, 0), (9, .if_icmp .ge 25, 12, [34], 0, 0), (12, .iload_n 2, 13, [], 0, 0), (13, .ifCond .lt 21, 16, [34], 0, 0), (16, .iload_n 2, 17, [], 0, 0), (17, .aload_n 0, 18, [], 0, 0), (18, .getfield 9, 21, [0, 0, 0], 0, 0), (21, .if_icmp .ge 13, 24, [34], 0, 0), (24, .aload_n 0, 25, [], 0, 0), (25, .getfield 9, 28, [0, 0, 0], 0, 0), (28, .sipush 128, 31, [], 128, 0), (31, .if_icmp .le 4, 34, [35], 0, 0), (34, .return_, 35, [], 0, 0), (35, .iconst 0, 36, [], 0, 0), (36, .istore_n 3, 37, [], 0, 0), (37, .iload_n 3, 38, [], 0, 0), (38, .bipush 6, 40, [], 6, 0), (40, .if_icmp .ge 57, 43, [97], 0, 0), (43, .aload_n 0, 44, [], 0, 0), (44, .getfield 18, 47, [0, 2, 1], 0, 0), (47, .iload_n 1, 48, [], 0, 0), (48, .bipush 6, 50, [], 6, 0), (50, .imul, 51, [], 0, 0), (51, .iload_n 3, 52, [], 0, 0), (52, .iadd, 53, [], 0, 0), (53, .laload, 54, [], 0, 0), (54, .lstore 4, 56, [], 0, 0), (56, .aload_n 0, 57, [], 0, 0), (57, .getfield 18, 60, [0, 2, 1], 0, 0), (60, .iload_n 1, 61, [], 0, 0), (61, .bipush 6, 63, [], 6, 0), (63, .imul, 64, [], 0, 0), (64, .iload_n 3, 65, [], 0, 0), (65, .iadd, 66, [], 0, 0), (66, .aload_n 0, 67, [], 0, 0), (67, .getfield 18, 70, [0, 2, 1], 0, 0), (70, .iload_n 2, 71, [], 0, 0), (71, .bipush 6, 73, [], 6, 0), (73, .imul, 74, [], 0, 0), (74, .iload_n 3, 75, [], 0, 0), (75, .iadd, 76, [], 0, 0), (76, .laload, 77, [], 0, 0), (77, .lastore, 78, [], 0, 0), (78, .aload_n 0, 79, [], 0, 0), (79, .getfield 18, 82, [0, 2, 1], 0, 0), (82, .iload_n 2, 83, [], 0, 0), (83, .bipush 6, 85, [], 6, 0), (85, .imul, 86, [], 0, 0), (86, .iload_n 3, 87, [], 0, 0), (87, .iadd, 88, [], 0, 0), (88, .lload 4, 90, [], 0, 0), (90, .lastore, 91, [], 0, 0), (91, .iinc 3 1, 94, [], 1, 0), (94, .goto (-57), 97, [37], 0, 0), (97, .aload_n 0, 98, [], 0, 0), (98, .getfield 25, 101, [0, 4, 1], 0, 0), (101, .iload_n 1, 102, [], 0, 0), (102, .iaload, 103, [], 0, 0), (103, .istore_n 3, 104, [], 0, 0), (104, .aload_n 0, 105, [], 0, 0), (105, .getfield 25, 108, [0, 4, 1], 0, 0), (108, .iload_n 1, 109, [], 0, 0), (109, .aload_n 0, 110, [], 0, 0), (110, .getfield 25, 113, [0, 4, 1], 0, 0), (113, .iload_n 2, 114, [], 0, 0), (114, .iaload, 115, [], 0, 0), (115, .iastore, 116, [], 0, 0), (116, .aload_n 0, 117, [], 0, 0), (117, .getfield 25, 120, [0, 4, 1], 0, 0), (120, .iload_n 2, 121, [], 0, 0), (121, .iload_n 3, 122, [], 0, 0), (122, .iastore, 123, [], 0, 0), (123, .aload_n 0, 124, [], 0, 0), (124, .getfield 35, 127, [0, 7, 1], 0, 0), (127, .iload_n 1, 128, [], 0, 0), (128, .laload, 129, [], 0, 0), (129, .lstore 4, 131, [], 0, 0), (131, .aload_n 0, 132, [], 0, 0), (132, .getfield 35, 135, [0, 7, 1], 0, 0), (135, .iload_n 1, 136, [], 0, 0), (136, .aload_n 0, 137, [], 0, 0), (137, .getfield 35, 140, [0, 7, 1], 0, 0), (140, .iload_n 2, 141, [], 0, 0), (141, .laload, 142, [], 0, 0), (142, .lastore, 143, [], 0, 0), (143, .aload_n 0, 144, [], 0, 0), (144, .getfield 35, 147, [0, 7, 1], 0, 0), (147, .iload_n 2, 148, [], 0, 0), (148, .lload 4, 150, [], 0, 0), (150, .lastore, 151, [], 0, 0), (151, .return_, 152, [], 0, 0)]
def am_c28 : List AE := [(0, .lload_n 0, 1, [], 0, 0), (1, .lload_n 2, 2, [], 0, 0), (2, .invokestatic 168, 5, [163, 2, 1, 3, 4], 0, 0), (5, .lstore 4, 7, [], 0, 0), (7, .lload_n 0, 8, [], 0, 0), (8, .lload_n 2, 9, [], 0, 0), (9, .invokestatic 173, 12, [164, 2, 1, 3, 4], 0, 0), (12, .lstore 6, 14, [], 0, 0), (14, .iconst 0, 15, [], 0, 0), (15, .istore 8, 17, [], 0, 0), (17, .iload 8, 19, [], 0, 0), (19, .bipush 100, 21, [], 100, 0), (21, .if_icmp .ge 31, 24, [52], 0, 0), (24, .lload 6, 26, [], 0, 0), (26, .lconst 0, 27, [], 0, 0), (27, .lcmp, 28, [], 0, 0), (28, .ifCond .le 24, 31, [52], 0, 0), (31, .lload 4, 33, [], 0, 0), (33, .lload 6, 35, [], 0, 0), (35, .lrem, 36, [], 0, 0), (36, .lstore 9, 38, [], 0, 0), (38, .lload 6, 40, [], 0, 0), (40, .lstore 4, 42, [], 0, 0), (42, .lload 9, 44, [], 0, 0), (44, .lstore 6, 46, [], 0, 0), (46, .iinc 8 1, 49, [], 1, 0), (49, .goto (-32), 52, [17], 0, 0), (52, .lload 4, 54, [], 0, 0), (54, .lreturn, 55, [], 0, 0)]
def am_c29 : List AE := [(0, .aload_n 0, 1, [], 0, 0), (1, .invokespecial 3, 4, [2], 0, 0), (4, .aload_n 0, 5, [], 0, 0), (5, .iconst 0, 6, [], 0, 0), (6, .putfield 9, 9, [1, 0, 0], 0, 0), (9, .aload_n 0, 10, [], 0, 0), (10, .iconst 0, 11, [], 0, 0), (11, .putfield 15, 14, [1, 1, 0], 0, 0), (14, .aload_n 0, 15, [], 0, 0), (15, .bipush 60, 17, [], 60, 0), (17, .newarray .char, 19, [7], 0, 0), (19, .putfield 18, 22, [1, 2, 1], 0, 0), (22, .aload_n 0, 23, [], 0, 0), (23, .bipush 12, 25, [], 12, 0), (25, .newarray .int, 27, [5], 0, 0), (27, .putfield 22, 30, [1, 3, 1], 0, 0), (30, .aload_n 0, 31, [], 0, 0), (31, .iconst 0, 32, [], 0, 0), (32, .putfield 26, 35, [1, 4, 0], 0, 0), (35, .aload_n 0, 36, [], 0, 0), (36, .iconst 0, 37, [], 0, 0), (37, .putfield 29, 40, [1, 5, 0], 0, 0), (40, .aload_n 0, 41, [], 0, 0), (41, .iconst 0, 42, [], 0, 0), (42, .putfield 32, 45, [1, 6, 0], 0, 0), (45, .aload_n 0, 46, [], 0, 0), (46, .iconst 0, 47, [], 0, 0), (47, .putfield 35, 50, [1, 7, 0], 0, 0), (50, .aload_n 0, 51, [], 0, 0), (51, .iconst 0, 52, [], 0, 0), (52, .putfield 38, 55, [1, 8, 2], 0, 0), (55, .return_, 56, [], 0, 0)]
def am_c30 : List AE := [(0, .iload_n 0, 1, [], 0, 0), (1, .ldc 8, 3, [], 2147483647, 0), (3, .iand, 4, [], 0, 0), (4, .iload_n 1, 5, [], 0, 0), (5, .irem, 6, [], 0, 0), (6, .ireturn, 7, [], 0, 0)]
def am_c31 : List AE := [(0, .iload_n 0, 1, [], 0, 0), (1, .ldc 8, 3, [], 2147483647, 0), (3, .iand, 4, [], 0, 0), (4, .iload_n 1, 5, [], 0, 0), (5, .irem, 6, [], 0, 0), (6, .ireturn, 7, [], 0, 0)]
def am_c32 : List AE := [(0, .iload_n 0, 1, [], 0, 0), (1, .ldc 8, 3, [], 2147483647, 0), (3, .iand, 4, [], 0, 0), (4, .iload_n 1, 5, [], 0, 0), (5, .irem, 6, [], 0, 0), (6, .ireturn, 7, [], 0, 0)]
def am_c33 : List AE := [(0, .iload_n 0, 1, [], 0, 0), (1, .ldc 8, 3, [], 2147483647, 0), (3, .iand, 4, [], 0, 0), (4, .iload_n 1, 5, [], 0, 0), (5, .irem, 6, [], 0, 0), (6, .ireturn, 7, [], 0, 0)]
def am_c34 : List AE := [(0, .iload_n 0, 1, [], 0, 0), (1, .ldc 8, 3, [], 2147483647, 0), (3, .iand, 4, [], 0, 0), (4, .iload_n 1, 5, [], 0, 0), (5, .irem, 6, [], 0, 0), (6, .ireturn, 7, [], 0, 0)]
def am_c35 : List AE := [(0, .iload_n 0, 1, [], 0, 0), (1, .ldc 8, 3, [], 2147483647, 0), (3, .iand, 4, [], 0, 0), (4, .iload_n 1, 5, [], 0, 0), (5, .irem, 6, [], 0, 0), (6, .ireturn, 7, [], 0, 0)]
def am_c36 : List AE := [(0, .iload_n 0, 1, [], 0, 0), (1, .ldc 8, 3, [], 2147483647, 0), (3, .iand, 4, [], 0, 0), (4, .iload_n 1, 5, [], 0, 0), (5, .irem, 6, [], 0, 0), (6, .ireturn, 7, [], 0, 0)]
def am_c37 : List AE := [(0, .iload_n 0, 1, [], 0, 0), (1, .ldc 8, 3, [], 2147483647, 0), (3, .iand, 4, [], 0, 0), (4, .iload_n 1, 5, [], 0, 0), (5, .irem, 6, [], 0, 0), (6, .ireturn, 7, [], 0, 0)]
def am_c38 : List AE := [(0, .iload_n 0, 1, [], 0, 0), (1, .ldc 8, 3, [], 2147483647, 0), (3, .iand, 4, [], 0, 0), (4, .iload_n 1, 5, [], 0, 0), (5, .irem, 6, [], 0, 0), (6, .ireturn, 7, [], 0, 0)]
def am_c39 : List AE := [(0, .iload_n 0, 1, [], 0, 0), (1, .ldc 8, 3, [], 2147483647, 0), (3, .iand, 4, [], 0, 0), (4, .iload_n 1, 5, [], 0, 0), (5, .irem, 6, [], 0, 0), (6, .ireturn, 7, [], 0, 0)]
def am_c40 : List AE := [(0, .aload_n 0, 1, [], 0, 0), (1, .invokespecial 3, 4, [2], 0, 0), (4, .aload_n 0, 5, [], 0, 0), (5, .iconst 2, 6, [], 2, 0), (6, .putfield 9, 9, [2, 0, 0], 0, 0), (9, .aload_n 0, 10, [], 0, 0), (10, .iconst 1, 11, [], 1, 0), (11, .putfield 15, 14, [2, 1, 0], 0, 0), (14, .aload_n 0, 15, [], 0, 0), (15, .bipush 12, 17, [], 12, 0), (17, .newarray .int, 19, [5], 0, 0), (19, .putfield 18, 22, [2, 2, 1], 0, 0), (22, .aload_n 0, 23, [], 0, 0), (23, .bipush 6, 25, [], 6, 0), (25, .newarray .int, 27, [5], 0, 0), (27, .putfield 22, 30, [2, 3, 1], 0, 0), (30, .aload_n 0, 31, [], 0, 0), (31, .bipush 6, 33, [], 6, 0), (33, .newarray .int, 35, [5], 0, 0), (35, .putfield 25, 38, [2, 4, 1], 0, 0), (38, .aload_n 0, 39, [], 0, 0), (39, .iconst 2, 40, [], 2, 0), (40, .invokevirtual 28, 43, [41, 1, 0, 0, 2, 2], 0, 0), (43, .return_, 44, [], 0, 0)]
def am_c41 : List AE := [(0, .aload_n 0, 1, [], 0, 0), (1, .iload_n 1, 2, [], 0, 0), (2, .putfield 9, 5, [2, 0, 0], 0, 0), (5, .aload_n 0, 6, [], 0, 0), (6, .getfield 18, 9, [2, 2, 1], 0, 0), (9, .iconst 0, 10, [], 0, 0), (10, .iconst 0, 11, [], 0, 0), (11, .invokestatic 32, 14, [93, 3, 1, 0, 4], 0, 0), (14, .aload_n 0, 15, [], 0, 0), (15, .getfield 22, 18, [2, 3, 1], 0, 0), (18, .aload_n 0, 19, [], 0, 0), (19, .invokevirtual 36, 22, [44, 0, 0, 1, 1, 2], 0, 0), (22, .iconst 1, 23, [], 1, 0), (23, .invokestatic 32, 26, [93, 3, 1, 0, 4], 0, 0), (26, .aload_n 0, 27, [], 0, 0), (27, .getfield 25, 30, [2, 4, 1], 0, 0), (30, .iconst 0, 31, [], 0, 0), (31, .iconst 0, 32, [], 0, 0), (32, .invokestatic 32, 35, [93, 3, 1, 0, 4], 0, 0), (35, .return_, 36, [], 0, 0)]
def am_c42 : List AE := [(0, .aload_n 0, 1, [], 0, 0), (1, .aload_n 1, 2, [], 0, 0), (2, .getfield 9, 5, [2, 0, 0], 0, 0), (5, .putfield 9, 8, [2, 0, 0], 0, 0), (8, .aload_n 0, 9, [], 0, 0), (9, .aload_n 1, 10, [], 0, 0), (10, .getfield 15, 13, [2, 1, 0], 0, 0), (13, .putfield 15, 16, [2, 1, 0], 0, 0), (16, .aload_n 1, 17, [], 0, 0), (17, .getfield 18, 20, [2, 2, 1], 0, 0), (20, .iconst 0, 21, [], 0, 0), (21, .aload_n 0, 22, [], 0, 0), (22, .getfield 18, 25, [2, 2, 1], 0, 0), (25, .iconst 0, 26, [], 0, 0), (26, .bipush 12, 28, [], 12, 0), (28, .invokestatic 40, 31, [3, 0], 0, 0), (31, .aload_n 1, 32, [], 0, 0), (32, .getfield 22, 35, [2, 3, 1], 0, 0), (35, .iconst 0, 36, [], 0, 0), (36, .aload_n 0, 37, [], 0, 0), (37, .getfield 22, 40, [2, 3, 1], 0, 0), (40, .iconst 0, 41, [], 0, 0), (41, .bipush 6, 43, [], 6, 0), (43, .invokestatic 40, 46, [3, 0], 0, 0), (46, .aload_n 1, 47, [], 0, 0), (47, .getfield 25, 50, [2, 4, 1], 0, 0), (50, .iconst 0, 51, [], 0, 0), (51, .aload_n 0, 52, [], 0, 0), (52, .getfield 25, 55, [2, 4, 1], 0, 0), (55, .iconst 0, 56, [], 0, 0), (56, .bipush 6, 58, [], 6, 0), (58, .invokestatic 40, 61, [3, 0], 0, 0), (61, .return_, 62, [], 0, 0)]
def am_c43 : List AE := [(0, .aload_n 0, 1, [], 0, 0), (1, .getfield 9, 4, [2, 0, 0], 0, 0), (4, .iload_n 1, 5, [], 0, 0), (5, .if_icmp .eq 5, 8, [10], 0, 0), (8, .iconst 0, 9, [], 0, 0), (9, .ireturn, 10, [], 0, 0), (10, .iconst 0, 11, [], 0, 0), (11, .istore_n 3, 12, [], 0, 0), (12, .iload_n 3, 13, [], 0, 0), (13, .bipush 12, 15, [], 12, 0), (15, .if_icmp .ge 27, 18, [42], 0, 0), (18, .aload_n 0, 19, [], 0, 0), (19, .getfield 18, 22, [2, 2, 1], 0, 0), (22, .iload_n 3, 23, [], 0, 0), (23, .invokestatic 46, 26, [91, 2, 1, 1, 2], 0, 0), (26, .aload_n 2, 27, [], 0, 0), (27, .iload_n 3, 28, [], 0, 0), (28, .invokestatic 46, 31, [91, 2, 1, 1, 2], 0, 0), (31, .if_icmp .eq 5, 34, [36], 0, 0), (34, .iconst 0, 35, [], 0, 0), (35, .ireturn, 36, [], 0, 0), (36, .iinc 3 1, 39, [], 1, 0), (39, .goto (-27), 42, [12], 0, 0), (42, .iconst 1, 43, [], 1, 0), (43, .ireturn, 44, [], 0, 0)]
def am_c44 : List AE := [(0, .iconst 2, 1, [], 2, 0), (1, .aload_n 0, 2, [], 0, 0), (2, .getfield 9, 5, [2, 0, 0], 0, 0), (5, .imul, 6, [], 0, 0), (6, .ireturn, 7, [], 0, 0)]
def am_c45 : List AE := [(0, .aload_n 0, 1, [], 0, 0), (1, .getfield 9, 4, [2, 0, 0], 0, 0), (4, .iload_n 1, 5, [], 0, 0), (5, .imul, 6, [], 0, 0), (6, .iload_n 2, 7, [], 0, 0), (7, .iadd, 8, [], 0, 0), (8, .ireturn, 9, [], 0, 0)]
def am_c46 : List AE := [(0, .iload_n 1, 1, [], 0, 0), (1, .aload_n 0, 2, [], 0, 0), (2, .getfield 9, 5, [2, 0, 0], 0, 0), (5, .if_icmp .ge 7, 8, [12], 0, 0), (8, .iconst 0, 9, [], 0, 0), (9, .goto 4, 12, [13], 0, 0), (12, .iconst 1, 13, [], 1, 0), (13, .istore_n 3, 14, [], 0, 0), (14, .iload_n 2, 15, [], 0, 0), (15, .ifCond .ne 7, 18, [22], 0, 0), (18, .iload_n 3, 19, [], 0, 0), (19, .goto 11, 22, [30], 0, 0), (22, .iload_n 1, 23, [], 0, 0), (23, .aload_n 0, 24, [], 0, 0), (24, .getfield 9, 27, [2, 0, 0], 0, 0), (27, .iload_n 3, 28, [], 0, 0), (28, .imul, 29, [], 0, 0), (29, .isub, 30, [], 0, 0), (30, .ireturn, 31, [], 0, 0)]
def am_c47 : List AE := [(0, .aload_n 0, 1, [], 0, 0), (1, .getfield 18, 4, [2, 2, 1], 0, 0), (4, .iload_n 1, 5, [], 0, 0), (5, .bipush 6, 7, [], 6, 0), (7, .imul, 8, [], 0, 0), (8, .iload_n 2, 9, [], 0, 0), (9, .iadd, 10, [], 0, 0), (10, .invokestatic 46, 13, [91, 2, 1, 1, 2], 0, 0), (13, .ireturn, 14, [], 0, 0)]
def am_c48 : List AE := [(0, .aload_n 0, 1, [], 0, 0), (1, .getfield 18, 4, [2, 2, 1], 0, 0), (4, .iload_n 1, 5, [], 0, 0), (5, .bipush 6, 7, [], 6, 0), (7, .imul, 8, [], 0, 0), (8, .iload_n 2, 9, [], 0, 0), (9, .iadd, 10, [], 0, 0), (10, .iload_n 3, 11, [], 0, 0), (11, .invokestatic 50, 14, [92, 3, 1, 0, 3], 0, 0), (14, .return_, 15, [], 0, 0)]
def am_c49 : List AE := [(0, .iload_n 1, 1, [], 0, 0), (1, .iconst 2, 2, [], 2, 0), (2, .if_icmp .ne 19, 5, [21], 0, 0), (5, .aload_n 0, 6, [], 0, 0), (6, .iconst 0, 7, [], 0, 0), (7, .iload_n 2, 8, [], 0, 0), (8, .invokevirtual 53, 11, [47, 2, 0, 1, 3, 2], 0, 0), (11, .aload_n 0, 12, [], 0, 0), (12, .iconst 1, 13, [], 1, 0), (13, .iload_n 2, 14, [], 0, 0), (14, .invokevirtual 53, 17, [47, 2, 0, 1, 3, 2], 0, 0), (17, .iadd, 18, [], 0, 0), (18, .goto 9, 21, [27], 0, 0), (21, .aload_n 0, 22, [], 0, 0), (22, .iload_n 1, 23, [], 0, 0), (23, .iload_n 2, 24, [], 0, 0), (24, .invokevirtual 53, 27, [47, 2, 0, 1, 3, 2], 0, 0), (27, .ireturn, 28, [], 0, 0)]
def am_c50 : List AE := [(0, .iconst 0, 1, [], 0, 0), (1, .istore_n 3, 2, [], 0, 0), (2, .iconst 0, 3, [], 0, 0), (3, .istore 4, 5, [], 0, 0), (5, .iload 4, 7, [], 0, 0), (7, .aload_n 0, 8, [], 0, 0), (8, .invokevirtual 36, 11, [44, 0, 0, 1, 1, 2], 0, 0), (11, .if_icmp .ge 26, 14, [37], 0, 0), (14, .iload_n 3, 15, [], 0, 0), (15, .aload_n 1, 16, [], 0, 0), (16, .iload 4, 18, [], 0, 0), (18, .invokestatic 46, 21, [91, 2, 1, 1, 2], 0, 0), (21, .aload_n 0, 22, [], 0, 0), (22, .iload_n 2, 23, [], 0, 0), (23, .iload 4, 25, [], 0, 0), (25, .invokevirtual 57, 28, [49, 2, 0, 1, 3, 2], 0, 0), (28, .imul, 29, [], 0, 0), (29, .iadd, 30, [], 0, 0), (30, .istore_n 3, 31, [], 0, 0), (31, .iinc 4 1, 34, [], 1, 0), (34, .goto (-29), 37, [5], 0, 0), (37, .iload_n 3, 38, [], 0, 0), (38, .ireturn, 39, [], 0, 0)]
def am_c51 : List AE := [(0, .iconst 2, 1, [], 2, 0), (1, .aload_n 0, 2, [], 0, 0), (2, .getfield 9, 5, [2, 0, 0], 0, 0), (5, .aload_n 0, 6, [], 0, 0), (6, .getfield 9, 9, [2, 0, 0], 0, 0), (9, .iconst 1, 10, [], 1, 0), (10, .isub, 11, [], 0, 0), (11, .imul, 12, [], 0, 0), (12, .iadd, 13, [], 0, 0), (13, .ireturn, 14, [], 0, 0)]
def am_c52 : List AE := [(0, .iload_n 1, 1, [], 0, 0), (1, .iconst 2, 2, [], 2, 0), (2, .if_icmp .ge 7, 5, [9], 0, 0), (5, .iconst 0, 6, [], 0, 0), (6, .goto 4, 9, [10], 0, 0), (9, .iconst 1, 10, [], 1, 0), (10, .ireturn, 11, [], 0, 0)]
def am_c53 : List AE := [(0, .iload_n 1, 1, [], 0, 0), (1, .iconst 2, 2, [], 2, 0), (2, .if_icmp .ge 5, 5, [7], 0, 0), (5, .iload_n 1, 6, [], 0, 0), (6, .ireturn, 7, [], 0, 0), (7, .aload_n 0, 8, [], 0, 0), (8, .getfield 9, 11, [2, 0, 0], 0, 0), (11, .iconst 3, 12, [], 3, 0), (12, .if_icmp .ne 11, 15, [23], 0, 0), (15, .iload_n 1, 16, [], 0, 0), (16, .iconst 2, 17, [], 2, 0), (17, .isub, 18, [], 0, 0), (18, .iconst 2, 19, [], 2, 0), (19, .idiv, 20, [], 0, 0), (20, .goto 6, 23, [26], 0, 0), (23, .iload_n 1, 24, [], 0, 0), (24, .iconst 2, 25, [], 2, 0), (25, .isub, 26, [], 0, 0), (26, .ireturn, 27, [], 0, 0)]
def am_c54 : List AE := [(0, .aload_n 0, 1, [], 0, 0), (1, .iload_n 1, 2, [], 0, 0), (2, .invokevirtual 60, 5, [53, 1, 0, 1, 2, 2], 0, 0), (5, .istore_n 2, 6, [], 0, 0), (6, .iload_n 1, 7, [], 0, 0), (7, .iconst 2, 8, [], 2, 0), (8, .if_icmp .lt 11, 11, [19], 0, 0), (11, .aload_n 0, 12, [], 0, 0), (12, .getfield 9, 15, [2, 0, 0], 0, 0), (15, .iconst 3, 16, [], 3, 0), (16, .if_icmp .ge 7, 19, [23], 0, 0), (19, .iconst 1, 20, [], 1, 0), (20, .iload_n 2, 21, [], 0, 0), (21, .isub, 22, [], 0, 0), (22, .ireturn, 23, [], 0, 0), (23, .iload_n 1, 24, [], 0, 0), (24, .iconst 2, 25, [], 2, 0), (25, .isub, 26, [], 0, 0), (26, .iconst 2, 27, [], 2, 0), (27, .irem, 28, [], 0, 0), (28, .istore_n 3, 29, [], 0, 0), (29, .iload_n 3, 30, [], 0, 0), (30, .iload_n 2, 31, [], 0, 0), (31, .if_icmp .ge 7, 34, [38], 0, 0), (34, .iload_n 3, 35, [], 0, 0), (35, .goto 6, 38, [41], 0, 0), (38, .iload_n 3, 39, [], 0, 0), (39, .iconst 1, 40, [], 1, 0), (40, .iadd, 41, [], 0, 0), (41, .ireturn, 42, [], 0, 0)]
def am_c55 : List AE := [(0, .aload_n 0, 1, [], 0, 0), (1, .iload_n 1, 2, [], 0, 0), (2, .invokevirtual 64, 5, [52, 1, 0, 1, 2, 2], 0, 0), (5, .istore_n 3, 6, [], 0, 0), (6, .aload_n 0, 7, [], 0, 0), (7, .iload_n 2, 8, [], 0, 0), (8, .iload_n 3, 9, [], 0, 0), (9, .invokevirtual 67, 12, [46, 2, 0, 1, 4, 2], 0, 0), (12, .aload_n 0, 13, [], 0, 0), (13, .iload_n 1, 14, [], 0, 0), (14, .invokevirtual 60, 17, [53, 1, 0, 1, 2, 2], 0, 0), (17, .if_icmp .eq 5, 20, [22], 0, 0), (20, .iconst 0, 21, [], 0, 0), (21, .ireturn, 22, [], 0, 0), (22, .aload_n 0, 23, [], 0, 0), (23, .iload_n 2, 24, [], 0, 0), (24, .iconst 0, 25, [], 0, 0), (25, .invokevirtual 67, 28, [46, 2, 0, 1, 4, 2], 0, 0), (28, .istore 4, 30, [], 0, 0), (30, .aload_n 0, 31, [], 0, 0), (31, .iload_n 2, 32, [], 0, 0), (32, .iconst 1, 33, [], 1, 0), (33, .invokevirtual 67, 36, [46, 2, 0, 1, 4, 2], 0, 0), (36, .istore 5, 38, [], 0, 0), (38, .aload_n 0, 39, [], 0, 0), (39, .iload_n 1, 40, [], 0, 0), (40, .invokevirtual 70, 43, [54, 1, 0, 1, 4, 2], 0, 0), (43, .istore 6, 45, [], 0, 0), (45, .iload_n 3, 46, [], 0, 0), (46, .ifCond .ne 14, 49, [60], 0, 0), (49, .aload_n 0, 50, [], 0, 0), (50, .iload 6, 52, [], 0, 0), (52, .iload 5, 54, [], 0, 0), (54, .invokevirtual 73, 57, [45, 2, 0, 1, 3, 2], 0, 0), (57, .goto 11, 60, [68], 0, 0), (60, .aload_n 0, 61, [], 0, 0), (61, .iload 4, 63, [], 0, 0), (63, .iload 6, 65, [], 0, 0), (65, .invokevirtual 73, 68, [45, 2, 0, 1, 3, 2], 0, 0), (68, .istore 7, 70, [], 0, 0), (70, .aload_n 0, 71, [], 0, 0), (71, .iload_n 3, 72, [], 0, 0), (72, .iload_n 2, 73, [], 0, 0), (73, .invokevirtual 53, 76, [47, 2, 0, 1, 3, 2], 0, 0), (76, .aload_n 0, 77, [], 0, 0), (77, .iload_n 3, 78, [], 0, 0), (78, .iload 7, 80, [], 0, 0), (80, .invokevirtual 53, 83, [47, 2, 0, 1, 3, 2], 0, 0), (83, .isub, 84, [], 0, 0), (84, .ireturn, 85, [], 0, 0)]
def am_c56 : List AE := [(0, .iconst 0, 1, [], 0, 0), (1, .istore_n 3, 2, [], 0, 0), (2, .iconst 0, 3, [], 0, 0), (3, .istore 4, 5, [], 0, 0), (5, .iload 4, 7, [], 0, 0), (7, .aload_n 0, 8, [], 0, 0), (8, .invokevirtual 36, 11, [44, 0, 0, 1, 1, 2], 0, 0), (11, .if_icmp .ge 26, 14, [37], 0, 0), (14, .iload_n 3, 15, [], 0, 0), (15, .aload_n 2, 16, [], 0, 0), (16, .iload 4, 18, [], 0, 0), (18, .invokestatic 46, 21, [91, 2, 1, 1, 2], 0, 0), (21, .aload_n 0, 22, [], 0, 0), (22, .iload_n 1, 23, [], 0, 0), (23, .iload 4, 25, [], 0, 0), (25, .invokevirtual 76, 28, [55, 2, 0, 1, 8, 2], 0, 0), (28, .imul, 29, [], 0, 0), (29, .iadd, 30, [], 0, 0), (30, .istore_n 3, 31, [], 0, 0), (31, .iinc 4 1, 34, [], 1, 0), (34, .goto (-29), 37, [5], 0, 0), (37, .iload_n 3, 38, [], 0, 0), (38, .ireturn, 39, [], 0, 0)]
def am_c57 : List AE := [(0, .iconst 0, 1, [], 0, 0), (1, .istore_n 1, 2, [], 0, 0), (2, .iconst 0, 3, [], 0, 0), (3, .istore_n 2, 4, [], 0, 0), (4, .iload_n 2, 5, [], 0, 0), (5, .aload_n 0, 6, [], 0, 0), (6, .invokevirtual 79, 9, [51, 0, 0, 1, 1, 2], 0, 0), (9, .if_icmp .ge 24, 12, [33], 0, 0), (12, .aload_n 0, 13, [], 0, 0), (13, .iload_n 2, 14, [], 0, 0), (14, .aload_n 0, 15, [], 0, 0), (15, .getfield 22, 18, [2, 3, 1], 0, 0), (18, .invokevirtual 82, 21, [56, 2, 0, 1, 5, 2], 0, 0), (21, .ifCond .ge 6, 24, [27], 0, 0), (24, .iinc 1 1, 27, [], 1, 0), (27, .iinc 2 1, 30, [], 1, 0), (30, .goto (-26), 33, [4], 0, 0), (33, .iload_n 1, 34, [], 0, 0), (34, .ireturn, 35, [], 0, 0)]
def am_c58 : List AE := [(0, .iconst 0, 1, [], 0, 0), (1, .istore_n 2, 2, [], 0, 0), (2, .iload_n 2, 3, [], 0, 0), (3, .aload_n 0, 4, [], 0, 0), (4, .invokevirtual 79, 7, [51, 0, 0, 1, 1, 2], 0, 0), (7, .if_icmp .ge 20, 10, [27], 0, 0), (10, .aload_n 0, 11, [], 0, 0), (11, .iload_n 2, 12, [], 0, 0), (12, .iload_n 1, 13, [], 0, 0), (13, .invokevirtual 76, 16, [55, 2, 0, 1, 8, 2], 0, 0), (16, .ifCond .ge 5, 19, [21], 0, 0), (19, .iconst 0, 20, [], 0, 0), (20, .ireturn, 21, [], 0, 0), (21, .iinc 2 1, 24, [], 1, 0), (24, .goto (-22), 27, [2], 0, 0), (27, .iconst 1, 28, [], 1, 0), (28, .ireturn, 29, [], 0, 0)]
def am_c59 : List AE := [(0, .aload_n 0, 1, [], 0, 0), (1, .aload_n 0, 2, [], 0, 0), (2, .getfield 15, 5, [2, 1, 0], 0, 0), (5, .i2l, 6, [], 0, 0), (6, .ldc2_w 86, 9, [], 0, 1103515245), (9, .lmul, 10, [], 0, 0), (10, .ldc2_w 88, 13, [], 0, 12345), (13, .ladd, 14, [], 0, 0), (14, .ldc2_w 90, 17, [], 0, 2147483648), (17, .lrem, 18, [], 0, 0), (18, .l2i, 19, [], 0, 0), (19, .putfield 15, 22, [2, 1, 0], 0, 0), (22, .aload_n 0, 23, [], 0, 0), (23, .getfield 22, 26, [2, 3, 1], 0, 0), (26, .invokestatic 92, 29, [94, 1, 1, 1, 6], 0, 0), (29, .istore_n 1, 30, [], 0, 0), (30, .iload_n 1, 31, [], 0, 0), (31, .ifCond .gt 5, 34, [36], 0, 0), (34, .iconst 0, 35, [], 0, 0), (35, .ireturn, 36, [], 0, 0), (36, .aload_n 0, 37, [], 0, 0), (37, .getfield 15, 40, [2, 1, 0], 0, 0), (40, .ldc 96, 42, [], 65536, 0), (42, .idiv, 43, [], 0, 0), (43, .iload_n 1, 44, [], 0, 0), (44, .irem, 45, [], 0, 0), (45, .istore_n 2, 46, [], 0, 0), (46, .iconst 0, 47, [], 0, 0), (47, .istore_n 3, 48, [], 0, 0), (48, .aload_n 0, 49, [], 0, 0), (49, .getfield 22, 52, [2, 3, 1], 0, 0), (52, .iconst 0, 53, [], 0, 0), (53, .invokestatic 46, 56, [91, 2, 1, 1, 2], 0, 0), (56, .istore 4, 58, [], 0, 0), (58, .iload 4, 60, [], 0, 0), (60, .iload_n 2, 61, [], 0, 0), (61, .if_icmp .gt 32, 64, [93], 0, 0), (64, .iload_n 3, 65, [], 0, 0), (65, .aload_n 0, 66, [], 0, 0), (66, .invokevirtual 36, 69, [44, 0, 0, 1, 1, 2], 0, 0), (69, .iconst 1, 70, [], 1, 0), (70, .isub, 71, [], 0, 0), (71, .if_icmp .ge 22, 74, [93], 0, 0), (74, .iinc 3 1, 77, [], 1, 0), (77, .iload 4, 79, [], 0, 0), (79, .aload_n 0, 80, [], 0, 0), (80, .getfield 22, 83, [2, 3, 1], 0, 0), (83, .iload_n 3, 84, [], 0, 0), (84, .invokestatic 46, 87, [91, 2, 1, 1, 2], 0, 0), (87, .iadd, 88, [], 0, 0), (88, .istore 4, 90, [], 0, 0), (90, .goto (-32), 93, [58], 0, 0), (93, .aload_n 0, 94, [], 0, 0), (94, .getfield 25, 97, [2, 4, 1], 0, 0), (97, .iload_n 3, 98, [], 0, 0), (98, .aload_n 0, 99, [], 0, 0), (99, .getfield 25, 102, [2, 4, 1], 0, 0), (102, .iload_n 3, 103, [], 0, 0), (103, .invokestatic 46, 106, [91, 2, 1, 1, 2], 0, 0), (106, .iconst 1, 107, [], 1, 0), (107, .iadd, 108, [], 0, 0), (108, .invokestatic 50, 111, [92, 3, 1, 0, 3], 0, 0), (111, .iload_n 3, 112, [], 0, 0), (112, .ireturn, 113, [], 0, 0)]
def am_c60 : List AE := [(0, .aload_n 0, 1, [], 0, 0), (1, .invokespecial 3, 4, [2], 0, 0), (4, .aload_n 0, 5, [], 0, 0), (5, .new 9, 8, [2, 5], 0, 0), (8, .dup, 9, [], 0, 0), (9, .invokespecial 11, 12, [40, 0, 0, 0, 1, 2], 0, 0), (12, .putfield 12, 15, [3, 0, 1], 0, 0), (15, .aload_n 0, 16, [], 0, 0), (16, .new 16, 19, [0, 11], 0, 0), (19, .dup, 20, [], 0, 0), (20, .invokespecial 18, 23, [0, 0, 0, 0, 1, 0], 0, 0), (23, .putfield 19, 26, [3, 1, 1], 0, 0), (26, .aload_n 0, 27, [], 0, 0), (27, .new 23, 30, [1, 9], 0, 0), (30, .dup, 31, [], 0, 0), (31, .invokespecial 25, 34, [29, 0, 0, 0, 1, 1], 0, 0), (34, .putfield 26, 37, [3, 2, 1], 0, 0), (37, .aload_n 0, 38, [], 0, 0), (38, .bipush 6, 40, [], 6, 0), (40, .anewarray 9, 43, [], 0, 0), (43, .putfield 30, 46, [3, 3, 1], 0, 0), (46, .aload_n 0, 47, [], 0, 0), (47, .iconst 2, 48, [], 2, 0), (48, .anewarray 9, 51, [], 0, 0), (51, .putfield 34, 54, [3, 4, 1], 0, 0), (54, .aload_n 0, 55, [], 0, 0), (55, .iconst 0, 56, [], 0, 0), (56, .putfield 37, 59, [3, 5, 0], 0, 0), (59, .return_, 60, [], 0, 0)]
def am_c61 : List AE := [(0, .iload_n 1, 1, [], 0, 0), (1, .iconst 2, 2, [], 2, 0), (2, .if_icmp .lt 8, 5, [10], 0, 0), (5, .iload_n 1, 6, [], 0, 0), (6, .iconst 3, 7, [], 3, 0), (7, .if_icmp .le 6, 10, [13], 0, 0), (10, .bipush (-2), 12, [], -2, 0), (12, .ireturn, 13, [], 0, 0), (13, .aload_n 0, 14, [], 0, 0), (14, .getfield 12, 17, [3, 0, 1], 0, 0), (17, .getfield 41, 20, [2, 0, 0], 0, 0), (20, .istore_n 2, 21, [], 0, 0), (21, .aload_n 0, 22, [], 0, 0), (22, .invokevirtual 44, 25, [89, 0, 0, 0, 2, 3], 0, 0), (25, .aload_n 0, 26, [], 0, 0), (26, .getfield 12, 29, [3, 0, 1], 0, 0), (29, .iload_n 1, 30, [], 0, 0), (30, .invokevirtual 47, 33, [41, 1, 0, 0, 2, 2], 0, 0), (33, .iload_n 2, 34, [], 0, 0), (34, .ireturn, 35, [], 0, 0)]
def am_c62 : List AE := [(0, .iload_n 1, 1, [], 0, 0), (1, .invokestatic 51, 4, [83, 1, 1, 2, 1], 0, 0), (4, .ifCond .eq 12, 7, [16], 0, 0), (7, .aload_n 0, 8, [], 0, 0), (8, .iload_n 2, 9, [], 0, 0), (9, .iload_n 3, 10, [], 0, 0), (10, .invokevirtual 55, 13, [85, 2, 0, 2, 3, 3], 0, 0), (13, .ifCond .ne 5, 16, [18], 0, 0), (16, .iconst (-1), 17, [], -1, 0), (17, .ireturn, 18, [], 0, 0), (18, .iload 4, 20, [], 0, 0), (20, .bipush (-9), 22, [], -9, 0), (22, .if_icmp .lt 10, 25, [32], 0, 0), (25, .iload 4, 27, [], 0, 0), (27, .bipush 9, 29, [], 9, 0), (29, .if_icmp .le 6, 32, [35], 0, 0), (32, .bipush (-2), 34, [], -2, 0), (34, .ireturn, 35, [], 0, 0), (35, .aload_n 0, 36, [], 0, 0), (36, .getfield 12, 39, [3, 0, 1], 0, 0), (39, .iload_n 2, 40, [], 0, 0), (40, .iload_n 3, 41, [], 0, 0), (41, .invokevirtual 59, 44, [45, 2, 0, 1, 3, 2], 0, 0), (44, .istore 5, 46, [], 0, 0), (46, .aload_n 0, 47, [], 0, 0), (47, .getfield 12, 50, [3, 0, 1], 0, 0), (50, .iload_n 1, 51, [], 0, 0), (51, .iload 5, 53, [], 0, 0), (53, .invokevirtual 63, 56, [47, 2, 0, 1, 3, 2], 0, 0), (56, .istore 6, 58, [], 0, 0), (58, .aload_n 0, 59, [], 0, 0), (59, .invokevirtual 44, 62, [89, 0, 0, 0, 2, 3], 0, 0), (62, .aload_n 0, 63, [], 0, 0), (63, .getfield 12, 66, [3, 0, 1], 0, 0), (66, .iload_n 1, 67, [], 0, 0), (67, .iload 5, 69, [], 0, 0), (69, .iload 4, 71, [], 0, 0), (71, .invokevirtual 66, 74, [48, 3, 0, 0, 4, 2], 0, 0), (74, .iload 6, 76, [], 0, 0), (76, .bipush 100, 78, [], 100, 0), (78, .iadd, 79, [], 0, 0), (79, .ireturn, 80, [], 0, 0)]
def am_c63 : List AE := [(0, .aload_n 0, 1, [], 0, 0), (1, .iload_n 1, 2, [], 0, 0), (2, .iload_n 2, 3, [], 0, 0), (3, .invokevirtual 55, 6, [85, 2, 0, 2, 3, 3], 0, 0), (6, .ifCond .ne 5, 9, [11], 0, 0), (9, .iconst (-1), 10, [], -1, 0), (10, .ireturn, 11, [], 0, 0), (11, .iload_n 3, 12, [], 0, 0), (12, .ifCond .lt 10, 15, [22], 0, 0), (15, .iload_n 3, 16, [], 0, 0), (16, .sipush 999, 19, [], 999, 0), (19, .if_icmp .le 6, 22, [25], 0, 0), (22, .bipush (-2), 24, [], -2, 0), (24, .ireturn, 25, [], 0, 0), (25, .aload_n 0, 26, [], 0, 0), (26, .getfield 12, 29, [3, 0, 1], 0, 0), (29, .iload_n 1, 30, [], 0, 0), (30, .iload_n 2, 31, [], 0, 0), (31, .invokevirtual 59, 34, [45, 2, 0, 1, 3, 2], 0, 0), (34, .istore 4, 36, [], 0, 0), (36, .aload_n 0, 37, [], 0, 0), (37, .getfield 12, 40, [3, 0, 1], 0, 0), (40, .getfield 70, 43, [2, 3, 1], 0, 0), (43, .iload 4, 45, [], 0, 0), (45, .invokestatic 74, 48, [91, 2, 1, 1, 2], 0, 0), (48, .istore 5, 50, [], 0, 0), (50, .aload_n 0, 51, [], 0, 0), (51, .getfield 12, 54, [3, 0, 1], 0, 0), (54, .getfield 70, 57, [2, 3, 1], 0, 0), (57, .invokestatic 78, 60, [94, 1, 1, 1, 6], 0, 0), (60, .iload 5, 62, [], 0, 0), (62, .isub, 63, [], 0, 0), (63, .iload_n 3, 64, [], 0, 0), (64, .iadd, 65, [], 0, 0), (65, .ifCond .gt 6, 68, [71], 0, 0), (68, .bipush (-5), 70, [], -5, 0), (70, .ireturn, 71, [], 0, 0), (71, .aload_n 0, 72, [], 0, 0), (72, .invokevirtual 44, 75, [89, 0, 0, 0, 2, 3], 0, 0), (75, .aload_n 0, 76, [], 0, 0), (76, .getfield 12, 79, [3, 0, 1], 0, 0), (79, .getfield 70, 82, [2, 3, 1], 0, 0), (82, .iload 4, 84, [], 0, 0), (84, .iload_n 3, 85, [], 0, 0), (85, .invokestatic 82, 88, [92, 3, 1, 0, 3], 0, 0), (88, .iload 5, 90, [], 0, 0), (90, .ireturn, 91, [], 0, 0)]
def am_c64 : List AE := [(0, .aload_n 0, 1, [], 0, 0), (1, .getfield 19, 4, [3, 1, 1], 0, 0), (4, .aload_n 0, 5, [], 0, 0), (5, .getfield 12, 8, [3, 0, 1], 0, 0), (8, .invokevirtual 86, 11, [1, 1, 0, 4, 3, 0], 0, 0), (11, .astore_n 2, 12, [], 0, 0), (12, .aload_n 2, 13, [], 0, 0), (13, .iload_n 1, 14, [], 0, 0), (14, .invokevirtual 90, 17, [2, 1, 0, 2, 2, 0], 0, 0), (17, .ifCond .ne 5, 20, [22], 0, 0), (20, .iconst (-1), 21, [], -1, 0), (21, .ireturn, 22, [], 0, 0), (22, .aload_n 0, 23, [], 0, 0), (23, .aload_n 2, 24, [], 0, 0), (24, .iload_n 1, 25, [], 0, 0), (25, .iconst 0, 26, [], 0, 0), (26, .iconst 1, 27, [], 1, 0), (27, .invokevirtual 93, 30, [86, 4, 0, 1, 6, 3], 0, 0), (30, .ireturn, 31, [], 0, 0)]
def am_c65 : List AE := [(0, .aload_n 0, 1, [], 0, 0), (1, .getfield 19, 4, [3, 1, 1], 0, 0), (4, .aload_n 0, 5, [], 0, 0), (5, .getfield 12, 8, [3, 0, 1], 0, 0), (8, .invokevirtual 86, 11, [1, 1, 0, 4, 3, 0], 0, 0), (11, .astore 4, 13, [], 0, 0), (13, .aload 4, 15, [], 0, 0), (15, .iload_n 1, 16, [], 0, 0), (16, .invokevirtual 90, 19, [2, 1, 0, 2, 2, 0], 0, 0), (19, .ifCond .ne 5, 22, [24], 0, 0), (22, .iconst (-1), 23, [], -1, 0), (23, .ireturn, 24, [], 0, 0), (24, .iload_n 2, 25, [], 0, 0), (25, .ifCond .lt 19, 28, [44], 0, 0), (28, .iload_n 2, 29, [], 0, 0), (29, .bipush 9, 31, [], 9, 0), (31, .if_icmp .gt 13, 34, [44], 0, 0), (34, .iload_n 3, 35, [], 0, 0), (35, .ifCond .lt 9, 38, [44], 0, 0), (38, .iload_n 3, 39, [], 0, 0), (39, .bipush 9, 41, [], 9, 0), (41, .if_icmp .le 6, 44, [47], 0, 0), (44, .bipush (-2), 46, [], -2, 0), (46, .ireturn, 47, [], 0, 0), (47, .iload_n 2, 48, [], 0, 0), (48, .ifCond .ne 10, 51, [58], 0, 0), (51, .iload_n 3, 52, [], 0, 0), (52, .ifCond .ne 6, 55, [58], 0, 0), (55, .bipush (-2), 57, [], -2, 0), (57, .ireturn, 58, [], 0, 0), (58, .aload_n 0, 59, [], 0, 0), (59, .aload 4, 61, [], 0, 0), (61, .iload_n 1, 62, [], 0, 0), (62, .iload_n 2, 63, [], 0, 0), (63, .iload_n 3, 64, [], 0, 0), (64, .invokevirtual 93, 67, [86, 4, 0, 1, 6, 3], 0, 0), (67, .ireturn, 68, [], 0, 0)]
def am_c66 : List AE := [(0, .iload_n 1, 1, [], 0, 0), (1, .iconst 1, 2, [], 1, 0), (2, .if_icmp .lt 9, 5, [11], 0, 0), (5, .iload_n 1, 6, [], 0, 0), (6, .bipush 100, 8, [], 100, 0), (8, .if_icmp .le 6, 11, [14], 0, 0), (11, .bipush (-2), 13, [], -2, 0), (13, .ireturn, 14, [], 0, 0), (14, .aload_n 0, 15, [], 0, 0), (15, .getfield 12, 18, [3, 0, 1], 0, 0), (18, .getfield 97, 21, [2, 4, 1], 0, 0), (21, .invokestatic 78, 24, [94, 1, 1, 1, 6], 0, 0), (24, .iload_n 1, 25, [], 0, 0), (25, .iadd, 26, [], 0, 0), (26, .sipush 1000, 29, [], 1000, 0), (29, .if_icmp .le 6, 32, [35], 0, 0), (32, .bipush (-4), 34, [], -4, 0), (34, .ireturn, 35, [], 0, 0), (35, .aload_n 0, 36, [], 0, 0), (36, .invokevirtual 44, 39, [89, 0, 0, 0, 2, 3], 0, 0), (39, .iconst 0, 40, [], 0, 0), (40, .istore_n 2, 41, [], 0, 0), (41, .iconst 0, 42, [], 0, 0), (42, .istore_n 3, 43, [], 0, 0), (43, .iload_n 3, 44, [], 0, 0), (44, .iload_n 1, 45, [], 0, 0), (45, .if_icmp .ge 17, 48, [62], 0, 0), (48, .aload_n 0, 49, [], 0, 0), (49, .getfield 12, 52, [3, 0, 1], 0, 0), (52, .invokevirtual 100, 55, [59, 0, 0, 1, 5, 2], 0, 0), (55, .istore_n 2, 56, [], 0, 0), (56, .iinc 3 1, 59, [], 1, 0), (59, .goto (-16), 62, [43], 0, 0), (62, .iload_n 2, 63, [], 0, 0), (63, .ireturn, 64, [], 0, 0)]
def am_c67 : List AE := [(0, .iload_n 1, 1, [], 0, 0), (1, .ifCond .ge 6, 4, [7], 0, 0), (4, .bipush (-2), 6, [], -2, 0), (6, .ireturn, 7, [], 0, 0), (7, .aload_n 0, 8, [], 0, 0), (8, .getfield 12, 11, [3, 0, 1], 0, 0), (11, .getfield 97, 14, [2, 4, 1], 0, 0), (14, .invokestatic 78, 17, [94, 1, 1, 1, 6], 0, 0), (17, .istore_n 2, 18, [], 0, 0), (18, .aload_n 0, 19, [], 0, 0), (19, .invokevirtual 44, 22, [89, 0, 0, 0, 2, 3], 0, 0), (22, .aload_n 0, 23, [], 0, 0), (23, .getfield 12, 26, [3, 0, 1], 0, 0), (26, .getfield 97, 29, [2, 4, 1], 0, 0), (29, .iconst 0, 30, [], 0, 0), (30, .iconst 0, 31, [], 0, 0), (31, .invokestatic 104, 34, [93, 3, 1, 0, 4], 0, 0), (34, .aload_n 0, 35, [], 0, 0), (35, .getfield 12, 38, [3, 0, 1], 0, 0), (38, .iload_n 1, 39, [], 0, 0), (39, .putfield 107, 42, [2, 1, 0], 0, 0), (42, .iload_n 2, 43, [], 0, 0), (43, .ireturn, 44, [], 0, 0)]
def am_c68 : List AE := [(0, .iload_n 0, 1, [], 0, 0), (1, .ldc 8, 3, [], 2147483647, 0), (3, .iand, 4, [], 0, 0), (4, .iload_n 1, 5, [], 0, 0), (5, .irem, 6, [], 0, 0), (6, .ireturn, 7, [], 0, 0)]
def am_c69 : List AE := [(0, .aload_n 0, 1, [], 0, 0), (1, .iload_n 1, 2, [], 0, 0), (2, .iload_n 2, 3, [], 0, 0), (3, .invokevirtual 55, 6, [85, 2, 0, 2, 3, 3], 0, 0), (6, .ifCond .ne 5, 9, [11], 0, 0), (9, .iconst (-1), 10, [], -1, 0), (10, .ireturn, 11, [], 0, 0), (11, .aload_n 0, 12, [], 0, 0), (12, .getfield 12, 15, [3, 0, 1], 0, 0), (15, .iload_n 1, 16, [], 0, 0), (16, .iload_n 2, 17, [], 0, 0), (17, .invokevirtual 59, 20, [45, 2, 0, 1, 3, 2], 0, 0), (20, .istore 4, 22, [], 0, 0), (22, .iload_n 3, 23, [], 0, 0), (23, .tableswitch 115 0 5 #[37, 37, 51, 64, 77, 95], 60, [0, 138, 60, 60, 74, 87, 100, 118], 0, 0), (60, .aload_n 0, 61, [], 0, 0), (61, .getfield 12, 64, [3, 0, 1], 0, 0), (64, .iload_n 3, 65, [], 0, 0), (65, .iload 4, 67, [], 0, 0), (67, .invokevirtual 63, 70, [47, 2, 0, 1, 3, 2], 0, 0), (70, .bipush 100, 72, [], 100, 0), (72, .iadd, 73, [], 0, 0), (73, .ireturn, 74, [], 0, 0), (74, .aload_n 0, 75, [], 0, 0), (75, .getfield 12, 78, [3, 0, 1], 0, 0), (78, .getfield 70, 81, [2, 3, 1], 0, 0), (81, .iload 4, 83, [], 0, 0), (83, .invokestatic 74, 86, [91, 2, 1, 1, 2], 0, 0), (86, .ireturn, 87, [], 0, 0), (87, .aload_n 0, 88, [], 0, 0), (88, .getfield 12, 91, [3, 0, 1], 0, 0), (91, .getfield 97, 94, [2, 4, 1], 0, 0), (94, .iload 4, 96, [], 0, 0), (96, .invokestatic 74, 99, [91, 2, 1, 1, 2], 0, 0), (99, .ireturn, 100, [], 0, 0), (100, .aload_n 0, 101, [], 0, 0), (101, .getfield 12, 104, [3, 0, 1], 0, 0), (104, .iload 4, 106, [], 0, 0), (106, .invokevirtual 123, 109, [58, 1, 0, 2, 3, 2], 0, 0), (109, .ifCond .eq 7, 112, [116], 0, 0), (112, .iconst 1, 113, [], 1, 0), (113, .goto 4, 116, [117], 0, 0), (116, .iconst 0, 117, [], 0, 0), (117, .ireturn, 118, [], 0, 0), (118, .aload_n 0, 119, [], 0, 0), (119, .getfield 19, 122, [3, 1, 1], 0, 0), (122, .aload_n 0, 123, [], 0, 0), (123, .getfield 12, 126, [3, 0, 1], 0, 0), (126, .invokevirtual 86, 129, [1, 1, 0, 4, 3, 0], 0, 0), (129, .invokevirtual 126, 132, [7, 0, 0, 1, 3, 0], 0, 0), (132, .iload 4, 134, [], 0, 0), (134, .ishr, 135, [], 0, 0), (135, .iconst 1, 136, [], 1, 0), (136, .iand, 137, [], 0, 0), (137, .ireturn, 138, [], 0, 0), (138, .bipush (-2), 140, [], -2, 0), (140, .ireturn, 141, [], 0, 0)]
def am_c70 : List AE := [(0, .iload_n 1, 1, [], 0, 0), (1, .ifCond .lt 14, 4, [15], 0, 0), (4, .iload_n 1, 5, [], 0, 0), (5, .aload_n 0, 6, [], 0, 0), (6, .getfield 12, 9, [3, 0, 1], 0, 0), (9, .invokevirtual 129, 12, [51, 0, 0, 1, 1, 2], 0, 0), (12, .if_icmp .lt 5, 15, [17], 0, 0), (15, .iconst (-1), 16, [], -1, 0), (16, .ireturn, 17, [], 0, 0), (17, .iload_n 2, 18, [], 0, 0), (18, .tableswitch 99 0 4 #[34, 43, 52, 61, 80], 52, [0, 117, 52, 61, 70, 79, 98], 0, 0), (52, .aload_n 0, 53, [], 0, 0), (53, .getfield 12, 56, [3, 0, 1], 0, 0), (56, .iload_n 1, 57, [], 0, 0), (57, .invokevirtual 132, 60, [52, 1, 0, 1, 2, 2], 0, 0), (60, .ireturn, 61, [], 0, 0), (61, .aload_n 0, 62, [], 0, 0), (62, .getfield 12, 65, [3, 0, 1], 0, 0), (65, .iload_n 1, 66, [], 0, 0), (66, .invokevirtual 136, 69, [53, 1, 0, 1, 2, 2], 0, 0), (69, .ireturn, 70, [], 0, 0), (70, .aload_n 0, 71, [], 0, 0), (71, .getfield 12, 74, [3, 0, 1], 0, 0), (74, .iload_n 1, 75, [], 0, 0), (75, .invokevirtual 139, 78, [54, 1, 0, 1, 4, 2], 0, 0), (78, .ireturn, 79, [], 0, 0), (79, .aload_n 0, 80, [], 0, 0), (80, .getfield 12, 83, [3, 0, 1], 0, 0), (83, .iload_n 1, 84, [], 0, 0), (84, .aload_n 0, 85, [], 0, 0), (85, .getfield 12, 88, [3, 0, 1], 0, 0), (88, .getfield 70, 91, [2, 3, 1], 0, 0), (91, .invokevirtual 142, 94, [56, 2, 0, 1, 5, 2], 0, 0), (94, .ldc 146, 96, [], 1000000, 0), (96, .iadd, 97, [], 0, 0), (97, .ireturn, 98, [], 0, 0), (98, .ldc 146, 100, [], 1000000, 0), (100, .aload_n 0, 101, [], 0, 0), (101, .getfield 12, 104, [3, 0, 1], 0, 0), (104, .iload_n 1, 105, [], 0, 0), (105, .aload_n 0, 106, [], 0, 0), (106, .getfield 12, 109, [3, 0, 1], 0, 0), (109, .getfield 97, 112, [2, 4, 1], 0, 0), (112, .invokevirtual 142, 115, [56, 2, 0, 1, 5, 2], 0, 0), (115, .isub, 116, [], 0, 0), (116, .ireturn, 117, [], 0, 0), (117, .bipush (-2), 119, [], -2, 0), (119, .ireturn, 120, [], 0, 0)]
def am_c71 : List AE := [(0, .iload_n 1, 1, [], 0, 0), (1, .tableswitch 195 0 12 #[67, 75, 83, 91, 102, 118, 126, 141, 152, 152, 174, 182, 190], 68, [0, 196, 68, 76, 84, 92, 103, 119, 127, 142, 153, 153, 175, 183, 191], 0, 0), (68, .aload_n 0, 69, [], 0, 0), (69, .getfield 12, 72, [3, 0, 1], 0, 0), (72, .getfield 41, 75, [2, 0, 0], 0, 0), (75, .ireturn, 76, [], 0, 0), (76, .aload_n 0, 77, [], 0, 0), (77, .getfield 12, 80, [3, 0, 1], 0, 0), (80, .invokevirtual 114, 83, [44, 0, 0, 1, 1, 2], 0, 0), (83, .ireturn, 84, [], 0, 0), (84, .aload_n 0, 85, [], 0, 0), (85, .getfield 12, 88, [3, 0, 1], 0, 0), (88, .invokevirtual 129, 91, [51, 0, 0, 1, 1, 2], 0, 0), (91, .ireturn, 92, [], 0, 0), (92, .aload_n 0, 93, [], 0, 0), (93, .getfield 12, 96, [3, 0, 1], 0, 0), (96, .getfield 70, 99, [2, 3, 1], 0, 0), (99, .invokestatic 78, 102, [94, 1, 1, 1, 6], 0, 0), (102, .ireturn, 103, [], 0, 0), (103, .aload_n 0, 104, [], 0, 0), (104, .getfield 12, 107, [3, 0, 1], 0, 0), (107, .invokevirtual 147, 110, [57, 0, 0, 1, 3, 2], 0, 0), (110, .ifCond .ne 7, 113, [117], 0, 0), (113, .iconst 1, 114, [], 1, 0), (114, .goto 4, 117, [118], 0, 0), (117, .iconst 0, 118, [], 0, 0), (118, .ireturn, 119, [], 0, 0), (119, .aload_n 0, 120, [], 0, 0), (120, .getfield 12, 123, [3, 0, 1], 0, 0), (123, .invokevirtual 147, 126, [57, 0, 0, 1, 3, 2], 0, 0), (126, .ireturn, 127, [], 0, 0), (127, .aload_n 0, 128, [], 0, 0), (128, .getfield 19, 131, [3, 1, 1], 0, 0), (131, .aload_n 0, 132, [], 0, 0), (132, .getfield 12, 135, [3, 0, 1], 0, 0), (135, .invokevirtual 86, 138, [1, 1, 0, 4, 3, 0], 0, 0), (138, .getfield 150, 141, [0, 0, 0], 0, 0), (141, .ireturn, 142, [], 0, 0), (142, .aload_n 0, 143, [], 0, 0), (143, .getfield 12, 146, [3, 0, 1], 0, 0), (146, .getfield 97, 149, [2, 4, 1], 0, 0), (149, .invokestatic 78, 152, [94, 1, 1, 1, 6], 0, 0), (152, .ireturn, 153, [], 0, 0), (153, .aload_n 0, 154, [], 0, 0), (154, .getfield 12, 157, [3, 0, 1], 0, 0), (157, .aload_n 0, 158, [], 0, 0), (158, .getfield 12, 161, [3, 0, 1], 0, 0), (161, .getfield 97, 164, [2, 4, 1], 0, 0), (164, .iload_n 1, 165, [], 0, 0), (165, .bipush 8, 167, [], 8, 0), (167, .isub, 168, [], 0, 0), (168, .invokevirtual 153, 171, [50, 2, 0, 1, 5, 2], 0, 0), (171, .ldc 156, 173, [], 100000, 0), (173, .iadd, 174, [], 0, 0), (174, .ireturn, 175, [], 0, 0), (175, .aload_n 0, 176, [], 0, 0), (176, .getfield 12, 179, [3, 0, 1], 0, 0), (179, .getfield 107, 182, [2, 1, 0], 0, 0), (182, .ireturn, 183, [], 0, 0), (183, .aload_n 0, 184, [], 0, 0), (184, .getfield 26, 187, [3, 2, 1], 0, 0), (187, .getfield 120, 190, [1, 0, 0], 0, 0), (190, .ireturn, 191, [], 0, 0), (191, .aload_n 0, 192, [], 0, 0), (192, .getfield 37, 195, [3, 5, 0], 0, 0), (195, .ireturn, 196, [], 0, 0), (196, .bipush (-2), 198, [], -2, 0), (198, .ireturn, 199, [], 0, 0)]
def am_c72 : List AE := [(0, .iload_n 1, 1, [], 0, 0), (1, .invokestatic 157, 4, [84, 1, 1, 2, 1], 0, 0), (4, .ifCond .ne 6, 7, [10], 0, 0), (7, .bipush (-2), 9, [], -2, 0), (9, .ireturn, 10, [], 0, 0), (10, .aload_n 0, 11, [], 0, 0), (11, .getfield 12, 14, [3, 0, 1], 0, 0), (14, .aload_n 0, 15, [], 0, 0), (15, .getfield 12, 18, [3, 0, 1], 0, 0), (18, .getfield 70, 21, [2, 3, 1], 0, 0), (21, .iload_n 1, 22, [], 0, 0), (22, .invokevirtual 153, 25, [50, 2, 0, 1, 5, 2], 0, 0), (25, .i2l, 26, [], 0, 0), (26, .aload_n 0, 27, [], 0, 0), (27, .getfield 12, 30, [3, 0, 1], 0, 0), (30, .getfield 70, 33, [2, 3, 1], 0, 0), (33, .invokestatic 78, 36, [94, 1, 1, 1, 6], 0, 0), (36, .i2l, 37, [], 0, 0), (37, .invokestatic 160, 40, [88, 2, 1, 1, 4], 0, 0), (40, .ireturn, 41, [], 0, 0)]
def am_c73 : List AE := [(0, .aload_n 0, 1, [], 0, 0), (1, .getfield 19, 4, [3, 1, 1], 0, 0), (4, .aload_n 0, 5, [], 0, 0), (5, .getfield 12, 8, [3, 0, 1], 0, 0), (8, .invokevirtual 86, 11, [1, 1, 0, 4, 3, 0], 0, 0), (11, .astore_n 3, 12, [], 0, 0), (12, .aload_n 3, 13, [], 0, 0), (13, .iload_n 1, 14, [], 0, 0), (14, .invokevirtual 90, 17, [2, 1, 0, 2, 2, 0], 0, 0), (17, .ifCond .ne 5, 20, [22], 0, 0), (20, .iconst (-1), 21, [], -1, 0), (21, .ireturn, 22, [], 0, 0), (22, .iload_n 2, 23, [], 0, 0), (23, .ifCond .lt 22, 26, [45], 0, 0), (26, .iload_n 2, 27, [], 0, 0), (27, .aload_n 0, 28, [], 0, 0), (28, .getfield 12, 31, [3, 0, 1], 0, 0), (31, .invokevirtual 114, 34, [44, 0, 0, 1, 1, 2], 0, 0), (34, .if_icmp .ge 11, 37, [45], 0, 0), (37, .aload_n 3, 38, [], 0, 0), (38, .iload_n 1, 39, [], 0, 0), (39, .iload_n 2, 40, [], 0, 0), (40, .invokevirtual 164, 43, [3, 2, 0, 3, 4, 0], 0, 0), (43, .l2i, 44, [], 0, 0), (44, .ireturn, 45, [], 0, 0), (45, .iload_n 2, 46, [], 0, 0), (46, .tableswitch 45 6 8 #[26, 33, 39], 72, [6, 91, 72, 79, 85], 0, 0), (72, .aload_n 3, 73, [], 0, 0), (73, .iload_n 1, 74, [], 0, 0), (74, .invokevirtual 168, 77, [4, 1, 0, 3, 2, 0], 0, 0), (77, .l2i, 78, [], 0, 0), (78, .ireturn, 79, [], 0, 0), (79, .aload_n 3, 80, [], 0, 0), (80, .iload_n 1, 81, [], 0, 0), (81, .invokevirtual 172, 84, [5, 1, 0, 1, 4, 0], 0, 0), (84, .ireturn, 85, [], 0, 0), (85, .aload_n 3, 86, [], 0, 0), (86, .iload_n 1, 87, [], 0, 0), (87, .invokevirtual 175, 90, [6, 1, 0, 1, 2, 0], 0, 0), (90, .ireturn, 91, [], 0, 0), (91, .bipush (-2), 93, [], -2, 0), (93, .ireturn, 94, [], 0, 0)]
def am_c74 : List AE := [(0, .iload_n 1, 1, [], 0, 0), (1, .invokestatic 157, 4, [84, 1, 1, 2, 1], 0, 0), (4, .ifCond .eq 12, 7, [16], 0, 0), (7, .iload_n 2, 8, [], 0, 0), (8, .ifCond .lt 8, 11, [16], 0, 0), (11, .iload_n 2, 12, [], 0, 0), (12, .iconst 1, 13, [], 1, 0), (13, .if_icmp .le 6, 16, [19], 0, 0), (16, .bipush (-2), 18, [], -2, 0), (18, .ireturn, 19, [], 0, 0), (19, .aload_n 0, 20, [], 0, 0), (20, .getfield 19, 23, [3, 1, 1], 0, 0), (23, .aload_n 0, 24, [], 0, 0), (24, .getfield 12, 27, [3, 0, 1], 0, 0), (27, .invokevirtual 86, 30, [1, 1, 0, 4, 3, 0], 0, 0), (30, .astore_n 3, 31, [], 0, 0), (31, .aload_n 3, 32, [], 0, 0), (32, .aload_n 0, 33, [], 0, 0), (33, .getfield 12, 36, [3, 0, 1], 0, 0), (36, .iload_n 1, 37, [], 0, 0), (37, .invokevirtual 178, 40, [9, 2, 0, 1, 9, 0], 0, 0), (40, .istore 4, 42, [], 0, 0), (42, .iload_n 2, 43, [], 0, 0), (43, .ifCond .ne 6, 46, [49], 0, 0), (46, .iload 4, 48, [], 0, 0), (48, .ireturn, 49, [], 0, 0), (49, .aload_n 3, 50, [], 0, 0), (50, .aload_n 0, 51, [], 0, 0), (51, .getfield 12, 54, [3, 0, 1], 0, 0), (54, .iload 4, 56, [], 0, 0), (56, .iload_n 1, 57, [], 0, 0), (57, .invokevirtual 182, 60, [8, 3, 0, 3, 7, 0], 0, 0), (60, .aload_n 3, 61, [], 0, 0), (61, .iload 4, 63, [], 0, 0), (63, .invokevirtual 168, 66, [4, 1, 0, 3, 2, 0], 0, 0), (66, .invokestatic 160, 69, [88, 2, 1, 1, 4], 0, 0), (69, .ireturn, 70, [], 0, 0)]
def am_c75 : List AE := [(0, .iload_n 1, 1, [], 0, 0), (1, .invokestatic 51, 4, [83, 1, 1, 2, 1], 0, 0), (4, .ifCond .ne 5, 7, [9], 0, 0), (7, .iconst (-1), 8, [], -1, 0), (8, .ireturn, 9, [], 0, 0), (9, .aload_n 0, 10, [], 0, 0), (10, .getfield 19, 13, [3, 1, 1], 0, 0), (13, .aload_n 0, 14, [], 0, 0), (14, .getfield 12, 17, [3, 0, 1], 0, 0), (17, .invokevirtual 86, 20, [1, 1, 0, 4, 3, 0], 0, 0), (20, .invokevirtual 126, 23, [7, 0, 0, 1, 3, 0], 0, 0), (23, .istore_n 2, 24, [], 0, 0), (24, .iconst 0, 25, [], 0, 0), (25, .istore_n 3, 26, [], 0, 0), (26, .iconst 0, 27, [], 0, 0), (27, .istore 4, 29, [], 0, 0), (29, .iload 4, 31, [], 0, 0), (31, .aload_n 0, 32, [], 0, 0), (32, .getfield 12, 35, [3, 0, 1], 0, 0), (35, .invokevirtual 114, 38, [44, 0, 0, 1, 1, 2], 0, 0), (38, .if_icmp .ge 34, 41, [72], 0, 0), (41, .iload_n 2, 42, [], 0, 0), (42, .iload 4, 44, [], 0, 0), (44, .ishr, 45, [], 0, 0), (45, .iconst 1, 46, [], 1, 0), (46, .iand, 47, [], 0, 0), (47, .iconst 1, 48, [], 1, 0), (48, .if_icmp .ne 18, 51, [66], 0, 0), (51, .iload_n 3, 52, [], 0, 0), (52, .iconst 1, 53, [], 1, 0), (53, .aload_n 0, 54, [], 0, 0), (54, .getfield 12, 57, [3, 0, 1], 0, 0), (57, .iload 4, 59, [], 0, 0), (59, .iload_n 1, 60, [], 0, 0), (60, .invokevirtual 185, 63, [46, 2, 0, 1, 4, 2], 0, 0), (63, .ishl, 64, [], 0, 0), (64, .ior, 65, [], 0, 0), (65, .istore_n 3, 66, [], 0, 0), (66, .iinc 4 1, 69, [], 1, 0), (69, .goto (-40), 72, [29], 0, 0), (72, .iconst 1, 73, [], 1, 0), (73, .iload_n 1, 74, [], 0, 0), (74, .ifCond .ne 7, 77, [81], 0, 0), (77, .iconst 2, 78, [], 2, 0), (78, .goto 10, 81, [88], 0, 0), (81, .aload_n 0, 82, [], 0, 0), (82, .getfield 12, 85, [3, 0, 1], 0, 0), (85, .getfield 41, 88, [2, 0, 0], 0, 0), (88, .ishl, 89, [], 0, 0), (89, .iconst 1, 90, [], 1, 0), (90, .isub, 91, [], 0, 0), (91, .istore 4, 93, [], 0, 0), (93, .iload 4, 95, [], 0, 0), (95, .iload_n 3, 96, [], 0, 0), (96, .iconst (-1), 97, [], -1, 0), (97, .ixor, 98, [], 0, 0), (98, .iand, 99, [], 0, 0), (99, .ireturn, 100, [], 0, 0)]
def am_c76 : List AE := [(0, .iload_n 0, 1, [], 0, 0), (1, .ldc 8, 3, [], 2147483647, 0), (3, .iand, 4, [], 0, 0), (4, .iload_n 1, 5, [], 0, 0), (5, .irem, 6, [], 0, 0), (6, .ireturn, 7, [], 0, 0)]
def am_c77 : List AE := [(0, .iload_n 0, 1, [], 0, 0), (1, .ldc 8, 3, [], 2147483647, 0), (3, .iand, 4, [], 0, 0), (4, .iload_n 1, 5, [], 0, 0), (5, .irem, 6, [], 0, 0), (6, .ireturn, 7, [], 0, 0)]
def am_c78 : List AE := [(0, .iload_n 0, 1, [], 0, 0), (1, .ldc 8, 3, [], 2147483647, 0), (3, .iand, 4, [], 0, 0), (4, .iload_n 1, 5, [], 0, 0), (5, .irem, 6, [], 0, 0), (6, .ireturn, 7, [], 0, 0)]
def am_c79 : List AE := [(0, .iload_n 0, 1, [], 0, 0), (1, .ldc 8, 3, [], 2147483647, 0), (3, .iand, 4, [], 0, 0), (4, .iload_n 1, 5, [], 0, 0), (5, .irem, 6, [], 0, 0), (6, .ireturn, 7, [], 0, 0)]
def am_c80 : List AE := [(0, .aload_n 0, 1, [], 0, 0), (1, .getfield 37, 4, [3, 5, 0], 0, 0), (4, .iconst 1, 5, [], 1, 0), (5, .if_icmp .lt 15, 8, [20], 0, 0), (8, .aload_n 0, 9, [], 0, 0), (9, .getfield 37, 12, [3, 5, 0], 0, 0), (12, .aload_n 0, 13, [], 0, 0), (13, .getfield 30, 16, [3, 3, 1], 0, 0), (16, .arraylength, 17, [], 0, 0), (17, .if_icmp .le 6, 20, [23], 0, 0), (20, .bipush (-5), 22, [], -5, 0), (22, .ireturn, 23, [], 0, 0), (23, .aload_n 0, 24, [], 0, 0), (24, .getfield 30, 27, [3, 3, 1], 0, 0), (27, .aload_n 0, 28, [], 0, 0), (28, .getfield 37, 31, [3, 5, 0], 0, 0), (31, .iconst 1, 32, [], 1, 0), (32, .isub, 33, [], 0, 0), (33, .aaload, 34, [], 0, 0), (34, .astore_n 1, 35, [], 0, 0), (35, .aload_n 1, 36, [], 0, 0), (36, .ifnonnull 6, 39, [42], 0, 0), (39, .bipush (-5), 41, [], -5, 0), (41, .ireturn, 42, [], 0, 0), (42, .aload_n 0, 43, [], 0, 0), (43, .getfield 12, 46, [3, 0, 1], 0, 0), (46, .aload_n 1, 47, [], 0, 0), (47, .invokevirtual 196, 50, [42, 1, 0, 0, 2, 2], 0, 0), (50, .aload_n 0, 51, [], 0, 0), (51, .dup, 52, [], 0, 0), (52, .getfield 37, 55, [3, 5, 0], 0, 0), (55, .iconst 1, 56, [], 1, 0), (56, .isub, 57, [], 0, 0), (57, .putfield 37, 60, [3, 5, 0], 0, 0), (60, .aload_n 0, 61, [], 0, 0), (61, .getfield 37, 64, [3, 5, 0], 0, 0), (64, .ireturn, 65, [], 0, 0)]
def am_c81 : List AE := [(0, .iload_n 0, 1, [], 0, 0), (1, .ldc 8, 3, [], 2147483647, 0), (3, .iand, 4, [], 0, 0), (4, .iload_n 1, 5, [], 0, 0), (5, .irem, 6, [], 0, 0), (6, .ireturn, 7, [], 0, 0)]
def am_c82 : List AE := [(0, .iload_n 0, 1, [], 0, 0), (1, .ldc 8, 3, [], 2147483647, 0), (3, .iand, 4, [], 0, 0), (4, .iload_n 1, 5, [], 0, 0), (5, .irem, 6, [], 0, 0), (6, .ireturn, 7, [], 0, 0)]
def am_c83 : List AE := [(0, .iload_n 0, 1, [], 0, 0), (1, .ifCond .lt 12, 4, [13], 0, 0), (4, .iload_n 0, 5, [], 0, 0), (5, .iconst 2, 6, [], 2, 0), (6, .if_icmp .ge 7, 9, [13], 0, 0), (9, .iconst 1, 10, [], 1, 0), (10, .goto 4, 13, [14], 0, 0), (13, .iconst 0, 14, [], 0, 0), (14, .ireturn, 15, [], 0, 0)]
def am_c84 : List AE := [(0, .iload_n 0, 1, [], 0, 0), (1, .invokestatic 51, 4, [83, 1, 1, 2, 1], 0, 0), (4, .ifCond .ne 8, 7, [12], 0, 0), (7, .iload_n 0, 8, [], 0, 0), (8, .iconst 2, 9, [], 2, 0), (9, .if_icmp .ne 7, 12, [16], 0, 0), (12, .iconst 1, 13, [], 1, 0), (13, .goto 4, 16, [17], 0, 0), (16, .iconst 0, 17, [], 0, 0), (17, .ireturn, 18, [], 0, 0)]
def am_c85 : List AE := [(0, .iload_n 1, 1, [], 0, 0), (1, .ifCond .lt 27, 4, [28], 0, 0), (4, .iload_n 1, 5, [], 0, 0), (5, .iconst 2, 6, [], 2, 0), (6, .if_icmp .ge 22, 9, [28], 0, 0), (9, .iload_n 2, 10, [], 0, 0), (10, .ifCond .lt 18, 13, [28], 0, 0), (13, .iload_n 2, 14, [], 0, 0), (14, .aload_n 0, 15, [], 0, 0), (15, .getfield 12, 18, [3, 0, 1], 0, 0), (18, .getfield 41, 21, [2, 0, 0], 0, 0), (21, .if_icmp .ge 7, 24, [28], 0, 0), (24, .iconst 1, 25, [], 1, 0), (25, .goto 4, 28, [29], 0, 0), (28, .iconst 0, 29, [], 0, 0), (29, .ireturn, 30, [], 0, 0)]
def am_c86 : List AE := [(0, .iconst 0, 1, [], 0, 0), (1, .istore 5, 3, [], 0, 0), (3, .iload 5, 5, [], 0, 0), (5, .aload_n 0, 6, [], 0, 0), (6, .getfield 12, 9, [3, 0, 1], 0, 0), (9, .invokevirtual 114, 12, [44, 0, 0, 1, 1, 2], 0, 0), (12, .if_icmp .ge 30, 15, [42], 0, 0), (15, .aload_n 0, 16, [], 0, 0), (16, .aload_n 1, 17, [], 0, 0), (17, .iload_n 2, 18, [], 0, 0), (18, .iload 5, 20, [], 0, 0), (20, .iload_n 3, 21, [], 0, 0), (21, .iload 4, 23, [], 0, 0), (23, .invokevirtual 200, 26, [87, 5, 0, 3, 6, 3], 0, 0), (26, .ldc2_w 204, 29, [], 0, 999), (29, .lcmp, 30, [], 0, 0), (30, .ifCond .le 6, 33, [36], 0, 0), (33, .bipush (-4), 35, [], -4, 0), (35, .ireturn, 36, [], 0, 0), (36, .iinc 5 1, 39, [], 1, 0), (39, .goto (-36), 42, [3], 0, 0), (42, .aload_n 0, 43, [], 0, 0), (43, .invokevirtual 44, 46, [89, 0, 0, 0, 2, 3], 0, 0), (46, .iconst 0, 47, [], 0, 0), (47, .istore 5, 49, [], 0, 0), (49, .iload 5, 51, [], 0, 0), (51, .aload_n 0, 52, [], 0, 0), (52, .getfield 12, 55, [3, 0, 1], 0, 0), (55, .invokevirtual 114, 58, [44, 0, 0, 1, 1, 2], 0, 0), (58, .if_icmp .ge 33, 61, [91], 0, 0), (61, .aload_n 0, 62, [], 0, 0), (62, .getfield 12, 65, [3, 0, 1], 0, 0), (65, .getfield 70, 68, [2, 3, 1], 0, 0), (68, .iload 5, 70, [], 0, 0), (70, .aload_n 0, 71, [], 0, 0), (71, .aload_n 1, 72, [], 0, 0), (72, .iload_n 2, 73, [], 0, 0), (73, .iload 5, 75, [], 0, 0), (75, .iload_n 3, 76, [], 0, 0), (76, .iload 4, 78, [], 0, 0), (78, .invokevirtual 200, 81, [87, 5, 0, 3, 6, 3], 0, 0), (81, .l2i, 82, [], 0, 0), (82, .invokestatic 82, 85, [92, 3, 1, 0, 3], 0, 0), (85, .iinc 5 1, 88, [], 1, 0), (88, .goto (-39), 91, [49], 0, 0), (91, .aload_n 0, 92, [], 0, 0), (92, .getfield 12, 95, [3, 0, 1], 0, 0), (95, .getfield 70, 98, [2, 3, 1], 0, 0), (98, .invokestatic 78, 101, [94, 1, 1, 1, 6], 0, 0), (101, .ireturn, 102, [], 0, 0)]
def am_c87 : List AE := [(0, .iload 4, 2, [], 0, 0), (2, .i2l, 3, [], 0, 0), (3, .aload_n 0, 4, [], 0, 0), (4, .getfield 12, 7, [3, 0, 1], 0, 0), (7, .getfield 70, 10, [2, 3, 1], 0, 0), (10, .iload_n 3, 11, [], 0, 0), (11, .invokestatic 74, 14, [91, 2, 1, 1, 2], 0, 0), (14, .i2l, 15, [], 0, 0), (15, .lmul, 16, [], 0, 0), (16, .iload 5, 18, [], 0, 0), (18, .i2l, 19, [], 0, 0), (19, .aload_n 1, 20, [], 0, 0), (20, .iload_n 2, 21, [], 0, 0), (21, .iload_n 3, 22, [], 0, 0), (22, .invokevirtual 164, 25, [3, 2, 0, 3, 4, 0], 0, 0), (25, .lmul, 26, [], 0, 0), (26, .ladd, 27, [], 0, 0), (27, .lreturn, 28, [], 0, 0)]
def am_c88 : List AE := [(0, .lload_n 2, 1, [], 0, 0), (1, .lconst 0, 2, [], 0, 0), (2, .lcmp, 3, [], 0, 0), (3, .ifCond .gt 6, 6, [9], 0, 0), (6, .ldc 156, 8, [], 100000, 0), (8, .ireturn, 9, [], 0, 0), (9, .ldc2_w 206, 12, [], 0, 1000), (12, .lload_n 0, 13, [], 0, 0), (13, .lmul, 14, [], 0, 0), (14, .lload_n 2, 15, [], 0, 0), (15, .invokestatic 208, 18, [162, 2, 1, 3, 6], 0, 0), (18, .l2i, 19, [], 0, 0), (19, .ldc 156, 21, [], 100000, 0), (21, .iadd, 22, [], 0, 0), (22, .ireturn, 23, [], 0, 0)]
def am_c89 : List AE := [(0, .aload_n 0, 1, [], 0, 0), (1, .getfield 37, 4, [3, 5, 0], 0, 0), (4, .aload_n 0, 5, [], 0, 0), (5, .getfield 30, 8, [3, 3, 1], 0, 0), (8, .arraylength, 9, [], 0, 0), (9, .if_icmp .lt 7, 12, [16], 0, 0), (12, .aload_n 0, 13, [], 0, 0), (13, .invokevirtual 214, 16, [90, 0, 0, 0, 3, 3], 0, 0), (16, .aload_n 0, 17, [], 0, 0), (17, .getfield 37, 20, [3, 5, 0], 0, 0), (20, .ifCond .lt 15, 23, [35], 0, 0), (23, .aload_n 0, 24, [], 0, 0), (24, .getfield 37, 27, [3, 5, 0], 0, 0), (27, .aload_n 0, 28, [], 0, 0), (28, .getfield 30, 31, [3, 3, 1], 0, 0), (31, .arraylength, 32, [], 0, 0), (32, .if_icmp .lt 4, 35, [36], 0, 0), (35, .return_, 36, [], 0, 0), (36, .aload_n 0, 37, [], 0, 0), (37, .getfield 30, 40, [3, 3, 1], 0, 0), (40, .aload_n 0, 41, [], 0, 0), (41, .getfield 37, 44, [3, 5, 0], 0, 0), (44, .aaload, 45, [], 0, 0), (45, .astore_n 1, 46, [], 0, 0), (46, .aload_n 1, 47, [], 0, 0), (47, .ifnonnull 21, 50, [68], 0, 0), (50, .new 9, 53, [2, 5], 0, 0), (53, .dup, 54, [], 0, 0), (54, .invokespecial 11, 57, [40, 0, 0, 0, 1, 2], 0, 0), (57, .astore_n 1, 58, [], 0, 0), (58, .aload_n 0, 59, [], 0, 0), (59, .getfield 30, 62, [3, 3, 1], 0, 0), (62, .aload_n 0, 63, [], 0, 0), (63, .getfield 37, 66, [3, 5, 0], 0, 0), (66, .aload_n 1, 67, [], 0, 0), (67, .aastore, 68, [], 0, 0), (68, .aload_n 1, 69, [], 0, 0), (69, .aload_n 0, 70, [], 0, 0), (70, .getfield 12, 73, [3, 0, 1], 0, 0), (73, .invokevirtual 196, 76, [42, 1, 0, 0, 2, 2], 0, 0), (76, .aload_n 0, 77, [], 0, 0), (77, .dup, 78, [], 0, 0), (78, .getfield 37, 81, [3, 5, 0], 0, 0), (81, .iconst 1, 82, [], 1, 0), (82, .iadd, 83, [], 0, 0), (83, .putfield 37, 86, [3, 5, 0], 0, 0), (86, .return_, 87, [], 0, 0)]
def am_c90 : List AE := [(0, .aload_n 0, 1, [], 0, 0), (1, .getfield 30, 4, [3, 3, 1], 0, 0), (4, .iconst 0, 5, [], 0, 0), (5, .aaload, 6, [], 0, 0), (6, .astore_n 1, 7, [], 0, 0), (7, .iconst 1, 8, [], 1, 0), (8, .istore_n 2, 9, [], 0, 0), (9, .iload_n 2, 10, [], 0, 0), (10, .aload_n 0, 11, [], 0, 0), (11, .getfield 30, 14, [3, 3, 1], 0, 0), (14, .arraylength, 15, [], 0, 0), (15, .if_icmp .ge 23, 18, [38], 0, 0), (18, .aload_n 0, 19, [], 0, 0), (19, .getfield 30, 22, [3, 3, 1], 0, 0), (22, .iload_n 2, 23, [], 0, 0), (23, .iconst 1, 24, [], 1, 0), (24, .isub, 25, [], 0, 0), (25, .aload_n 0, 26, [], 0, 0), (26, .getfield 30, 29, [3, 3, 1], 0, 0), (29, .iload_n 2, 30, [], 0, 0), (30, .aaload, 31, [], 0, 0), (31, .aastore, 32, [], 0, 0), (32, .iinc 2 1, 35, [], 1, 0), (35, .goto (-26), 38, [9], 0, 0), (38, .aload_n 0, 39, [], 0, 0), (39, .getfield 30, 42, [3, 3, 1], 0, 0), (42, .aload_n 0, 43, [], 0, 0), (43, .getfield 30, 46, [3, 3, 1], 0, 0), (46, .arraylength, 47, [], 0, 0), (47, .iconst 1, 48, [], 1, 0), (48, .isub, 49, [], 0, 0), (49, .aload_n 1, 50, [], 0, 0), (50, .aastore, 51, [], 0, 0), (51, .aload_n 0, 52, [], 0, 0), (52, .aload_n 0, 53, [], 0, 0), (53, .getfield 30, 56, [3, 3, 1], 0, 0), (56, .arraylength, 57, [], 0, 0), (57, .iconst 1, 58, [], 1, 0), (58, .isub, 59, [], 0, 0), (59, .putfield 37, 62, [3, 5, 0], 0, 0), (62, .return_, 63, [], 0, 0)]
def am_c91 : List AE := [(0, .iload_n 1, 1, [], 0, 0), (1, .ifCond .lt 9, 4, [10], 0, 0), (4, .iload_n 1, 5, [], 0, 0), (5, .aload_n 0, 6, [], 0, 0), (6, .arraylength, 7, [], 0, 0), (7, .if_icmp .lt 5, 10, [12], 0, 0), (10, .iconst 0, 11, [], 0, 0), (11, .ireturn, 12, [], 0, 0), (12, .aload_n 0, 13, [], 0, 0), (13, .iload_n 1, 14, [], 0, 0), (14, .iaload, 15, [], 0, 0), (15, .ireturn, 16, [], 0, 0)]
def am_c92 : List AE := [(0, .iload_n 1, 1, [], 0, 0), (1, .ifCond .lt 13, 4, [14], 0, 0), (4, .iload_n 1, 5, [], 0, 0), (5, .aload_n 0, 6, [], 0, 0), (6, .arraylength, 7, [], 0, 0), (7, .if_icmp .ge 7, 10, [14], 0, 0), (10, .aload_n 0, 11, [], 0, 0), (11, .iload_n 1, 12, [], 0, 0), (12, .iload_n 2, 13, [], 0, 0), (13, .iastore, 14, [], 0, 0), (14, .return_, 15, [], 0, 0)]
def am_c93 : List AE := [(0, .iconst 0, 1, [], 0, 0), (1, .istore_n 3, 2, [], 0, 0), (2, .iload_n 3, 3, [], 0, 0), (3, .aload_n 0, 4, [], 0, 0), (4, .arraylength, 5, [], 0, 0), (5, .if_icmp .ge 22, 8, [27], 0, 0), (8, .aload_n 0, 9, [], 0, 0), (9, .iload_n 3, 10, [], 0, 0), (10, .iload_n 3, 11, [], 0, 0), (11, .iload_n 1, 12, [], 0, 0), (12, .if_icmp .ge 7, 15, [19], 0, 0), (15, .iload_n 2, 16, [], 0, 0), (16, .goto 4, 19, [20], 0, 0), (19, .iconst 0, 20, [], 0, 0), (20, .iastore, 21, [], 0, 0), (21, .iinc 3 1, 24, [], 1, 0), (24, .goto (-22), 27, [2], 0, 0), (27, .return_, 28, [], 0, 0)]
def am_c94 : List AE := [(0, .iconst 0, 1, [], 0, 0), (1, .istore_n 1, 2, [], 0, 0), (2, .aload_n 0, 3, [], 0, 0), (3, .astore_n 2, 4, [], 0, 0), (4, .aload_n 2, 5, [], 0, 0), (5, .arraylength, 6, [], 0, 0), (6, .istore_n 3, 7, [], 0, 0), (7, .iconst 0, 8, [], 0, 0), (8, .istore 4, 10, [], 0, 0), (10, .iload 4, 12, [], 0, 0), (12, .iload_n 3, 13, [], 0, 0), (13, .if_icmp .ge 20, 16, [33], 0, 0), (16, .aload_n 2, 17, [], 0, 0), (17, .iload 4, 19, [], 0, 0), (19, .iaload, 20, [], 0, 0), (20, .istore 5, 22, [], 0, 0), (22, .iload_n 1, 23, [], 0, 0), (23, .iload 5, 25, [], 0, 0), (25, .iadd, 26, [], 0, 0), (26, .istore_n 1, 27, [], 0, 0), (27, .iinc 4 1, 30, [], 1, 0), (30, .goto (-20), 33, [10], 0, 0), (33, .iload_n 1, 34, [], 0, 0), (34, .ireturn, 35, [], 0, 0)]
def am_c95 : List AE := [(0, .iload_n 1, 1, [], 0, 0), (1, .aload_n 0, 2, [], 0, 0), (2, .arraylength, 3, [], 0, 0), (3, .if_icmp .ge 9, 6, [12], 0, 0), (6, .aload_n 0, 7, [], 0, 0), (7, .iload_n 1, 8, [], 0, 0), (8, .iaload, 9, [], 0, 0), (9, .goto 11, 12, [20], 0, 0), (12, .ldc 7, 14, [], 625341585, 0), (14, .iload_n 1, 15, [], 0, 0), (15, .sipush 677, 18, [], 677, 0), (18, .iadd, 19, [], 0, 0), (19, .imul, 20, [], 0, 0), (20, .ireturn, 21, [], 0, 0)]
def am_c96 : List AE := [(0, .iload_n 0, 1, [], 0, 0), (1, .ldc 8, 3, [], 2147483647, 0), (3, .iand, 4, [], 0, 0), (4, .iload_n 1, 5, [], 0, 0), (5, .irem, 6, [], 0, 0), (6, .ireturn, 7, [], 0, 0)]
def am_c97 : List AE := [(0, .iload_n 0, 1, [], 0, 0), (1, .iconst 2, 2, [], 2, 0), (2, .irem, 3, [], 0, 0), (3, .ifCond .ne 7, 6, [10], 0, 0), (6, .iload_n 1, 7, [], 0, 0), (7, .goto 6, 10, [13], 0, 0), (10, .iconst 1, 11, [], 1, 0), (11, .iload_n 1, 12, [], 0, 0), (12, .isub, 13, [], 0, 0), (13, .ireturn, 14, [], 0, 0)]
def am_c98 : List AE := [(0, .iload_n 2, 1, [], 0, 0), (1, .iload_n 0, 2, [], 0, 0), (2, .iconst 2, 3, [], 2, 0), (3, .idiv, 4, [], 0, 0), (4, .iadd, 5, [], 0, 0), (5, .iload_n 1, 6, [], 0, 0), (6, .irem, 7, [], 0, 0), (7, .istore_n 3, 8, [], 0, 0), (8, .iload_n 0, 9, [], 0, 0), (9, .bipush 6, 11, [], 6, 0), (11, .if_icmp .ge 7, 14, [18], 0, 0), (14, .iload_n 3, 15, [], 0, 0), (15, .goto 8, 18, [23], 0, 0), (18, .iload_n 1, 19, [], 0, 0), (19, .iconst 1, 20, [], 1, 0), (20, .isub, 21, [], 0, 0), (21, .iload_n 3, 22, [], 0, 0), (22, .isub, 23, [], 0, 0), (23, .ireturn, 24, [], 0, 0)]
def am_c99 : List AE := [(0, .iload_n 3, 1, [], 0, 0), (1, .iconst 4, 2, [], 4, 0), (2, .ishr, 3, [], 0, 0), (3, .istore 4, 5, [], 0, 0), (5, .aload_n 0, 6, [], 0, 0), (6, .iconst 0, 7, [], 0, 0), (7, .invokevirtual 9, 10, [71, 1, 0, 1, 2, 3], 0, 0), (10, .istore 5, 12, [], 0, 0), (12, .iload 4, 14, [], 0, 0), (14, .iconst 2, 15, [], 2, 0), (15, .invokestatic 15, 18, [96, 2, 1, 1, 2], 0, 0), (18, .istore 6, 20, [], 0, 0), (20, .iload 4, 22, [], 0, 0), (22, .iconst 2, 23, [], 2, 0), (23, .ishr, 24, [], 0, 0), (24, .iload 5, 26, [], 0, 0), (26, .invokestatic 15, 29, [96, 2, 1, 1, 2], 0, 0), (29, .istore 7, 31, [], 0, 0), (31, .iload_n 3, 32, [], 0, 0), (32, .bipush 7, 34, [], 7, 0), (34, .invokestatic 15, 37, [96, 2, 1, 1, 2], 0, 0), (37, .tableswitch 99 0 3 #[31, 31, 31, 31], 68, [0, 136, 68, 68, 68, 68], 0, 0), (68, .iload 4, 70, [], 0, 0), (70, .iconst 5, 71, [], 5, 0), (71, .ishr, 72, [], 0, 0), (72, .iconst 2, 73, [], 2, 0), (73, .invokestatic 15, 76, [96, 2, 1, 1, 2], 0, 0), (76, .istore 8, 78, [], 0, 0), (78, .iload 4, 80, [], 0, 0), (80, .bipush 7, 82, [], 7, 0), (82, .ishr, 83, [], 0, 0), (83, .bipush 19, 85, [], 19, 0), (85, .invokestatic 15, 88, [96, 2, 1, 1, 2], 0, 0), (88, .bipush 9, 90, [], 9, 0), (90, .isub, 91, [], 0, 0), (91, .istore 9, 93, [], 0, 0), (93, .aload_n 0, 94, [], 0, 0), (94, .iload 8, 96, [], 0, 0), (96, .iload 6, 98, [], 0, 0), (98, .iload 7, 100, [], 0, 0), (100, .iload 9, 102, [], 0, 0), (102, .invokevirtual 21, 105, [62, 4, 0, 1, 7, 3], 0, 0), (105, .aload_n 1, 106, [], 0, 0), (106, .iload 8, 108, [], 0, 0), (108, .iload_n 2, 109, [], 0, 0), (109, .iload 6, 111, [], 0, 0), (111, .invokestatic 25, 114, [97, 2, 1, 1, 2], 0, 0), (114, .iload_n 2, 115, [], 0, 0), (115, .iload 5, 117, [], 0, 0), (117, .iload 7, 119, [], 0, 0), (119, .invokestatic 28, 122, [98, 3, 1, 1, 4], 0, 0), (122, .iload 9, 124, [], 0, 0), (124, .invokevirtual 21, 127, [62, 4, 0, 1, 7, 3], 0, 0), (127, .if_icmp .ne 7, 130, [134], 0, 0), (130, .iconst 1, 131, [], 1, 0), (131, .goto 4, 134, [135], 0, 0), (134, .iconst 0, 135, [], 0, 0), (135, .ireturn, 136, [], 0, 0), (136, .aload_n 0, 137, [], 0, 0), (137, .iload 6, 139, [], 0, 0), (139, .iload 7, 141, [], 0, 0), (141, .iload 4, 143, [], 0, 0), (143, .bipush 6, 145, [], 6, 0), (145, .ishr, 146, [], 0, 0), (146, .bipush 30, 148, [], 30, 0), (148, .invokestatic 15, 151, [96, 2, 1, 1, 2], 0, 0), (151, .invokevirtual 32, 154, [63, 3, 0, 1, 6, 3], 0, 0), (154, .aload_n 1, 155, [], 0, 0), (155, .iload_n 2, 156, [], 0, 0), (156, .iload 6, 158, [], 0, 0), (158, .invokestatic 25, 161, [97, 2, 1, 1, 2], 0, 0), (161, .iload_n 2, 162, [], 0, 0), (162, .iload 5, 164, [], 0, 0), (164, .iload 7, 166, [], 0, 0), (166, .invokestatic 28, 169, [98, 3, 1, 1, 4], 0, 0), (169, .iload 4, 171, [], 0, 0), (171, .bipush 6, 173, [], 6, 0), (173, .ishr, 174, [], 0, 0), (174, .bipush 30, 176, [], 30, 0), (176, .invokestatic 15, 179, [96, 2, 1, 1, 2], 0, 0), (179, .invokevirtual 32, 182, [63, 3, 0, 1, 6, 3], 0, 0), (182, .if_icmp .ne 7, 185, [189], 0, 0), (185, .iconst 1, 186, [], 1, 0), (186, .goto 4, 189, [190], 0, 0), (189, .iconst 0, 190, [], 0, 0), (190, .ireturn, 191, [], 0, 0)]
def am_c100 : List AE := [(0, .aload_n 0, 1, [], 0, 0), (1, .iconst 0, 2, [], 0, 0), (2, .invokevirtual 9, 5, [71, 1, 0, 1, 2, 3], 0, 0), (5, .istore 4, 7, [], 0, 0), (7, .aload_n 0, 8, [], 0, 0), (8, .bipush 6, 10, [], 6, 0), (10, .invokevirtual 9, 13, [71, 1, 0, 1, 2, 3], 0, 0), (13, .istore 5, 15, [], 0, 0), (15, .iload 5, 17, [], 0, 0), (17, .aload_n 1, 18, [], 0, 0), (18, .bipush 6, 20, [], 6, 0), (20, .invokevirtual 9, 23, [71, 1, 0, 1, 2, 3], 0, 0), (23, .if_icmp .ne 46, 26, [69], 0, 0), (26, .aload_n 0, 27, [], 0, 0), (27, .iconst 3, 28, [], 3, 0), (28, .invokevirtual 9, 31, [71, 1, 0, 1, 2, 3], 0, 0), (31, .aload_n 1, 32, [], 0, 0), (32, .iconst 3, 33, [], 3, 0), (33, .invokevirtual 9, 36, [71, 1, 0, 1, 2, 3], 0, 0), (36, .if_icmp .ne 33, 39, [69], 0, 0), (39, .aload_n 0, 40, [], 0, 0), (40, .iconst 4, 41, [], 4, 0), (41, .invokevirtual 9, 44, [71, 1, 0, 1, 2, 3], 0, 0), (44, .aload_n 1, 45, [], 0, 0), (45, .iconst 4, 46, [], 4, 0), (46, .invokevirtual 9, 49, [71, 1, 0, 1, 2, 3], 0, 0), (49, .if_icmp .ne 20, 52, [69], 0, 0), (52, .aload_n 0, 53, [], 0, 0), (53, .iconst 5, 54, [], 5, 0), (54, .invokevirtual 9, 57, [71, 1, 0, 1, 2, 3], 0, 0), (57, .aload_n 1, 58, [], 0, 0), (58, .iconst 5, 59, [], 5, 0), (59, .invokevirtual 9, 62, [71, 1, 0, 1, 2, 3], 0, 0), (62, .if_icmp .ne 7, 65, [69], 0, 0), (65, .iconst 1, 66, [], 1, 0), (66, .goto 4, 69, [70], 0, 0), (69, .iconst 0, 70, [], 0, 0), (70, .istore 6, 72, [], 0, 0), (72, .iconst 0, 73, [], 0, 0), (73, .istore 7, 75, [], 0, 0), (75, .iload 7, 77, [], 0, 0), (77, .iconst 3, 78, [], 3, 0), (78, .if_icmp .ge 53, 81, [131], 0, 0), (81, .iload 6, 83, [], 0, 0), (83, .ifCond .eq 39, 86, [122], 0, 0), (86, .aload_n 0, 87, [], 0, 0), (87, .iload 7, 89, [], 0, 0), (89, .invokevirtual 35, 92, [72, 1, 0, 1, 2, 3], 0, 0), (92, .aload_n 1, 93, [], 0, 0), (93, .iload 7, 95, [], 0, 0), (95, .invokevirtual 35, 98, [72, 1, 0, 1, 2, 3], 0, 0), (98, .if_icmp .ne 24, 101, [122], 0, 0), (101, .aload_n 0, 102, [], 0, 0), (102, .iload 7, 104, [], 0, 0), (104, .iconst 1, 105, [], 1, 0), (105, .invokevirtual 38, 108, [74, 2, 0, 1, 5, 3], 0, 0), (108, .aload_n 1, 109, [], 0, 0), (109, .iload 7, 111, [], 0, 0), (111, .iconst 1, 112, [], 1, 0), (112, .invokevirtual 38, 115, [74, 2, 0, 1, 5, 3], 0, 0), (115, .if_icmp .ne 7, 118, [122], 0, 0), (118, .iconst 1, 119, [], 1, 0), (119, .goto 4, 122, [123], 0, 0), (122, .iconst 0, 123, [], 0, 0), (123, .istore 6, 125, [], 0, 0), (125, .iinc 7 1, 128, [], 1, 0), (128, .goto (-53), 131, [75], 0, 0), (131, .iconst 0, 132, [], 0, 0), (132, .istore 7, 134, [], 0, 0), (134, .iload 7, 136, [], 0, 0), (136, .iconst 2, 137, [], 2, 0), (137, .if_icmp .ge 86, 140, [223], 0, 0), (140, .iconst 0, 141, [], 0, 0), (141, .istore 8, 143, [], 0, 0), (143, .iload 8, 145, [], 0, 0), (145, .iload 4, 147, [], 0, 0), (147, .if_icmp .ge 70, 150, [217], 0, 0), (150, .iconst 0, 151, [], 0, 0), (151, .istore 9, 153, [], 0, 0), (153, .iload 9, 155, [], 0, 0), (155, .bipush 6, 157, [], 6, 0), (157, .if_icmp .ge 54, 160, [211], 0, 0), (160, .iload 6, 162, [], 0, 0), (162, .ifCond .eq 40, 165, [202], 0, 0), (165, .aload_n 0, 166, [], 0, 0), (166, .iload 7, 168, [], 0, 0), (168, .iload 8, 170, [], 0, 0), (170, .iload 9, 172, [], 0, 0), (172, .invokevirtual 41, 175, [69, 3, 0, 1, 5, 3], 0, 0), (175, .aload_n 1, 176, [], 0, 0), (176, .iload_n 2, 177, [], 0, 0), (177, .iload 7, 179, [], 0, 0), (179, .invokestatic 25, 182, [97, 2, 1, 1, 2], 0, 0), (182, .iload_n 2, 183, [], 0, 0), (183, .iload 4, 185, [], 0, 0), (185, .iload 8, 187, [], 0, 0), (187, .invokestatic 28, 190, [98, 3, 1, 1, 4], 0, 0), (190, .iload 9, 192, [], 0, 0), (192, .invokevirtual 41, 195, [69, 3, 0, 1, 5, 3], 0, 0), (195, .if_icmp .ne 7, 198, [202], 0, 0), (198, .iconst 1, 199, [], 1, 0), (199, .goto 4, 202, [203], 0, 0), (202, .iconst 0, 203, [], 0, 0), (203, .istore 6, 205, [], 0, 0), (205, .iinc 9 1, 208, [], 1, 0), (208, .goto (-55), 211, [153], 0, 0), (211, .iinc 8 1, 214, [], 1, 0), (214, .goto (-71), 217, [143], 0, 0), (217, .iinc 7 1, 220, [], 1, 0), (220, .goto (-86), 223, [134], 0, 0), (223, .iconst 0, 224, [], 0, 0), (224, .istore 7, 226, [], 0, 0), (226, .iload 7, 228, [], 0, 0), (228, .iconst 2, 229, [], 2, 0), (229, .if_icmp .ge 48, 232, [277], 0, 0), (232, .iload 6, 234, [], 0, 0), (234, .ifCond .eq 34, 237, [268], 0, 0), (237, .aload_n 0, 238, [], 0, 0), (238, .iconst 0, 239, [], 0, 0), (239, .invokevirtual 44, 242, [75, 1, 0, 1, 5, 3], 0, 0), (242, .iload 7, 244, [], 0, 0), (244, .ishr, 245, [], 0, 0), (245, .iconst 1, 246, [], 1, 0), (246, .iand, 247, [], 0, 0), (247, .aload_n 1, 248, [], 0, 0), (248, .iconst 0, 249, [], 0, 0), (249, .invokevirtual 44, 252, [75, 1, 0, 1, 5, 3], 0, 0), (252, .iload_n 2, 253, [], 0, 0), (253, .iload 7, 255, [], 0, 0), (255, .invokestatic 25, 258, [97, 2, 1, 1, 2], 0, 0), (258, .ishr, 259, [], 0, 0), (259, .iconst 1, 260, [], 1, 0), (260, .iand, 261, [], 0, 0), (261, .if_icmp .ne 7, 264, [268], 0, 0), (264, .iconst 1, 265, [], 1, 0), (265, .goto 4, 268, [269], 0, 0), (268, .iconst 0, 269, [], 0, 0), (269, .istore 6, 271, [], 0, 0), (271, .iinc 7 1, 274, [], 1, 0), (274, .goto (-48), 277, [226], 0, 0), (277, .iconst 0, 278, [], 0, 0), (278, .istore 7, 280, [], 0, 0), (280, .iload 7, 282, [], 0, 0), (282, .iload 4, 284, [], 0, 0), (284, .if_icmp .ge 50, 287, [334], 0, 0), (287, .iload 6, 289, [], 0, 0), (289, .ifCond .eq 36, 292, [325], 0, 0), (292, .aload_n 0, 293, [], 0, 0), (293, .iconst 1, 294, [], 1, 0), (294, .invokevirtual 44, 297, [75, 1, 0, 1, 5, 3], 0, 0), (297, .iload 7, 299, [], 0, 0), (299, .ishr, 300, [], 0, 0), (300, .iconst 1, 301, [], 1, 0), (301, .iand, 302, [], 0, 0), (302, .aload_n 1, 303, [], 0, 0), (303, .iconst 1, 304, [], 1, 0), (304, .invokevirtual 44, 307, [75, 1, 0, 1, 5, 3], 0, 0), (307, .iload_n 2, 308, [], 0, 0), (308, .iload 4, 310, [], 0, 0), (310, .iload 7, 312, [], 0, 0), (312, .invokestatic 28, 315, [98, 3, 1, 1, 4], 0, 0), (315, .ishr, 316, [], 0, 0), (316, .iconst 1, 317, [], 1, 0), (317, .iand, 318, [], 0, 0), (318, .if_icmp .ne 7, 321, [325], 0, 0), (321, .iconst 1, 322, [], 1, 0), (322, .goto 4, 325, [326], 0, 0), (325, .iconst 0, 326, [], 0, 0), (326, .istore 6, 328, [], 0, 0), (328, .iinc 7 1, 331, [], 1, 0), (331, .goto (-51), 334, [280], 0, 0), (334, .iconst 0, 335, [], 0, 0), (335, .istore 7, 337, [], 0, 0), (337, .iload 7, 339, [], 0, 0), (339, .iconst 2, 340, [], 2, 0), (340, .if_icmp .ge 148, 343, [488], 0, 0), (343, .iload 6, 345, [], 0, 0), (345, .ifCond .eq 143, 348, [488], 0, 0), (348, .iload_n 3, 349, [], 0, 0), (349, .iload 7, 351, [], 0, 0), (351, .iadd, 352, [], 0, 0), (352, .iload 5, 354, [], 0, 0), (354, .irem, 355, [], 0, 0), (355, .istore 8, 357, [], 0, 0), (357, .iconst 0, 358, [], 0, 0), (358, .istore 9, 360, [], 0, 0), (360, .iconst 0, 361, [], 0, 0), (361, .istore 10, 363, [], 0, 0), (363, .iload 10, 365, [], 0, 0), (365, .iload 5, 367, [], 0, 0), (367, .if_icmp .ge 111, 370, [478], 0, 0), (370, .iload 9, 372, [], 0, 0), (372, .ifCond .ne 106, 375, [478], 0, 0), (375, .aload_n 0, 376, [], 0, 0), (376, .iload 8, 378, [], 0, 0), (378, .bipush 6, 380, [], 6, 0), (380, .invokevirtual 47, 383, [73, 2, 0, 1, 4, 3], 0, 0), (383, .aload_n 1, 384, [], 0, 0), (384, .iload 10, 386, [], 0, 0), (386, .bipush 6, 388, [], 6, 0), (388, .invokevirtual 47, 391, [73, 2, 0, 1, 4, 3], 0, 0), (391, .if_icmp .ne 7, 394, [398], 0, 0), (394, .iconst 1, 395, [], 1, 0), (395, .goto 4, 398, [399], 0, 0), (398, .iconst 0, 399, [], 0, 0), (399, .istore 9, 401, [], 0, 0), (401, .iconst 0, 402, [], 0, 0), (402, .istore 11, 404, [], 0, 0), (404, .iload 11, 406, [], 0, 0), (406, .iconst 2, 407, [], 2, 0), (407, .iload 4, 409, [], 0, 0), (409, .imul, 410, [], 0, 0), (410, .if_icmp .ge 62, 413, [472], 0, 0), (413, .iload 9, 415, [], 0, 0), (415, .ifCond .eq 57, 418, [472], 0, 0), (418, .aload_n 0, 419, [], 0, 0), (419, .iload 8, 421, [], 0, 0), (421, .iload 11, 423, [], 0, 0), (423, .invokevirtual 47, 426, [73, 2, 0, 1, 4, 3], 0, 0), (426, .aload_n 1, 427, [], 0, 0), (427, .iload 10, 429, [], 0, 0), (429, .iload 4, 431, [], 0, 0), (431, .iload_n 2, 432, [], 0, 0), (432, .iload 11, 434, [], 0, 0), (434, .iload 4, 436, [], 0, 0), (436, .idiv, 437, [], 0, 0), (437, .invokestatic 25, 440, [97, 2, 1, 1, 2], 0, 0), (440, .imul, 441, [], 0, 0), (441, .iload_n 2, 442, [], 0, 0), (442, .iload 4, 444, [], 0, 0), (444, .iload 11, 446, [], 0, 0), (446, .iload 4, 448, [], 0, 0), (448, .irem, 449, [], 0, 0), (449, .invokestatic 28, 452, [98, 3, 1, 1, 4], 0, 0), (452, .iadd, 453, [], 0, 0), (453, .invokevirtual 47, 456, [73, 2, 0, 1, 4, 3], 0, 0), (456, .if_icmp .ne 7, 459, [463], 0, 0), (459, .iconst 1, 460, [], 1, 0), (460, .goto 4, 463, [464], 0, 0), (463, .iconst 0, 464, [], 0, 0), (464, .istore 9, 466, [], 0, 0), (466, .iinc 11 1, 469, [], 1, 0), (469, .goto (-65), 472, [404], 0, 0), (472, .iinc 10 1, 475, [], 1, 0), (475, .goto (-112), 478, [363], 0, 0), (478, .iload 9, 480, [], 0, 0), (480, .istore 6, 482, [], 0, 0), (482, .iinc 7 1, 485, [], 1, 0), (485, .goto (-148), 488, [337], 0, 0), (488, .iload 6, 490, [], 0, 0), (490, .ireturn, 491, [], 0, 0)]
def am_c101 : List AE := [(0, .iload_n 1, 1, [], 0, 0), (1, .aload_n 0, 2, [], 0, 0), (2, .bipush 6, 4, [], 6, 0), (4, .invokevirtual 9, 7, [71, 1, 0, 1, 2, 3], 0, 0), (7, .invokestatic 15, 10, [96, 2, 1, 1, 2], 0, 0), (10, .istore_n 2, 11, [], 0, 0), (11, .aload_n 0, 12, [], 0, 0), (12, .iload_n 2, 13, [], 0, 0), (13, .invokevirtual 50, 16, [64, 1, 0, 1, 3, 3], 0, 0), (16, .istore_n 3, 17, [], 0, 0), (17, .iload_n 3, 18, [], 0, 0), (18, .bipush (-4), 20, [], -4, 0), (20, .if_icmp .eq 23, 23, [43], 0, 0), (23, .iload_n 3, 24, [], 0, 0), (24, .aload_n 0, 25, [], 0, 0), (25, .iload_n 2, 26, [], 0, 0), (26, .bipush 6, 28, [], 6, 0), (28, .invokevirtual 47, 31, [73, 2, 0, 1, 4, 3], 0, 0), (31, .if_icmp .ne 16, 34, [47], 0, 0), (34, .aload_n 0, 35, [], 0, 0), (35, .iconst 4, 36, [], 4, 0), (36, .invokevirtual 9, 39, [71, 1, 0, 1, 2, 3], 0, 0), (39, .iconst 1, 40, [], 1, 0), (40, .if_icmp .ne 7, 43, [47], 0, 0), (43, .iconst 1, 44, [], 1, 0), (44, .goto 4, 47, [48], 0, 0), (47, .iconst 0, 48, [], 0, 0), (48, .istore 4, 50, [], 0, 0), (50, .iconst 0, 51, [], 0, 0), (51, .istore 5, 53, [], 0, 0), (53, .iload 5, 55, [], 0, 0), (55, .iconst 4, 56, [], 4, 0), (56, .if_icmp .ge 182, 59, [238], 0, 0), (59, .iload 4, 61, [], 0, 0), (61, .ifCond .eq 177, 64, [238], 0, 0), (64, .iload_n 1, 65, [], 0, 0), (65, .iconst 4, 66, [], 4, 0), (66, .iconst 3, 67, [], 3, 0), (67, .iload 5, 69, [], 0, 0), (69, .imul, 70, [], 0, 0), (70, .iadd, 71, [], 0, 0), (71, .ishr, 72, [], 0, 0), (72, .aload_n 0, 73, [], 0, 0), (73, .bipush 6, 75, [], 6, 0), (75, .invokevirtual 9, 78, [71, 1, 0, 1, 2, 3], 0, 0), (78, .invokestatic 15, 81, [96, 2, 1, 1, 2], 0, 0), (81, .istore 6, 83, [], 0, 0), (83, .aload_n 0, 84, [], 0, 0), (84, .iconst 4, 85, [], 4, 0), (85, .invokevirtual 9, 88, [71, 1, 0, 1, 2, 3], 0, 0), (88, .iconst 1, 89, [], 1, 0), (89, .if_icmp .ne 7, 92, [96], 0, 0), (92, .iconst 1, 93, [], 1, 0), (93, .goto 4, 96, [97], 0, 0), (96, .iconst 0, 97, [], 0, 0), (97, .istore 7, 99, [], 0, 0), (99, .aload_n 0, 100, [], 0, 0), (100, .iload 6, 102, [], 0, 0), (102, .iconst 1, 103, [], 1, 0), (103, .iload 5, 105, [], 0, 0), (105, .iconst 2, 106, [], 2, 0), (106, .irem, 107, [], 0, 0), (107, .iadd, 108, [], 0, 0), (108, .iload_n 1, 109, [], 0, 0), (109, .iconst 2, 110, [], 2, 0), (110, .iload 5, 112, [], 0, 0), (112, .imul, 113, [], 0, 0), (113, .ishr, 114, [], 0, 0), (114, .iconst 3, 115, [], 3, 0), (115, .invokestatic 15, 118, [96, 2, 1, 1, 2], 0, 0), (118, .invokevirtual 53, 121, [65, 3, 0, 1, 5, 3], 0, 0), (121, .istore 8, 123, [], 0, 0), (123, .iload 8, 125, [], 0, 0), (125, .bipush (-4), 127, [], -4, 0), (127, .if_icmp .eq 27, 130, [154], 0, 0), (130, .iload 8, 132, [], 0, 0), (132, .aload_n 0, 133, [], 0, 0), (133, .iconst 3, 134, [], 3, 0), (134, .invokevirtual 9, 137, [71, 1, 0, 1, 2, 3], 0, 0), (137, .if_icmp .ne 21, 140, [158], 0, 0), (140, .iload 7, 142, [], 0, 0), (142, .ifCond .eq 12, 145, [154], 0, 0), (145, .aload_n 0, 146, [], 0, 0), (146, .iconst 4, 147, [], 4, 0), (147, .invokevirtual 9, 150, [71, 1, 0, 1, 2, 3], 0, 0), (150, .iconst 1, 151, [], 1, 0), (151, .if_icmp .ne 7, 154, [158], 0, 0), (154, .iconst 1, 155, [], 1, 0), (155, .goto 4, 158, [159], 0, 0), (158, .iconst 0, 159, [], 0, 0), (159, .istore 4, 161, [], 0, 0), (161, .aload_n 0, 162, [], 0, 0), (162, .iconst 4, 163, [], 4, 0), (163, .invokevirtual 9, 166, [71, 1, 0, 1, 2, 3], 0, 0), (166, .iconst 1, 167, [], 1, 0), (167, .if_icmp .ne 65, 170, [232], 0, 0), (170, .iload 4, 172, [], 0, 0), (172, .ifCond .eq 57, 175, [229], 0, 0), (175, .aload_n 0, 176, [], 0, 0), (176, .iconst 0, 177, [], 0, 0), (177, .invokevirtual 35, 180, [72, 1, 0, 1, 2, 3], 0, 0), (180, .aload_n 0, 181, [], 0, 0), (181, .iconst 0, 182, [], 0, 0), (182, .iconst 1, 183, [], 1, 0), (183, .invokevirtual 38, 186, [74, 2, 0, 1, 5, 3], 0, 0), (186, .if_icmp .gt 43, 189, [229], 0, 0), (189, .aload_n 0, 190, [], 0, 0), (190, .iconst 1, 191, [], 1, 0), (191, .invokevirtual 35, 194, [72, 1, 0, 1, 2, 3], 0, 0), (194, .aload_n 0, 195, [], 0, 0), (195, .iconst 1, 196, [], 1, 0), (196, .iconst 1, 197, [], 1, 0), (197, .invokevirtual 38, 200, [74, 2, 0, 1, 5, 3], 0, 0), (200, .if_icmp .gt 29, 203, [229], 0, 0), (203, .aload_n 0, 204, [], 0, 0), (204, .iconst 2, 205, [], 2, 0), (205, .invokevirtual 35, 208, [72, 1, 0, 1, 2, 3], 0, 0), (208, .aload_n 0, 209, [], 0, 0), (209, .iconst 2, 210, [], 2, 0), (210, .iconst 1, 211, [], 1, 0), (211, .invokevirtual 38, 214, [74, 2, 0, 1, 5, 3], 0, 0), (214, .if_icmp .gt 15, 217, [229], 0, 0), (217, .aload_n 0, 218, [], 0, 0), (218, .iconst 5, 219, [], 5, 0), (219, .invokevirtual 9, 222, [71, 1, 0, 1, 2, 3], 0, 0), (222, .ifCond .ne 7, 225, [229], 0, 0), (225, .iconst 1, 226, [], 1, 0), (226, .goto 4, 229, [230], 0, 0), (229, .iconst 0, 230, [], 0, 0), (230, .istore 4, 232, [], 0, 0), (232, .iinc 5 1, 235, [], 1, 0), (235, .goto (-182), 238, [53], 0, 0), (238, .iload 4, 240, [], 0, 0), (240, .ireturn, 241, [], 0, 0)]
def am_c102 : List AE := [(0, .aload_n 0, 1, [], 0, 0), (1, .iload_n 1, 2, [], 0, 0), (2, .ldc 56, 4, [], 100000, 0), (4, .invokestatic 15, 7, [96, 2, 1, 1, 2], 0, 0), (7, .invokevirtual 57, 10, [67, 1, 0, 1, 3, 3], 0, 0), (10, .istore_n 2, 11, [], 0, 0), (11, .aload_n 0, 12, [], 0, 0), (12, .iconst 1, 13, [], 1, 0), (13, .iload_n 1, 14, [], 0, 0), (14, .iconst 5, 15, [], 5, 0), (15, .ishr, 16, [], 0, 0), (16, .bipush 40, 18, [], 40, 0), (18, .invokestatic 15, 21, [96, 2, 1, 1, 2], 0, 0), (21, .iadd, 22, [], 0, 0), (22, .invokevirtual 60, 25, [66, 1, 0, 1, 4, 3], 0, 0), (25, .istore_n 3, 26, [], 0, 0), (26, .iconst 0, 27, [], 0, 0), (27, .istore 4, 29, [], 0, 0), (29, .aload_n 0, 30, [], 0, 0), (30, .iconst 0, 31, [], 0, 0), (31, .invokevirtual 9, 34, [71, 1, 0, 1, 2, 3], 0, 0), (34, .istore 5, 36, [], 0, 0), (36, .iconst 0, 37, [], 0, 0), (37, .istore 6, 39, [], 0, 0), (39, .iload 6, 41, [], 0, 0), (41, .iconst 2, 42, [], 2, 0), (42, .iload 5, 44, [], 0, 0), (44, .imul, 45, [], 0, 0), (45, .if_icmp .ge 62, 48, [107], 0, 0), (48, .aload_n 0, 49, [], 0, 0), (49, .iload 6, 51, [], 0, 0), (51, .iload 5, 53, [], 0, 0), (53, .idiv, 54, [], 0, 0), (54, .iload 6, 56, [], 0, 0), (56, .iload 5, 58, [], 0, 0), (58, .irem, 59, [], 0, 0), (59, .iconst 3, 60, [], 3, 0), (60, .invokevirtual 41, 63, [69, 3, 0, 1, 5, 3], 0, 0), (63, .istore 7, 65, [], 0, 0), (65, .iload 4, 67, [], 0, 0), (67, .iload 7, 69, [], 0, 0), (69, .iadd, 70, [], 0, 0), (70, .istore 4, 72, [], 0, 0), (72, .iload 7, 74, [], 0, 0), (74, .ifCond .le 25, 77, [99], 0, 0), (77, .aload_n 0, 78, [], 0, 0), (78, .iload 6, 80, [], 0, 0), (80, .iload 5, 82, [], 0, 0), (82, .idiv, 83, [], 0, 0), (83, .iload 6, 85, [], 0, 0), (85, .iload 5, 87, [], 0, 0), (87, .irem, 88, [], 0, 0), (88, .iconst 2, 89, [], 2, 0), (89, .invokevirtual 41, 92, [69, 3, 0, 1, 5, 3], 0, 0), (92, .ifCond .ne 7, 95, [99], 0, 0), (95, .iconst (-1), 96, [], -1, 0), (96, .goto 4, 99, [100], 0, 0), (99, .iload_n 2, 100, [], 0, 0), (100, .istore_n 2, 101, [], 0, 0), (101, .iinc 6 1, 104, [], 1, 0), (104, .goto (-65), 107, [39], 0, 0), (107, .iload_n 2, 108, [], 0, 0), (108, .ifCond .lt 76, 111, [184], 0, 0), (111, .iload 4, 113, [], 0, 0), (113, .aload_n 0, 114, [], 0, 0), (114, .bipush 7, 116, [], 7, 0), (116, .invokevirtual 9, 119, [71, 1, 0, 1, 2, 3], 0, 0), (119, .if_icmp .ne 65, 122, [184], 0, 0), (122, .iload 4, 124, [], 0, 0), (124, .iconst 1, 125, [], 1, 0), (125, .iload_n 1, 126, [], 0, 0), (126, .iconst 5, 127, [], 5, 0), (127, .ishr, 128, [], 0, 0), (128, .bipush 40, 130, [], 40, 0), (130, .invokestatic 15, 133, [96, 2, 1, 1, 2], 0, 0), (133, .iadd, 134, [], 0, 0), (134, .if_icmp .ne 50, 137, [184], 0, 0), (137, .aload_n 0, 138, [], 0, 0), (138, .iload_n 3, 139, [], 0, 0), (139, .iload 5, 141, [], 0, 0), (141, .idiv, 142, [], 0, 0), (142, .iload_n 3, 143, [], 0, 0), (143, .iload 5, 145, [], 0, 0), (145, .irem, 146, [], 0, 0), (146, .iconst 3, 147, [], 3, 0), (147, .invokevirtual 41, 150, [69, 3, 0, 1, 5, 3], 0, 0), (150, .ifCond .le 34, 153, [184], 0, 0), (153, .aload_n 0, 154, [], 0, 0), (154, .invokevirtual 63, 157, [80, 0, 0, 1, 2, 3], 0, 0), (157, .ifCond .lt 27, 160, [184], 0, 0), (160, .aload_n 0, 161, [], 0, 0), (161, .bipush 7, 163, [], 7, 0), (163, .invokevirtual 9, 166, [71, 1, 0, 1, 2, 3], 0, 0), (166, .ifCond .ne 18, 169, [184], 0, 0), (169, .aload_n 0, 170, [], 0, 0), (170, .bipush 8, 172, [], 8, 0), (172, .invokevirtual 9, 175, [71, 1, 0, 1, 2, 3], 0, 0), (175, .ldc 56, 177, [], 100000, 0), (177, .if_icmp .ne 7, 180, [184], 0, 0), (180, .iconst 1, 181, [], 1, 0), (181, .goto 4, 184, [185], 0, 0), (184, .iconst 0, 185, [], 0, 0), (185, .istore 6, 187, [], 0, 0), (187, .iconst 0, 188, [], 0, 0), (188, .istore 7, 190, [], 0, 0), (190, .iload 7, 192, [], 0, 0), (192, .aload_n 0, 193, [], 0, 0), (193, .iconst 2, 194, [], 2, 0), (194, .invokevirtual 9, 197, [71, 1, 0, 1, 2, 3], 0, 0), (197, .if_icmp .ge 33, 200, [230], 0, 0), (200, .iload 6, 202, [], 0, 0), (202, .ifCond .eq 19, 205, [221], 0, 0), (205, .aload_n 0, 206, [], 0, 0), (206, .iload 7, 208, [], 0, 0), (208, .iconst 4, 209, [], 4, 0), (209, .invokevirtual 67, 212, [70, 2, 0, 1, 3, 3], 0, 0), (212, .ldc 70, 214, [], 1000000, 0), (214, .if_icmp .ne 7, 217, [221], 0, 0), (217, .iconst 1, 218, [], 1, 0), (218, .goto 4, 221, [222], 0, 0), (221, .iconst 0, 222, [], 0, 0), (222, .istore 6, 224, [], 0, 0), (224, .iinc 7 1, 227, [], 1, 0), (227, .goto (-37), 230, [190], 0, 0), (230, .iload 6, 232, [], 0, 0), (232, .ireturn, 233, [], 0, 0)]
def am_c103 : List AE := [(0, .iload_n 0, 1, [], 0, 0), (1, .ldc 8, 3, [], 2147483647, 0), (3, .iand, 4, [], 0, 0), (4, .iload_n 1, 5, [], 0, 0), (5, .irem, 6, [], 0, 0), (6, .ireturn, 7, [], 0, 0)]
def am_c104 : List AE := [(0, .iload_n 0, 1, [], 0, 0), (1, .ldc 8, 3, [], 2147483647, 0), (3, .iand, 4, [], 0, 0), (4, .iload_n 1, 5, [], 0, 0), (5, .irem, 6, [], 0, 0), (6, .ireturn, 7, [], 0, 0)]
def am_c105 : List AE := [(0, .iload_n 0, 1, [], 0, 0), (1, .ldc 8, 3, [], 2147483647, 0), (3, .iand, 4, [], 0, 0), (4, .iload_n 1, 5, [], 0, 0), (5, .irem, 6, [], 0, 0), (6, .ireturn, 7, [], 0, 0)]
def am_c106 : List AE := [(0, .iload_n 0, 1, [], 0, 0), (1, .ldc 8, 3, [], 2147483647, 0), (3, .iand, 4, [], 0, 0), (4, .iload_n 1, 5, [], 0, 0), (5, .irem, 6, [], 0, 0), (6, .ireturn, 7, [], 0, 0)]
def am_c107 : List AE := [(0, .iload_n 0, 1, [], 0, 0), (1, .ldc 8, 3, [], 2147483647, 0), (3, .iand, 4, [], 0, 0), (4, .iload_n 1, 5, [], 0, 0), (5, .irem, 6, [], 0, 0), (6, .ireturn, 7, [], 0, 0)]
def am_c108 : List AE := [(0, .iload_n 0, 1, [], 0, 0), (1, .ldc 8, 3, [], 2147483647, 0), (3, .iand, 4, [], 0, 0), (4, .iload_n 1, 5, [], 0, 0), (5, .irem, 6, [], 0, 0), (6, .ireturn, 7, [], 0, 0)]
def am_c109 : List AE := [(0, .iload_n 0, 1, [], 0, 0), (1, .ldc 8, 3, [], 2147483647, 0), (3, .iand, 4, [], 0, 0), (4, .iload_n 1, 5, [], 0, 0), (5, .irem, 6, [], 0, 0), (6, .ireturn, 7, [], 0, 0)]
def am_c110 : List AE := [(0, .iload_n 0, 1, [], 0, 0), (1, .ldc 8, 3, [], 2147483647, 0), (3, .iand, 4, [], 0, 0), (4, .iload_n 1, 5, [], 0, 0), (5, .irem, 6, [], 0, 0), (6, .ireturn, 7, [], 0, 0)]
def am_c111 : List AE := [(0, .iload_n 0, 1, [], 0, 0), (1, .ldc 8, 3, [], 2147483647, 0), (3, .iand, 4, [], 0, 0), (4, .iload_n 1, 5, [], 0, 0), (5, .irem, 6, [], 0, 0), (6, .ireturn, 7, [], 0, 0)]
def am_c112 : List AE := [(0, .iload_n 0, 1, [], 0, 0), (1, .ldc 8, 3, [], 2147483647, 0), (3, .iand, 4, [], 0, 0), (4, .iload_n 1, 5, [], 0, 0), (5, .irem, 6, [], 0, 0), (6, .ireturn, 7, [], 0, 0)]
def am_c113 : List AE := [(0, .iload_n 0, 1, [], 0, 0), (1, .ldc 8, 3, [], 2147483647, 0), (3, .iand, 4, [], 0, 0), (4, .iload_n 1, 5, [], 0, 0), (5, .irem, 6, [], 0, 0), (6, .ireturn, 7, [], 0, 0)]
def am_c114 : List AE := [(0, .iload_n 0, 1, [], 0, 0), (1, .ldc 8, 3, [], 2147483647, 0), (3, .iand, 4, [], 0, 0), (4, .iload_n 1, 5, [], 0, 0), (5, .irem, 6, [], 0, 0), (6, .ireturn, 7, [], 0, 0)]
def am_c115 : List AE := [(0, .iload_n 0, 1, [], 0, 0), (1, .ldc 8, 3, [], 2147483647, 0), (3, .iand, 4, [], 0, 0), (4, .iload_n 1, 5, [], 0, 0), (5, .irem, 6, [], 0, 0), (6, .ireturn, 7, [], 0, 0)]
def am_c116 : List AE := [(0, .iload_n 0, 1, [], 0, 0), (1, .ldc 8, 3, [], 2147483647, 0), (3, .iand, 4, [], 0, 0), (4, .iload_n 1, 5, [], 0, 0), (5, .irem, 6, [], 0, 0), (6, .ireturn, 7, [], 0, 0)]
def am_c117 : List AE := [(0, .iload_n 0, 1, [], 0, 0), (1, .ldc 8, 3, [], 2147483647, 0), (3, .iand, 4, [], 0, 0), (4, .iload_n 1, 5, [], 0, 0), (5, .irem, 6, [], 0, 0), (6, .ireturn, 7, [], 0, 0)]
def am_c118 : List AE := [(0, .iload_n 0, 1, [], 0, 0), (1, .ldc 8, 3, [], 2147483647, 0), (3, .iand, 4, [], 0, 0), (4, .iload_n 1, 5, [], 0, 0), (5, .irem, 6, [], 0, 0), (6, .ireturn, 7, [], 0, 0)]
def am_c119 : List AE := [(0, .iload_n 0, 1, [], 0, 0), (1, .ldc 8, 3, [], 2147483647, 0), (3, .iand, 4, [], 0, 0), (4, .iload_n 1, 5, [], 0, 0), (5, .irem, 6, [], 0, 0), (6, .ireturn, 7, [], 0, 0)]
def am_c120 : List AE := [(0, .iload_n 0, 1, [], 0, 0), (1, .ldc 8, 3, [], 2147483647, 0), (3, .iand, 4, [], 0, 0), (4, .iload_n 1, 5, [], 0, 0), (5, .irem, 6, [], 0, 0), (6, .ireturn, 7, [], 0, 0)]
def am_c121 : List AE := [(0, .iload_n 0, 1, [], 0, 0), (1, .ldc 8, 3, [], 2147483647, 0), (3, .iand, 4, [], 0, 0), (4, .iload_n 1, 5, [], 0, 0), (5, .irem, 6, [], 0, 0), (6, .ireturn, 7, [], 0, 0)]
def am_c122 : List AE := [(0, .iload_n 0, 1, [], 0, 0), (1, .ldc 8, 3, [], 2147483647, 0), (3, .iand, 4, [], 0, 0), (4, .iload_n 1, 5, [], 0, 0), (5, .irem, 6, [], 0, 0), (6, .ireturn, 7, [], 0, 0)]
def am_c123 : List AE := [(0, .iload_n 0, 1, [], 0, 0), (1, .ldc 8, 3, [], 2147483647, 0), (3, .iand, 4, [], 0, 0), (4, .iload_n 1, 5, [], 0, 0), (5, .irem, 6, [], 0, 0), (6, .ireturn, 7, [], 0, 0)]
def am_c124 : List AE := [(0, .iload_n 0, 1, [], 0, 0), (1, .ldc 8, 3, [], 2147483647, 0), (3, .iand, 4, [], 0, 0), (4, .iload_n 1, 5, [], 0, 0), (5, .irem, 6, [], 0, 0), (6, .ireturn, 7, [], 0, 0)]
def am_c125 : List AE := [(0, .iload_n 0, 1, [], 0, 0), (1, .ldc 8, 3, [], 2147483647, 0), (3, .iand, 4, [], 0, 0), (4, .iload_n 1, 5, [], 0, 0), (5, .irem, 6, [], 0, 0), (6, .ireturn, 7, [], 0, 0)]
def am_c126 : List AE := [(0, .iload_n 0, 1, [], 0, 0), (1, .ldc 8, 3, [], 2147483647, 0), (3, .iand, 4, [], 0, 0), (4, .iload_n 1, 5, [], 0, 0), (5, .irem, 6, [], 0, 0), (6, .ireturn, 7, [], 0, 0)]
def am_c127 : List AE := [(0, .iload_n 0, 1, [], 0, 0), (1, .ldc 8, 3, [], 2147483647, 0), (3, .iand, 4, [], 0, 0), (4, .iload_n 1, 5, [], 0, 0), (5, .irem, 6, [], 0, 0), (6, .ireturn, 7, [], 0, 0)]
def am_c128 : List AE := [(0, .iload_n 0, 1, [], 0, 0), (1, .ldc 8, 3, [], 2147483647, 0), (3, .iand, 4, [], 0, 0), (4, .iload_n 1, 5, [], 0, 0), (5, .irem, 6, [], 0, 0), (6, .ireturn, 7, [], 0, 0)]
def am_c129 : List AE := [(0, .iload_n 0, 1, [], 0, 0), (1, .ldc 8, 3, [], 2147483647, 0), (3, .iand, 4, [], 0, 0), (4, .iload_n 1, 5, [], 0, 0), (5, .irem, 6, [], 0, 0), (6, .ireturn, 7, [], 0, 0)]
def am_c130 : List AE := [(0, .iload_n 0, 1, [], 0, 0), (1, .ldc 8, 3, [], 2147483647, 0), (3, .iand, 4, [], 0, 0), (4, .iload_n 1, 5, [], 0, 0), (5, .irem, 6, [], 0, 0), (6, .ireturn, 7, [], 0, 0)]
def am_c131 : List AE := [(0, .iload_n 0, 1, [], 0, 0), (1, .ldc 8, 3, [], 2147483647, 0), (3, .iand, 4, [], 0, 0), (4, .iload_n 1, 5, [], 0, 0), (5, .irem, 6, [], 0, 0), (6, .ireturn, 7, [], 0, 0)]
def am_c132 : List AE := [(0, .iload_n 0, 1, [], 0, 0), (1, .ldc 8, 3, [], 2147483647, 0), (3, .iand, 4, [], 0, 0), (4, .iload_n 1, 5, [], 0, 0), (5, .irem, 6, [], 0, 0), (6, .ireturn, 7, [], 0, 0)]
def am_c133 : List AE := [(0, .iload_n 0, 1, [], 0, 0), (1, .ldc 8, 3, [], 2147483647, 0), (3, .iand, 4, [], 0, 0), (4, .iload_n 1, 5, [], 0, 0), (5, .irem, 6, [], 0, 0), (6, .ireturn, 7, [], 0, 0)]
def am_c134 : List AE := [(0, .iload_n 0, 1, [], 0, 0), (1, .ldc 8, 3, [], 2147483647, 0), (3, .iand, 4, [], 0, 0), (4, .iload_n 1, 5, [], 0, 0), (5, .irem, 6, [], 0, 0), (6, .ireturn, 7, [], 0, 0)]
def am_c135 : List AE := [(0, .iload_n 0, 1, [], 0, 0), (1, .ldc 8, 3, [], 2147483647, 0), (3, .iand, 4, [], 0, 0), (4, .iload_n 1, 5, [], 0, 0), (5, .irem, 6, [], 0, 0), (6, .ireturn, 7, [], 0, 0)]
def am_c136 : List AE := [(0, .iload_n 0, 1, [], 0, 0), (1, .ldc 8, 3, [], 2147483647, 0), (3, .iand, 4, [], 0, 0), (4, .iload_n 1, 5, [], 0, 0), (5, .irem, 6, [], 0, 0), (6, .ireturn, 7, [], 0, 0)]
def am_c137 : List AE := [(0, .iload_n 0, 1, [], 0, 0), (1, .ldc 8, 3, [], 2147483647, 0), (3, .iand, 4, [], 0, 0), (4, .iload_n 1, 5, [], 0, 0), (5, .irem, 6, [], 0, 0), (6, .ireturn, 7, [], 0, 0)]
def am_c138 : List AE := [(0, .iload_n 0, 1, [], 0, 0), (1, .ldc 8, 3, [], 2147483647, 0), (3, .iand, 4, [], 0, 0), (4, .iload_n 1, 5, [], 0, 0), (5, .irem, 6, [], 0, 0), (6, .ireturn, 7, [], 0, 0)]
def am_c139 : List AE := [(0, .iload_n 0, 1, [], 0, 0), (1, .ldc 8, 3, [], 2147483647, 0), (3, .iand, 4, [], 0, 0), (4, .iload_n 1, 5, [], 0, 0), (5, .irem, 6, [], 0, 0), (6, .ireturn, 7, [], 0, 0)]
def am_c140 : List AE := [(0, .iload_n 0, 1, [], 0, 0), (1, .ldc 8, 3, [], 2147483647, 0), (3, .iand, 4, [], 0, 0), (4, .iload_n 1, 5, [], 0, 0), (5, .irem, 6, [], 0, 0), (6, .ireturn, 7, [], 0, 0)]
def am_c141 : List AE := [(0, .iload_n 0, 1, [], 0, 0), (1, .ldc 8, 3, [], 2147483647, 0), (3, .iand, 4, [], 0, 0), (4, .iload_n 1, 5, [], 0, 0), (5, .irem, 6, [], 0, 0), (6, .ireturn, 7, [], 0, 0)]
def am_c142 : List AE := [(0, .iload_n 0, 1, [], 0, 0), (1, .ldc 8, 3, [], 2147483647, 0), (3, .iand, 4, [], 0, 0), (4, .iload_n 1, 5, [], 0, 0), (5, .irem, 6, [], 0, 0), (6, .ireturn, 7, [], 0, 0)]
def am_c143 : List AE := [(0, .iload_n 0, 1, [], 0, 0), (1, .ldc 8, 3, [], 2147483647, 0), (3, .iand, 4, [], 0, 0), (4, .iload_n 1, 5, [], 0, 0), (5, .irem, 6, [], 0, 0), (6, .ireturn, 7, [], 0, 0)]
def am_c144 : List AE := [(0, .iload_n 0, 1, [], 0, 0), (1, .ldc 8, 3, [], 2147483647, 0), (3, .iand, 4, [], 0, 0), (4, .iload_n 1, 5, [], 0, 0), (5, .irem, 6, [], 0, 0), (6, .ireturn, 7, [], 0, 0)]
def am_c145 : List AE := [(0, .iload_n 0, 1, [], 0, 0), (1, .ldc 8, 3, [], 2147483647, 0), (3, .iand, 4, [], 0, 0), (4, .iload_n 1, 5, [], 0, 0), (5, .irem, 6, [], 0, 0), (6, .ireturn, 7, [], 0, 0)]
def am_c146 : List AE := [(0, .iload_n 0, 1, [], 0, 0), (1, .ldc 8, 3, [], 2147483647, 0), (3, .iand, 4, [], 0, 0), (4, .iload_n 1, 5, [], 0, 0), (5, .irem, 6, [], 0, 0), (6, .ireturn, 7, [], 0, 0)]
def am_c147 : List AE := [(0, .iload_n 0, 1, [], 0, 0), (1, .ldc 8, 3, [], 2147483647, 0), (3, .iand, 4, [], 0, 0), (4, .iload_n 1, 5, [], 0, 0), (5, .irem, 6, [], 0, 0), (6, .ireturn, 7, [], 0, 0)]
def am_c148 : List AE := [(0, .iload_n 0, 1, [], 0, 0), (1, .ldc 8, 3, [], 2147483647, 0), (3, .iand, 4, [], 0, 0), (4, .iload_n 1, 5, [], 0, 0), (5, .irem, 6, [], 0, 0), (6, .ireturn, 7, [], 0, 0)]
def am_c149 : List AE := [(0, .iload_n 0, 1, [], 0, 0), (1, .ldc 8, 3, [], 2147483647, 0), (3, .iand, 4, [], 0, 0), (4, .iload_n 1, 5, [], 0, 0), (5, .irem, 6, [], 0, 0), (6, .ireturn, 7, [], 0, 0)]
def am_c150 : List AE := [(0, .iload_n 0, 1, [], 0, 0), (1, .ldc 8, 3, [], 2147483647, 0), (3, .iand, 4, [], 0, 0), (4, .iload_n 1, 5, [], 0, 0), (5, .irem, 6, [], 0, 0), (6, .ireturn, 7, [], 0, 0)]
def am_c151 : List AE := [(0, .iload_n 0, 1, [], 0, 0), (1, .ldc 8, 3, [], 2147483647, 0), (3, .iand, 4, [], 0, 0), (4, .iload_n 1, 5, [], 0, 0), (5, .irem, 6, [], 0, 0), (6, .ireturn, 7, [], 0, 0)]
def am_c152 : List AE := [(0, .iload_n 0, 1, [], 0, 0), (1, .ldc 8, 3, [], 2147483647, 0), (3, .iand, 4, [], 0, 0), (4, .iload_n 1, 5, [], 0, 0), (5, .irem, 6, [], 0, 0), (6, .ireturn, 7, [], 0, 0)]
def am_c153 : List AE := [(0, .iload_n 0, 1, [], 0, 0), (1, .ldc 8, 3, [], 2147483647, 0), (3, .iand, 4, [], 0, 0), (4, .iload_n 1, 5, [], 0, 0), (5, .irem, 6, [], 0, 0), (6, .ireturn, 7, [], 0, 0)]
def am_c154 : List AE := [(0, .iload_n 0, 1, [], 0, 0), (1, .ldc 8, 3, [], 2147483647, 0), (3, .iand, 4, [], 0, 0), (4, .iload_n 1, 5, [], 0, 0), (5, .irem, 6, [], 0, 0), (6, .ireturn, 7, [], 0, 0)]
def am_c155 : List AE := [(0, .iload_n 0, 1, [], 0, 0), (1, .ldc 8, 3, [], 2147483647, 0), (3, .iand, 4, [], 0, 0), (4, .iload_n 1, 5, [], 0, 0), (5, .irem, 6, [], 0, 0), (6, .ireturn, 7, [], 0, 0)]
def am_c156 : List AE := [(0, .iload_n 0, 1, [], 0, 0), (1, .ldc 8, 3, [], 2147483647, 0), (3, .iand, 4, [], 0, 0), (4, .iload_n 1, 5, [], 0, 0), (5, .irem, 6, [], 0, 0), (6, .ireturn, 7, [], 0, 0)]
def am_c157 : List AE := [(0, .iload_n 0, 1, [], 0, 0), (1, .ldc 8, 3, [], 2147483647, 0), (3, .iand, 4, [], 0, 0), (4, .iload_n 1, 5, [], 0, 0), (5, .irem, 6, [], 0, 0), (6, .ireturn, 7, [], 0, 0)]
def am_c158 : List AE := [(0, .iload_n 0, 1, [], 0, 0), (1, .ldc 8, 3, [], 2147483647, 0), (3, .iand, 4, [], 0, 0), (4, .iload_n 1, 5, [], 0, 0), (5, .irem, 6, [], 0, 0), (6, .ireturn, 7, [], 0, 0)]
def am_c159 : List AE := [(0, .iload_n 0, 1, [], 0, 0), (1, .ldc 8, 3, [], 2147483647, 0), (3, .iand, 4, [], 0, 0), (4, .iload_n 1, 5, [], 0, 0), (5, .irem, 6, [], 0, 0), (6, .ireturn, 7, [], 0, 0)]
def am_c160 : List AE := [(0, .iload_n 0, 1, [], 0, 0), (1, .ldc 8, 3, [], 2147483647, 0), (3, .iand, 4, [], 0, 0), (4, .iload_n 1, 5, [], 0, 0), (5, .irem, 6, [], 0, 0), (6, .ireturn, 7, [], 0, 0)]
def am_c161 : List AE := [(0, .iload_n 0, 1, [], 0, 0), (1, .ldc 8, 3, [], 2147483647, 0), (3, .iand, 4, [], 0, 0), (4, .iload_n 1, 5, [], 0, 0), (5, .irem, 6, [], 0, 0), (6, .ireturn, 7, [], 0, 0)]
def am_c162 : List AE := [(0, .lload_n 0, 1, [], 0, 0), (1, .lload_n 2, 2, [], 0, 0), (2, .ldiv, 3, [], 0, 0), (3, .lstore 4, 5, [], 0, 0), (5, .lload_n 0, 6, [], 0, 0), (6, .lload_n 2, 7, [], 0, 0), (7, .lxor, 8, [], 0, 0), (8, .lconst 0, 9, [], 0, 0), (9, .lcmp, 10, [], 0, 0), (10, .ifCond .ge 17, 13, [27], 0, 0), (13, .lload 4, 15, [], 0, 0), (15, .lload_n 2, 16, [], 0, 0), (16, .lmul, 17, [], 0, 0), (17, .lload_n 0, 18, [], 0, 0), (18, .lcmp, 19, [], 0, 0), (19, .ifCond .eq 8, 22, [27], 0, 0), (22, .lload 4, 24, [], 0, 0), (24, .lconst 1, 25, [], 0, 1), (25, .lsub, 26, [], 0, 0), (26, .lreturn, 27, [], 0, 0), (27, .lload 4, 29, [], 0, 0), (29, .lreturn, 30, [], 0, 0)]
def am_c163 : List AE := [(0, .lload_n 0, 1, [], 0, 0), (1, .lload_n 2, 2, [], 0, 0), (2, .lcmp, 3, [], 0, 0), (3, .ifCond .lt 7, 6, [10], 0, 0), (6, .lload_n 0, 7, [], 0, 0), (7, .goto 4, 10, [11], 0, 0), (10, .lload_n 2, 11, [], 0, 0), (11, .lreturn, 12, [], 0, 0)]
def am_c164 : List AE := [(0, .lload_n 0, 1, [], 0, 0), (1, .lload_n 2, 2, [], 0, 0), (2, .lcmp, 3, [], 0, 0), (3, .ifCond .gt 7, 6, [10], 0, 0), (6, .lload_n 0, 7, [], 0, 0), (7, .goto 4, 10, [11], 0, 0), (10, .lload_n 2, 11, [], 0, 0), (11, .lreturn, 12, [], 0, 0)]
def am_c165 : List AE := [(0, .new 10, 3, [3, 6], 0, 0), (3, .dup, 4, [], 0, 0), (4, .invokespecial 71, 7, [60, 0, 0, 0, 1, 3], 0, 0), (7, .astore_n 1, 8, [], 0, 0), (8, .new 10, 11, [3, 6], 0, 0), (11, .dup, 12, [], 0, 0), (12, .invokespecial 71, 15, [60, 0, 0, 0, 1, 3], 0, 0), (15, .astore_n 2, 16, [], 0, 0), (16, .aload_n 0, 17, [], 0, 0), (17, .iconst 0, 18, [], 0, 0), (18, .invokestatic 72, 21, [95, 2, 1, 1, 2], 0, 0), (21, .bipush 12, 23, [], 12, 0), (23, .invokestatic 15, 26, [96, 2, 1, 1, 2], 0, 0), (26, .istore_n 3, 27, [], 0, 0), (27, .iconst 2, 28, [], 2, 0), (28, .aload_n 0, 29, [], 0, 0), (29, .iconst 1, 30, [], 1, 0), (30, .invokestatic 72, 33, [95, 2, 1, 1, 2], 0, 0), (33, .iconst 2, 34, [], 2, 0), (34, .invokestatic 15, 37, [96, 2, 1, 1, 2], 0, 0), (37, .iadd, 38, [], 0, 0), (38, .istore 4, 40, [], 0, 0), (40, .aload_n 1, 41, [], 0, 0), (41, .iload 4, 43, [], 0, 0), (43, .invokevirtual 75, 46, [61, 1, 0, 1, 3, 3], 0, 0), (46, .aload_n 2, 47, [], 0, 0), (47, .iload 4, 49, [], 0, 0), (49, .invokevirtual 75, 52, [61, 1, 0, 1, 3, 3], 0, 0), (52, .if_icmp .ne 7, 55, [59], 0, 0), (55, .iconst 1, 56, [], 1, 0), (56, .goto 4, 59, [60], 0, 0), (59, .iconst 0, 60, [], 0, 0), (60, .istore 5, 62, [], 0, 0), (62, .iconst 2, 63, [], 2, 0), (63, .istore 6, 65, [], 0, 0), (65, .iload 6, 67, [], 0, 0), (67, .bipush 38, 69, [], 38, 0), (69, .if_icmp .ge 71, 72, [140], 0, 0), (72, .iload 5, 74, [], 0, 0), (74, .ifCond .eq 66, 77, [140], 0, 0), (77, .aload_n 1, 78, [], 0, 0), (78, .aload_n 2, 79, [], 0, 0), (79, .iload_n 3, 80, [], 0, 0), (80, .aload_n 0, 81, [], 0, 0), (81, .iload 6, 83, [], 0, 0), (83, .invokestatic 72, 86, [95, 2, 1, 1, 2], 0, 0), (86, .invokestatic 78, 89, [99, 4, 1, 2, 10], 0, 0), (89, .istore 5, 91, [], 0, 0), (91, .iload 5, 93, [], 0, 0), (93, .ifCond .eq 38, 96, [131], 0, 0), (96, .iload 6, 98, [], 0, 0), (98, .bipush 18, 100, [], 18, 0), (100, .irem, 101, [], 0, 0), (101, .ifCond .gt 26, 104, [127], 0, 0), (104, .aload_n 1, 105, [], 0, 0), (105, .aload_n 2, 106, [], 0, 0), (106, .iload_n 3, 107, [], 0, 0), (107, .aload_n 0, 108, [], 0, 0), (108, .iload 6, 110, [], 0, 0), (110, .invokestatic 72, 113, [95, 2, 1, 1, 2], 0, 0), (113, .bipush 9, 115, [], 9, 0), (115, .ishr, 116, [], 0, 0), (116, .bipush 100, 118, [], 100, 0), (118, .invokestatic 15, 121, [96, 2, 1, 1, 2], 0, 0), (121, .invokestatic 82, 124, [100, 4, 1, 2, 12], 0, 0), (124, .ifCond .eq 7, 127, [131], 0, 0), (127, .iconst 1, 128, [], 1, 0), (128, .goto 4, 131, [132], 0, 0), (131, .iconst 0, 132, [], 0, 0), (132, .istore 5, 134, [], 0, 0), (134, .iinc 6 1, 137, [], 1, 0), (137, .goto (-72), 140, [65], 0, 0), (140, .iload 5, 142, [], 0, 0), (142, .ifCond .eq 53, 145, [195], 0, 0), (145, .aload_n 1, 146, [], 0, 0), (146, .aload_n 2, 147, [], 0, 0), (147, .iload_n 3, 148, [], 0, 0), (148, .aload_n 0, 149, [], 0, 0), (149, .bipush 40, 151, [], 40, 0), (151, .invokestatic 72, 154, [95, 2, 1, 1, 2], 0, 0), (154, .bipush 100, 156, [], 100, 0), (156, .invokestatic 15, 159, [96, 2, 1, 1, 2], 0, 0), (159, .invokestatic 82, 162, [100, 4, 1, 2, 12], 0, 0), (162, .ifCond .eq 33, 165, [195], 0, 0), (165, .aload_n 1, 166, [], 0, 0), (166, .aload_n 0, 167, [], 0, 0), (167, .bipush 38, 169, [], 38, 0), (169, .invokestatic 72, 172, [95, 2, 1, 1, 2], 0, 0), (172, .invokestatic 85, 175, [101, 2, 1, 2, 9], 0, 0), (175, .ifCond .eq 20, 178, [195], 0, 0), (178, .aload_n 1, 179, [], 0, 0), (179, .aload_n 0, 180, [], 0, 0), (180, .bipush 39, 182, [], 39, 0), (182, .invokestatic 72, 185, [95, 2, 1, 1, 2], 0, 0), (185, .invokestatic 89, 188, [102, 2, 1, 2, 8], 0, 0), (188, .ifCond .eq 7, 191, [195], 0, 0), (191, .iconst 1, 192, [], 1, 0), (192, .goto 4, 195, [196], 0, 0), (195, .iconst 0, 196, [], 0, 0), (196, .ireturn, 197, [], 0, 0)]
def am_Ms0 : List AMe := [(am_c0, 1, 0, [(14, []), (32, []), (50, []), (68, []), (81, [])]), (am_c1, 3, 4, [(27, [])]), (am_c2, 2, 2, []), (am_c3, 4, 3, []), (am_c4, 2, 3, []), (am_c5, 4, 1, [(4, [])]), (am_c6, 2, 1, []), (am_c7, 3, 1, [(4, [])]), (am_c8, 7, 3, [(6, [5])]), (am_c9, 9, 1, [(14, [5, 7, 8])]), (am_c10, 2, 1, []), (am_c11, 2, 3, []), (am_c12, 6, 0, [(13, [4, 5]), (27, [])]), (am_c13, 5, 0, [(21, [1, 2]), (72, [1, 2])]), (am_c14, 4, 0, [(2, [])]), (am_c15, 7, 0, [(2, [4, 5, 6]), (42, [1, 2, 4, 5, 6]), (65, [1, 2, 5])])]
def am_Ms1 : List AMe := [(am_c16, 5, 2, [(15, [])]), (am_c17, 5, 0, [(8, [])]), (am_c18, 10, 0, [(12, [6, 8, 9]), (47, [6, 8, 9])]), (am_c19, 4, 3, []), (am_c20, 1, 1, []), (am_c21, 4, 0, []), (am_c22, 2, 0, []), (am_c23, 3, 0, []), (am_c24, 5, 0, [(2, [2, 3, 4]), (24, [3])]), (am_c25, 3, 0, [(2, [2]), (12, [])]), (am_c26, 8, 2, [(2, [4, 5, 6, 7])]), (am_c27, 6, 0, [(37, [4, 5])]), (am_c28, 11, 3, [(17, [0, 1, 2, 3, 5, 7, 9, 10])]), (am_c29, 1, 0, [(14, []), (30, []), (40, []), (50, [])]), (am_c30, 2, 1, []), (am_c31, 2, 1, [])]
def am_Ms2 : List AMe := [(am_c32, 2, 1, []), (am_c33, 2, 1, []), (am_c34, 2, 1, []), (am_c35, 2, 1, []), (am_c36, 2, 1, []), (am_c37, 2, 1, []), (am_c38, 2, 1, []), (am_c39, 2, 1, []), (am_c40, 1, 0, [(14, []), (30, [])]), (am_c41, 2, 0, []), (am_c42, 2, 0, []), (am_c43, 4, 2, [(12, [1])]), (am_c44, 1, 1, []), (am_c45, 3, 1, []), (am_c46, 4, 1, [(13, [3])]), (am_c47, 3, 1, [])]
def am_Ms3 : List AMe := [(am_c48, 4, 0, []), (am_c49, 3, 1, []), (am_c50, 5, 1, [(5, [])]), (am_c51, 1, 1, []), (am_c52, 2, 1, []), (am_c53, 2, 1, []), (am_c54, 4, 1, []), (am_c55, 8, 1, [(68, [1, 4, 5, 6, 7])]), (am_c56, 5, 1, [(5, [])]), (am_c57, 3, 1, [(4, [])]), (am_c58, 3, 2, [(2, [])]), (am_c59, 5, 1, [(58, [1]), (93, [1, 2, 4])]), (am_c60, 1, 0, [(26, []), (46, [])]), (am_c61, 3, 1, []), (am_c62, 7, 1, []), (am_c63, 6, 1, [])]
def am_Ms4 : List AMe := [(am_c64, 3, 1, []), (am_c65, 5, 1, []), (am_c66, 4, 1, [(43, [])]), (am_c67, 3, 1, []), (am_c68, 2, 1, []), (am_c69, 5, 1, []), (am_c70, 3, 1, []), (am_c71, 2, 1, []), (am_c72, 2, 1, []), (am_c73, 4, 1, [(45, [0])]), (am_c74, 5, 1, []), (am_c75, 5, 1, [(29, []), (88, [0, 1, 2, 4])]), (am_c76, 2, 1, []), (am_c77, 2, 1, []), (am_c78, 2, 1, []), (am_c79, 2, 1, [])]
def am_Ms5 : List AMe := [(am_c80, 2, 1, []), (am_c81, 2, 1, []), (am_c82, 2, 1, []), (am_c83, 1, 2, []), (am_c84, 1, 2, []), (am_c85, 3, 2, []), (am_c86, 6, 1, [(3, []), (49, [])]), (am_c87, 6, 3, []), (am_c88, 4, 1, []), (am_c89, 2, 0, [(16, [1]), (68, [])]), (am_c90, 3, 0, [(9, [])]), (am_c91, 2, 1, []), (am_c92, 3, 0, []), (am_c93, 4, 0, [(2, [])]), (am_c94, 6, 1, [(10, [0, 5])]), (am_c95, 2, 1, [])]
def am_Ms6 : List AMe := [(am_c96, 2, 1, []), (am_c97, 2, 1, []), (am_c98, 4, 1, []), (am_c99, 10, 2, []), (am_c100, 12, 2, [(75, [8, 9, 10, 11]), (134, [8, 9, 10, 11]), (143, [9, 10, 11]), (153, [10, 11]), (226, [8, 9, 10, 11]), (280, [8, 9, 10, 11]), (337, [8, 9, 10, 11]), (363, [6, 11]), (404, [6])]), (am_c101, 9, 2, [(53, [2, 3, 6, 7, 8]), (97, [2, 3, 4, 7, 8]), (159, [2, 3, 4, 6, 7, 8])]), (am_c102, 8, 2, [(39, [7]), (190, [1, 2, 3, 4, 5])]), (am_c103, 2, 1, []), (am_c104, 2, 1, []), (am_c105, 2, 1, []), (am_c106, 2, 1, []), (am_c107, 2, 1, []), (am_c108, 2, 1, []), (am_c109, 2, 1, []), (am_c110, 2, 1, []), (am_c111, 2, 1, [])]
def am_Ms7 : List AMe := [(am_c112, 2, 1, []), (am_c113, 2, 1, []), (am_c114, 2, 1, []), (am_c115, 2, 1, []), (am_c116, 2, 1, []), (am_c117, 2, 1, []), (am_c118, 2, 1, []), (am_c119, 2, 1, []), (am_c120, 2, 1, []), (am_c121, 2, 1, []), (am_c122, 2, 1, []), (am_c123, 2, 1, []), (am_c124, 2, 1, []), (am_c125, 2, 1, []), (am_c126, 2, 1, []), (am_c127, 2, 1, [])]
def am_Ms8 : List AMe := [(am_c128, 2, 1, []), (am_c129, 2, 1, []), (am_c130, 2, 1, []), (am_c131, 2, 1, []), (am_c132, 2, 1, []), (am_c133, 2, 1, []), (am_c134, 2, 1, []), (am_c135, 2, 1, []), (am_c136, 2, 1, []), (am_c137, 2, 1, []), (am_c138, 2, 1, []), (am_c139, 2, 1, []), (am_c140, 2, 1, []), (am_c141, 2, 1, []), (am_c142, 2, 1, []), (am_c143, 2, 1, [])]
def am_Ms9 : List AMe := [(am_c144, 2, 1, []), (am_c145, 2, 1, []), (am_c146, 2, 1, []), (am_c147, 2, 1, []), (am_c148, 2, 1, []), (am_c149, 2, 1, []), (am_c150, 2, 1, []), (am_c151, 2, 1, []), (am_c152, 2, 1, []), (am_c153, 2, 1, []), (am_c154, 2, 1, []), (am_c155, 2, 1, []), (am_c156, 2, 1, []), (am_c157, 2, 1, []), (am_c158, 2, 1, []), (am_c159, 2, 1, [])]
def am_Ms10 : List AMe := [(am_c160, 2, 1, []), (am_c161, 2, 1, []), (am_c162, 6, 3, []), (am_c163, 4, 3, []), (am_c164, 4, 3, []), (am_c165, 7, 2, [(65, [4]), (140, [4, 6])])]
/-- the methods by their numbers: sixteen to a row -/
def am_M (i : Nat) : AMe := bif Nat.blt i 16 then am_Ms0.getD (i - 0) ([], 0, 9, []) else bif Nat.blt i 32 then am_Ms1.getD (i - 16) ([], 0, 9, []) else bif Nat.blt i 48 then am_Ms2.getD (i - 32) ([], 0, 9, []) else bif Nat.blt i 64 then am_Ms3.getD (i - 48) ([], 0, 9, []) else bif Nat.blt i 80 then am_Ms4.getD (i - 64) ([], 0, 9, []) else bif Nat.blt i 96 then am_Ms5.getD (i - 80) ([], 0, 9, []) else bif Nat.blt i 112 then am_Ms6.getD (i - 96) ([], 0, 9, []) else bif Nat.blt i 128 then am_Ms7.getD (i - 112) ([], 0, 9, []) else bif Nat.blt i 144 then am_Ms8.getD (i - 128) ([], 0, 9, []) else bif Nat.blt i 160 then am_Ms9.getD (i - 144) ([], 0, 9, []) else bif Nat.blt i 176 then am_Ms10.getD (i - 160) ([], 0, 9, []) else ([], 0, 9, [])
noncomputable abbrev am_ev : Nat → Nat → List Value → List Value → AH → AR := am_evP am_M
theorem am_m0 : am_M 0 = (am_c0, 1, 0, [(14, []), (32, []), (50, []), (68, []), (81, [])]) := rfl
theorem am_m1 : am_M 1 = (am_c1, 3, 4, [(27, [])]) := rfl
theorem am_m2 : am_M 2 = (am_c2, 2, 2, []) := rfl
theorem am_m3 : am_M 3 = (am_c3, 4, 3, []) := rfl
theorem am_m4 : am_M 4 = (am_c4, 2, 3, []) := rfl
theorem am_m5 : am_M 5 = (am_c5, 4, 1, [(4, [])]) := rfl
theorem am_m6 : am_M 6 = (am_c6, 2, 1, []) := rfl
theorem am_m7 : am_M 7 = (am_c7, 3, 1, [(4, [])]) := rfl
theorem am_m8 : am_M 8 = (am_c8, 7, 3, [(6, [5])]) := rfl
theorem am_m9 : am_M 9 = (am_c9, 9, 1, [(14, [5, 7, 8])]) := rfl
theorem am_m10 : am_M 10 = (am_c10, 2, 1, []) := rfl
theorem am_m11 : am_M 11 = (am_c11, 2, 3, []) := rfl
theorem am_m12 : am_M 12 = (am_c12, 6, 0, [(13, [4, 5]), (27, [])]) := rfl
theorem am_m13 : am_M 13 = (am_c13, 5, 0, [(21, [1, 2]), (72, [1, 2])]) := rfl
theorem am_m14 : am_M 14 = (am_c14, 4, 0, [(2, [])]) := rfl
theorem am_m15 : am_M 15 = (am_c15, 7, 0, [(2, [4, 5, 6]), (42, [1, 2, 4, 5, 6]), (65, [1, 2, 5])]) := rfl
theorem am_m16 : am_M 16 = (am_c16, 5, 2, [(15, [])]) := rfl
theorem am_m17 : am_M 17 = (am_c17, 5, 0, [(8, [])]) := rfl
theorem am_m18 : am_M 18 = (am_c18, 10, 0, [(12, [6, 8, 9]), (47, [6, 8, 9])]) := rfl
theorem am_m19 : am_M 19 = (am_c19, 4, 3, []) := rfl
theorem am_m20 : am_M 20 = (am_c20, 1, 1, []) := rfl
theorem am_m21 : am_M 21 = (am_c21, 4, 0, []) := rfl
theorem am_m22 : am_M 22 = (am_c22, 2, 0, []) := rfl
theorem am_m23 : am_M 23 = (am_c23, 3, 0, []) := rfl
theorem am_m24 : am_M 24 = (am_c24, 5, 0, [(2, [2, 3, 4]), (24, [3])]) := rfl
theorem am_m25 : am_M 25 = (am_c25, 3, 0, [(2, [2]), (12, [])]) := rfl
theorem am_m26 : am_M 26 = (am_c26, 8, 2, [(2, [4, 5, 6, 7])]) := rfl
theorem am_m27 : am_M 27 = (am_c27, 6, 0, [(37, [4, 5])]) := rfl
theorem am_m28 : am_M 28 = (am_c28, 11, 3, [(17, [0, 1, 2, 3, 5, 7, 9, 10])]) := rfl
theorem am_m29 : am_M 29 = (am_c29, 1, 0, [(14, []), (30, []), (40, []), (50, [])]) := rfl
theorem am_m30 : am_M 30 = (am_c30, 2, 1, []) := rfl
theorem am_m31 : am_M 31 = (am_c31, 2, 1, []) := rfl
theorem am_m32 : am_M 32 = (am_c32, 2, 1, []) := rfl
theorem am_m33 : am_M 33 = (am_c33, 2, 1, []) := rfl
theorem am_m34 : am_M 34 = (am_c34, 2, 1, []) := rfl
theorem am_m35 : am_M 35 = (am_c35, 2, 1, []) := rfl
theorem am_m36 : am_M 36 = (am_c36, 2, 1, []) := rfl
theorem am_m37 : am_M 37 = (am_c37, 2, 1, []) := rfl
theorem am_m38 : am_M 38 = (am_c38, 2, 1, []) := rfl
theorem am_m39 : am_M 39 = (am_c39, 2, 1, []) := rfl
theorem am_m40 : am_M 40 = (am_c40, 1, 0, [(14, []), (30, [])]) := rfl
theorem am_m41 : am_M 41 = (am_c41, 2, 0, []) := rfl
theorem am_m42 : am_M 42 = (am_c42, 2, 0, []) := rfl
theorem am_m43 : am_M 43 = (am_c43, 4, 2, [(12, [1])]) := rfl
theorem am_m44 : am_M 44 = (am_c44, 1, 1, []) := rfl
theorem am_m45 : am_M 45 = (am_c45, 3, 1, []) := rfl
theorem am_m46 : am_M 46 = (am_c46, 4, 1, [(13, [3])]) := rfl
theorem am_m47 : am_M 47 = (am_c47, 3, 1, []) := rfl
theorem am_m48 : am_M 48 = (am_c48, 4, 0, []) := rfl
theorem am_m49 : am_M 49 = (am_c49, 3, 1, []) := rfl
theorem am_m50 : am_M 50 = (am_c50, 5, 1, [(5, [])]) := rfl
theorem am_m51 : am_M 51 = (am_c51, 1, 1, []) := rfl
theorem am_m52 : am_M 52 = (am_c52, 2, 1, []) := rfl
theorem am_m53 : am_M 53 = (am_c53, 2, 1, []) := rfl
theorem am_m54 : am_M 54 = (am_c54, 4, 1, []) := rfl
theorem am_m55 : am_M 55 = (am_c55, 8, 1, [(68, [1, 4, 5, 6, 7])]) := rfl
theorem am_m56 : am_M 56 = (am_c56, 5, 1, [(5, [])]) := rfl
theorem am_m57 : am_M 57 = (am_c57, 3, 1, [(4, [])]) := rfl
theorem am_m58 : am_M 58 = (am_c58, 3, 2, [(2, [])]) := rfl
theorem am_m59 : am_M 59 = (am_c59, 5, 1, [(58, [1]), (93, [1, 2, 4])]) := rfl
theorem am_m60 : am_M 60 = (am_c60, 1, 0, [(26, []), (46, [])]) := rfl
theorem am_m61 : am_M 61 = (am_c61, 3, 1, []) := rfl
theorem am_m62 : am_M 62 = (am_c62, 7, 1, []) := rfl
theorem am_m63 : am_M 63 = (am_c63, 6, 1, []) := rfl
theorem am_m64 : am_M 64 = (am_c64, 3, 1, []) := rfl
theorem am_m65 : am_M 65 = (am_c65, 5, 1, []) := rfl
theorem am_m66 : am_M 66 = (am_c66, 4, 1, [(43, [])]) := rfl
theorem am_m67 : am_M 67 = (am_c67, 3, 1, []) := rfl
theorem am_m68 : am_M 68 = (am_c68, 2, 1, []) := rfl
theorem am_m69 : am_M 69 = (am_c69, 5, 1, []) := rfl
theorem am_m70 : am_M 70 = (am_c70, 3, 1, []) := rfl
theorem am_m71 : am_M 71 = (am_c71, 2, 1, []) := rfl
theorem am_m72 : am_M 72 = (am_c72, 2, 1, []) := rfl
theorem am_m73 : am_M 73 = (am_c73, 4, 1, [(45, [0])]) := rfl
theorem am_m74 : am_M 74 = (am_c74, 5, 1, []) := rfl
theorem am_m75 : am_M 75 = (am_c75, 5, 1, [(29, []), (88, [0, 1, 2, 4])]) := rfl
theorem am_m76 : am_M 76 = (am_c76, 2, 1, []) := rfl
theorem am_m77 : am_M 77 = (am_c77, 2, 1, []) := rfl
theorem am_m78 : am_M 78 = (am_c78, 2, 1, []) := rfl
theorem am_m79 : am_M 79 = (am_c79, 2, 1, []) := rfl
theorem am_m80 : am_M 80 = (am_c80, 2, 1, []) := rfl
theorem am_m81 : am_M 81 = (am_c81, 2, 1, []) := rfl
theorem am_m82 : am_M 82 = (am_c82, 2, 1, []) := rfl
theorem am_m83 : am_M 83 = (am_c83, 1, 2, []) := rfl
theorem am_m84 : am_M 84 = (am_c84, 1, 2, []) := rfl
theorem am_m85 : am_M 85 = (am_c85, 3, 2, []) := rfl
theorem am_m86 : am_M 86 = (am_c86, 6, 1, [(3, []), (49, [])]) := rfl
theorem am_m87 : am_M 87 = (am_c87, 6, 3, []) := rfl
theorem am_m88 : am_M 88 = (am_c88, 4, 1, []) := rfl
theorem am_m89 : am_M 89 = (am_c89, 2, 0, [(16, [1]), (68, [])]) := rfl
theorem am_m90 : am_M 90 = (am_c90, 3, 0, [(9, [])]) := rfl
theorem am_m91 : am_M 91 = (am_c91, 2, 1, []) := rfl
theorem am_m92 : am_M 92 = (am_c92, 3, 0, []) := rfl
theorem am_m93 : am_M 93 = (am_c93, 4, 0, [(2, [])]) := rfl
theorem am_m94 : am_M 94 = (am_c94, 6, 1, [(10, [0, 5])]) := rfl
theorem am_m95 : am_M 95 = (am_c95, 2, 1, []) := rfl
theorem am_m96 : am_M 96 = (am_c96, 2, 1, []) := rfl
theorem am_m97 : am_M 97 = (am_c97, 2, 1, []) := rfl
theorem am_m98 : am_M 98 = (am_c98, 4, 1, []) := rfl
theorem am_m99 : am_M 99 = (am_c99, 10, 2, []) := rfl
theorem am_m100 : am_M 100 = (am_c100, 12, 2, [(75, [8, 9, 10, 11]), (134, [8, 9, 10, 11]), (143, [9, 10, 11]), (153, [10, 11]), (226, [8, 9, 10, 11]), (280, [8, 9, 10, 11]), (337, [8, 9, 10, 11]), (363, [6, 11]), (404, [6])]) := rfl
theorem am_m101 : am_M 101 = (am_c101, 9, 2, [(53, [2, 3, 6, 7, 8]), (97, [2, 3, 4, 7, 8]), (159, [2, 3, 4, 6, 7, 8])]) := rfl
theorem am_m102 : am_M 102 = (am_c102, 8, 2, [(39, [7]), (190, [1, 2, 3, 4, 5])]) := rfl
theorem am_m103 : am_M 103 = (am_c103, 2, 1, []) := rfl
theorem am_m104 : am_M 104 = (am_c104, 2, 1, []) := rfl
theorem am_m105 : am_M 105 = (am_c105, 2, 1, []) := rfl
theorem am_m106 : am_M 106 = (am_c106, 2, 1, []) := rfl
theorem am_m107 : am_M 107 = (am_c107, 2, 1, []) := rfl
theorem am_m108 : am_M 108 = (am_c108, 2, 1, []) := rfl
theorem am_m109 : am_M 109 = (am_c109, 2, 1, []) := rfl
theorem am_m110 : am_M 110 = (am_c110, 2, 1, []) := rfl
theorem am_m111 : am_M 111 = (am_c111, 2, 1, []) := rfl
theorem am_m112 : am_M 112 = (am_c112, 2, 1, []) := rfl
theorem am_m113 : am_M 113 = (am_c113, 2, 1, []) := rfl
theorem am_m114 : am_M 114 = (am_c114, 2, 1, []) := rfl
theorem am_m115 : am_M 115 = (am_c115, 2, 1, []) := rfl
theorem am_m116 : am_M 116 = (am_c116, 2, 1, []) := rfl
theorem am_m117 : am_M 117 = (am_c117, 2, 1, []) := rfl
theorem am_m118 : am_M 118 = (am_c118, 2, 1, []) := rfl
theorem am_m119 : am_M 119 = (am_c119, 2, 1, []) := rfl
theorem am_m120 : am_M 120 = (am_c120, 2, 1, []) := rfl
theorem am_m121 : am_M 121 = (am_c121, 2, 1, []) := rfl
theorem am_m122 : am_M 122 = (am_c122, 2, 1, []) := rfl
theorem am_m123 : am_M 123 = (am_c123, 2, 1, []) := rfl
theorem am_m124 : am_M 124 = (am_c124, 2, 1, []) := rfl
theorem am_m125 : am_M 125 = (am_c125, 2, 1, []) := rfl
theorem am_m126 : am_M 126 = (am_c126, 2, 1, []) := rfl
theorem am_m127 : am_M 127 = (am_c127, 2, 1, []) := rfl
theorem am_m128 : am_M 128 = (am_c128, 2, 1, []) := rfl
theorem am_m129 : am_M 129 = (am_c129, 2, 1, []) := rfl
theorem am_m130 : am_M 130 = (am_c130, 2, 1, []) := rfl
theorem am_m131 : am_M 131 = (am_c131, 2, 1, []) := rfl
theorem am_m132 : am_M 132 = (am_c132, 2, 1, []) := rfl
theorem am_m133 : am_M 133 = (am_c133, 2, 1, []) := rfl
theorem am_m134 : am_M 134 = (am_c134, 2, 1, []) := rfl
theorem am_m135 : am_M 135 = (am_c135, 2, 1, []) := rfl
theorem am_m136 : am_M 136 = (am_c136, 2, 1, []) := rfl
theorem am_m137 : am_M 137 = (am_c137, 2, 1, []) := rfl
theorem am_m138 : am_M 138 = (am_c138, 2, 1, []) := rfl
theorem am_m139 : am_M 139 = (am_c139, 2, 1, []) := rfl
theorem am_m140 : am_M 140 = (am_c140, 2, 1, []) := rfl
theorem am_m141 : am_M 141 = (am_c141, 2, 1, []) := rfl
theorem am_m142 : am_M 142 = (am_c142, 2, 1, []) := rfl
theorem am_m143 : am_M 143 = (am_c143, 2, 1, []) := rfl
theorem am_m144 : am_M 144 = (am_c144, 2, 1, []) := rfl
theorem am_m145 : am_M 145 = (am_c145, 2, 1, []) := rfl
theorem am_m146 : am_M 146 = (am_c146, 2, 1, []) := rfl
theorem am_m147 : am_M 147 = (am_c147, 2, 1, []) := rfl
theorem am_m148 : am_M 148 = (am_c148, 2, 1, []) := rfl
theorem am_m149 : am_M 149 = (am_c149, 2, 1, []) := rfl
theorem am_m150 : am_M 150 = (am_c150, 2, 1, []) := rfl
theorem am_m151 : am_M 151 = (am_c151, 2, 1, []) := rfl
theorem am_m152 : am_M 152 = (am_c152, 2, 1, []) := rfl
theorem am_m153 : am_M 153 = (am_c153, 2, 1, []) := rfl
theorem am_m154 : am_M 154 = (am_c154, 2, 1, []) := rfl
theorem am_m155 : am_M 155 = (am_c155, 2, 1, []) := rfl
theorem am_m156 : am_M 156 = (am_c156, 2, 1, []) := rfl
theorem am_m157 : am_M 157 = (am_c157, 2, 1, []) := rfl
theorem am_m158 : am_M 158 = (am_c158, 2, 1, []) := rfl
theorem am_m159 : am_M 159 = (am_c159, 2, 1, []) := rfl
theorem am_m160 : am_M 160 = (am_c160, 2, 1, []) := rfl
theorem am_m161 : am_M 161 = (am_c161, 2, 1, []) := rfl
theorem am_m162 : am_M 162 = (am_c162, 6, 3, []) := rfl
theorem am_m163 : am_M 163 = (am_c163, 4, 3, []) := rfl
theorem am_m164 : am_M 164 = (am_c164, 4, 3, []) := rfl
theorem am_m165 : am_M 165 = (am_c165, 7, 2, [(65, [4]), (140, [4, 6])]) := rfl
end
section
/-! what each block of a method comes to: printed by program, checked by computation -/
set_option maxRecDepth 100000 in
set_option maxHeartbeats 4000000 in
theorem am_b0_0 (l0 : Nat) (h : AH) : am_ev 0 0 [.ref l0] [] h = (if am_kd h l0 = 0 then (let h1 := am_sI h l0 0 (0 : Int32); (if am_kd h1 l0 = 0 then (let h2 := am_sI h1 l0 1 (0 : Int32); am_ev 0 14 [.ref l0] [] h2) else none)) else none) := (am_c2_eq am_m0 rfl [14, 32, 50, 68, 81] rfl 46 0 _ _ _).trans rfl
set_option maxRecDepth 100000 in
set_option maxHeartbeats 4000000 in
theorem am_b0_14 (l0 : Nat) (h : AH) : am_ev 0 14 [.ref l0] [] h = (let h1 := am_nw h 6 768; (if am_kd h1 l0 = 0 then (let h2 := am_sR h1 l0 2 (some h.1.length); (let h3 := am_nw h2 6 768; (if am_kd h3 l0 = 0 then (let h4 := am_sR h3 l0 3 (some h2.1.length); am_ev 0 32 [.ref l0] [] h4) else none))) else none)) := (am_c2_eq am_m0 rfl [14, 32, 50, 68, 81] rfl 46 14 _ _ _).trans rfl
set_option maxRecDepth 100000 in
set_option maxHeartbeats 4000000 in
theorem am_b0_32 (l0 : Nat) (h : AH) : am_ev 0 32 [.ref l0] [] h = (let h1 := am_nw h 5 128; (if am_kd h1 l0 = 0 then (let h2 := am_sR h1 l0 4 (some h.1.length); (let h3 := am_nw h2 5 128; (if am_kd h3 l0 = 0 then (let h4 := am_sR h3 l0 5 (some h2.1.length); am_ev 0 50 [.ref l0] [] h4) else none))) else none)) := (am_c2_eq am_m0 rfl [14, 32, 50, 68, 81] rfl 46 32 _ _ _).trans rfl
set_option maxRecDepth 100000 in
set_option maxHeartbeats 4000000 in
theorem am_b0_50 (l0 : Nat) (h : AH) : am_ev 0 50 [.ref l0] [] h = (let h1 := am_nw h 6 128; (if am_kd h1 l0 = 0 then (let h2 := am_sR h1 l0 6 (some h.1.length); (let h3 := am_nw h2 6 128; (if am_kd h3 l0 = 0 then (let h4 := am_sR h3 l0 7 (some h2.1.length); am_ev 0 68 [.ref l0] [] h4) else none))) else none)) := (am_c2_eq am_m0 rfl [14, 32, 50, 68, 81] rfl 46 50 _ _ _).trans rfl
set_option maxRecDepth 100000 in
set_option maxHeartbeats 4000000 in
theorem am_b0_68 (l0 : Nat) (h : AH) : am_ev 0 68 [.ref l0] [] h = (let h1 := am_nw h 5 6; (if am_kd h1 l0 = 0 then (let h2 := am_sR h1 l0 8 (some h.1.length); (if am_kd h2 l0 = 0 then (let h3 := am_sI h2 l0 9 (0 : Int32); am_ev 0 81 [.ref l0] [] h3) else none)) else none)) := (am_c2_eq am_m0 rfl [14, 32, 50, 68, 81] rfl 46 68 _ _ _).trans rfl
set_option maxRecDepth 100000 in
set_option maxHeartbeats 4000000 in
theorem am_b0_81 (l0 : Nat) (h : AH) : am_ev 0 81 [.ref l0] [] h = (let h1 := am_nw h 5 12; (if am_kd h1 l0 = 0 then (let h2 := am_sR h1 l0 10 (some h.1.length); some (none, h2)) else none)) := (am_c2_eq am_m0 rfl [14, 32, 50, 68, 81] rfl 46 81 _ _ _).trans rfl
set_option maxRecDepth 100000 in
set_option maxHeartbeats 4000000 in
theorem am_b1_0 (l0 : Nat) (l1 : Nat) (h : AH) : am_ev 1 0 [.ref l0, .ref l1, am_ph] [] h = (if am_kd h l0 = 0 then (if am_kd h l0 = 0 then am_oe (am_R h l0 10) ((if am_kd h l1 = 2 then am_bI (am_ev 43 0 [.ref l1, .int (am_I h l0 9), .null, am_ph] [] h) (fun x2 h1 => (if x2 = 0 then (if am_kd h1 l1 = 2 then am_bI (am_ev 44 0 [.ref l1] [] h1) (fun x4 h3 => (if am_kd h3 l0 = 0 then am_bV (am_ev 12 0 [.ref l0, .int x4, am_ph, am_ph, am_ph, am_ph] [] h3) (fun h5 => am_ev 1 27 [.ref l0, .ref l1, .int (0 : Int32)] [] h5) else none)) else none) else some (some (.ref l0), h1))) else none)) (fun b6 => (if am_kd h l1 = 2 then am_bI (am_ev 43 0 [.ref l1, .int (am_I h l0 9), .ref b6, am_ph] [] h) (fun x8 h7 => (if x8 = 0 then (if am_kd h7 l1 = 2 then am_bI (am_ev 44 0 [.ref l1] [] h7) (fun x10 h9 => (if am_kd h9 l0 = 0 then am_bV (am_ev 12 0 [.ref l0, .int x10, am_ph, am_ph, am_ph, am_ph] [] h9) (fun h11 => am_ev 1 27 [.ref l0, .ref l1, .int (0 : Int32)] [] h11) else none)) else none) else some (some (.ref l0), h7))) else none)) else none) else none) := (am_c2_eq am_m1 rfl [27] rfl 45 0 _ _ _).trans rfl
set_option maxRecDepth 100000 in
set_option maxHeartbeats 4000000 in
theorem am_b1_27 (l0 : Nat) (l1 : Nat) (l2 : Int32) (h : AH) : am_ev 1 27 [.ref l0, .ref l1, .int l2] [] h = (if am_kd h l1 = 2 then am_bI (am_ev 51 0 [.ref l1] [] h) (fun x2 h1 => (if l2 < x2 then (if am_kd h1 l0 = 0 then am_bV (am_ev 13 0 [.ref l0, .ref l1, .int l2, am_ph, am_ph] [] h1) (fun h3 => am_ev 1 27 [.ref l0, .ref l1, .int (l2 + (1 : Int32))] [] h3) else none) else (if am_kd h1 l0 = 0 then am_bV (am_ev 24 0 [.ref l0, am_ph, am_ph, am_ph, am_ph] [] h1) (fun h4 => (if am_kd h4 l0 = 0 then am_bV (am_ev 25 0 [.ref l0, am_ph, am_ph] [] h4) (fun h5 => (if am_kd h5 l1 = 2 then (if am_kd h5 l0 = 0 then (let h6 := am_sI h5 l0 9 (am_I h5 l1 0); (if am_kd h6 l1 = 2 then am_oe (am_R h6 l1 2) ((if am_kd h6 l0 = 0 then am_oe (am_R h6 l0 10) (none) (fun b7 => none) else none)) (fun b8 => (if am_kd h6 l0 = 0 then am_oe (am_R h6 l0 10) (none) (fun b9 => (if am_kd h6 b8 = 5 ∧ am_kd h6 b9 = 5 ∧ ¬ (0 : Int32) < 0 ∧ ¬ (0 : Int32) < 0 ∧ ¬ (12 : Int32) < 0 ∧ Int32.toNatClampNeg (0 : Int32) + Int32.toNatClampNeg (12 : Int32) ≤ am_ln h6 b8 ∧ Int32.toNatClampNeg (0 : Int32) + Int32.toNatClampNeg (12 : Int32) ≤ am_ln h6 b9 ∧ am_w8 [] ≤ 8 then (let h10 := am_rI h6 b9 (am_cpy (am_I h6 b8) (am_I h6 b9) (Int32.toNatClampNeg (0 : Int32)) (Int32.toNatClampNeg (0 : Int32)) (Int32.toNatClampNeg (12 : Int32))); some (some (.ref l0), h10)) else none)) else none)) else none)) else none) else none)) else none)) else none))) else none) := (am_c2_eq am_m1 rfl [27] rfl 45 27 _ _ _).trans rfl
set_option maxRecDepth 100000 in
set_option maxHeartbeats 4000000 in
theorem am_b2_0 (l0 : Nat) (l1 : Int32) (h : AH) : am_ev 2 0 [.ref l0, .int l1] [] h = (if l1 < 0 then some (some (.int (0 : Int32)), h) else (if am_kd h l0 = 0 then (if l1 < (am_I h l0 0) then some (some (.int (1 : Int32)), h) else some (some (.int (0 : Int32)), h)) else none)) := (am_c2_eq am_m2 rfl [] rfl 12 0 _ _ _).trans rfl
set_option maxRecDepth 100000 in
set_option maxHeartbeats 4000000 in
theorem am_b3_0 (l0 : Nat) (l1 : Int32) (l2 : Int32) (h : AH) : am_ev 3 0 [.ref l0, .int l1, .int l2, am_ph] [] h = (if l1 < 0 then some (some (.long (0 : Int64)), h) else (if am_kd h l0 = 0 then (if l1 < (am_I h l0 0) then (if l2 < 0 then some (some (.long (0 : Int64)), h) else (if l2 < (6 : Int32) then (if am_kd h l0 = 0 then am_oe (am_R h l0 2) (none) (fun b1 => (if 5 ≤ am_kd h b1 ∧ am_kd h b1 ≤ 9 then (if ((l1 * (6 : Int32)) + l2) < (Int32.ofNat (am_ln h b1)) then (if am_kd h l0 = 0 then am_oe (am_R h l0 2) (none) (fun b2 => (if am_kd h b2 = 6 ∧ ¬ (((l1 * (6 : Int32)) + l2) < 0 ∨ am_ln h b2 ≤ Int32.toNatClampNeg ((l1 * (6 : Int32)) + l2)) then some (some (.long (am_J h b2 (Int32.toNatClampNeg ((l1 * (6 : Int32)) + l2)))), h) else none)) else none) else some (some (.long (0 : Int64)), h)) else none)) else none) else some (some (.long (0 : Int64)), h))) else some (some (.long (0 : Int64)), h)) else none)) := (am_c2_eq am_m3 rfl [] rfl 31 0 _ _ _).trans rfl
set_option maxRecDepth 100000 in
set_option maxHeartbeats 4000000 in
theorem am_b4_0 (l0 : Nat) (l1 : Int32) (h : AH) : am_ev 4 0 [.ref l0, .int l1] [] h = (if l1 < 0 then some (some (.long (0 : Int64)), h) else (if am_kd h l0 = 0 then am_oe (am_R h l0 7) (none) (fun b1 => (if 5 ≤ am_kd h b1 ∧ am_kd h b1 ≤ 9 then (if l1 < (Int32.ofNat (am_ln h b1)) then (if am_kd h l0 = 0 then am_oe (am_R h l0 7) (none) (fun b2 => (if am_kd h b2 = 6 ∧ ¬ (l1 < 0 ∨ am_ln h b2 ≤ Int32.toNatClampNeg l1) then some (some (.long (am_J h b2 (Int32.toNatClampNeg l1))), h) else none)) else none) else some (some (.long (0 : Int64)), h)) else none)) else none)) := (am_c2_eq am_m4 rfl [] rfl 16 0 _ _ _).trans rfl
set_option maxRecDepth 100000 in
set_option maxHeartbeats 4000000 in
theorem am_b5_0 (l0 : Nat) (l1 : Int32) (h : AH) : am_ev 5 0 [.ref l0, .int l1, am_ph, am_ph] [] h = am_ev 5 4 [.ref l0, .int l1, .int (0 : Int32), .int (0 : Int32)] [] h := (am_c2_eq am_m5 rfl [4] rfl 26 0 _ _ _).trans rfl
set_option maxRecDepth 100000 in
set_option maxHeartbeats 4000000 in
theorem am_b5_4 (l0 : Nat) (l1 : Int32) (l2 : Int32) (l3 : Int32) (h : AH) : am_ev 5 4 [.ref l0, .int l1, .int l2, .int l3] [] h = (if l3 < (6 : Int32) then (if am_kd h l0 = 0 then am_bJ (am_ev 3 0 [.ref l0, .int l1, .int l3, am_ph] [] h) (fun x2 h1 => (if 0 < (lg_cmp x2 (0 : Int64)) then am_ev 5 4 [.ref l0, .int l1, .int (l2 ||| ((1 : Int32) <<< (l3 &&& 31))), .int (l3 + (1 : Int32))] [] h1 else am_ev 5 4 [.ref l0, .int l1, .int l2, .int (l3 + (1 : Int32))] [] h1)) else none) else some (some (.int l2), h)) := (am_c2_eq am_m5 rfl [4] rfl 26 4 _ _ _).trans rfl
set_option maxRecDepth 100000 in
set_option maxHeartbeats 4000000 in
theorem am_b6_0 (l0 : Nat) (l1 : Int32) (h : AH) : am_ev 6 0 [.ref l0, .int l1] [] h = (if am_kd h l0 = 0 then am_bI (am_ev 10 0 [.ref l0, .int l1] [] h) (fun x2 h1 => some (some (.int (x2 >>> ((6 : Int32) &&& 31))), h1)) else none) := (am_c2_eq am_m6 rfl [] rfl 8 0 _ _ _).trans rfl
set_option maxRecDepth 100000 in
set_option maxHeartbeats 4000000 in
theorem am_b7_0 (l0 : Nat) (h : AH) : am_ev 7 0 [.ref l0, am_ph, am_ph] [] h = am_ev 7 4 [.ref l0, .int (0 : Int32), .int (0 : Int32)] [] h := (am_c2_eq am_m7 rfl [4] rfl 20 0 _ _ _).trans rfl
set_option maxRecDepth 100000 in
set_option maxHeartbeats 4000000 in
theorem am_b7_4 (l0 : Nat) (l1 : Int32) (l2 : Int32) (h : AH) : am_ev 7 4 [.ref l0, .int l1, .int l2] [] h = (if am_kd h l0 = 0 then (if l2 < (am_I h l0 0) then (if am_kd h l0 = 0 then am_bI (am_ev 5 0 [.ref l0, .int l2, am_ph, am_ph] [] h) (fun x2 h1 => am_ev 7 4 [.ref l0, .int (l1 ||| x2), .int (l2 + (1 : Int32))] [] h1) else none) else some (some (.int l1), h)) else none) := (am_c2_eq am_m7 rfl [4] rfl 20 4 _ _ _).trans rfl
set_option maxRecDepth 100000 in
set_option maxHeartbeats 4000000 in
theorem am_b8_0 (l0 : Nat) (l1 : Nat) (l2 : Int32) (l3 : Int32) (h : AH) : am_ev 8 0 [.ref l0, .ref l1, .int l2, .int l3, am_ph, am_ph, am_ph] [] h = am_ev 8 6 [.ref l0, .ref l1, .int l2, .int l3, .long (0 : Int64), am_ph, .int (0 : Int32)] [] h := (am_c2_eq am_m8 rfl [6] rfl 27 0 _ _ _).trans rfl
set_option maxRecDepth 100000 in
set_option maxHeartbeats 4000000 in
theorem am_b8_6 (l0 : Nat) (l1 : Nat) (l2 : Int32) (l3 : Int32) (l4 : Int64) (l6 : Int32) (h : AH) : am_ev 8 6 [.ref l0, .ref l1, .int l2, .int l3, .long l4, am_ph, .int l6] [] h = (if am_kd h l1 = 2 then am_bI (am_ev 44 0 [.ref l1] [] h) (fun x2 h1 => (if l6 < x2 then (if am_kd h1 l0 = 0 then am_bJ (am_ev 3 0 [.ref l0, .int l2, .int l6, am_ph] [] h1) (fun x4 h3 => (if am_kd h3 l1 = 2 then am_bI (am_ev 49 0 [.ref l1, .int l3, .int l6] [] h3) (fun x6 h5 => am_ev 8 6 [.ref l0, .ref l1, .int l2, .int l3, .long (l4 + (x4 * (Int32.toInt64 x6))), am_ph, .int (l6 + (1 : Int32))] [] h5) else none)) else none) else some (some (.long l4), h1))) else none) := (am_c2_eq am_m8 rfl [6] rfl 27 6 _ _ _).trans rfl
set_option maxRecDepth 100000 in
set_option maxHeartbeats 4000000 in
theorem am_b9_0 (l0 : Nat) (l1 : Nat) (l2 : Int32) (h : AH) : am_ev 9 0 [.ref l0, .ref l1, .int l2, am_ph, am_ph, am_ph, am_ph, am_ph, am_ph] [] h = (if am_kd h l0 = 0 then am_bJ (am_ev 8 0 [.ref l0, .ref l1, .int (0 : Int32), .int l2, am_ph, am_ph, am_ph] [] h) (fun x2 h1 => am_ev 9 14 [.ref l0, .ref l1, .int l2, .int (0 : Int32), .long x2, am_ph, .int (1 : Int32), am_ph, am_ph] [] h1) else none) := (am_c2_eq am_m9 rfl [14] rfl 42 0 _ _ _).trans rfl
set_option maxRecDepth 100000 in
set_option maxHeartbeats 4000000 in
theorem am_b9_14 (l0 : Nat) (l1 : Nat) (l2 : Int32) (l3 : Int32) (l4 : Int64) (l6 : Int32) (h : AH) : am_ev 9 14 [.ref l0, .ref l1, .int l2, .int l3, .long l4, am_ph, .int l6, am_ph, am_ph] [] h = (if am_kd h l0 = 0 then (if l6 < (am_I h l0 0) then (if am_kd h l0 = 0 then am_bJ (am_ev 8 0 [.ref l0, .ref l1, .int l6, .int l2, am_ph, am_ph, am_ph] [] h) (fun x2 h1 => (if am_kd h1 l0 = 0 then am_bJ (am_ev 4 0 [.ref l0, .int l3] [] h1) (fun x4 h3 => (if am_kd h3 l0 = 0 then am_bJ (am_ev 4 0 [.ref l0, .int l6] [] h3) (fun x6 h5 => (if 0 < (lg_cmp (x2 * x4) (l4 * x6)) then am_ev 9 14 [.ref l0, .ref l1, .int l2, .int l6, .long x2, am_ph, .int (l6 + (1 : Int32)), am_ph, am_ph] [] h5 else am_ev 9 14 [.ref l0, .ref l1, .int l2, .int l3, .long l4, am_ph, .int (l6 + (1 : Int32)), am_ph, am_ph] [] h5)) else none)) else none)) else none) else some (some (.int l3), h)) else none) := (am_c2_eq am_m9 rfl [14] rfl 42 14 _ _ _).trans rfl
set_option maxRecDepth 100000 in
set_option maxHeartbeats 4000000 in
theorem am_b10_0 (l0 : Nat) (l1 : Int32) (h : AH) : am_ev 10 0 [.ref l0, .int l1] [] h = (if l1 < 0 then some (some (.int (0 : Int32)), h) else (if am_kd h l0 = 0 then am_oe (am_R h l0 4) (none) (fun b1 => (if 5 ≤ am_kd h b1 ∧ am_kd h b1 ≤ 9 then (if l1 < (Int32.ofNat (am_ln h b1)) then (if am_kd h l0 = 0 then am_oe (am_R h l0 4) (none) (fun b2 => (if (am_kd h b2 = 5 ∨ am_kd h b2 = 9) ∧ ¬ (l1 < 0 ∨ am_ln h b2 ≤ Int32.toNatClampNeg l1) then some (some (.int (am_I h b2 (Int32.toNatClampNeg l1))), h) else none)) else none) else some (some (.int (0 : Int32)), h)) else none)) else none)) := (am_c2_eq am_m10 rfl [] rfl 16 0 _ _ _).trans rfl
set_option maxRecDepth 100000 in
set_option maxHeartbeats 4000000 in
theorem am_b11_0 (l0 : Nat) (l1 : Int32) (h : AH) : am_ev 11 0 [.ref l0, .int l1] [] h = (if l1 < 0 then some (some (.long (0 : Int64)), h) else (if am_kd h l0 = 0 then am_oe (am_R h l0 6) (none) (fun b1 => (if 5 ≤ am_kd h b1 ∧ am_kd h b1 ≤ 9 then (if l1 < (Int32.ofNat (am_ln h b1)) then (if am_kd h l0 = 0 then am_oe (am_R h l0 6) (none) (fun b2 => (if am_kd h b2 = 6 ∧ ¬ (l1 < 0 ∨ am_ln h b2 ≤ Int32.toNatClampNeg l1) then some (some (.long (am_J h b2 (Int32.toNatClampNeg l1))), h) else none)) else none) else some (some (.long (0 : Int64)), h)) else none)) else none)) := (am_c2_eq am_m11 rfl [] rfl 16 0 _ _ _).trans rfl
set_option maxRecDepth 100000 in
set_option maxHeartbeats 4000000 in
theorem am_b12_0 (l0 : Nat) (l1 : Int32) (h : AH) : am_ev 12 0 [.ref l0, .int l1, am_ph, am_ph, am_ph, am_ph] [] h = (if am_kd h l0 = 0 then (let h1 := am_sI h l0 1 (0 : Int32); am_ev 12 13 [.ref l0, .int l1, .int (((1 : Int32) <<< (l1 &&& 31)) - (1 : Int32)), .int (0 : Int32), am_ph, am_ph] [] h1) else none) := (am_c2_eq am_m12 rfl [13, 27] rfl 51 0 _ _ _).trans rfl
set_option maxRecDepth 100000 in
set_option maxHeartbeats 4000000 in
theorem am_b12_13 (l0 : Nat) (l1 : Int32) (l2 : Int32) (l3 : Int32) (h : AH) : am_ev 12 13 [.ref l0, .int l1, .int l2, .int l3, am_ph, am_ph] [] h = (if l3 < l1 then (if am_kd h l0 = 0 then am_bI (am_ev 20 0 [.ref l0] [] h) (fun x2 h1 => am_ev 12 27 [.ref l0, .int l1, .int l2, .int l3, .int x2, .int (0 : Int32)] [] h1) else none) else (if am_kd h l0 = 0 then am_bV (am_ev 23 0 [.ref l0, am_ph, am_ph] [] h) (fun h3 => some (none, h3)) else none)) := (am_c2_eq am_m12 rfl [13, 27] rfl 51 13 _ _ _).trans rfl
set_option maxRecDepth 100000 in
set_option maxHeartbeats 4000000 in
theorem am_b12_27 (l0 : Nat) (l1 : Int32) (l2 : Int32) (l3 : Int32) (l4 : Int32) (l5 : Int32) (h : AH) : am_ev 12 27 [.ref l0, .int l1, .int l2, .int l3, .int l4, .int l5] [] h = (if l5 < (6 : Int32) then (if l5 = l3 then (if am_kd h l0 = 0 then am_bV (am_ev 21 0 [.ref l0, .int (l4 + l5), .long (1 : Int64), am_ph] [] h) (fun h1 => am_ev 12 27 [.ref l0, .int l1, .int l2, .int l3, .int l4, .int (l5 + (1 : Int32))] [] h1) else none) else (if am_kd h l0 = 0 then am_bV (am_ev 21 0 [.ref l0, .int (l4 + l5), .long (0 : Int64), am_ph] [] h) (fun h2 => am_ev 12 27 [.ref l0, .int l1, .int l2, .int l3, .int l4, .int (l5 + (1 : Int32))] [] h2) else none)) else (if am_kd h l0 = 0 then am_bV (am_ev 22 0 [.ref l0, .int (l2 &&& (((1 : Int32) <<< (l3 &&& 31)) ^^^ (-1 : Int32)))] [] h) (fun h3 => am_ev 12 13 [.ref l0, .int l1, .int l2, .int (l3 + (1 : Int32)), am_ph, am_ph] [] h3) else none)) := (am_c2_eq am_m12 rfl [13, 27] rfl 51 27 _ _ _).trans rfl
set_option maxRecDepth 100000 in
set_option maxHeartbeats 4000000 in
theorem am_b13_0 (l0 : Nat) (l1 : Nat) (l2 : Int32) (h : AH) : am_ev 13 0 [.ref l0, .ref l1, .int l2, am_ph, am_ph] [] h = (if am_kd h l0 = 0 then am_bV (am_ev 15 0 [.ref l0, .ref l1, .int l2, am_ph, am_ph, am_ph, am_ph] [] h) (fun h1 => (if am_kd h1 l0 = 0 then (let h2 := am_sI h1 l0 1 (0 : Int32); am_ev 13 21 [.ref l0, am_ph, am_ph, .int ((1 : Int32) <<< (((6 : Int32) + l2) &&& 31)), .int (0 : Int32)] [] h2) else none)) else none) := (am_c2_eq am_m13 rfl [21, 72] rfl 62 0 _ _ _).trans rfl
set_option maxRecDepth 100000 in
set_option maxHeartbeats 4000000 in
theorem am_b13_21 (l0 : Nat) (l3 : Int32) (l4 : Int32) (h : AH) : am_ev 13 21 [.ref l0, am_ph, am_ph, .int l3, .int l4] [] h = (if am_kd h l0 = 0 then (if l4 < (am_I h l0 0) then (if am_kd h l0 = 0 then am_bJ (am_ev 11 0 [.ref l0, .int l4] [] h) (fun x2 h1 => (if (lg_cmp x2 (0 : Int64)) < 0 then am_ev 13 21 [.ref l0, am_ph, am_ph, .int l3, .int (l4 + (1 : Int32))] [] h1 else (if am_kd h1 l0 = 0 then am_bJ (am_ev 11 0 [.ref l0, .int l4] [] h1) (fun x4 h3 => (if (lg_cmp x4 (0 : Int64)) = 0 then (if am_kd h3 l0 = 0 then am_bV (am_ev 17 0 [.ref l0, .int l4, .int l3, am_ph, am_ph] [] h3) (fun h5 => am_ev 13 21 [.ref l0, am_ph, am_ph, .int l3, .int (l4 + (1 : Int32))] [] h5) else none) else (if am_kd h3 l0 = 0 then am_bV (am_ev 17 0 [.ref l0, .int l4, .int (0 : Int32), am_ph, am_ph] [] h3) (fun h6 => am_ev 13 21 [.ref l0, am_ph, am_ph, .int l3, .int (l4 + (1 : Int32))] [] h6) else none))) else none))) else none) else am_ev 13 72 [.ref l0, am_ph, am_ph, .int l3, .int (0 : Int32)] [] h) else none) := (am_c2_eq am_m13 rfl [21, 72] rfl 62 21 _ _ _).trans rfl
set_option maxRecDepth 100000 in
set_option maxHeartbeats 4000000 in
theorem am_b13_72 (l0 : Nat) (l3 : Int32) (l4 : Int32) (h : AH) : am_ev 13 72 [.ref l0, am_ph, am_ph, .int l3, .int l4] [] h = (if am_kd h l0 = 0 then (if l4 < (am_I h l0 0) then (if am_kd h l0 = 0 then am_bJ (am_ev 11 0 [.ref l0, .int l4] [] h) (fun x2 h1 => (if 0 < (lg_cmp x2 (0 : Int64)) then (if am_kd h1 l0 = 0 then am_bV (am_ev 14 0 [.ref l0, .int l4, .int l3, am_ph] [] h1) (fun h3 => am_ev 13 72 [.ref l0, am_ph, am_ph, .int l3, .int (l4 + (1 : Int32))] [] h3) else none) else am_ev 13 72 [.ref l0, am_ph, am_ph, .int l3, .int (l4 + (1 : Int32))] [] h1)) else none) else (if am_kd h l0 = 0 then am_bV (am_ev 23 0 [.ref l0, am_ph, am_ph] [] h) (fun h4 => some (none, h4)) else none)) else none) := (am_c2_eq am_m13 rfl [21, 72] rfl 62 72 _ _ _).trans rfl
set_option maxRecDepth 100000 in
set_option maxHeartbeats 4000000 in
theorem am_b14_0 (l0 : Nat) (l1 : Int32) (l2 : Int32) (h : AH) : am_ev 14 0 [.ref l0, .int l1, .int l2, am_ph] [] h = am_ev 14 2 [.ref l0, .int l1, .int l2, .int (0 : Int32)] [] h := (am_c2_eq am_m14 rfl [2] rfl 27 0 _ _ _).trans rfl
set_option maxRecDepth 100000 in
set_option maxHeartbeats 4000000 in
theorem am_b14_2 (l0 : Nat) (l1 : Int32) (l2 : Int32) (l3 : Int32) (h : AH) : am_ev 14 2 [.ref l0, .int l1, .int l2, .int l3] [] h = (if am_kd h l0 = 0 then (if l3 < (am_I h l0 0) then (if am_kd h l0 = 0 then am_bJ (am_ev 11 0 [.ref l0, .int l3] [] h) (fun x2 h1 => (if (lg_cmp x2 (0 : Int64)) < 0 then (if am_kd h1 l0 = 0 then am_bI (am_ev 16 0 [.ref l0, .int l1, .int l3, am_ph, am_ph] [] h1) (fun x4 h3 => (if x4 = 0 then am_ev 14 2 [.ref l0, .int l1, .int l2, .int (l3 + (1 : Int32))] [] h3 else (if am_kd h3 l0 = 0 then am_bV (am_ev 18 0 [.ref l0, .int l1, .int l3, .int l2, am_ph, am_ph, am_ph, am_ph, am_ph, am_ph] [] h3) (fun h5 => am_ev 14 2 [.ref l0, .int l1, .int l2, .int (l3 + (1 : Int32))] [] h5) else none))) else none) else am_ev 14 2 [.ref l0, .int l1, .int l2, .int (l3 + (1 : Int32))] [] h1)) else none) else some (none, h)) else none) := (am_c2_eq am_m14 rfl [2] rfl 27 2 _ _ _).trans rfl
set_option maxRecDepth 100000 in
set_option maxHeartbeats 4000000 in
theorem am_b15_0 (l0 : Nat) (l1 : Nat) (l2 : Int32) (h : AH) : am_ev 15 0 [.ref l0, .ref l1, .int l2, am_ph, am_ph, am_ph, am_ph] [] h = am_ev 15 2 [.ref l0, .ref l1, .int l2, .int (0 : Int32), am_ph, am_ph, am_ph] [] h := (am_c2_eq am_m15 rfl [2, 42, 65] rfl 64 0 _ _ _).trans rfl
set_option maxRecDepth 100000 in
set_option maxHeartbeats 4000000 in
theorem am_b15_2 (l0 : Nat) (l1 : Nat) (l2 : Int32) (l3 : Int32) (h : AH) : am_ev 15 2 [.ref l0, .ref l1, .int l2, .int l3, am_ph, am_ph, am_ph] [] h = (if l3 < (6 : Int32) then (if am_kd h l0 = 0 then am_oe (am_R h l0 8) ((if am_kd h l1 = 2 then am_bI (am_ev 44 0 [.ref l1] [] h) (fun x2 h1 => (if l3 < x2 then (if am_kd h1 l1 = 2 then am_bI (am_ev 55 0 [.ref l1, .int l2, .int l3, am_ph, am_ph, am_ph, am_ph, am_ph] [] h1) (fun x4 h3 => (am_bV (am_ev 92 0 [.null, .int l3, .int x4] [] h3) (fun h5 => am_ev 15 2 [.ref l0, .ref l1, .int l2, .int (l3 + (1 : Int32)), am_ph, am_ph, am_ph] [] h5))) else none) else (am_bV (am_ev 92 0 [.null, .int l3, .int (0 : Int32)] [] h1) (fun h6 => am_ev 15 2 [.ref l0, .ref l1, .int l2, .int (l3 + (1 : Int32)), am_ph, am_ph, am_ph] [] h6)))) else none)) (fun b7 => (if am_kd h l1 = 2 then am_bI (am_ev 44 0 [.ref l1] [] h) (fun x9 h8 => (if l3 < x9 then (if am_kd h8 l1 = 2 then am_bI (am_ev 55 0 [.ref l1, .int l2, .int l3, am_ph, am_ph, am_ph, am_ph, am_ph] [] h8) (fun x11 h10 => (am_bV (am_ev 92 0 [.ref b7, .int l3, .int x11] [] h10) (fun h12 => am_ev 15 2 [.ref l0, .ref l1, .int l2, .int (l3 + (1 : Int32)), am_ph, am_ph, am_ph] [] h12))) else none) else (am_bV (am_ev 92 0 [.ref b7, .int l3, .int (0 : Int32)] [] h8) (fun h13 => am_ev 15 2 [.ref l0, .ref l1, .int l2, .int (l3 + (1 : Int32)), am_ph, am_ph, am_ph] [] h13)))) else none)) else none) else am_ev 15 42 [.ref l0, am_ph, am_ph, .int (0 : Int32), am_ph, am_ph, am_ph] [] h) := (am_c2_eq am_m15 rfl [2, 42, 65] rfl 64 2 _ _ _).trans rfl
set_option maxRecDepth 100000 in
set_option maxHeartbeats 4000000 in
theorem am_b15_42 (l0 : Nat) (l3 : Int32) (h : AH) : am_ev 15 42 [.ref l0, am_ph, am_ph, .int l3, am_ph, am_ph, am_ph] [] h = (if am_kd h l0 = 0 then (if l3 < (am_I h l0 0) then (if am_kd h l0 = 0 then am_oe (am_R h l0 6) (none) (fun b1 => (if 5 ≤ am_kd h b1 ∧ am_kd h b1 ≤ 9 then (if l3 < (Int32.ofNat (am_ln h b1)) then am_ev 15 65 [.ref l0, am_ph, am_ph, .int l3, .long (0 : Int64), am_ph, .int (0 : Int32)] [] h else some (none, h)) else none)) else none) else some (none, h)) else none) := (am_c2_eq am_m15 rfl [2, 42, 65] rfl 64 42 _ _ _).trans rfl
set_option maxRecDepth 100000 in
set_option maxHeartbeats 4000000 in
theorem am_b15_65 (l0 : Nat) (l3 : Int32) (l4 : Int64) (l6 : Int32) (h : AH) : am_ev 15 65 [.ref l0, am_ph, am_ph, .int l3, .long l4, am_ph, .int l6] [] h = (if l6 < (6 : Int32) then (if am_kd h l0 = 0 then am_bJ (am_ev 3 0 [.ref l0, .int l3, .int l6, am_ph] [] h) (fun x2 h1 => (if am_kd h1 l0 = 0 then am_oe (am_R h1 l0 8) ((am_bI (am_ev 91 0 [.null, .int l6] [] h1) (fun x4 h3 => am_ev 15 65 [.ref l0, am_ph, am_ph, .int l3, .long (l4 + (x2 * (Int32.toInt64 x4))), am_ph, .int (l6 + (1 : Int32))] [] h3))) (fun b5 => (am_bI (am_ev 91 0 [.ref b5, .int l6] [] h1) (fun x7 h6 => am_ev 15 65 [.ref l0, am_ph, am_ph, .int l3, .long (l4 + (x2 * (Int32.toInt64 x7))), am_ph, .int (l6 + (1 : Int32))] [] h6))) else none)) else none) else (if am_kd h l0 = 0 then am_oe (am_R h l0 6) (none) (fun b8 => (if am_kd h b8 = 6 ∧ ¬ (l3 < 0 ∨ am_ln h b8 ≤ Int32.toNatClampNeg l3) then (let h9 := am_sJ h b8 (Int32.toNatClampNeg l3) l4; am_ev 15 42 [.ref l0, am_ph, am_ph, .int (l3 + (1 : Int32)), am_ph, am_ph, am_ph] [] h9) else none)) else none)) := (am_c2_eq am_m15 rfl [2, 42, 65] rfl 64 65 _ _ _).trans rfl
set_option maxRecDepth 100000 in
set_option maxHeartbeats 4000000 in
theorem am_b16_0 (l0 : Nat) (l1 : Int32) (l2 : Int32) (h : AH) : am_ev 16 0 [.ref l0, .int l1, .int l2, am_ph, am_ph] [] h = (if am_kd h l0 = 0 then am_bI (am_ev 10 0 [.ref l0, .int l1] [] h) (fun x2 h1 => (if am_kd h1 l0 = 0 then am_bI (am_ev 10 0 [.ref l0, .int l2] [] h1) (fun x4 h3 => am_ev 16 15 [.ref l0, .int l1, .int l2, .int (x2 &&& x4), .int (0 : Int32)] [] h3) else none)) else none) := (am_c2_eq am_m16 rfl [15] rfl 35 0 _ _ _).trans rfl
set_option maxRecDepth 100000 in
set_option maxHeartbeats 4000000 in
theorem am_b16_15 (l0 : Nat) (l1 : Int32) (l2 : Int32) (l3 : Int32) (l4 : Int32) (h : AH) : am_ev 16 15 [.ref l0, .int l1, .int l2, .int l3, .int l4] [] h = (if am_kd h l0 = 0 then (if l4 < (am_I h l0 0) then (if l4 = l1 then am_ev 16 15 [.ref l0, .int l1, .int l2, .int l3, .int (l4 + (1 : Int32))] [] h else (if l4 = l2 then am_ev 16 15 [.ref l0, .int l1, .int l2, .int l3, .int (l4 + (1 : Int32))] [] h else (if am_kd h l0 = 0 then am_bI (am_ev 10 0 [.ref l0, .int l4] [] h) (fun x2 h1 => (if (x2 &&& l3) = l3 then some (some (.int (0 : Int32)), h1) else am_ev 16 15 [.ref l0, .int l1, .int l2, .int l3, .int (l4 + (1 : Int32))] [] h1)) else none))) else some (some (.int (1 : Int32)), h)) else none) := (am_c2_eq am_m16 rfl [15] rfl 35 15 _ _ _).trans rfl
set_option maxRecDepth 100000 in
set_option maxHeartbeats 4000000 in
theorem am_b17_0 (l0 : Nat) (l1 : Int32) (l2 : Int32) (h : AH) : am_ev 17 0 [.ref l0, .int l1, .int l2, am_ph, am_ph] [] h = (if am_kd h l0 = 0 then am_bI (am_ev 20 0 [.ref l0] [] h) (fun x2 h1 => am_ev 17 8 [.ref l0, .int l1, .int l2, .int x2, .int (0 : Int32)] [] h1) else none) := (am_c2_eq am_m17 rfl [8] rfl 29 0 _ _ _).trans rfl
set_option maxRecDepth 100000 in
set_option maxHeartbeats 4000000 in
theorem am_b17_8 (l0 : Nat) (l1 : Int32) (l2 : Int32) (l3 : Int32) (l4 : Int32) (h : AH) : am_ev 17 8 [.ref l0, .int l1, .int l2, .int l3, .int l4] [] h = (if l4 < (6 : Int32) then (if am_kd h l0 = 0 then am_bJ (am_ev 3 0 [.ref l0, .int l1, .int l4, am_ph] [] h) (fun x2 h1 => (if am_kd h1 l0 = 0 then am_bV (am_ev 21 0 [.ref l0, .int (l3 + l4), .long x2, am_ph] [] h1) (fun h3 => am_ev 17 8 [.ref l0, .int l1, .int l2, .int l3, .int (l4 + (1 : Int32))] [] h3) else none)) else none) else (if am_kd h l0 = 0 then am_bI (am_ev 10 0 [.ref l0, .int l1] [] h) (fun x5 h4 => (if am_kd h4 l0 = 0 then am_bV (am_ev 22 0 [.ref l0, .int (x5 ||| l2)] [] h4) (fun h6 => some (none, h6)) else none)) else none)) := (am_c2_eq am_m17 rfl [8] rfl 29 8 _ _ _).trans rfl
set_option maxRecDepth 100000 in
set_option maxHeartbeats 4000000 in
theorem am_b18_0 (l0 : Nat) (l1 : Int32) (l2 : Int32) (l3 : Int32) (h : AH) : am_ev 18 0 [.ref l0, .int l1, .int l2, .int l3, am_ph, am_ph, am_ph, am_ph, am_ph, am_ph] [] h = (if am_kd h l0 = 0 then am_bI (am_ev 20 0 [.ref l0] [] h) (fun x2 h1 => am_ev 18 12 [.ref l0, .int l1, .int l2, .int l3, .int x2, .long (0 : Int64), am_ph, .int (0 : Int32), am_ph, am_ph] [] h1) else none) := (am_c2_eq am_m18 rfl [12, 47] rfl 63 0 _ _ _).trans rfl
set_option maxRecDepth 100000 in
set_option maxHeartbeats 4000000 in
theorem am_b18_12 (l0 : Nat) (l1 : Int32) (l2 : Int32) (l3 : Int32) (l4 : Int32) (l5 : Int64) (l7 : Int32) (h : AH) : am_ev 18 12 [.ref l0, .int l1, .int l2, .int l3, .int l4, .long l5, am_ph, .int l7, am_ph, am_ph] [] h = (if l7 < (6 : Int32) then (if am_kd h l0 = 0 then am_bJ (am_ev 19 0 [.ref l0, .int l1, .int l2, .int l7] [] h) (fun x2 h1 => (am_bJ (am_ev 28 0 [.long x2, am_ph, .long l5, am_ph, am_ph, am_ph, am_ph, am_ph, am_ph, am_ph, am_ph] [] h1) (fun x4 h3 => am_ev 18 12 [.ref l0, .int l1, .int l2, .int l3, .int l4, .long x4, am_ph, .int (l7 + (1 : Int32)), am_ph, am_ph] [] h3))) else none) else am_ev 18 47 [.ref l0, .int l1, .int l2, .int l3, .int l4, .long l5, am_ph, .int (0 : Int32), am_ph, am_ph] [] h) := (am_c2_eq am_m18 rfl [12, 47] rfl 63 12 _ _ _).trans rfl
set_option maxRecDepth 100000 in
set_option maxHeartbeats 4000000 in
theorem am_b18_47 (l0 : Nat) (l1 : Int32) (l2 : Int32) (l3 : Int32) (l4 : Int32) (l5 : Int64) (l7 : Int32) (h : AH) : am_ev 18 47 [.ref l0, .int l1, .int l2, .int l3, .int l4, .long l5, am_ph, .int l7, am_ph, am_ph] [] h = (if l7 < (6 : Int32) then (if am_kd h l0 = 0 then am_bJ (am_ev 19 0 [.ref l0, .int l1, .int l2, .int l7] [] h) (fun x2 h1 => (if 0 < (lg_cmp l5 (1 : Int64)) then (if l5 = 0 then none else (if am_kd h1 l0 = 0 then am_bV (am_ev 21 0 [.ref l0, .int (l4 + l7), .long (x2 / l5), am_ph] [] h1) (fun h3 => am_ev 18 47 [.ref l0, .int l1, .int l2, .int l3, .int l4, .long l5, am_ph, .int (l7 + (1 : Int32)), am_ph, am_ph] [] h3) else none)) else (if am_kd h1 l0 = 0 then am_bV (am_ev 21 0 [.ref l0, .int (l4 + l7), .long x2, am_ph] [] h1) (fun h4 => am_ev 18 47 [.ref l0, .int l1, .int l2, .int l3, .int l4, .long l5, am_ph, .int (l7 + (1 : Int32)), am_ph, am_ph] [] h4) else none))) else none) else (if am_kd h l0 = 0 then am_bI (am_ev 10 0 [.ref l0, .int l1] [] h) (fun x6 h5 => (if am_kd h5 l0 = 0 then am_bI (am_ev 10 0 [.ref l0, .int l2] [] h5) (fun x8 h7 => (if am_kd h7 l0 = 0 then am_bV (am_ev 22 0 [.ref l0, .int ((x6 &&& x8) ||| l3)] [] h7) (fun h9 => some (none, h9)) else none)) else none)) else none)) := (am_c2_eq am_m18 rfl [12, 47] rfl 63 47 _ _ _).trans rfl
set_option maxRecDepth 100000 in
set_option maxHeartbeats 4000000 in
theorem am_b19_0 (l0 : Nat) (l1 : Int32) (l2 : Int32) (l3 : Int32) (h : AH) : am_ev 19 0 [.ref l0, .int l1, .int l2, .int l3] [] h = (if am_kd h l0 = 0 then am_bJ (am_ev 11 0 [.ref l0, .int l1] [] h) (fun x2 h1 => (if am_kd h1 l0 = 0 then am_bJ (am_ev 3 0 [.ref l0, .int l2, .int l3, am_ph] [] h1) (fun x4 h3 => (if am_kd h3 l0 = 0 then am_bJ (am_ev 11 0 [.ref l0, .int l2] [] h3) (fun x6 h5 => (if am_kd h5 l0 = 0 then am_bJ (am_ev 3 0 [.ref l0, .int l1, .int l3, am_ph] [] h5) (fun x8 h7 => some (some (.long ((x2 * x4) - (x6 * x8))), h7)) else none)) else none)) else none)) else none) := (am_c2_eq am_m19 rfl [] rfl 20 0 _ _ _).trans rfl
set_option maxRecDepth 100000 in
set_option maxHeartbeats 4000000 in
theorem am_b20_0 (l0 : Nat) (h : AH) : am_ev 20 0 [.ref l0] [] h = (if am_kd h l0 = 0 then some (some (.int ((am_I h l0 1) * (6 : Int32))), h) else none) := (am_c2_eq am_m20 rfl [] rfl 7 0 _ _ _).trans rfl
set_option maxRecDepth 100000 in
set_option maxHeartbeats 4000000 in
theorem am_b21_0 (l0 : Nat) (l1 : Int32) (l2 : Int64) (h : AH) : am_ev 21 0 [.ref l0, .int l1, .long l2, am_ph] [] h = (if l1 < 0 then some (none, h) else (if am_kd h l0 = 0 then am_oe (am_R h l0 3) (none) (fun b1 => (if 5 ≤ am_kd h b1 ∧ am_kd h b1 ≤ 9 then (if l1 < (Int32.ofNat (am_ln h b1)) then (if am_kd h l0 = 0 then am_oe (am_R h l0 3) (none) (fun b2 => (if am_kd h b2 = 6 ∧ ¬ (l1 < 0 ∨ am_ln h b2 ≤ Int32.toNatClampNeg l1) then (let h3 := am_sJ h b2 (Int32.toNatClampNeg l1) l2; some (none, h3)) else none)) else none) else some (none, h)) else none)) else none)) := (am_c2_eq am_m21 rfl [] rfl 15 0 _ _ _).trans rfl
set_option maxRecDepth 100000 in
set_option maxHeartbeats 4000000 in
theorem am_b22_0 (l0 : Nat) (l1 : Int32) (h : AH) : am_ev 22 0 [.ref l0, .int l1] [] h = (if am_kd h l0 = 0 then (if (am_I h l0 1) < 0 then some (none, h) else (if am_kd h l0 = 0 then (if am_kd h l0 = 0 then am_oe (am_R h l0 5) (none) (fun b1 => (if 5 ≤ am_kd h b1 ∧ am_kd h b1 ≤ 9 then (if (am_I h l0 1) < (Int32.ofNat (am_ln h b1)) then (if am_kd h l0 = 0 then am_oe (am_R h l0 5) ((if am_kd h l0 = 0 then none else none)) (fun b2 => (if am_kd h l0 = 0 then (if am_kd h b2 = 5 ∧ ¬ ((am_I h l0 1) < 0 ∨ am_ln h b2 ≤ Int32.toNatClampNeg (am_I h l0 1)) then (let h3 := am_sI h b2 (Int32.toNatClampNeg (am_I h l0 1)) l1; (if am_kd h3 l0 = 0 then (if am_kd h3 l0 = 0 then (let h4 := am_sI h3 l0 1 ((am_I h3 l0 1) + (1 : Int32)); some (none, h4)) else none) else none)) else none) else none)) else none) else some (none, h)) else none)) else none) else none)) else none) := (am_c2_eq am_m22 rfl [] rfl 24 0 _ _ _).trans rfl
set_option maxRecDepth 100000 in
set_option maxHeartbeats 4000000 in
theorem am_b23_0 (l0 : Nat) (h : AH) : am_ev 23 0 [.ref l0, am_ph, am_ph] [] h = (if am_kd h l0 = 0 then am_oe (am_R h l0 2) ((if am_kd h l0 = 0 then am_oe (am_R h l0 3) ((if am_kd h l0 = 0 then (let h1 := am_sR h l0 2 none; (if am_kd h1 l0 = 0 then (let h2 := am_sR h1 l0 3 none; (if am_kd h2 l0 = 0 then am_oe (am_R h2 l0 4) ((if am_kd h2 l0 = 0 then am_oe (am_R h2 l0 5) ((if am_kd h2 l0 = 0 then (let h3 := am_sR h2 l0 4 none; (if am_kd h3 l0 = 0 then (let h4 := am_sR h3 l0 5 none; (if am_kd h4 l0 = 0 then (if am_kd h4 l0 = 0 then (let h5 := am_sI h4 l0 0 (am_I h4 l0 1); some (none, h5)) else none) else none)) else none)) else none)) (fun b6 => (if am_kd h2 l0 = 0 then (let h7 := am_sR h2 l0 4 (some b6); (if am_kd h7 l0 = 0 then (let h8 := am_sR h7 l0 5 none; (if am_kd h8 l0 = 0 then (if am_kd h8 l0 = 0 then (let h9 := am_sI h8 l0 0 (am_I h8 l0 1); some (none, h9)) else none) else none)) else none)) else none)) else none)) (fun b10 => (if am_kd h2 l0 = 0 then am_oe (am_R h2 l0 5) ((if am_kd h2 l0 = 0 then (let h11 := am_sR h2 l0 4 none; (if am_kd h11 l0 = 0 then (let h12 := am_sR h11 l0 5 (some b10); (if am_kd h12 l0 = 0 then (if am_kd h12 l0 = 0 then (let h13 := am_sI h12 l0 0 (am_I h12 l0 1); some (none, h13)) else none) else none)) else none)) else none)) (fun b14 => (if am_kd h2 l0 = 0 then (let h15 := am_sR h2 l0 4 (some b14); (if am_kd h15 l0 = 0 then (let h16 := am_sR h15 l0 5 (some b10); (if am_kd h16 l0 = 0 then (if am_kd h16 l0 = 0 then (let h17 := am_sI h16 l0 0 (am_I h16 l0 1); some (none, h17)) else none) else none)) else none)) else none)) else none)) else none)) else none)) else none)) (fun b18 => (if am_kd h l0 = 0 then (let h19 := am_sR h l0 2 (some b18); (if am_kd h19 l0 = 0 then (let h20 := am_sR h19 l0 3 none; (if am_kd h20 l0 = 0 then am_oe (am_R h20 l0 4) ((if am_kd h20 l0 = 0 then am_oe (am_R h20 l0 5) ((if am_kd h20 l0 = 0 then (let h21 := am_sR h20 l0 4 none; (if am_kd h21 l0 = 0 then (let h22 := am_sR h21 l0 5 none; (if am_kd h22 l0 = 0 then (if am_kd h22 l0 = 0 then (let h23 := am_sI h22 l0 0 (am_I h22 l0 1); some (none, h23)) else none) else none)) else none)) else none)) (fun b24 => (if am_kd h20 l0 = 0 then (let h25 := am_sR h20 l0 4 (some b24); (if am_kd h25 l0 = 0 then (let h26 := am_sR h25 l0 5 none; (if am_kd h26 l0 = 0 then (if am_kd h26 l0 = 0 then (let h27 := am_sI h26 l0 0 (am_I h26 l0 1); some (none, h27)) else none) else none)) else none)) else none)) else none)) (fun b28 => (if am_kd h20 l0 = 0 then am_oe (am_R h20 l0 5) ((if am_kd h20 l0 = 0 then (let h29 := am_sR h20 l0 4 none; (if am_kd h29 l0 = 0 then (let h30 := am_sR h29 l0 5 (some b28); (if am_kd h30 l0 = 0 then (if am_kd h30 l0 = 0 then (let h31 := am_sI h30 l0 0 (am_I h30 l0 1); some (none, h31)) else none) else none)) else none)) else none)) (fun b32 => (if am_kd h20 l0 = 0 then (let h33 := am_sR h20 l0 4 (some b32); (if am_kd h33 l0 = 0 then (let h34 := am_sR h33 l0 5 (some b28); (if am_kd h34 l0 = 0 then (if am_kd h34 l0 = 0 then (let h35 := am_sI h34 l0 0 (am_I h34 l0 1); some (none, h35)) else none) else none)) else none)) else none)) else none)) else none)) else none)) else none)) else none)) (fun b36 => (if am_kd h l0 = 0 then am_oe (am_R h l0 3) ((if am_kd h l0 = 0 then (let h37 := am_sR h l0 2 none; (if am_kd h37 l0 = 0 then (let h38 := am_sR h37 l0 3 (some b36); (if am_kd h38 l0 = 0 then am_oe (am_R h38 l0 4) ((if am_kd h38 l0 = 0 then am_oe (am_R h38 l0 5) ((if am_kd h38 l0 = 0 then (let h39 := am_sR h38 l0 4 none; (if am_kd h39 l0 = 0 then (let h40 := am_sR h39 l0 5 none; (if am_kd h40 l0 = 0 then (if am_kd h40 l0 = 0 then (let h41 := am_sI h40 l0 0 (am_I h40 l0 1); some (none, h41)) else none) else none)) else none)) else none)) (fun b42 => (if am_kd h38 l0 = 0 then (let h43 := am_sR h38 l0 4 (some b42); (if am_kd h43 l0 = 0 then (let h44 := am_sR h43 l0 5 none; (if am_kd h44 l0 = 0 then (if am_kd h44 l0 = 0 then (let h45 := am_sI h44 l0 0 (am_I h44 l0 1); some (none, h45)) else none) else none)) else none)) else none)) else none)) (fun b46 => (if am_kd h38 l0 = 0 then am_oe (am_R h38 l0 5) ((if am_kd h38 l0 = 0 then (let h47 := am_sR h38 l0 4 none; (if am_kd h47 l0 = 0 then (let h48 := am_sR h47 l0 5 (some b46); (if am_kd h48 l0 = 0 then (if am_kd h48 l0 = 0 then (let h49 := am_sI h48 l0 0 (am_I h48 l0 1); some (none, h49)) else none) else none)) else none)) else none)) (fun b50 => (if am_kd h38 l0 = 0 then (let h51 := am_sR h38 l0 4 (some b50); (if am_kd h51 l0 = 0 then (let h52 := am_sR h51 l0 5 (some b46); (if am_kd h52 l0 = 0 then (if am_kd h52 l0 = 0 then (let h53 := am_sI h52 l0 0 (am_I h52 l0 1); some (none, h53)) else none) else none)) else none)) else none)) else none)) else none)) else none)) else none)) (fun b54 => (if am_kd h l0 = 0 then (let h55 := am_sR h l0 2 (some b54); (if am_kd h55 l0 = 0 then (let h56 := am_sR h55 l0 3 (some b36); (if am_kd h56 l0 = 0 then am_oe (am_R h56 l0 4) ((if am_kd h56 l0 = 0 then am_oe (am_R h56 l0 5) ((if am_kd h56 l0 = 0 then (let h57 := am_sR h56 l0 4 none; (if am_kd h57 l0 = 0 then (let h58 := am_sR h57 l0 5 none; (if am_kd h58 l0 = 0 then (if am_kd h58 l0 = 0 then (let h59 := am_sI h58 l0 0 (am_I h58 l0 1); some (none, h59)) else none) else none)) else none)) else none)) (fun b60 => (if am_kd h56 l0 = 0 then (let h61 := am_sR h56 l0 4 (some b60); (if am_kd h61 l0 = 0 then (let h62 := am_sR h61 l0 5 none; (if am_kd h62 l0 = 0 then (if am_kd h62 l0 = 0 then (let h63 := am_sI h62 l0 0 (am_I h62 l0 1); some (none, h63)) else none) else none)) else none)) else none)) else none)) (fun b64 => (if am_kd h56 l0 = 0 then am_oe (am_R h56 l0 5) ((if am_kd h56 l0 = 0 then (let h65 := am_sR h56 l0 4 none; (if am_kd h65 l0 = 0 then (let h66 := am_sR h65 l0 5 (some b64); (if am_kd h66 l0 = 0 then (if am_kd h66 l0 = 0 then (let h67 := am_sI h66 l0 0 (am_I h66 l0 1); some (none, h67)) else none) else none)) else none)) else none)) (fun b68 => (if am_kd h56 l0 = 0 then (let h69 := am_sR h56 l0 4 (some b68); (if am_kd h69 l0 = 0 then (let h70 := am_sR h69 l0 5 (some b64); (if am_kd h70 l0 = 0 then (if am_kd h70 l0 = 0 then (let h71 := am_sI h70 l0 0 (am_I h70 l0 1); some (none, h71)) else none) else none)) else none)) else none)) else none)) else none)) else none)) else none)) else none)) else none) := (am_c2_eq am_m23 rfl [] rfl 27 0 _ _ _).trans rfl
set_option maxRecDepth 100000 in
set_option maxHeartbeats 4000000 in
theorem am_b24_0 (l0 : Nat) (h : AH) : am_ev 24 0 [.ref l0, am_ph, am_ph, am_ph, am_ph] [] h = am_ev 24 2 [.ref l0, .int (0 : Int32), am_ph, am_ph, am_ph] [] h := (am_c2_eq am_m24 rfl [2, 24] rfl 37 0 _ _ _).trans rfl
set_option maxRecDepth 100000 in
set_option maxHeartbeats 4000000 in
theorem am_b24_2 (l0 : Nat) (l1 : Int32) (h : AH) : am_ev 24 2 [.ref l0, .int l1, am_ph, am_ph, am_ph] [] h = (if am_kd h l0 = 0 then (if l1 < (am_I h l0 0) then (if am_kd h l0 = 0 then am_oe (am_R h l0 7) (none) (fun b1 => (if 5 ≤ am_kd h b1 ∧ am_kd h b1 ≤ 9 then (if l1 < (Int32.ofNat (am_ln h b1)) then am_ev 24 24 [.ref l0, .int l1, .long (0 : Int64), am_ph, .int (0 : Int32)] [] h else some (none, h)) else none)) else none) else some (none, h)) else none) := (am_c2_eq am_m24 rfl [2, 24] rfl 37 2 _ _ _).trans rfl
set_option maxRecDepth 100000 in
set_option maxHeartbeats 4000000 in
theorem am_b24_24 (l0 : Nat) (l1 : Int32) (l2 : Int64) (l4 : Int32) (h : AH) : am_ev 24 24 [.ref l0, .int l1, .long l2, am_ph, .int l4] [] h = (if l4 < (6 : Int32) then (if am_kd h l0 = 0 then am_bJ (am_ev 3 0 [.ref l0, .int l1, .int l4, am_ph] [] h) (fun x2 h1 => am_ev 24 24 [.ref l0, .int l1, .long (l2 + x2), am_ph, .int (l4 + (1 : Int32))] [] h1) else none) else (if am_kd h l0 = 0 then am_oe (am_R h l0 7) (none) (fun b3 => (if am_kd h b3 = 6 ∧ ¬ (l1 < 0 ∨ am_ln h b3 ≤ Int32.toNatClampNeg l1) then (let h4 := am_sJ h b3 (Int32.toNatClampNeg l1) l2; am_ev 24 2 [.ref l0, .int (l1 + (1 : Int32)), am_ph, am_ph, am_ph] [] h4) else none)) else none)) := (am_c2_eq am_m24 rfl [2, 24] rfl 37 24 _ _ _).trans rfl
set_option maxRecDepth 100000 in
set_option maxHeartbeats 4000000 in
theorem am_b25_0 (l0 : Nat) (h : AH) : am_ev 25 0 [.ref l0, am_ph, am_ph] [] h = am_ev 25 2 [.ref l0, .int (1 : Int32), am_ph] [] h := (am_c2_eq am_m25 rfl [2, 12] rfl 30 0 _ _ _).trans rfl
set_option maxRecDepth 100000 in
set_option maxHeartbeats 4000000 in
theorem am_b25_2 (l0 : Nat) (l1 : Int32) (h : AH) : am_ev 25 2 [.ref l0, .int l1, am_ph] [] h = (if am_kd h l0 = 0 then (if l1 < (am_I h l0 0) then am_ev 25 12 [.ref l0, .int l1, .int l1] [] h else some (none, h)) else none) := (am_c2_eq am_m25 rfl [2, 12] rfl 30 2 _ _ _).trans rfl
set_option maxRecDepth 100000 in
set_option maxHeartbeats 4000000 in
theorem am_b25_12 (l0 : Nat) (l1 : Int32) (l2 : Int32) (h : AH) : am_ev 25 12 [.ref l0, .int l1, .int l2] [] h = (if 0 < l2 then (if am_kd h l0 = 0 then am_bI (am_ev 26 0 [.ref l0, .int l2, .int (l2 - (1 : Int32)), am_ph, am_ph, am_ph, am_ph, am_ph] [] h) (fun x2 h1 => (if x2 = 0 then am_ev 25 2 [.ref l0, .int (l1 + (1 : Int32)), am_ph] [] h1 else (if am_kd h1 l0 = 0 then am_bV (am_ev 27 0 [.ref l0, .int l2, .int (l2 - (1 : Int32)), am_ph, am_ph, am_ph] [] h1) (fun h3 => am_ev 25 12 [.ref l0, .int l1, .int (l2 + (-1 : Int32))] [] h3) else none))) else none) else am_ev 25 2 [.ref l0, .int (l1 + (1 : Int32)), am_ph] [] h) := (am_c2_eq am_m25 rfl [2, 12] rfl 30 12 _ _ _).trans rfl
set_option maxRecDepth 100000 in
set_option maxHeartbeats 4000000 in
theorem am_b26_0 (l0 : Nat) (l1 : Int32) (l2 : Int32) (h : AH) : am_ev 26 0 [.ref l0, .int l1, .int l2, am_ph, am_ph, am_ph, am_ph, am_ph] [] h = am_ev 26 2 [.ref l0, .int l1, .int l2, .int (0 : Int32), am_ph, am_ph, am_ph, am_ph] [] h := (am_c2_eq am_m26 rfl [2] rfl 41 0 _ _ _).trans rfl
set_option maxRecDepth 100000 in
set_option maxHeartbeats 4000000 in
theorem am_b26_2 (l0 : Nat) (l1 : Int32) (l2 : Int32) (l3 : Int32) (h : AH) : am_ev 26 2 [.ref l0, .int l1, .int l2, .int l3, am_ph, am_ph, am_ph, am_ph] [] h = (if l3 < (6 : Int32) then (if am_kd h l0 = 0 then am_bJ (am_ev 3 0 [.ref l0, .int l1, .int l3, am_ph] [] h) (fun x2 h1 => (if am_kd h1 l0 = 0 then am_bJ (am_ev 4 0 [.ref l0, .int l2] [] h1) (fun x4 h3 => (if am_kd h3 l0 = 0 then am_bJ (am_ev 3 0 [.ref l0, .int l2, .int l3, am_ph] [] h3) (fun x6 h5 => (if am_kd h5 l0 = 0 then am_bJ (am_ev 4 0 [.ref l0, .int l1] [] h5) (fun x8 h7 => (if (lg_cmp (x2 * x4) (x6 * x8)) = 0 then am_ev 26 2 [.ref l0, .int l1, .int l2, .int (l3 + (1 : Int32)), am_ph, am_ph, am_ph, am_ph] [] h7 else (if 0 < (lg_cmp (x2 * x4) (x6 * x8)) then some (some (.int (1 : Int32)), h7) else some (some (.int (0 : Int32)), h7)))) else none)) else none)) else none)) else none) else some (some (.int (0 : Int32)), h)) := (am_c2_eq am_m26 rfl [2] rfl 41 2 _ _ _).trans rfl
set_option maxRecDepth 100000 in
set_option maxHeartbeats 4000000 in
theorem am_b27_0 (l0 : Nat) (l1 : Int32) (l2 : Int32) (h : AH) : am_ev 27 0 [.ref l0, .int l1, .int l2, am_ph, am_ph, am_ph] [] h = (if l1 < 0 then some (none, h) else (if am_kd h l0 = 0 then (if l1 < (am_I h l0 0) then (if l2 < 0 then some (none, h) else (if am_kd h l0 = 0 then (if l2 < (am_I h l0 0) then (if am_kd h l0 = 0 then (if (128 : Int32) < (am_I h l0 0) then some (none, h) else am_ev 27 37 [.ref l0, .int l1, .int l2, .int (0 : Int32), am_ph, am_ph] [] h) else none) else some (none, h)) else none)) else some (none, h)) else none)) := (am_c2_eq am_m27 rfl [37] rfl 97 0 _ _ _).trans rfl
set_option maxRecDepth 100000 in
set_option maxHeartbeats 4000000 in
theorem am_b27_37 (l0 : Nat) (l1 : Int32) (l2 : Int32) (l3 : Int32) (h : AH) : am_ev 27 37 [.ref l0, .int l1, .int l2, .int l3, am_ph, am_ph] [] h = (if l3 < (6 : Int32) then (if am_kd h l0 = 0 then am_oe (am_R h l0 2) (none) (fun b1 => (if am_kd h b1 = 6 ∧ ¬ (((l1 * (6 : Int32)) + l3) < 0 ∨ am_ln h b1 ≤ Int32.toNatClampNeg ((l1 * (6 : Int32)) + l3)) then (if am_kd h l0 = 0 then am_oe (am_R h l0 2) ((if am_kd h l0 = 0 then am_oe (am_R h l0 2) (none) (fun b2 => (if am_kd h b2 = 6 ∧ ¬ (((l2 * (6 : Int32)) + l3) < 0 ∨ am_ln h b2 ≤ Int32.toNatClampNeg ((l2 * (6 : Int32)) + l3)) then none else none)) else none)) (fun b3 => (if am_kd h l0 = 0 then am_oe (am_R h l0 2) (none) (fun b4 => (if am_kd h b4 = 6 ∧ ¬ (((l2 * (6 : Int32)) + l3) < 0 ∨ am_ln h b4 ≤ Int32.toNatClampNeg ((l2 * (6 : Int32)) + l3)) then (if am_kd h b3 = 6 ∧ ¬ (((l1 * (6 : Int32)) + l3) < 0 ∨ am_ln h b3 ≤ Int32.toNatClampNeg ((l1 * (6 : Int32)) + l3)) then (let h5 := am_sJ h b3 (Int32.toNatClampNeg ((l1 * (6 : Int32)) + l3)) (am_J h b4 (Int32.toNatClampNeg ((l2 * (6 : Int32)) + l3))); (if am_kd h5 l0 = 0 then am_oe (am_R h5 l0 2) (none) (fun b6 => (if am_kd h5 b6 = 6 ∧ ¬ (((l2 * (6 : Int32)) + l3) < 0 ∨ am_ln h5 b6 ≤ Int32.toNatClampNeg ((l2 * (6 : Int32)) + l3)) then (let h7 := am_sJ h5 b6 (Int32.toNatClampNeg ((l2 * (6 : Int32)) + l3)) (am_J h b1 (Int32.toNatClampNeg ((l1 * (6 : Int32)) + l3))); am_ev 27 37 [.ref l0, .int l1, .int l2, .int (l3 + (1 : Int32)), am_ph, am_ph] [] h7) else none)) else none)) else none) else none)) else none)) else none) else none)) else none) else (if am_kd h l0 = 0 then am_oe (am_R h l0 4) (none) (fun b8 => (if (am_kd h b8 = 5 ∨ am_kd h b8 = 9) ∧ ¬ (l1 < 0 ∨ am_ln h b8 ≤ Int32.toNatClampNeg l1) then (if am_kd h l0 = 0 then am_oe (am_R h l0 4) ((if am_kd h l0 = 0 then am_oe (am_R h l0 4) (none) (fun b9 => (if (am_kd h b9 = 5 ∨ am_kd h b9 = 9) ∧ ¬ (l2 < 0 ∨ am_ln h b9 ≤ Int32.toNatClampNeg l2) then none else none)) else none)) (fun b10 => (if am_kd h l0 = 0 then am_oe (am_R h l0 4) (none) (fun b11 => (if (am_kd h b11 = 5 ∨ am_kd h b11 = 9) ∧ ¬ (l2 < 0 ∨ am_ln h b11 ≤ Int32.toNatClampNeg l2) then (if am_kd h b10 = 5 ∧ ¬ (l1 < 0 ∨ am_ln h b10 ≤ Int32.toNatClampNeg l1) then (let h12 := am_sI h b10 (Int32.toNatClampNeg l1) (am_I h b11 (Int32.toNatClampNeg l2)); (if am_kd h12 l0 = 0 then am_oe (am_R h12 l0 4) (none) (fun b13 => (if am_kd h12 b13 = 5 ∧ ¬ (l2 < 0 ∨ am_ln h12 b13 ≤ Int32.toNatClampNeg l2) then (let h14 := am_sI h12 b13 (Int32.toNatClampNeg l2) (am_I h b8 (Int32.toNatClampNeg l1)); (if am_kd h14 l0 = 0 then am_oe (am_R h14 l0 7) (none) (fun b15 => (if am_kd h14 b15 = 6 ∧ ¬ (l1 < 0 ∨ am_ln h14 b15 ≤ Int32.toNatClampNeg l1) then (if am_kd h14 l0 = 0 then am_oe (am_R h14 l0 7) ((if am_kd h14 l0 = 0 then am_oe (am_R h14 l0 7) (none) (fun b16 => (if am_kd h14 b16 = 6 ∧ ¬ (l2 < 0 ∨ am_ln h14 b16 ≤ Int32.toNatClampNeg l2) then none else none)) else none)) (fun b17 => (if am_kd h14 l0 = 0 then am_oe (am_R h14 l0 7) (none) (fun b18 => (if am_kd h14 b18 = 6 ∧ ¬ (l2 < 0 ∨ am_ln h14 b18 ≤ Int32.toNatClampNeg l2) then (if am_kd h14 b17 = 6 ∧ ¬ (l1 < 0 ∨ am_ln h14 b17 ≤ Int32.toNatClampNeg l1) then (let h19 := am_sJ h14 b17 (Int32.toNatClampNeg l1) (am_J h14 b18 (Int32.toNatClampNeg l2)); (if am_kd h19 l0 = 0 then am_oe (am_R h19 l0 7) (none) (fun b20 => (if am_kd h19 b20 = 6 ∧ ¬ (l2 < 0 ∨ am_ln h19 b20 ≤ Int32.toNatClampNeg l2) then (let h21 := am_sJ h19 b20 (Int32.toNatClampNeg l2) (am_J h14 b15 (Int32.toNatClampNeg l1)); some (none, h21)) else none)) else none)) else none) else none)) else none)) else none) else none)) else none)) else none)) else none)) else none) else none)) else none)) else none) else none)) else none)) := (am_c2_eq am_m27 rfl [37] rfl 97 37 _ _ _).trans rfl
set_option maxRecDepth 100000 in
set_option maxHeartbeats 4000000 in
theorem am_b28_0 (l0 : Int64) (l2 : Int64) (h : AH) : am_ev 28 0 [.long l0, am_ph, .long l2, am_ph, am_ph, am_ph, am_ph, am_ph, am_ph, am_ph, am_ph] [] h = (am_bJ (am_ev 163 0 [.long l0, am_ph, .long l2, am_ph] [] h) (fun x2 h1 => (am_bJ (am_ev 164 0 [.long l0, am_ph, .long l2, am_ph] [] h1) (fun x4 h3 => am_ev 28 17 [am_ph, am_ph, am_ph, am_ph, .long x2, am_ph, .long x4, am_ph, .int (0 : Int32), am_ph, am_ph] [] h3)))) := (am_c2_eq am_m28 rfl [17] rfl 31 0 _ _ _).trans rfl
set_option maxRecDepth 100000 in
set_option maxHeartbeats 4000000 in
theorem am_b28_17 (l4 : Int64) (l6 : Int64) (l8 : Int32) (h : AH) : am_ev 28 17 [am_ph, am_ph, am_ph, am_ph, .long l4, am_ph, .long l6, am_ph, .int l8, am_ph, am_ph] [] h = (if l8 < (100 : Int32) then (if 0 < (lg_cmp l6 (0 : Int64)) then (if l6 = 0 then none else am_ev 28 17 [am_ph, am_ph, am_ph, am_ph, .long l6, am_ph, .long (l4 - l4 / l6 * l6), am_ph, .int (l8 + (1 : Int32)), am_ph, am_ph] [] h) else some (some (.long l4), h)) else some (some (.long l4), h)) := (am_c2_eq am_m28 rfl [17] rfl 31 17 _ _ _).trans rfl
end
section
/-! what each block of a method comes to: printed by program, checked by computation -/
set_option maxRecDepth 100000 in
set_option maxHeartbeats 4000000 in
theorem am_b29_0 (l0 : Nat) (h : AH) : am_ev 29 0 [.ref l0] [] h = (if am_kd h l0 = 1 then (let h1 := am_sI h l0 0 (0 : Int32); (if am_kd h1 l0 = 1 then (let h2 := am_sI h1 l0 1 (0 : Int32); am_ev 29 14 [.ref l0] [] h2) else none)) else none) := (am_c2_eq am_m29 rfl [14, 30, 40, 50] rfl 34 0 _ _ _).trans rfl
set_option maxRecDepth 100000 in
set_option maxHeartbeats 4000000 in
theorem am_b29_14 (l0 : Nat) (h : AH) : am_ev 29 14 [.ref l0] [] h = (let h1 := am_nw h 7 60; (if am_kd h1 l0 = 1 then (let h2 := am_sR h1 l0 2 (some h.1.length); (let h3 := am_nw h2 5 12; (if am_kd h3 l0 = 1 then (let h4 := am_sR h3 l0 3 (some h2.1.length); am_ev 29 30 [.ref l0] [] h4) else none))) else none)) := (am_c2_eq am_m29 rfl [14, 30, 40, 50] rfl 34 14 _ _ _).trans rfl
set_option maxRecDepth 100000 in
set_option maxHeartbeats 4000000 in
theorem am_b29_30 (l0 : Nat) (h : AH) : am_ev 29 30 [.ref l0] [] h = (if am_kd h l0 = 1 then (let h1 := am_sI h l0 4 (0 : Int32); (if am_kd h1 l0 = 1 then (let h2 := am_sI h1 l0 5 (0 : Int32); am_ev 29 40 [.ref l0] [] h2) else none)) else none) := (am_c2_eq am_m29 rfl [14, 30, 40, 50] rfl 34 30 _ _ _).trans rfl
set_option maxRecDepth 100000 in
set_option maxHeartbeats 4000000 in
theorem am_b29_40 (l0 : Nat) (h : AH) : am_ev 29 40 [.ref l0] [] h = (if am_kd h l0 = 1 then (let h1 := am_sI h l0 6 (0 : Int32); (if am_kd h1 l0 = 1 then (let h2 := am_sI h1 l0 7 (0 : Int32); am_ev 29 50 [.ref l0] [] h2) else none)) else none) := (am_c2_eq am_m29 rfl [14, 30, 40, 50] rfl 34 40 _ _ _).trans rfl
set_option maxRecDepth 100000 in
set_option maxHeartbeats 4000000 in
theorem am_b29_50 (l0 : Nat) (h : AH) : am_ev 29 50 [.ref l0] [] h = (if am_kd h l0 = 1 then (let h1 := am_sI h l0 8 (0 : Int32); some (none, h1)) else none) := (am_c2_eq am_m29 rfl [14, 30, 40, 50] rfl 34 50 _ _ _).trans rfl
set_option maxRecDepth 100000 in
set_option maxHeartbeats 4000000 in
theorem am_b40_0 (l0 : Nat) (h : AH) : am_ev 40 0 [.ref l0] [] h = (if am_kd h l0 = 2 then (let h1 := am_sI h l0 0 (2 : Int32); (if am_kd h1 l0 = 2 then (let h2 := am_sI h1 l0 1 (1 : Int32); am_ev 40 14 [.ref l0] [] h2) else none)) else none) := (am_c2_eq am_m40 rfl [14, 30] rfl 26 0 _ _ _).trans rfl
set_option maxRecDepth 100000 in
set_option maxHeartbeats 4000000 in
theorem am_b40_14 (l0 : Nat) (h : AH) : am_ev 40 14 [.ref l0] [] h = (let h1 := am_nw h 5 12; (if am_kd h1 l0 = 2 then (let h2 := am_sR h1 l0 2 (some h.1.length); (let h3 := am_nw h2 5 6; (if am_kd h3 l0 = 2 then (let h4 := am_sR h3 l0 3 (some h2.1.length); am_ev 40 30 [.ref l0] [] h4) else none))) else none)) := (am_c2_eq am_m40 rfl [14, 30] rfl 26 14 _ _ _).trans rfl
set_option maxRecDepth 100000 in
set_option maxHeartbeats 4000000 in
theorem am_b40_30 (l0 : Nat) (h : AH) : am_ev 40 30 [.ref l0] [] h = (let h1 := am_nw h 5 6; (if am_kd h1 l0 = 2 then (let h2 := am_sR h1 l0 4 (some h.1.length); (if am_kd h2 l0 = 2 then am_bV (am_ev 41 0 [.ref l0, .int (2 : Int32)] [] h2) (fun h3 => some (none, h3)) else none)) else none)) := (am_c2_eq am_m40 rfl [14, 30] rfl 26 30 _ _ _).trans rfl
set_option maxRecDepth 100000 in
set_option maxHeartbeats 4000000 in
theorem am_b41_0 (l0 : Nat) (l1 : Int32) (h : AH) : am_ev 41 0 [.ref l0, .int l1] [] h = (if am_kd h l0 = 2 then (let h1 := am_sI h l0 0 l1; (if am_kd h1 l0 = 2 then am_oe (am_R h1 l0 2) ((am_bV (am_ev 93 0 [.null, .int (0 : Int32), .int (0 : Int32), am_ph] [] h1) (fun h2 => (if am_kd h2 l0 = 2 then am_oe (am_R h2 l0 3) ((if am_kd h2 l0 = 2 then am_bI (am_ev 44 0 [.ref l0] [] h2) (fun x4 h3 => (am_bV (am_ev 93 0 [.null, .int x4, .int (1 : Int32), am_ph] [] h3) (fun h5 => (if am_kd h5 l0 = 2 then am_oe (am_R h5 l0 4) ((am_bV (am_ev 93 0 [.null, .int (0 : Int32), .int (0 : Int32), am_ph] [] h5) (fun h6 => some (none, h6)))) (fun b7 => (am_bV (am_ev 93 0 [.ref b7, .int (0 : Int32), .int (0 : Int32), am_ph] [] h5) (fun h8 => some (none, h8)))) else none)))) else none)) (fun b9 => (if am_kd h2 l0 = 2 then am_bI (am_ev 44 0 [.ref l0] [] h2) (fun x11 h10 => (am_bV (am_ev 93 0 [.ref b9, .int x11, .int (1 : Int32), am_ph] [] h10) (fun h12 => (if am_kd h12 l0 = 2 then am_oe (am_R h12 l0 4) ((am_bV (am_ev 93 0 [.null, .int (0 : Int32), .int (0 : Int32), am_ph] [] h12) (fun h13 => some (none, h13)))) (fun b14 => (am_bV (am_ev 93 0 [.ref b14, .int (0 : Int32), .int (0 : Int32), am_ph] [] h12) (fun h15 => some (none, h15)))) else none)))) else none)) else none)))) (fun b16 => (am_bV (am_ev 93 0 [.ref b16, .int (0 : Int32), .int (0 : Int32), am_ph] [] h1) (fun h17 => (if am_kd h17 l0 = 2 then am_oe (am_R h17 l0 3) ((if am_kd h17 l0 = 2 then am_bI (am_ev 44 0 [.ref l0] [] h17) (fun x19 h18 => (am_bV (am_ev 93 0 [.null, .int x19, .int (1 : Int32), am_ph] [] h18) (fun h20 => (if am_kd h20 l0 = 2 then am_oe (am_R h20 l0 4) ((am_bV (am_ev 93 0 [.null, .int (0 : Int32), .int (0 : Int32), am_ph] [] h20) (fun h21 => some (none, h21)))) (fun b22 => (am_bV (am_ev 93 0 [.ref b22, .int (0 : Int32), .int (0 : Int32), am_ph] [] h20) (fun h23 => some (none, h23)))) else none)))) else none)) (fun b24 => (if am_kd h17 l0 = 2 then am_bI (am_ev 44 0 [.ref l0] [] h17) (fun x26 h25 => (am_bV (am_ev 93 0 [.ref b24, .int x26, .int (1 : Int32), am_ph] [] h25) (fun h27 => (if am_kd h27 l0 = 2 then am_oe (am_R h27 l0 4) ((am_bV (am_ev 93 0 [.null, .int (0 : Int32), .int (0 : Int32), am_ph] [] h27) (fun h28 => some (none, h28)))) (fun b29 => (am_bV (am_ev 93 0 [.ref b29, .int (0 : Int32), .int (0 : Int32), am_ph] [] h27) (fun h30 => some (none, h30)))) else none)))) else none)) else none)))) else none)) else none) := (am_c2_eq am_m41 rfl [] rfl 22 0 _ _ _).trans rfl
set_option maxRecDepth 100000 in
set_option maxHeartbeats 4000000 in
theorem am_b42_0 (l0 : Nat) (l1 : Nat) (h : AH) : am_ev 42 0 [.ref l0, .ref l1] [] h = (if am_kd h l1 = 2 then (if am_kd h l0 = 2 then (let h1 := am_sI h l0 0 (am_I h l1 0); (if am_kd h1 l1 = 2 then (if am_kd h1 l0 = 2 then (let h2 := am_sI h1 l0 1 (am_I h1 l1 1); (if am_kd h2 l1 = 2 then am_oe (am_R h2 l1 2) ((if am_kd h2 l0 = 2 then am_oe (am_R h2 l0 2) (none) (fun b3 => none) else none)) (fun b4 => (if am_kd h2 l0 = 2 then am_oe (am_R h2 l0 2) (none) (fun b5 => (if am_kd h2 b4 = 5 ∧ am_kd h2 b5 = 5 ∧ ¬ (0 : Int32) < 0 ∧ ¬ (0 : Int32) < 0 ∧ ¬ (12 : Int32) < 0 ∧ Int32.toNatClampNeg (0 : Int32) + Int32.toNatClampNeg (12 : Int32) ≤ am_ln h2 b4 ∧ Int32.toNatClampNeg (0 : Int32) + Int32.toNatClampNeg (12 : Int32) ≤ am_ln h2 b5 ∧ am_w8 [] ≤ 8 then (let h6 := am_rI h2 b5 (am_cpy (am_I h2 b4) (am_I h2 b5) (Int32.toNatClampNeg (0 : Int32)) (Int32.toNatClampNeg (0 : Int32)) (Int32.toNatClampNeg (12 : Int32))); (if am_kd h6 l1 = 2 then am_oe (am_R h6 l1 3) ((if am_kd h6 l0 = 2 then am_oe (am_R h6 l0 3) (none) (fun b7 => none) else none)) (fun b8 => (if am_kd h6 l0 = 2 then am_oe (am_R h6 l0 3) (none) (fun b9 => (if am_kd h6 b8 = 5 ∧ am_kd h6 b9 = 5 ∧ ¬ (0 : Int32) < 0 ∧ ¬ (0 : Int32) < 0 ∧ ¬ (6 : Int32) < 0 ∧ Int32.toNatClampNeg (0 : Int32) + Int32.toNatClampNeg (6 : Int32) ≤ am_ln h6 b8 ∧ Int32.toNatClampNeg (0 : Int32) + Int32.toNatClampNeg (6 : Int32) ≤ am_ln h6 b9 ∧ am_w8 [] ≤ 8 then (let h10 := am_rI h6 b9 (am_cpy (am_I h6 b8) (am_I h6 b9) (Int32.toNatClampNeg (0 : Int32)) (Int32.toNatClampNeg (0 : Int32)) (Int32.toNatClampNeg (6 : Int32))); (if am_kd h10 l1 = 2 then am_oe (am_R h10 l1 4) ((if am_kd h10 l0 = 2 then am_oe (am_R h10 l0 4) (none) (fun b11 => none) else none)) (fun b12 => (if am_kd h10 l0 = 2 then am_oe (am_R h10 l0 4) (none) (fun b13 => (if am_kd h10 b12 = 5 ∧ am_kd h10 b13 = 5 ∧ ¬ (0 : Int32) < 0 ∧ ¬ (0 : Int32) < 0 ∧ ¬ (6 : Int32) < 0 ∧ Int32.toNatClampNeg (0 : Int32) + Int32.toNatClampNeg (6 : Int32) ≤ am_ln h10 b12 ∧ Int32.toNatClampNeg (0 : Int32) + Int32.toNatClampNeg (6 : Int32) ≤ am_ln h10 b13 ∧ am_w8 [] ≤ 8 then (let h14 := am_rI h10 b13 (am_cpy (am_I h10 b12) (am_I h10 b13) (Int32.toNatClampNeg (0 : Int32)) (Int32.toNatClampNeg (0 : Int32)) (Int32.toNatClampNeg (6 : Int32))); some (none, h14)) else none)) else none)) else none)) else none)) else none)) else none)) else none)) else none)) else none)) else none) else none)) else none) else none) := (am_c2_eq am_m42 rfl [] rfl 35 0 _ _ _).trans rfl
set_option maxRecDepth 100000 in
set_option maxHeartbeats 4000000 in
theorem am_b43_0 (l0 : Nat) (l1 : Int32) (l2 : Nat) (h : AH) : am_ev 43 0 [.ref l0, .int l1, .ref l2, am_ph] [] h = (if am_kd h l0 = 2 then (if (am_I h l0 0) = l1 then am_ev 43 12 [.ref l0, am_ph, .ref l2, .int (0 : Int32)] [] h else some (some (.int (0 : Int32)), h)) else none) := (am_c2_eq am_m43 rfl [12] rfl 27 0 _ _ _).trans rfl
set_option maxRecDepth 100000 in
set_option maxHeartbeats 4000000 in
theorem am_b43_12 (l0 : Nat) (l2 : Nat) (l3 : Int32) (h : AH) : am_ev 43 12 [.ref l0, am_ph, .ref l2, .int l3] [] h = (if l3 < (12 : Int32) then (if am_kd h l0 = 2 then am_oe (am_R h l0 2) ((am_bI (am_ev 91 0 [.null, .int l3] [] h) (fun x2 h1 => (am_bI (am_ev 91 0 [.ref l2, .int l3] [] h1) (fun x4 h3 => (if x2 = x4 then am_ev 43 12 [.ref l0, am_ph, .ref l2, .int (l3 + (1 : Int32))] [] h3 else some (some (.int (0 : Int32)), h3))))))) (fun b5 => (am_bI (am_ev 91 0 [.ref b5, .int l3] [] h) (fun x7 h6 => (am_bI (am_ev 91 0 [.ref l2, .int l3] [] h6) (fun x9 h8 => (if x7 = x9 then am_ev 43 12 [.ref l0, am_ph, .ref l2, .int (l3 + (1 : Int32))] [] h8 else some (some (.int (0 : Int32)), h8))))))) else none) else some (some (.int (1 : Int32)), h)) := (am_c2_eq am_m43 rfl [12] rfl 27 12 _ _ _).trans rfl
set_option maxRecDepth 100000 in
set_option maxHeartbeats 4000000 in
theorem am_b44_0 (l0 : Nat) (h : AH) : am_ev 44 0 [.ref l0] [] h = (if am_kd h l0 = 2 then some (some (.int ((2 : Int32) * (am_I h l0 0))), h) else none) := (am_c2_eq am_m44 rfl [] rfl 7 0 _ _ _).trans rfl
set_option maxRecDepth 100000 in
set_option maxHeartbeats 4000000 in
theorem am_b45_0 (l0 : Nat) (l1 : Int32) (l2 : Int32) (h : AH) : am_ev 45 0 [.ref l0, .int l1, .int l2] [] h = (if am_kd h l0 = 2 then some (some (.int (((am_I h l0 0) * l1) + l2)), h) else none) := (am_c2_eq am_m45 rfl [] rfl 9 0 _ _ _).trans rfl
set_option maxRecDepth 100000 in
set_option maxHeartbeats 4000000 in
theorem am_b46_0 (l0 : Nat) (l1 : Int32) (l2 : Int32) (h : AH) : am_ev 46 0 [.ref l0, .int l1, .int l2, am_ph] [] h = (if am_kd h l0 = 2 then (if l1 < (am_I h l0 0) then am_ev 46 13 [.ref l0, .int l1, .int l2, am_ph] [.int (0 : Int32)] h else am_ev 46 13 [.ref l0, .int l1, .int l2, am_ph] [.int (1 : Int32)] h) else none) := (am_c2_eq am_m46 rfl [13] rfl 21 0 _ _ _).trans rfl
set_option maxRecDepth 100000 in
set_option maxHeartbeats 4000000 in
theorem am_b46_13 (l0 : Nat) (l1 : Int32) (l2 : Int32) (s0 : Int32) (h : AH) : am_ev 46 13 [.ref l0, .int l1, .int l2, am_ph] [.int s0] h = (if l2 = 0 then some (some (.int s0), h) else (if am_kd h l0 = 2 then some (some (.int (l1 - ((am_I h l0 0) * s0))), h) else none)) := (am_c2_eq am_m46 rfl [13] rfl 21 13 _ _ _).trans rfl
set_option maxRecDepth 100000 in
set_option maxHeartbeats 4000000 in
theorem am_b47_0 (l0 : Nat) (l1 : Int32) (l2 : Int32) (h : AH) : am_ev 47 0 [.ref l0, .int l1, .int l2] [] h = (if am_kd h l0 = 2 then am_oe (am_R h l0 2) ((am_bI (am_ev 91 0 [.null, .int ((l1 * (6 : Int32)) + l2)] [] h) (fun x2 h1 => some (some (.int x2), h1)))) (fun b3 => (am_bI (am_ev 91 0 [.ref b3, .int ((l1 * (6 : Int32)) + l2)] [] h) (fun x5 h4 => some (some (.int x5), h4)))) else none) := (am_c2_eq am_m47 rfl [] rfl 11 0 _ _ _).trans rfl
set_option maxRecDepth 100000 in
set_option maxHeartbeats 4000000 in
theorem am_b48_0 (l0 : Nat) (l1 : Int32) (l2 : Int32) (l3 : Int32) (h : AH) : am_ev 48 0 [.ref l0, .int l1, .int l2, .int l3] [] h = (if am_kd h l0 = 2 then am_oe (am_R h l0 2) ((am_bV (am_ev 92 0 [.null, .int ((l1 * (6 : Int32)) + l2), .int l3] [] h) (fun h1 => some (none, h1)))) (fun b2 => (am_bV (am_ev 92 0 [.ref b2, .int ((l1 * (6 : Int32)) + l2), .int l3] [] h) (fun h3 => some (none, h3)))) else none) := (am_c2_eq am_m48 rfl [] rfl 12 0 _ _ _).trans rfl
set_option maxRecDepth 100000 in
set_option maxHeartbeats 4000000 in
theorem am_b49_0 (l0 : Nat) (l1 : Int32) (l2 : Int32) (h : AH) : am_ev 49 0 [.ref l0, .int l1, .int l2] [] h = (if l1 = (2 : Int32) then (if am_kd h l0 = 2 then am_bI (am_ev 47 0 [.ref l0, .int (0 : Int32), .int l2] [] h) (fun x2 h1 => (if am_kd h1 l0 = 2 then am_bI (am_ev 47 0 [.ref l0, .int (1 : Int32), .int l2] [] h1) (fun x4 h3 => some (some (.int (x2 + x4)), h3)) else none)) else none) else (if am_kd h l0 = 2 then am_bI (am_ev 47 0 [.ref l0, .int l1, .int l2] [] h) (fun x6 h5 => some (some (.int x6), h5)) else none)) := (am_c2_eq am_m49 rfl [] rfl 20 0 _ _ _).trans rfl
set_option maxRecDepth 100000 in
set_option maxHeartbeats 4000000 in
theorem am_b50_0 (l0 : Nat) (l1 : Nat) (l2 : Int32) (h : AH) : am_ev 50 0 [.ref l0, .ref l1, .int l2, am_ph, am_ph] [] h = am_ev 50 5 [.ref l0, .ref l1, .int l2, .int (0 : Int32), .int (0 : Int32)] [] h := (am_c2_eq am_m50 rfl [5] rfl 25 0 _ _ _).trans rfl
set_option maxRecDepth 100000 in
set_option maxHeartbeats 4000000 in
theorem am_b50_5 (l0 : Nat) (l1 : Nat) (l2 : Int32) (l3 : Int32) (l4 : Int32) (h : AH) : am_ev 50 5 [.ref l0, .ref l1, .int l2, .int l3, .int l4] [] h = (if am_kd h l0 = 2 then am_bI (am_ev 44 0 [.ref l0] [] h) (fun x2 h1 => (if l4 < x2 then (am_bI (am_ev 91 0 [.ref l1, .int l4] [] h1) (fun x4 h3 => (if am_kd h3 l0 = 2 then am_bI (am_ev 49 0 [.ref l0, .int l2, .int l4] [] h3) (fun x6 h5 => am_ev 50 5 [.ref l0, .ref l1, .int l2, .int (l3 + (x4 * x6)), .int (l4 + (1 : Int32))] [] h5) else none))) else some (some (.int l3), h1))) else none) := (am_c2_eq am_m50 rfl [5] rfl 25 5 _ _ _).trans rfl
set_option maxRecDepth 100000 in
set_option maxHeartbeats 4000000 in
theorem am_b51_0 (l0 : Nat) (h : AH) : am_ev 51 0 [.ref l0] [] h = (if am_kd h l0 = 2 then (if am_kd h l0 = 2 then some (some (.int ((2 : Int32) + ((am_I h l0 0) * ((am_I h l0 0) - (1 : Int32))))), h) else none) else none) := (am_c2_eq am_m51 rfl [] rfl 12 0 _ _ _).trans rfl
set_option maxRecDepth 100000 in
set_option maxHeartbeats 4000000 in
theorem am_b52_0 (l0 : Nat) (l1 : Int32) (h : AH) : am_ev 52 0 [.ref l0, .int l1] [] h = (if l1 < (2 : Int32) then some (some (.int (0 : Int32)), h) else some (some (.int (1 : Int32)), h)) := (am_c2_eq am_m52 rfl [] rfl 9 0 _ _ _).trans rfl
set_option maxRecDepth 100000 in
set_option maxHeartbeats 4000000 in
theorem am_b53_0 (l0 : Nat) (l1 : Int32) (h : AH) : am_ev 53 0 [.ref l0, .int l1] [] h = (if l1 < (2 : Int32) then some (some (.int l1), h) else (if am_kd h l0 = 2 then (if (am_I h l0 0) = (3 : Int32) then some (some (.int ((l1 - (2 : Int32)) / (2 : Int32))), h) else some (some (.int (l1 - (2 : Int32))), h)) else none)) := (am_c2_eq am_m53 rfl [] rfl 21 0 _ _ _).trans rfl
set_option maxRecDepth 100000 in
set_option maxHeartbeats 4000000 in
theorem am_b54_0 (l0 : Nat) (l1 : Int32) (h : AH) : am_ev 54 0 [.ref l0, .int l1, am_ph, am_ph] [] h = (if am_kd h l0 = 2 then am_bI (am_ev 53 0 [.ref l0, .int l1] [] h) (fun x2 h1 => (if l1 < (2 : Int32) then some (some (.int ((1 : Int32) - x2)), h1) else (if am_kd h1 l0 = 2 then (if (am_I h1 l0 0) < (3 : Int32) then some (some (.int ((1 : Int32) - x2)), h1) else (if ((l1 - (2 : Int32)) - (l1 - (2 : Int32)) / (2 : Int32) * (2 : Int32)) < x2 then some (some (.int ((l1 - (2 : Int32)) - (l1 - (2 : Int32)) / (2 : Int32) * (2 : Int32))), h1) else some (some (.int (((l1 - (2 : Int32)) - (l1 - (2 : Int32)) / (2 : Int32) * (2 : Int32)) + (1 : Int32))), h1))) else none))) else none) := (am_c2_eq am_m54 rfl [] rfl 32 0 _ _ _).trans rfl
set_option maxRecDepth 100000 in
set_option maxHeartbeats 4000000 in
theorem am_b55_0 (l0 : Nat) (l1 : Int32) (l2 : Int32) (h : AH) : am_ev 55 0 [.ref l0, .int l1, .int l2, am_ph, am_ph, am_ph, am_ph, am_ph] [] h = (if am_kd h l0 = 2 then am_bI (am_ev 52 0 [.ref l0, .int l1] [] h) (fun x2 h1 => (if am_kd h1 l0 = 2 then am_bI (am_ev 46 0 [.ref l0, .int l2, .int x2, am_ph] [] h1) (fun x4 h3 => (if am_kd h3 l0 = 2 then am_bI (am_ev 53 0 [.ref l0, .int l1] [] h3) (fun x6 h5 => (if x4 = x6 then (if am_kd h5 l0 = 2 then am_bI (am_ev 46 0 [.ref l0, .int l2, .int (0 : Int32), am_ph] [] h5) (fun x8 h7 => (if am_kd h7 l0 = 2 then am_bI (am_ev 46 0 [.ref l0, .int l2, .int (1 : Int32), am_ph] [] h7) (fun x10 h9 => (if am_kd h9 l0 = 2 then am_bI (am_ev 54 0 [.ref l0, .int l1, am_ph, am_ph] [] h9) (fun x12 h11 => (if x2 = 0 then (if am_kd h11 l0 = 2 then am_bI (am_ev 45 0 [.ref l0, .int x12, .int x10] [] h11) (fun x14 h13 => am_ev 55 68 [.ref l0, am_ph, .int l2, .int x2, am_ph, am_ph, am_ph, am_ph] [.int x14] h13) else none) else (if am_kd h11 l0 = 2 then am_bI (am_ev 45 0 [.ref l0, .int x8, .int x12] [] h11) (fun x16 h15 => am_ev 55 68 [.ref l0, am_ph, .int l2, .int x2, am_ph, am_ph, am_ph, am_ph] [.int x16] h15) else none))) else none)) else none)) else none) else some (some (.int (0 : Int32)), h5))) else none)) else none)) else none) := (am_c2_eq am_m55 rfl [68] rfl 52 0 _ _ _).trans rfl
set_option maxRecDepth 100000 in
set_option maxHeartbeats 4000000 in
theorem am_b55_68 (l0 : Nat) (l2 : Int32) (l3 : Int32) (s0 : Int32) (h : AH) : am_ev 55 68 [.ref l0, am_ph, .int l2, .int l3, am_ph, am_ph, am_ph, am_ph] [.int s0] h = (if am_kd h l0 = 2 then am_bI (am_ev 47 0 [.ref l0, .int l3, .int l2] [] h) (fun x2 h1 => (if am_kd h1 l0 = 2 then am_bI (am_ev 47 0 [.ref l0, .int l3, .int s0] [] h1) (fun x4 h3 => some (some (.int (x2 - x4)), h3)) else none)) else none) := (am_c2_eq am_m55 rfl [68] rfl 52 68 _ _ _).trans rfl
set_option maxRecDepth 100000 in
set_option maxHeartbeats 4000000 in
theorem am_b56_0 (l0 : Nat) (l1 : Int32) (l2 : Nat) (h : AH) : am_ev 56 0 [.ref l0, .int l1, .ref l2, am_ph, am_ph] [] h = am_ev 56 5 [.ref l0, .int l1, .ref l2, .int (0 : Int32), .int (0 : Int32)] [] h := (am_c2_eq am_m56 rfl [5] rfl 25 0 _ _ _).trans rfl
set_option maxRecDepth 100000 in
set_option maxHeartbeats 4000000 in
theorem am_b56_5 (l0 : Nat) (l1 : Int32) (l2 : Nat) (l3 : Int32) (l4 : Int32) (h : AH) : am_ev 56 5 [.ref l0, .int l1, .ref l2, .int l3, .int l4] [] h = (if am_kd h l0 = 2 then am_bI (am_ev 44 0 [.ref l0] [] h) (fun x2 h1 => (if l4 < x2 then (am_bI (am_ev 91 0 [.ref l2, .int l4] [] h1) (fun x4 h3 => (if am_kd h3 l0 = 2 then am_bI (am_ev 55 0 [.ref l0, .int l1, .int l4, am_ph, am_ph, am_ph, am_ph, am_ph] [] h3) (fun x6 h5 => am_ev 56 5 [.ref l0, .int l1, .ref l2, .int (l3 + (x4 * x6)), .int (l4 + (1 : Int32))] [] h5) else none))) else some (some (.int l3), h1))) else none) := (am_c2_eq am_m56 rfl [5] rfl 25 5 _ _ _).trans rfl
set_option maxRecDepth 100000 in
set_option maxHeartbeats 4000000 in
theorem am_b57_0 (l0 : Nat) (h : AH) : am_ev 57 0 [.ref l0, am_ph, am_ph] [] h = am_ev 57 4 [.ref l0, .int (0 : Int32), .int (0 : Int32)] [] h := (am_c2_eq am_m57 rfl [4] rfl 21 0 _ _ _).trans rfl
set_option maxRecDepth 100000 in
set_option maxHeartbeats 4000000 in
theorem am_b57_4 (l0 : Nat) (l1 : Int32) (l2 : Int32) (h : AH) : am_ev 57 4 [.ref l0, .int l1, .int l2] [] h = (if am_kd h l0 = 2 then am_bI (am_ev 51 0 [.ref l0] [] h) (fun x2 h1 => (if l2 < x2 then (if am_kd h1 l0 = 2 then am_oe (am_R h1 l0 3) ((if am_kd h1 l0 = 2 then am_bI (am_ev 56 0 [.ref l0, .int l2, .null, am_ph, am_ph] [] h1) (fun x4 h3 => (if x4 < 0 then am_ev 57 4 [.ref l0, .int (l1 + (1 : Int32)), .int (l2 + (1 : Int32))] [] h3 else am_ev 57 4 [.ref l0, .int l1, .int (l2 + (1 : Int32))] [] h3)) else none)) (fun b5 => (if am_kd h1 l0 = 2 then am_bI (am_ev 56 0 [.ref l0, .int l2, .ref b5, am_ph, am_ph] [] h1) (fun x7 h6 => (if x7 < 0 then am_ev 57 4 [.ref l0, .int (l1 + (1 : Int32)), .int (l2 + (1 : Int32))] [] h6 else am_ev 57 4 [.ref l0, .int l1, .int (l2 + (1 : Int32))] [] h6)) else none)) else none) else some (some (.int l1), h1))) else none) := (am_c2_eq am_m57 rfl [4] rfl 21 4 _ _ _).trans rfl
set_option maxRecDepth 100000 in
set_option maxHeartbeats 4000000 in
theorem am_b58_0 (l0 : Nat) (l1 : Int32) (h : AH) : am_ev 58 0 [.ref l0, .int l1, am_ph] [] h = am_ev 58 2 [.ref l0, .int l1, .int (0 : Int32)] [] h := (am_c2_eq am_m58 rfl [2] rfl 19 0 _ _ _).trans rfl
set_option maxRecDepth 100000 in
set_option maxHeartbeats 4000000 in
theorem am_b58_2 (l0 : Nat) (l1 : Int32) (l2 : Int32) (h : AH) : am_ev 58 2 [.ref l0, .int l1, .int l2] [] h = (if am_kd h l0 = 2 then am_bI (am_ev 51 0 [.ref l0] [] h) (fun x2 h1 => (if l2 < x2 then (if am_kd h1 l0 = 2 then am_bI (am_ev 55 0 [.ref l0, .int l2, .int l1, am_ph, am_ph, am_ph, am_ph, am_ph] [] h1) (fun x4 h3 => (if x4 < 0 then some (some (.int (0 : Int32)), h3) else am_ev 58 2 [.ref l0, .int l1, .int (l2 + (1 : Int32))] [] h3)) else none) else some (some (.int (1 : Int32)), h1))) else none) := (am_c2_eq am_m58 rfl [2] rfl 19 2 _ _ _).trans rfl
set_option maxRecDepth 100000 in
set_option maxHeartbeats 4000000 in
theorem am_b59_0 (l0 : Nat) (h : AH) : am_ev 59 0 [.ref l0, am_ph, am_ph, am_ph, am_ph] [] h = (if am_kd h l0 = 2 then (if am_kd h l0 = 2 then (let h1 := am_sI h l0 1 (Int64.toInt32 ((((Int32.toInt64 (am_I h l0 1)) * (1103515245 : Int64)) + (12345 : Int64)) - (((Int32.toInt64 (am_I h l0 1)) * (1103515245 : Int64)) + (12345 : Int64)) / (2147483648 : Int64) * (2147483648 : Int64))); (if am_kd h1 l0 = 2 then am_oe (am_R h1 l0 3) ((am_bI (am_ev 94 0 [.null, am_ph, am_ph, am_ph, am_ph, am_ph] [] h1) (fun x3 h2 => (if 0 < x3 then (if am_kd h2 l0 = 2 then (if x3 = 0 then none else (if am_kd h2 l0 = 2 then am_oe (am_R h2 l0 3) ((am_bI (am_ev 91 0 [.null, .int (0 : Int32)] [] h2) (fun x5 h4 => am_ev 59 58 [.ref l0, am_ph, .int (((am_I h2 l0 1) / (65536 : Int32)) - ((am_I h2 l0 1) / (65536 : Int32)) / x3 * x3), .int (0 : Int32), .int x5] [] h4))) (fun b6 => (am_bI (am_ev 91 0 [.ref b6, .int (0 : Int32)] [] h2) (fun x8 h7 => am_ev 59 58 [.ref l0, am_ph, .int (((am_I h2 l0 1) / (65536 : Int32)) - ((am_I h2 l0 1) / (65536 : Int32)) / x3 * x3), .int (0 : Int32), .int x8] [] h7))) else none)) else none) else some (some (.int (0 : Int32)), h2))))) (fun b9 => (am_bI (am_ev 94 0 [.ref b9, am_ph, am_ph, am_ph, am_ph, am_ph] [] h1) (fun x11 h10 => (if 0 < x11 then (if am_kd h10 l0 = 2 then (if x11 = 0 then none else (if am_kd h10 l0 = 2 then am_oe (am_R h10 l0 3) ((am_bI (am_ev 91 0 [.null, .int (0 : Int32)] [] h10) (fun x13 h12 => am_ev 59 58 [.ref l0, am_ph, .int (((am_I h10 l0 1) / (65536 : Int32)) - ((am_I h10 l0 1) / (65536 : Int32)) / x11 * x11), .int (0 : Int32), .int x13] [] h12))) (fun b14 => (am_bI (am_ev 91 0 [.ref b14, .int (0 : Int32)] [] h10) (fun x16 h15 => am_ev 59 58 [.ref l0, am_ph, .int (((am_I h10 l0 1) / (65536 : Int32)) - ((am_I h10 l0 1) / (65536 : Int32)) / x11 * x11), .int (0 : Int32), .int x16] [] h15))) else none)) else none) else some (some (.int (0 : Int32)), h10))))) else none)) else none) else none) := (am_c2_eq am_m59 rfl [58, 93] rfl 66 0 _ _ _).trans rfl
set_option maxRecDepth 100000 in
set_option maxHeartbeats 4000000 in
theorem am_b59_58 (l0 : Nat) (l2 : Int32) (l3 : Int32) (l4 : Int32) (h : AH) : am_ev 59 58 [.ref l0, am_ph, .int l2, .int l3, .int l4] [] h = (if l2 < l4 then am_ev 59 93 [.ref l0, am_ph, am_ph, .int l3, am_ph] [] h else (if am_kd h l0 = 2 then am_bI (am_ev 44 0 [.ref l0] [] h) (fun x2 h1 => (if l3 < (x2 - (1 : Int32)) then (if am_kd h1 l0 = 2 then am_oe (am_R h1 l0 3) ((am_bI (am_ev 91 0 [.null, .int (l3 + (1 : Int32))] [] h1) (fun x4 h3 => am_ev 59 58 [.ref l0, am_ph, .int l2, .int (l3 + (1 : Int32)), .int (l4 + x4)] [] h3))) (fun b5 => (am_bI (am_ev 91 0 [.ref b5, .int (l3 + (1 : Int32))] [] h1) (fun x7 h6 => am_ev 59 58 [.ref l0, am_ph, .int l2, .int (l3 + (1 : Int32)), .int (l4 + x7)] [] h6))) else none) else am_ev 59 93 [.ref l0, am_ph, am_ph, .int l3, am_ph] [] h1)) else none)) := (am_c2_eq am_m59 rfl [58, 93] rfl 66 58 _ _ _).trans rfl
set_option maxRecDepth 100000 in
set_option maxHeartbeats 4000000 in
theorem am_b59_93 (l0 : Nat) (l3 : Int32) (h : AH) : am_ev 59 93 [.ref l0, am_ph, am_ph, .int l3, am_ph] [] h = (if am_kd h l0 = 2 then am_oe (am_R h l0 4) ((if am_kd h l0 = 2 then am_oe (am_R h l0 4) ((am_bI (am_ev 91 0 [.null, .int l3] [] h) (fun x2 h1 => (am_bV (am_ev 92 0 [.null, .int l3, .int (x2 + (1 : Int32))] [] h1) (fun h3 => some (some (.int l3), h3)))))) (fun b4 => (am_bI (am_ev 91 0 [.ref b4, .int l3] [] h) (fun x6 h5 => (am_bV (am_ev 92 0 [.null, .int l3, .int (x6 + (1 : Int32))] [] h5) (fun h7 => some (some (.int l3), h7)))))) else none)) (fun b8 => (if am_kd h l0 = 2 then am_oe (am_R h l0 4) ((am_bI (am_ev 91 0 [.null, .int l3] [] h) (fun x10 h9 => (am_bV (am_ev 92 0 [.ref b8, .int l3, .int (x10 + (1 : Int32))] [] h9) (fun h11 => some (some (.int l3), h11)))))) (fun b12 => (am_bI (am_ev 91 0 [.ref b12, .int l3] [] h) (fun x14 h13 => (am_bV (am_ev 92 0 [.ref b8, .int l3, .int (x14 + (1 : Int32))] [] h13) (fun h15 => some (some (.int l3), h15)))))) else none)) else none) := (am_c2_eq am_m59 rfl [58, 93] rfl 66 93 _ _ _).trans rfl
set_option maxRecDepth 100000 in
set_option maxHeartbeats 4000000 in
theorem am_b60_0 (l0 : Nat) (h : AH) : am_ev 60 0 [.ref l0] [] h = (let h1 := am_nw h 2 5; (if am_kd h1 h.1.length = 2 then am_bV (am_ev 40 0 [.ref h.1.length] [] h1) (fun h2 => (if am_kd h2 l0 = 3 then (let h3 := am_sR h2 l0 0 (some h.1.length); (let h4 := am_nw h3 0 11; (if am_kd h4 h3.1.length = 0 then am_bV (am_ev 0 0 [.ref h3.1.length] [] h4) (fun h5 => (if am_kd h5 l0 = 3 then (let h6 := am_sR h5 l0 1 (some h3.1.length); am_ev 60 26 [.ref l0] [] h6) else none)) else none))) else none)) else none)) := (am_c2_eq am_m60 rfl [26, 46] rfl 31 0 _ _ _).trans rfl
set_option maxRecDepth 100000 in
set_option maxHeartbeats 4000000 in
theorem am_b60_26 (l0 : Nat) (h : AH) : am_ev 60 26 [.ref l0] [] h = (let h1 := am_nw h 1 9; (if am_kd h1 h.1.length = 1 then am_bV (am_ev 29 0 [.ref h.1.length] [] h1) (fun h2 => (if am_kd h2 l0 = 3 then (let h3 := am_sR h2 l0 2 (some h.1.length); (let h4 := am_nw h3 8 6; (if am_kd h4 l0 = 3 then (let h5 := am_sR h4 l0 3 (some h3.1.length); am_ev 60 46 [.ref l0] [] h5) else none))) else none)) else none)) := (am_c2_eq am_m60 rfl [26, 46] rfl 31 26 _ _ _).trans rfl
set_option maxRecDepth 100000 in
set_option maxHeartbeats 4000000 in
theorem am_b60_46 (l0 : Nat) (h : AH) : am_ev 60 46 [.ref l0] [] h = (let h1 := am_nw h 8 2; (if am_kd h1 l0 = 3 then (let h2 := am_sR h1 l0 4 (some h.1.length); (if am_kd h2 l0 = 3 then (let h3 := am_sI h2 l0 5 (0 : Int32); some (none, h3)) else none)) else none)) := (am_c2_eq am_m60 rfl [26, 46] rfl 31 46 _ _ _).trans rfl
set_option maxRecDepth 100000 in
set_option maxHeartbeats 4000000 in
theorem am_b61_0 (l0 : Nat) (l1 : Int32) (h : AH) : am_ev 61 0 [.ref l0, .int l1, am_ph] [] h = (if l1 < (2 : Int32) then some (some (.int (-2 : Int32)), h) else (if (3 : Int32) < l1 then some (some (.int (-2 : Int32)), h) else (if am_kd h l0 = 3 then am_oe (am_R h l0 0) (none) (fun b1 => (if am_kd h b1 = 2 then (if am_kd h l0 = 3 then am_bV (am_ev 89 0 [.ref l0, am_ph] [] h) (fun h2 => (if am_kd h2 l0 = 3 then am_oe (am_R h2 l0 0) (none) (fun b3 => (if am_kd h2 b3 = 2 then am_bV (am_ev 41 0 [.ref b3, .int l1] [] h2) (fun h4 => some (some (.int (am_I h b1 0)), h4)) else none)) else none)) else none) else none)) else none))) := (am_c2_eq am_m61 rfl [] rfl 22 0 _ _ _).trans rfl
set_option maxRecDepth 100000 in
set_option maxHeartbeats 4000000 in
theorem am_b62_0 (l0 : Nat) (l1 : Int32) (l2 : Int32) (l3 : Int32) (l4 : Int32) (h : AH) : am_ev 62 0 [.ref l0, .int l1, .int l2, .int l3, .int l4, am_ph, am_ph] [] h = (am_bI (am_ev 83 0 [.int l1] [] h) (fun x2 h1 => (if x2 = 0 then some (some (.int (-1 : Int32)), h1) else (if am_kd h1 l0 = 3 then am_bI (am_ev 85 0 [.ref l0, .int l2, .int l3] [] h1) (fun x4 h3 => (if x4 = 0 then some (some (.int (-1 : Int32)), h3) else (if l4 < (-9 : Int32) then some (some (.int (-2 : Int32)), h3) else (if (9 : Int32) < l4 then some (some (.int (-2 : Int32)), h3) else (if am_kd h3 l0 = 3 then am_oe (am_R h3 l0 0) (none) (fun b5 => (if am_kd h3 b5 = 2 then am_bI (am_ev 45 0 [.ref b5, .int l2, .int l3] [] h3) (fun x7 h6 => (if am_kd h6 l0 = 3 then am_oe (am_R h6 l0 0) (none) (fun b8 => (if am_kd h6 b8 = 2 then am_bI (am_ev 47 0 [.ref b8, .int l1, .int x7] [] h6) (fun x10 h9 => (if am_kd h9 l0 = 3 then am_bV (am_ev 89 0 [.ref l0, am_ph] [] h9) (fun h11 => (if am_kd h11 l0 = 3 then am_oe (am_R h11 l0 0) (none) (fun b12 => (if am_kd h11 b12 = 2 then am_bV (am_ev 48 0 [.ref b12, .int l1, .int x7, .int l4] [] h11) (fun h13 => some (some (.int (x10 + (100 : Int32))), h13)) else none)) else none)) else none)) else none)) else none)) else none)) else none))))) else none)))) := (am_c2_eq am_m62 rfl [] rfl 44 0 _ _ _).trans rfl
set_option maxRecDepth 100000 in
set_option maxHeartbeats 4000000 in
theorem am_b63_0 (l0 : Nat) (l1 : Int32) (l2 : Int32) (l3 : Int32) (h : AH) : am_ev 63 0 [.ref l0, .int l1, .int l2, .int l3, am_ph, am_ph] [] h = (if am_kd h l0 = 3 then am_bI (am_ev 85 0 [.ref l0, .int l1, .int l2] [] h) (fun x2 h1 => (if x2 = 0 then some (some (.int (-1 : Int32)), h1) else (if l3 < 0 then some (some (.int (-2 : Int32)), h1) else (if (999 : Int32) < l3 then some (some (.int (-2 : Int32)), h1) else (if am_kd h1 l0 = 3 then am_oe (am_R h1 l0 0) (none) (fun b3 => (if am_kd h1 b3 = 2 then am_bI (am_ev 45 0 [.ref b3, .int l1, .int l2] [] h1) (fun x5 h4 => (if am_kd h4 l0 = 3 then am_oe (am_R h4 l0 0) (none) (fun b6 => (if am_kd h4 b6 = 2 then am_oe (am_R h4 b6 3) ((am_bI (am_ev 91 0 [.null, .int x5] [] h4) (fun x8 h7 => (if am_kd h7 l0 = 3 then am_oe (am_R h7 l0 0) (none) (fun b9 => (if am_kd h7 b9 = 2 then am_oe (am_R h7 b9 3) ((am_bI (am_ev 94 0 [.null, am_ph, am_ph, am_ph, am_ph, am_ph] [] h7) (fun x11 h10 => (if 0 < ((x11 - x8) + l3) then (if am_kd h10 l0 = 3 then am_bV (am_ev 89 0 [.ref l0, am_ph] [] h10) (fun h12 => (if am_kd h12 l0 = 3 then am_oe (am_R h12 l0 0) (none) (fun b13 => (if am_kd h12 b13 = 2 then am_oe (am_R h12 b13 3) ((am_bV (am_ev 92 0 [.null, .int x5, .int l3] [] h12) (fun h14 => some (some (.int x8), h14)))) (fun b15 => (am_bV (am_ev 92 0 [.ref b15, .int x5, .int l3] [] h12) (fun h16 => some (some (.int x8), h16)))) else none)) else none)) else none) else some (some (.int (-5 : Int32)), h10))))) (fun b17 => (am_bI (am_ev 94 0 [.ref b17, am_ph, am_ph, am_ph, am_ph, am_ph] [] h7) (fun x19 h18 => (if 0 < ((x19 - x8) + l3) then (if am_kd h18 l0 = 3 then am_bV (am_ev 89 0 [.ref l0, am_ph] [] h18) (fun h20 => (if am_kd h20 l0 = 3 then am_oe (am_R h20 l0 0) (none) (fun b21 => (if am_kd h20 b21 = 2 then am_oe (am_R h20 b21 3) ((am_bV (am_ev 92 0 [.null, .int x5, .int l3] [] h20) (fun h22 => some (some (.int x8), h22)))) (fun b23 => (am_bV (am_ev 92 0 [.ref b23, .int x5, .int l3] [] h20) (fun h24 => some (some (.int x8), h24)))) else none)) else none)) else none) else some (some (.int (-5 : Int32)), h18))))) else none)) else none)))) (fun b25 => (am_bI (am_ev 91 0 [.ref b25, .int x5] [] h4) (fun x27 h26 => (if am_kd h26 l0 = 3 then am_oe (am_R h26 l0 0) (none) (fun b28 => (if am_kd h26 b28 = 2 then am_oe (am_R h26 b28 3) ((am_bI (am_ev 94 0 [.null, am_ph, am_ph, am_ph, am_ph, am_ph] [] h26) (fun x30 h29 => (if 0 < ((x30 - x27) + l3) then (if am_kd h29 l0 = 3 then am_bV (am_ev 89 0 [.ref l0, am_ph] [] h29) (fun h31 => (if am_kd h31 l0 = 3 then am_oe (am_R h31 l0 0) (none) (fun b32 => (if am_kd h31 b32 = 2 then am_oe (am_R h31 b32 3) ((am_bV (am_ev 92 0 [.null, .int x5, .int l3] [] h31) (fun h33 => some (some (.int x27), h33)))) (fun b34 => (am_bV (am_ev 92 0 [.ref b34, .int x5, .int l3] [] h31) (fun h35 => some (some (.int x27), h35)))) else none)) else none)) else none) else some (some (.int (-5 : Int32)), h29))))) (fun b36 => (am_bI (am_ev 94 0 [.ref b36, am_ph, am_ph, am_ph, am_ph, am_ph] [] h26) (fun x38 h37 => (if 0 < ((x38 - x27) + l3) then (if am_kd h37 l0 = 3 then am_bV (am_ev 89 0 [.ref l0, am_ph] [] h37) (fun h39 => (if am_kd h39 l0 = 3 then am_oe (am_R h39 l0 0) (none) (fun b40 => (if am_kd h39 b40 = 2 then am_oe (am_R h39 b40 3) ((am_bV (am_ev 92 0 [.null, .int x5, .int l3] [] h39) (fun h41 => some (some (.int x27), h41)))) (fun b42 => (am_bV (am_ev 92 0 [.ref b42, .int x5, .int l3] [] h39) (fun h43 => some (some (.int x27), h43)))) else none)) else none)) else none) else some (some (.int (-5 : Int32)), h37))))) else none)) else none)))) else none)) else none)) else none)) else none))))) else none) := (am_c2_eq am_m63 rfl [] rfl 49 0 _ _ _).trans rfl
set_option maxRecDepth 100000 in
set_option maxHeartbeats 4000000 in
theorem am_b64_0 (l0 : Nat) (l1 : Int32) (h : AH) : am_ev 64 0 [.ref l0, .int l1, am_ph] [] h = (if am_kd h l0 = 3 then am_oe (am_R h l0 1) ((if am_kd h l0 = 3 then am_oe (am_R h l0 0) (none) (fun b1 => none) else none)) (fun b2 => (if am_kd h l0 = 3 then am_oe (am_R h l0 0) ((if am_kd h b2 = 0 then am_bA (am_ev 1 0 [.ref b2, .null, am_ph] [] h) (fun x4 h3 => (if am_kd h3 x4 = 0 then am_bI (am_ev 2 0 [.ref x4, .int l1] [] h3) (fun x6 h5 => (if x6 = 0 then some (some (.int (-1 : Int32)), h5) else (if am_kd h5 l0 = 3 then am_bI (am_ev 86 0 [.ref l0, .ref x4, .int l1, .int (0 : Int32), .int (1 : Int32), am_ph] [] h5) (fun x8 h7 => some (some (.int x8), h7)) else none))) else none)) else none)) (fun b9 => (if am_kd h b2 = 0 then am_bA (am_ev 1 0 [.ref b2, .ref b9, am_ph] [] h) (fun x11 h10 => (if am_kd h10 x11 = 0 then am_bI (am_ev 2 0 [.ref x11, .int l1] [] h10) (fun x13 h12 => (if x13 = 0 then some (some (.int (-1 : Int32)), h12) else (if am_kd h12 l0 = 3 then am_bI (am_ev 86 0 [.ref l0, .ref x11, .int l1, .int (0 : Int32), .int (1 : Int32), am_ph] [] h12) (fun x15 h14 => some (some (.int x15), h14)) else none))) else none)) else none)) else none)) else none) := (am_c2_eq am_m64 rfl [] rfl 21 0 _ _ _).trans rfl
set_option maxRecDepth 100000 in
set_option maxHeartbeats 4000000 in
theorem am_b65_0 (l0 : Nat) (l1 : Int32) (l2 : Int32) (l3 : Int32) (h : AH) : am_ev 65 0 [.ref l0, .int l1, .int l2, .int l3, am_ph] [] h = (if am_kd h l0 = 3 then am_oe (am_R h l0 1) ((if am_kd h l0 = 3 then am_oe (am_R h l0 0) (none) (fun b1 => none) else none)) (fun b2 => (if am_kd h l0 = 3 then am_oe (am_R h l0 0) ((if am_kd h b2 = 0 then am_bA (am_ev 1 0 [.ref b2, .null, am_ph] [] h) (fun x4 h3 => (if am_kd h3 x4 = 0 then am_bI (am_ev 2 0 [.ref x4, .int l1] [] h3) (fun x6 h5 => (if x6 = 0 then some (some (.int (-1 : Int32)), h5) else (if l2 < 0 then some (some (.int (-2 : Int32)), h5) else (if (9 : Int32) < l2 then some (some (.int (-2 : Int32)), h5) else (if l3 < 0 then some (some (.int (-2 : Int32)), h5) else (if (9 : Int32) < l3 then some (some (.int (-2 : Int32)), h5) else (if l2 = 0 then (if l3 = 0 then some (some (.int (-2 : Int32)), h5) else (if am_kd h5 l0 = 3 then am_bI (am_ev 86 0 [.ref l0, .ref x4, .int l1, .int l2, .int l3, am_ph] [] h5) (fun x8 h7 => some (some (.int x8), h7)) else none)) else (if am_kd h5 l0 = 3 then am_bI (am_ev 86 0 [.ref l0, .ref x4, .int l1, .int l2, .int l3, am_ph] [] h5) (fun x10 h9 => some (some (.int x10), h9)) else none)))))))) else none)) else none)) (fun b11 => (if am_kd h b2 = 0 then am_bA (am_ev 1 0 [.ref b2, .ref b11, am_ph] [] h) (fun x13 h12 => (if am_kd h12 x13 = 0 then am_bI (am_ev 2 0 [.ref x13, .int l1] [] h12) (fun x15 h14 => (if x15 = 0 then some (some (.int (-1 : Int32)), h14) else (if l2 < 0 then some (some (.int (-2 : Int32)), h14) else (if (9 : Int32) < l2 then some (some (.int (-2 : Int32)), h14) else (if l3 < 0 then some (some (.int (-2 : Int32)), h14) else (if (9 : Int32) < l3 then some (some (.int (-2 : Int32)), h14) else (if l2 = 0 then (if l3 = 0 then some (some (.int (-2 : Int32)), h14) else (if am_kd h14 l0 = 3 then am_bI (am_ev 86 0 [.ref l0, .ref x13, .int l1, .int l2, .int l3, am_ph] [] h14) (fun x17 h16 => some (some (.int x17), h16)) else none)) else (if am_kd h14 l0 = 3 then am_bI (am_ev 86 0 [.ref l0, .ref x13, .int l1, .int l2, .int l3, am_ph] [] h14) (fun x19 h18 => some (some (.int x19), h18)) else none)))))))) else none)) else none)) else none)) else none) := (am_c2_eq am_m65 rfl [] rfl 39 0 _ _ _).trans rfl
set_option maxRecDepth 100000 in
set_option maxHeartbeats 4000000 in
theorem am_b66_0 (l0 : Nat) (l1 : Int32) (h : AH) : am_ev 66 0 [.ref l0, .int l1, am_ph, am_ph] [] h = (if l1 < (1 : Int32) then some (some (.int (-2 : Int32)), h) else (if (100 : Int32) < l1 then some (some (.int (-2 : Int32)), h) else (if am_kd h l0 = 3 then am_oe (am_R h l0 0) (none) (fun b1 => (if am_kd h b1 = 2 then am_oe (am_R h b1 4) ((am_bI (am_ev 94 0 [.null, am_ph, am_ph, am_ph, am_ph, am_ph] [] h) (fun x3 h2 => (if (1000 : Int32) < (x3 + l1) then some (some (.int (-4 : Int32)), h2) else (if am_kd h2 l0 = 3 then am_bV (am_ev 89 0 [.ref l0, am_ph] [] h2) (fun h4 => am_ev 66 43 [.ref l0, .int l1, .int (0 : Int32), .int (0 : Int32)] [] h4) else none))))) (fun b5 => (am_bI (am_ev 94 0 [.ref b5, am_ph, am_ph, am_ph, am_ph, am_ph] [] h) (fun x7 h6 => (if (1000 : Int32) < (x7 + l1) then some (some (.int (-4 : Int32)), h6) else (if am_kd h6 l0 = 3 then am_bV (am_ev 89 0 [.ref l0, am_ph] [] h6) (fun h8 => am_ev 66 43 [.ref l0, .int l1, .int (0 : Int32), .int (0 : Int32)] [] h8) else none))))) else none)) else none))) := (am_c2_eq am_m66 rfl [43] rfl 37 0 _ _ _).trans rfl
set_option maxRecDepth 100000 in
set_option maxHeartbeats 4000000 in
theorem am_b66_43 (l0 : Nat) (l1 : Int32) (l2 : Int32) (l3 : Int32) (h : AH) : am_ev 66 43 [.ref l0, .int l1, .int l2, .int l3] [] h = (if l3 < l1 then (if am_kd h l0 = 3 then am_oe (am_R h l0 0) (none) (fun b1 => (if am_kd h b1 = 2 then am_bI (am_ev 59 0 [.ref b1, am_ph, am_ph, am_ph, am_ph] [] h) (fun x3 h2 => am_ev 66 43 [.ref l0, .int l1, .int x3, .int (l3 + (1 : Int32))] [] h2) else none)) else none) else some (some (.int l2), h)) := (am_c2_eq am_m66 rfl [43] rfl 37 43 _ _ _).trans rfl
set_option maxRecDepth 100000 in
set_option maxHeartbeats 4000000 in
theorem am_b67_0 (l0 : Nat) (l1 : Int32) (h : AH) : am_ev 67 0 [.ref l0, .int l1, am_ph] [] h = (if l1 < 0 then some (some (.int (-2 : Int32)), h) else (if am_kd h l0 = 3 then am_oe (am_R h l0 0) (none) (fun b1 => (if am_kd h b1 = 2 then am_oe (am_R h b1 4) ((am_bI (am_ev 94 0 [.null, am_ph, am_ph, am_ph, am_ph, am_ph] [] h) (fun x3 h2 => (if am_kd h2 l0 = 3 then am_bV (am_ev 89 0 [.ref l0, am_ph] [] h2) (fun h4 => (if am_kd h4 l0 = 3 then am_oe (am_R h4 l0 0) (none) (fun b5 => (if am_kd h4 b5 = 2 then am_oe (am_R h4 b5 4) ((am_bV (am_ev 93 0 [.null, .int (0 : Int32), .int (0 : Int32), am_ph] [] h4) (fun h6 => (if am_kd h6 l0 = 3 then am_oe (am_R h6 l0 0) (none) (fun b7 => (if am_kd h6 b7 = 2 then (let h8 := am_sI h6 b7 1 l1; some (some (.int x3), h8)) else none)) else none)))) (fun b9 => (am_bV (am_ev 93 0 [.ref b9, .int (0 : Int32), .int (0 : Int32), am_ph] [] h4) (fun h10 => (if am_kd h10 l0 = 3 then am_oe (am_R h10 l0 0) (none) (fun b11 => (if am_kd h10 b11 = 2 then (let h12 := am_sI h10 b11 1 l1; some (some (.int x3), h12)) else none)) else none)))) else none)) else none)) else none)))) (fun b13 => (am_bI (am_ev 94 0 [.ref b13, am_ph, am_ph, am_ph, am_ph, am_ph] [] h) (fun x15 h14 => (if am_kd h14 l0 = 3 then am_bV (am_ev 89 0 [.ref l0, am_ph] [] h14) (fun h16 => (if am_kd h16 l0 = 3 then am_oe (am_R h16 l0 0) (none) (fun b17 => (if am_kd h16 b17 = 2 then am_oe (am_R h16 b17 4) ((am_bV (am_ev 93 0 [.null, .int (0 : Int32), .int (0 : Int32), am_ph] [] h16) (fun h18 => (if am_kd h18 l0 = 3 then am_oe (am_R h18 l0 0) (none) (fun b19 => (if am_kd h18 b19 = 2 then (let h20 := am_sI h18 b19 1 l1; some (some (.int x15), h20)) else none)) else none)))) (fun b21 => (am_bV (am_ev 93 0 [.ref b21, .int (0 : Int32), .int (0 : Int32), am_ph] [] h16) (fun h22 => (if am_kd h22 l0 = 3 then am_oe (am_R h22 l0 0) (none) (fun b23 => (if am_kd h22 b23 = 2 then (let h24 := am_sI h22 b23 1 l1; some (some (.int x15), h24)) else none)) else none)))) else none)) else none)) else none)))) else none)) else none)) := (am_c2_eq am_m67 rfl [] rfl 25 0 _ _ _).trans rfl
set_option maxRecDepth 100000 in
set_option maxHeartbeats 4000000 in
theorem am_b69_0 (l0 : Nat) (l1 : Int32) (l2 : Int32) (l3 : Int32) (h : AH) : am_ev 69 0 [.ref l0, .int l1, .int l2, .int l3, am_ph] [] h = (if am_kd h l0 = 3 then am_bI (am_ev 85 0 [.ref l0, .int l1, .int l2] [] h) (fun x2 h1 => (if x2 = 0 then some (some (.int (-1 : Int32)), h1) else (if am_kd h1 l0 = 3 then am_oe (am_R h1 l0 0) (none) (fun b3 => (if am_kd h1 b3 = 2 then am_bI (am_ev 45 0 [.ref b3, .int l1, .int l2] [] h1) (fun x5 h4 => (if l3 = nI 0 then (if am_kd h4 l0 = 3 then am_oe (am_R h4 l0 0) (none) (fun b6 => (if am_kd h4 b6 = 2 then am_bI (am_ev 47 0 [.ref b6, .int l3, .int x5] [] h4) (fun x8 h7 => some (some (.int (x8 + (100 : Int32))), h7)) else none)) else none) else (if l3 = nI 1 then (if am_kd h4 l0 = 3 then am_oe (am_R h4 l0 0) (none) (fun b9 => (if am_kd h4 b9 = 2 then am_bI (am_ev 47 0 [.ref b9, .int l3, .int x5] [] h4) (fun x11 h10 => some (some (.int (x11 + (100 : Int32))), h10)) else none)) else none) else (if l3 = nI 2 then (if am_kd h4 l0 = 3 then am_oe (am_R h4 l0 0) (none) (fun b12 => (if am_kd h4 b12 = 2 then am_oe (am_R h4 b12 3) ((am_bI (am_ev 91 0 [.null, .int x5] [] h4) (fun x14 h13 => some (some (.int x14), h13)))) (fun b15 => (am_bI (am_ev 91 0 [.ref b15, .int x5] [] h4) (fun x17 h16 => some (some (.int x17), h16)))) else none)) else none) else (if l3 = nI 3 then (if am_kd h4 l0 = 3 then am_oe (am_R h4 l0 0) (none) (fun b18 => (if am_kd h4 b18 = 2 then am_oe (am_R h4 b18 4) ((am_bI (am_ev 91 0 [.null, .int x5] [] h4) (fun x20 h19 => some (some (.int x20), h19)))) (fun b21 => (am_bI (am_ev 91 0 [.ref b21, .int x5] [] h4) (fun x23 h22 => some (some (.int x23), h22)))) else none)) else none) else (if l3 = nI 4 then (if am_kd h4 l0 = 3 then am_oe (am_R h4 l0 0) (none) (fun b24 => (if am_kd h4 b24 = 2 then am_bI (am_ev 58 0 [.ref b24, .int x5, am_ph] [] h4) (fun x26 h25 => (if x26 = 0 then some (some (.int (0 : Int32)), h25) else some (some (.int (1 : Int32)), h25))) else none)) else none) else (if l3 = nI 5 then (if am_kd h4 l0 = 3 then am_oe (am_R h4 l0 1) ((if am_kd h4 l0 = 3 then am_oe (am_R h4 l0 0) (none) (fun b27 => none) else none)) (fun b28 => (if am_kd h4 l0 = 3 then am_oe (am_R h4 l0 0) ((if am_kd h4 b28 = 0 then am_bA (am_ev 1 0 [.ref b28, .null, am_ph] [] h4) (fun x30 h29 => (if am_kd h29 x30 = 0 then am_bI (am_ev 7 0 [.ref x30, am_ph, am_ph] [] h29) (fun x32 h31 => some (some (.int ((x32 >>> (x5 &&& 31)) &&& (1 : Int32))), h31)) else none)) else none)) (fun b33 => (if am_kd h4 b28 = 0 then am_bA (am_ev 1 0 [.ref b28, .ref b33, am_ph] [] h4) (fun x35 h34 => (if am_kd h34 x35 = 0 then am_bI (am_ev 7 0 [.ref x35, am_ph, am_ph] [] h34) (fun x37 h36 => some (some (.int ((x37 >>> (x5 &&& 31)) &&& (1 : Int32))), h36)) else none)) else none)) else none)) else none) else some (some (.int (-2 : Int32)), h4)))))))) else none)) else none))) else none) := (am_c2_eq am_m69 rfl [] rfl 59 0 _ _ _).trans rfl
set_option maxRecDepth 100000 in
set_option maxHeartbeats 4000000 in
theorem am_b70_0 (l0 : Nat) (l1 : Int32) (l2 : Int32) (h : AH) : am_ev 70 0 [.ref l0, .int l1, .int l2] [] h = (if l1 < 0 then some (some (.int (-1 : Int32)), h) else (if am_kd h l0 = 3 then am_oe (am_R h l0 0) (none) (fun b1 => (if am_kd h b1 = 2 then am_bI (am_ev 51 0 [.ref b1] [] h) (fun x3 h2 => (if l1 < x3 then (if l2 = nI 0 then (if am_kd h2 l0 = 3 then am_oe (am_R h2 l0 0) (none) (fun b4 => (if am_kd h2 b4 = 2 then am_bI (am_ev 52 0 [.ref b4, .int l1] [] h2) (fun x6 h5 => some (some (.int x6), h5)) else none)) else none) else (if l2 = nI 1 then (if am_kd h2 l0 = 3 then am_oe (am_R h2 l0 0) (none) (fun b7 => (if am_kd h2 b7 = 2 then am_bI (am_ev 53 0 [.ref b7, .int l1] [] h2) (fun x9 h8 => some (some (.int x9), h8)) else none)) else none) else (if l2 = nI 2 then (if am_kd h2 l0 = 3 then am_oe (am_R h2 l0 0) (none) (fun b10 => (if am_kd h2 b10 = 2 then am_bI (am_ev 54 0 [.ref b10, .int l1, am_ph, am_ph] [] h2) (fun x12 h11 => some (some (.int x12), h11)) else none)) else none) else (if l2 = nI 3 then (if am_kd h2 l0 = 3 then am_oe (am_R h2 l0 0) ((if am_kd h2 l0 = 3 then am_oe (am_R h2 l0 0) (none) (fun b13 => (if am_kd h2 b13 = 2 then am_oe (am_R h2 b13 3) (none) (fun b14 => none) else none)) else none)) (fun b15 => (if am_kd h2 l0 = 3 then am_oe (am_R h2 l0 0) (none) (fun b16 => (if am_kd h2 b16 = 2 then am_oe (am_R h2 b16 3) ((if am_kd h2 b15 = 2 then am_bI (am_ev 56 0 [.ref b15, .int l1, .null, am_ph, am_ph] [] h2) (fun x18 h17 => some (some (.int (x18 + (1000000 : Int32))), h17)) else none)) (fun b19 => (if am_kd h2 b15 = 2 then am_bI (am_ev 56 0 [.ref b15, .int l1, .ref b19, am_ph, am_ph] [] h2) (fun x21 h20 => some (some (.int (x21 + (1000000 : Int32))), h20)) else none)) else none)) else none)) else none) else (if l2 = nI 4 then (if am_kd h2 l0 = 3 then am_oe (am_R h2 l0 0) ((if am_kd h2 l0 = 3 then am_oe (am_R h2 l0 0) (none) (fun b22 => (if am_kd h2 b22 = 2 then am_oe (am_R h2 b22 4) (none) (fun b23 => none) else none)) else none)) (fun b24 => (if am_kd h2 l0 = 3 then am_oe (am_R h2 l0 0) (none) (fun b25 => (if am_kd h2 b25 = 2 then am_oe (am_R h2 b25 4) ((if am_kd h2 b24 = 2 then am_bI (am_ev 56 0 [.ref b24, .int l1, .null, am_ph, am_ph] [] h2) (fun x27 h26 => some (some (.int ((1000000 : Int32) - x27)), h26)) else none)) (fun b28 => (if am_kd h2 b24 = 2 then am_bI (am_ev 56 0 [.ref b24, .int l1, .ref b28, am_ph, am_ph] [] h2) (fun x30 h29 => some (some (.int ((1000000 : Int32) - x30)), h29)) else none)) else none)) else none)) else none) else some (some (.int (-2 : Int32)), h2)))))) else some (some (.int (-1 : Int32)), h2))) else none)) else none)) := (am_c2_eq am_m70 rfl [] rfl 50 0 _ _ _).trans rfl
set_option maxRecDepth 100000 in
set_option maxHeartbeats 4000000 in
theorem am_b71_0 (l0 : Nat) (l1 : Int32) (h : AH) : am_ev 71 0 [.ref l0, .int l1] [] h = (if l1 = nI 0 then (if am_kd h l0 = 3 then am_oe (am_R h l0 0) (none) (fun b1 => (if am_kd h b1 = 2 then some (some (.int (am_I h b1 0)), h) else none)) else none) else (if l1 = nI 1 then (if am_kd h l0 = 3 then am_oe (am_R h l0 0) (none) (fun b2 => (if am_kd h b2 = 2 then am_bI (am_ev 44 0 [.ref b2] [] h) (fun x4 h3 => some (some (.int x4), h3)) else none)) else none) else (if l1 = nI 2 then (if am_kd h l0 = 3 then am_oe (am_R h l0 0) (none) (fun b5 => (if am_kd h b5 = 2 then am_bI (am_ev 51 0 [.ref b5] [] h) (fun x7 h6 => some (some (.int x7), h6)) else none)) else none) else (if l1 = nI 3 then (if am_kd h l0 = 3 then am_oe (am_R h l0 0) (none) (fun b8 => (if am_kd h b8 = 2 then am_oe (am_R h b8 3) ((am_bI (am_ev 94 0 [.null, am_ph, am_ph, am_ph, am_ph, am_ph] [] h) (fun x10 h9 => some (some (.int x10), h9)))) (fun b11 => (am_bI (am_ev 94 0 [.ref b11, am_ph, am_ph, am_ph, am_ph, am_ph] [] h) (fun x13 h12 => some (some (.int x13), h12)))) else none)) else none) else (if l1 = nI 4 then (if am_kd h l0 = 3 then am_oe (am_R h l0 0) (none) (fun b14 => (if am_kd h b14 = 2 then am_bI (am_ev 57 0 [.ref b14, am_ph, am_ph] [] h) (fun x16 h15 => (if x16 = 0 then some (some (.int (1 : Int32)), h15) else some (some (.int (0 : Int32)), h15))) else none)) else none) else (if l1 = nI 5 then (if am_kd h l0 = 3 then am_oe (am_R h l0 0) (none) (fun b17 => (if am_kd h b17 = 2 then am_bI (am_ev 57 0 [.ref b17, am_ph, am_ph] [] h) (fun x19 h18 => some (some (.int x19), h18)) else none)) else none) else (if l1 = nI 6 then (if am_kd h l0 = 3 then am_oe (am_R h l0 1) ((if am_kd h l0 = 3 then am_oe (am_R h l0 0) (none) (fun b20 => none) else none)) (fun b21 => (if am_kd h l0 = 3 then am_oe (am_R h l0 0) ((if am_kd h b21 = 0 then am_bA (am_ev 1 0 [.ref b21, .null, am_ph] [] h) (fun x23 h22 => (if am_kd h22 x23 = 0 then some (some (.int (am_I h22 x23 0)), h22) else none)) else none)) (fun b24 => (if am_kd h b21 = 0 then am_bA (am_ev 1 0 [.ref b21, .ref b24, am_ph] [] h) (fun x26 h25 => (if am_kd h25 x26 = 0 then some (some (.int (am_I h25 x26 0)), h25) else none)) else none)) else none)) else none) else (if l1 = nI 7 then (if am_kd h l0 = 3 then am_oe (am_R h l0 0) (none) (fun b27 => (if am_kd h b27 = 2 then am_oe (am_R h b27 4) ((am_bI (am_ev 94 0 [.null, am_ph, am_ph, am_ph, am_ph, am_ph] [] h) (fun x29 h28 => some (some (.int x29), h28)))) (fun b30 => (am_bI (am_ev 94 0 [.ref b30, am_ph, am_ph, am_ph, am_ph, am_ph] [] h) (fun x32 h31 => some (some (.int x32), h31)))) else none)) else none) else (if l1 = nI 8 then (if am_kd h l0 = 3 then am_oe (am_R h l0 0) ((if am_kd h l0 = 3 then am_oe (am_R h l0 0) (none) (fun b33 => (if am_kd h b33 = 2 then am_oe (am_R h b33 4) (none) (fun b34 => none) else none)) else none)) (fun b35 => (if am_kd h l0 = 3 then am_oe (am_R h l0 0) (none) (fun b36 => (if am_kd h b36 = 2 then am_oe (am_R h b36 4) ((if am_kd h b35 = 2 then am_bI (am_ev 50 0 [.ref b35, .null, .int (l1 - (8 : Int32)), am_ph, am_ph] [] h) (fun x38 h37 => some (some (.int (x38 + (100000 : Int32))), h37)) else none)) (fun b39 => (if am_kd h b35 = 2 then am_bI (am_ev 50 0 [.ref b35, .ref b39, .int (l1 - (8 : Int32)), am_ph, am_ph] [] h) (fun x41 h40 => some (some (.int (x41 + (100000 : Int32))), h40)) else none)) else none)) else none)) else none) else (if l1 = nI 9 then (if am_kd h l0 = 3 then am_oe (am_R h l0 0) ((if am_kd h l0 = 3 then am_oe (am_R h l0 0) (none) (fun b42 => (if am_kd h b42 = 2 then am_oe (am_R h b42 4) (none) (fun b43 => none) else none)) else none)) (fun b44 => (if am_kd h l0 = 3 then am_oe (am_R h l0 0) (none) (fun b45 => (if am_kd h b45 = 2 then am_oe (am_R h b45 4) ((if am_kd h b44 = 2 then am_bI (am_ev 50 0 [.ref b44, .null, .int (l1 - (8 : Int32)), am_ph, am_ph] [] h) (fun x47 h46 => some (some (.int (x47 + (100000 : Int32))), h46)) else none)) (fun b48 => (if am_kd h b44 = 2 then am_bI (am_ev 50 0 [.ref b44, .ref b48, .int (l1 - (8 : Int32)), am_ph, am_ph] [] h) (fun x50 h49 => some (some (.int (x50 + (100000 : Int32))), h49)) else none)) else none)) else none)) else none) else (if l1 = nI 10 then (if am_kd h l0 = 3 then am_oe (am_R h l0 0) (none) (fun b51 => (if am_kd h b51 = 2 then some (some (.int (am_I h b51 1)), h) else none)) else none) else (if l1 = nI 11 then (if am_kd h l0 = 3 then am_oe (am_R h l0 2) (none) (fun b52 => (if am_kd h b52 = 1 then some (some (.int (am_I h b52 0)), h) else none)) else none) else (if l1 = nI 12 then (if am_kd h l0 = 3 then some (some (.int (am_I h l0 5)), h) else none) else some (some (.int (-2 : Int32)), h)))))))))))))) := (am_c2_eq am_m71 rfl [] rfl 70 0 _ _ _).trans rfl
set_option maxRecDepth 100000 in
set_option maxHeartbeats 4000000 in
theorem am_b72_0 (l0 : Nat) (l1 : Int32) (h : AH) : am_ev 72 0 [.ref l0, .int l1] [] h = (am_bI (am_ev 84 0 [.int l1] [] h) (fun x2 h1 => (if x2 = 0 then some (some (.int (-2 : Int32)), h1) else (if am_kd h1 l0 = 3 then am_oe (am_R h1 l0 0) ((if am_kd h1 l0 = 3 then am_oe (am_R h1 l0 0) (none) (fun b3 => (if am_kd h1 b3 = 2 then am_oe (am_R h1 b3 3) (none) (fun b4 => none) else none)) else none)) (fun b5 => (if am_kd h1 l0 = 3 then am_oe (am_R h1 l0 0) (none) (fun b6 => (if am_kd h1 b6 = 2 then am_oe (am_R h1 b6 3) ((if am_kd h1 b5 = 2 then am_bI (am_ev 50 0 [.ref b5, .null, .int l1, am_ph, am_ph] [] h1) (fun x8 h7 => (if am_kd h7 l0 = 3 then am_oe (am_R h7 l0 0) (none) (fun b9 => (if am_kd h7 b9 = 2 then am_oe (am_R h7 b9 3) ((am_bI (am_ev 94 0 [.null, am_ph, am_ph, am_ph, am_ph, am_ph] [] h7) (fun x11 h10 => (am_bI (am_ev 88 0 [.long (Int32.toInt64 x8), am_ph, .long (Int32.toInt64 x11), am_ph] [] h10) (fun x13 h12 => some (some (.int x13), h12)))))) (fun b14 => (am_bI (am_ev 94 0 [.ref b14, am_ph, am_ph, am_ph, am_ph, am_ph] [] h7) (fun x16 h15 => (am_bI (am_ev 88 0 [.long (Int32.toInt64 x8), am_ph, .long (Int32.toInt64 x16), am_ph] [] h15) (fun x18 h17 => some (some (.int x18), h17)))))) else none)) else none)) else none)) (fun b19 => (if am_kd h1 b5 = 2 then am_bI (am_ev 50 0 [.ref b5, .ref b19, .int l1, am_ph, am_ph] [] h1) (fun x21 h20 => (if am_kd h20 l0 = 3 then am_oe (am_R h20 l0 0) (none) (fun b22 => (if am_kd h20 b22 = 2 then am_oe (am_R h20 b22 3) ((am_bI (am_ev 94 0 [.null, am_ph, am_ph, am_ph, am_ph, am_ph] [] h20) (fun x24 h23 => (am_bI (am_ev 88 0 [.long (Int32.toInt64 x21), am_ph, .long (Int32.toInt64 x24), am_ph] [] h23) (fun x26 h25 => some (some (.int x26), h25)))))) (fun b27 => (am_bI (am_ev 94 0 [.ref b27, am_ph, am_ph, am_ph, am_ph, am_ph] [] h20) (fun x29 h28 => (am_bI (am_ev 88 0 [.long (Int32.toInt64 x21), am_ph, .long (Int32.toInt64 x29), am_ph] [] h28) (fun x31 h30 => some (some (.int x31), h30)))))) else none)) else none)) else none)) else none)) else none)) else none)))) := (am_c2_eq am_m72 rfl [] rfl 22 0 _ _ _).trans rfl
set_option maxRecDepth 100000 in
set_option maxHeartbeats 4000000 in
theorem am_b73_0 (l0 : Nat) (l1 : Int32) (l2 : Int32) (h : AH) : am_ev 73 0 [.ref l0, .int l1, .int l2, am_ph] [] h = (if am_kd h l0 = 3 then am_oe (am_R h l0 1) ((if am_kd h l0 = 3 then am_oe (am_R h l0 0) (none) (fun b1 => none) else none)) (fun b2 => (if am_kd h l0 = 3 then am_oe (am_R h l0 0) ((if am_kd h b2 = 0 then am_bA (am_ev 1 0 [.ref b2, .null, am_ph] [] h) (fun x4 h3 => (if am_kd h3 x4 = 0 then am_bI (am_ev 2 0 [.ref x4, .int l1] [] h3) (fun x6 h5 => (if x6 = 0 then some (some (.int (-1 : Int32)), h5) else (if l2 < 0 then am_ev 73 45 [am_ph, .int l1, .int l2, .ref x4] [] h5 else (if am_kd h5 l0 = 3 then am_oe (am_R h5 l0 0) (none) (fun b7 => (if am_kd h5 b7 = 2 then am_bI (am_ev 44 0 [.ref b7] [] h5) (fun x9 h8 => (if l2 < x9 then (if am_kd h8 x4 = 0 then am_bJ (am_ev 3 0 [.ref x4, .int l1, .int l2, am_ph] [] h8) (fun x11 h10 => some (some (.int (Int64.toInt32 x11)), h10)) else none) else am_ev 73 45 [am_ph, .int l1, .int l2, .ref x4] [] h8)) else none)) else none)))) else none)) else none)) (fun b12 => (if am_kd h b2 = 0 then am_bA (am_ev 1 0 [.ref b2, .ref b12, am_ph] [] h) (fun x14 h13 => (if am_kd h13 x14 = 0 then am_bI (am_ev 2 0 [.ref x14, .int l1] [] h13) (fun x16 h15 => (if x16 = 0 then some (some (.int (-1 : Int32)), h15) else (if l2 < 0 then am_ev 73 45 [am_ph, .int l1, .int l2, .ref x14] [] h15 else (if am_kd h15 l0 = 3 then am_oe (am_R h15 l0 0) (none) (fun b17 => (if am_kd h15 b17 = 2 then am_bI (am_ev 44 0 [.ref b17] [] h15) (fun x19 h18 => (if l2 < x19 then (if am_kd h18 x14 = 0 then am_bJ (am_ev 3 0 [.ref x14, .int l1, .int l2, am_ph] [] h18) (fun x21 h20 => some (some (.int (Int64.toInt32 x21)), h20)) else none) else am_ev 73 45 [am_ph, .int l1, .int l2, .ref x14] [] h18)) else none)) else none)))) else none)) else none)) else none)) else none) := (am_c2_eq am_m73 rfl [45] rfl 44 0 _ _ _).trans rfl
set_option maxRecDepth 100000 in
set_option maxHeartbeats 4000000 in
theorem am_b73_45 (l1 : Int32) (l2 : Int32) (l3 : Nat) (h : AH) : am_ev 73 45 [am_ph, .int l1, .int l2, .ref l3] [] h = (if l2 = nI 6 then (if am_kd h l3 = 0 then am_bJ (am_ev 4 0 [.ref l3, .int l1] [] h) (fun x2 h1 => some (some (.int (Int64.toInt32 x2)), h1)) else none) else (if l2 = nI 7 then (if am_kd h l3 = 0 then am_bI (am_ev 5 0 [.ref l3, .int l1, am_ph, am_ph] [] h) (fun x4 h3 => some (some (.int x4), h3)) else none) else (if l2 = nI 8 then (if am_kd h l3 = 0 then am_bI (am_ev 6 0 [.ref l3, .int l1] [] h) (fun x6 h5 => some (some (.int x6), h5)) else none) else some (some (.int (-2 : Int32)), h)))) := (am_c2_eq am_m73 rfl [45] rfl 44 45 _ _ _).trans rfl
set_option maxRecDepth 100000 in
set_option maxHeartbeats 4000000 in
theorem am_b74_0 (l0 : Nat) (l1 : Int32) (l2 : Int32) (h : AH) : am_ev 74 0 [.ref l0, .int l1, .int l2, am_ph, am_ph] [] h = (am_bI (am_ev 84 0 [.int l1] [] h) (fun x2 h1 => (if x2 = 0 then some (some (.int (-2 : Int32)), h1) else (if l2 < 0 then some (some (.int (-2 : Int32)), h1) else (if (1 : Int32) < l2 then some (some (.int (-2 : Int32)), h1) else (if am_kd h1 l0 = 3 then am_oe (am_R h1 l0 1) ((if am_kd h1 l0 = 3 then am_oe (am_R h1 l0 0) (none) (fun b3 => none) else none)) (fun b4 => (if am_kd h1 l0 = 3 then am_oe (am_R h1 l0 0) ((if am_kd h1 b4 = 0 then am_bA (am_ev 1 0 [.ref b4, .null, am_ph] [] h1) (fun x6 h5 => (if am_kd h5 l0 = 3 then am_oe (am_R h5 l0 0) ((if am_kd h5 x6 = 0 then am_bI (am_ev 9 0 [.ref x6, .null, .int l1, am_ph, am_ph, am_ph, am_ph, am_ph, am_ph] [] h5) (fun x8 h7 => (if l2 = 0 then some (some (.int x8), h7) else (if am_kd h7 l0 = 3 then am_oe (am_R h7 l0 0) ((if am_kd h7 x6 = 0 then am_bJ (am_ev 8 0 [.ref x6, .null, .int x8, .int l1, am_ph, am_ph, am_ph] [] h7) (fun x10 h9 => (if am_kd h9 x6 = 0 then am_bJ (am_ev 4 0 [.ref x6, .int x8] [] h9) (fun x12 h11 => (am_bI (am_ev 88 0 [.long x10, am_ph, .long x12, am_ph] [] h11) (fun x14 h13 => some (some (.int x14), h13)))) else none)) else none)) (fun b15 => (if am_kd h7 x6 = 0 then am_bJ (am_ev 8 0 [.ref x6, .ref b15, .int x8, .int l1, am_ph, am_ph, am_ph] [] h7) (fun x17 h16 => (if am_kd h16 x6 = 0 then am_bJ (am_ev 4 0 [.ref x6, .int x8] [] h16) (fun x19 h18 => (am_bI (am_ev 88 0 [.long x17, am_ph, .long x19, am_ph] [] h18) (fun x21 h20 => some (some (.int x21), h20)))) else none)) else none)) else none))) else none)) (fun b22 => (if am_kd h5 x6 = 0 then am_bI (am_ev 9 0 [.ref x6, .ref b22, .int l1, am_ph, am_ph, am_ph, am_ph, am_ph, am_ph] [] h5) (fun x24 h23 => (if l2 = 0 then some (some (.int x24), h23) else (if am_kd h23 l0 = 3 then am_oe (am_R h23 l0 0) ((if am_kd h23 x6 = 0 then am_bJ (am_ev 8 0 [.ref x6, .null, .int x24, .int l1, am_ph, am_ph, am_ph] [] h23) (fun x26 h25 => (if am_kd h25 x6 = 0 then am_bJ (am_ev 4 0 [.ref x6, .int x24] [] h25) (fun x28 h27 => (am_bI (am_ev 88 0 [.long x26, am_ph, .long x28, am_ph] [] h27) (fun x30 h29 => some (some (.int x30), h29)))) else none)) else none)) (fun b31 => (if am_kd h23 x6 = 0 then am_bJ (am_ev 8 0 [.ref x6, .ref b31, .int x24, .int l1, am_ph, am_ph, am_ph] [] h23) (fun x33 h32 => (if am_kd h32 x6 = 0 then am_bJ (am_ev 4 0 [.ref x6, .int x24] [] h32) (fun x35 h34 => (am_bI (am_ev 88 0 [.long x33, am_ph, .long x35, am_ph] [] h34) (fun x37 h36 => some (some (.int x37), h36)))) else none)) else none)) else none))) else none)) else none)) else none)) (fun b38 => (if am_kd h1 b4 = 0 then am_bA (am_ev 1 0 [.ref b4, .ref b38, am_ph] [] h1) (fun x40 h39 => (if am_kd h39 l0 = 3 then am_oe (am_R h39 l0 0) ((if am_kd h39 x40 = 0 then am_bI (am_ev 9 0 [.ref x40, .null, .int l1, am_ph, am_ph, am_ph, am_ph, am_ph, am_ph] [] h39) (fun x42 h41 => (if l2 = 0 then some (some (.int x42), h41) else (if am_kd h41 l0 = 3 then am_oe (am_R h41 l0 0) ((if am_kd h41 x40 = 0 then am_bJ (am_ev 8 0 [.ref x40, .null, .int x42, .int l1, am_ph, am_ph, am_ph] [] h41) (fun x44 h43 => (if am_kd h43 x40 = 0 then am_bJ (am_ev 4 0 [.ref x40, .int x42] [] h43) (fun x46 h45 => (am_bI (am_ev 88 0 [.long x44, am_ph, .long x46, am_ph] [] h45) (fun x48 h47 => some (some (.int x48), h47)))) else none)) else none)) (fun b49 => (if am_kd h41 x40 = 0 then am_bJ (am_ev 8 0 [.ref x40, .ref b49, .int x42, .int l1, am_ph, am_ph, am_ph] [] h41) (fun x51 h50 => (if am_kd h50 x40 = 0 then am_bJ (am_ev 4 0 [.ref x40, .int x42] [] h50) (fun x53 h52 => (am_bI (am_ev 88 0 [.long x51, am_ph, .long x53, am_ph] [] h52) (fun x55 h54 => some (some (.int x55), h54)))) else none)) else none)) else none))) else none)) (fun b56 => (if am_kd h39 x40 = 0 then am_bI (am_ev 9 0 [.ref x40, .ref b56, .int l1, am_ph, am_ph, am_ph, am_ph, am_ph, am_ph] [] h39) (fun x58 h57 => (if l2 = 0 then some (some (.int x58), h57) else (if am_kd h57 l0 = 3 then am_oe (am_R h57 l0 0) ((if am_kd h57 x40 = 0 then am_bJ (am_ev 8 0 [.ref x40, .null, .int x58, .int l1, am_ph, am_ph, am_ph] [] h57) (fun x60 h59 => (if am_kd h59 x40 = 0 then am_bJ (am_ev 4 0 [.ref x40, .int x58] [] h59) (fun x62 h61 => (am_bI (am_ev 88 0 [.long x60, am_ph, .long x62, am_ph] [] h61) (fun x64 h63 => some (some (.int x64), h63)))) else none)) else none)) (fun b65 => (if am_kd h57 x40 = 0 then am_bJ (am_ev 8 0 [.ref x40, .ref b65, .int x58, .int l1, am_ph, am_ph, am_ph] [] h57) (fun x67 h66 => (if am_kd h66 x40 = 0 then am_bJ (am_ev 4 0 [.ref x40, .int x58] [] h66) (fun x69 h68 => (am_bI (am_ev 88 0 [.long x67, am_ph, .long x69, am_ph] [] h68) (fun x71 h70 => some (some (.int x71), h70)))) else none)) else none)) else none))) else none)) else none)) else none)) else none)) else none)))))) := (am_c2_eq am_m74 rfl [] rfl 39 0 _ _ _).trans rfl
set_option maxRecDepth 100000 in
set_option maxHeartbeats 4000000 in
theorem am_b75_0 (l0 : Nat) (l1 : Int32) (h : AH) : am_ev 75 0 [.ref l0, .int l1, am_ph, am_ph, am_ph] [] h = (am_bI (am_ev 83 0 [.int l1] [] h) (fun x2 h1 => (if x2 = 0 then some (some (.int (-1 : Int32)), h1) else (if am_kd h1 l0 = 3 then am_oe (am_R h1 l0 1) ((if am_kd h1 l0 = 3 then am_oe (am_R h1 l0 0) (none) (fun b3 => none) else none)) (fun b4 => (if am_kd h1 l0 = 3 then am_oe (am_R h1 l0 0) ((if am_kd h1 b4 = 0 then am_bA (am_ev 1 0 [.ref b4, .null, am_ph] [] h1) (fun x6 h5 => (if am_kd h5 x6 = 0 then am_bI (am_ev 7 0 [.ref x6, am_ph, am_ph] [] h5) (fun x8 h7 => am_ev 75 29 [.ref l0, .int l1, .int x8, .int (0 : Int32), .int (0 : Int32)] [] h7) else none)) else none)) (fun b9 => (if am_kd h1 b4 = 0 then am_bA (am_ev 1 0 [.ref b4, .ref b9, am_ph] [] h1) (fun x11 h10 => (if am_kd h10 x11 = 0 then am_bI (am_ev 7 0 [.ref x11, am_ph, am_ph] [] h10) (fun x13 h12 => am_ev 75 29 [.ref l0, .int l1, .int x13, .int (0 : Int32), .int (0 : Int32)] [] h12) else none)) else none)) else none)) else none)))) := (am_c2_eq am_m75 rfl [29, 88] rfl 60 0 _ _ _).trans rfl
set_option maxRecDepth 100000 in
set_option maxHeartbeats 4000000 in
theorem am_b75_29 (l0 : Nat) (l1 : Int32) (l2 : Int32) (l3 : Int32) (l4 : Int32) (h : AH) : am_ev 75 29 [.ref l0, .int l1, .int l2, .int l3, .int l4] [] h = (if am_kd h l0 = 3 then am_oe (am_R h l0 0) (none) (fun b1 => (if am_kd h b1 = 2 then am_bI (am_ev 44 0 [.ref b1] [] h) (fun x3 h2 => (if l4 < x3 then (if ((l2 >>> (l4 &&& 31)) &&& (1 : Int32)) = (1 : Int32) then (if am_kd h2 l0 = 3 then am_oe (am_R h2 l0 0) (none) (fun b4 => (if am_kd h2 b4 = 2 then am_bI (am_ev 46 0 [.ref b4, .int l4, .int l1, am_ph] [] h2) (fun x6 h5 => am_ev 75 29 [.ref l0, .int l1, .int l2, .int (l3 ||| ((1 : Int32) <<< (x6 &&& 31))), .int (l4 + (1 : Int32))] [] h5) else none)) else none) else am_ev 75 29 [.ref l0, .int l1, .int l2, .int l3, .int (l4 + (1 : Int32))] [] h2) else (if l1 = 0 then am_ev 75 88 [am_ph, am_ph, am_ph, .int l3, am_ph] [.int (2 : Int32), .int (1 : Int32)] h2 else (if am_kd h2 l0 = 3 then am_oe (am_R h2 l0 0) (none) (fun b7 => (if am_kd h2 b7 = 2 then am_ev 75 88 [am_ph, am_ph, am_ph, .int l3, am_ph] [.int (am_I h2 b7 0), .int (1 : Int32)] h2 else none)) else none)))) else none)) else none) := (am_c2_eq am_m75 rfl [29, 88] rfl 60 29 _ _ _).trans rfl
set_option maxRecDepth 100000 in
set_option maxHeartbeats 4000000 in
theorem am_b75_88 (l3 : Int32) (s0 : Int32) (s1 : Int32) (h : AH) : am_ev 75 88 [am_ph, am_ph, am_ph, .int l3, am_ph] [.int s0, .int s1] h = some (some (.int (((s1 <<< (s0 &&& 31)) - (1 : Int32)) &&& (l3 ^^^ (-1 : Int32)))), h) := (am_c2_eq am_m75 rfl [29, 88] rfl 60 88 _ _ _).trans rfl
set_option maxRecDepth 100000 in
set_option maxHeartbeats 4000000 in
theorem am_b80_0 (l0 : Nat) (h : AH) : am_ev 80 0 [.ref l0, am_ph] [] h = (if am_kd h l0 = 3 then (if (am_I h l0 5) < (1 : Int32) then some (some (.int (-5 : Int32)), h) else (if am_kd h l0 = 3 then (if am_kd h l0 = 3 then am_oe (am_R h l0 3) (none) (fun b1 => (if 5 ≤ am_kd h b1 ∧ am_kd h b1 ≤ 9 then (if (Int32.ofNat (am_ln h b1)) < (am_I h l0 5) then some (some (.int (-5 : Int32)), h) else (if am_kd h l0 = 3 then am_oe (am_R h l0 3) ((if am_kd h l0 = 3 then none else none)) (fun b2 => (if am_kd h l0 = 3 then (if am_kd h b2 = 8 ∧ ¬ (((am_I h l0 5) - (1 : Int32)) < 0 ∨ am_ln h b2 ≤ Int32.toNatClampNeg ((am_I h l0 5) - (1 : Int32))) then am_oe (am_R h b2 (Int32.toNatClampNeg ((am_I h l0 5) - (1 : Int32)))) (some (some (.int (-5 : Int32)), h)) (fun b3 => (if am_kd h l0 = 3 then am_oe (am_R h l0 0) (none) (fun b4 => (if am_kd h b4 = 2 then am_bV (am_ev 42 0 [.ref b4, .ref b3] [] h) (fun h5 => (if am_kd h5 l0 = 3 then (if am_kd h5 l0 = 3 then (let h6 := am_sI h5 l0 5 ((am_I h5 l0 5) - (1 : Int32)); (if am_kd h6 l0 = 3 then some (some (.int (am_I h6 l0 5)), h6) else none)) else none) else none)) else none)) else none)) else none) else none)) else none)) else none)) else none) else none)) else none) := (am_c2_eq am_m80 rfl [] rfl 39 0 _ _ _).trans rfl
set_option maxRecDepth 100000 in
set_option maxHeartbeats 4000000 in
theorem am_b83_0 (l0 : Int32) (h : AH) : am_ev 83 0 [.int l0] [] h = (if l0 < 0 then some (some (.int (0 : Int32)), h) else (if l0 < (2 : Int32) then some (some (.int (1 : Int32)), h) else some (some (.int (0 : Int32)), h))) := (am_c2_eq am_m83 rfl [] rfl 11 0 _ _ _).trans rfl
set_option maxRecDepth 100000 in
set_option maxHeartbeats 4000000 in
theorem am_b84_0 (l0 : Int32) (h : AH) : am_ev 84 0 [.int l0] [] h = (am_bI (am_ev 83 0 [.int l0] [] h) (fun x2 h1 => (if x2 = 0 then (if l0 = (2 : Int32) then some (some (.int (1 : Int32)), h1) else some (some (.int (0 : Int32)), h1)) else some (some (.int (1 : Int32)), h1)))) := (am_c2_eq am_m84 rfl [] rfl 12 0 _ _ _).trans rfl
set_option maxRecDepth 100000 in
set_option maxHeartbeats 4000000 in
theorem am_b85_0 (l0 : Nat) (l1 : Int32) (l2 : Int32) (h : AH) : am_ev 85 0 [.ref l0, .int l1, .int l2] [] h = (if l1 < 0 then some (some (.int (0 : Int32)), h) else (if l1 < (2 : Int32) then (if l2 < 0 then some (some (.int (0 : Int32)), h) else (if am_kd h l0 = 3 then am_oe (am_R h l0 0) (none) (fun b1 => (if am_kd h b1 = 2 then (if l2 < (am_I h b1 0) then some (some (.int (1 : Int32)), h) else some (some (.int (0 : Int32)), h)) else none)) else none)) else some (some (.int (0 : Int32)), h))) := (am_c2_eq am_m85 rfl [] rfl 18 0 _ _ _).trans rfl
set_option maxRecDepth 100000 in
set_option maxHeartbeats 4000000 in
theorem am_b86_0 (l0 : Nat) (l1 : Nat) (l2 : Int32) (l3 : Int32) (l4 : Int32) (h : AH) : am_ev 86 0 [.ref l0, .ref l1, .int l2, .int l3, .int l4, am_ph] [] h = am_ev 86 3 [.ref l0, .ref l1, .int l2, .int l3, .int l4, .int (0 : Int32)] [] h := (am_c2_eq am_m86 rfl [3, 49] rfl 52 0 _ _ _).trans rfl
set_option maxRecDepth 100000 in
set_option maxHeartbeats 4000000 in
theorem am_b86_3 (l0 : Nat) (l1 : Nat) (l2 : Int32) (l3 : Int32) (l4 : Int32) (l5 : Int32) (h : AH) : am_ev 86 3 [.ref l0, .ref l1, .int l2, .int l3, .int l4, .int l5] [] h = (if am_kd h l0 = 3 then am_oe (am_R h l0 0) (none) (fun b1 => (if am_kd h b1 = 2 then am_bI (am_ev 44 0 [.ref b1] [] h) (fun x3 h2 => (if l5 < x3 then (if am_kd h2 l0 = 3 then am_bJ (am_ev 87 0 [.ref l0, .ref l1, .int l2, .int l5, .int l3, .int l4] [] h2) (fun x5 h4 => (if 0 < (lg_cmp x5 (999 : Int64)) then some (some (.int (-4 : Int32)), h4) else am_ev 86 3 [.ref l0, .ref l1, .int l2, .int l3, .int l4, .int (l5 + (1 : Int32))] [] h4)) else none) else (if am_kd h2 l0 = 3 then am_bV (am_ev 89 0 [.ref l0, am_ph] [] h2) (fun h6 => am_ev 86 49 [.ref l0, .ref l1, .int l2, .int l3, .int l4, .int (0 : Int32)] [] h6) else none))) else none)) else none) := (am_c2_eq am_m86 rfl [3, 49] rfl 52 3 _ _ _).trans rfl
set_option maxRecDepth 100000 in
set_option maxHeartbeats 4000000 in
theorem am_b86_49 (l0 : Nat) (l1 : Nat) (l2 : Int32) (l3 : Int32) (l4 : Int32) (l5 : Int32) (h : AH) : am_ev 86 49 [.ref l0, .ref l1, .int l2, .int l3, .int l4, .int l5] [] h = (if am_kd h l0 = 3 then am_oe (am_R h l0 0) (none) (fun b1 => (if am_kd h b1 = 2 then am_bI (am_ev 44 0 [.ref b1] [] h) (fun x3 h2 => (if l5 < x3 then (if am_kd h2 l0 = 3 then am_oe (am_R h2 l0 0) (none) (fun b4 => (if am_kd h2 b4 = 2 then am_oe (am_R h2 b4 3) ((if am_kd h2 l0 = 3 then am_bJ (am_ev 87 0 [.ref l0, .ref l1, .int l2, .int l5, .int l3, .int l4] [] h2) (fun x6 h5 => (am_bV (am_ev 92 0 [.null, .int l5, .int (Int64.toInt32 x6)] [] h5) (fun h7 => am_ev 86 49 [.ref l0, .ref l1, .int l2, .int l3, .int l4, .int (l5 + (1 : Int32))] [] h7))) else none)) (fun b8 => (if am_kd h2 l0 = 3 then am_bJ (am_ev 87 0 [.ref l0, .ref l1, .int l2, .int l5, .int l3, .int l4] [] h2) (fun x10 h9 => (am_bV (am_ev 92 0 [.ref b8, .int l5, .int (Int64.toInt32 x10)] [] h9) (fun h11 => am_ev 86 49 [.ref l0, .ref l1, .int l2, .int l3, .int l4, .int (l5 + (1 : Int32))] [] h11))) else none)) else none)) else none) else (if am_kd h2 l0 = 3 then am_oe (am_R h2 l0 0) (none) (fun b12 => (if am_kd h2 b12 = 2 then am_oe (am_R h2 b12 3) ((am_bI (am_ev 94 0 [.null, am_ph, am_ph, am_ph, am_ph, am_ph] [] h2) (fun x14 h13 => some (some (.int x14), h13)))) (fun b15 => (am_bI (am_ev 94 0 [.ref b15, am_ph, am_ph, am_ph, am_ph, am_ph] [] h2) (fun x17 h16 => some (some (.int x17), h16)))) else none)) else none))) else none)) else none) := (am_c2_eq am_m86 rfl [3, 49] rfl 52 49 _ _ _).trans rfl
set_option maxRecDepth 100000 in
set_option maxHeartbeats 4000000 in
theorem am_b87_0 (l0 : Nat) (l1 : Nat) (l2 : Int32) (l3 : Int32) (l4 : Int32) (l5 : Int32) (h : AH) : am_ev 87 0 [.ref l0, .ref l1, .int l2, .int l3, .int l4, .int l5] [] h = (if am_kd h l0 = 3 then am_oe (am_R h l0 0) (none) (fun b1 => (if am_kd h b1 = 2 then am_oe (am_R h b1 3) ((am_bI (am_ev 91 0 [.null, .int l3] [] h) (fun x3 h2 => (if am_kd h2 l1 = 0 then am_bJ (am_ev 3 0 [.ref l1, .int l2, .int l3, am_ph] [] h2) (fun x5 h4 => some (some (.long (((Int32.toInt64 l4) * (Int32.toInt64 x3)) + ((Int32.toInt64 l5) * x5))), h4)) else none)))) (fun b6 => (am_bI (am_ev 91 0 [.ref b6, .int l3] [] h) (fun x8 h7 => (if am_kd h7 l1 = 0 then am_bJ (am_ev 3 0 [.ref l1, .int l2, .int l3, am_ph] [] h7) (fun x10 h9 => some (some (.long (((Int32.toInt64 l4) * (Int32.toInt64 x8)) + ((Int32.toInt64 l5) * x10))), h9)) else none)))) else none)) else none) := (am_c2_eq am_m87 rfl [] rfl 20 0 _ _ _).trans rfl
set_option maxRecDepth 100000 in
set_option maxHeartbeats 4000000 in
theorem am_b88_0 (l0 : Int64) (l2 : Int64) (h : AH) : am_ev 88 0 [.long l0, am_ph, .long l2, am_ph] [] h = (if 0 < (lg_cmp l2 (0 : Int64)) then (am_bJ (am_ev 162 0 [.long ((1000 : Int64) * l0), am_ph, .long l2, am_ph, am_ph, am_ph] [] h) (fun x2 h1 => some (some (.int ((Int64.toInt32 x2) + (100000 : Int32))), h1))) else some (some (.int (100000 : Int32)), h)) := (am_c2_eq am_m88 rfl [] rfl 17 0 _ _ _).trans rfl
set_option maxRecDepth 100000 in
set_option maxHeartbeats 4000000 in
theorem am_b89_0 (l0 : Nat) (h : AH) : am_ev 89 0 [.ref l0, am_ph] [] h = (if am_kd h l0 = 3 then (if am_kd h l0 = 3 then am_oe (am_R h l0 3) (none) (fun b1 => (if 5 ≤ am_kd h b1 ∧ am_kd h b1 ≤ 9 then (if (am_I h l0 5) < (Int32.ofNat (am_ln h b1)) then am_ev 89 16 [.ref l0, am_ph] [] h else (if am_kd h l0 = 3 then am_bV (am_ev 90 0 [.ref l0, am_ph, am_ph] [] h) (fun h2 => am_ev 89 16 [.ref l0, am_ph] [] h2) else none)) else none)) else none) else none) := (am_c2_eq am_m89 rfl [16, 68] rfl 49 0 _ _ _).trans rfl
set_option maxRecDepth 100000 in
set_option maxHeartbeats 4000000 in
theorem am_b89_16 (l0 : Nat) (h : AH) : am_ev 89 16 [.ref l0, am_ph] [] h = (if am_kd h l0 = 3 then (if (am_I h l0 5) < 0 then some (none, h) else (if am_kd h l0 = 3 then (if am_kd h l0 = 3 then am_oe (am_R h l0 3) (none) (fun b1 => (if 5 ≤ am_kd h b1 ∧ am_kd h b1 ≤ 9 then (if (am_I h l0 5) < (Int32.ofNat (am_ln h b1)) then (if am_kd h l0 = 3 then am_oe (am_R h l0 3) ((if am_kd h l0 = 3 then none else none)) (fun b2 => (if am_kd h l0 = 3 then (if am_kd h b2 = 8 ∧ ¬ ((am_I h l0 5) < 0 ∨ am_ln h b2 ≤ Int32.toNatClampNeg (am_I h l0 5)) then am_oe (am_R h b2 (Int32.toNatClampNeg (am_I h l0 5))) ((let h3 := am_nw h 2 5; (if am_kd h3 h.1.length = 2 then am_bV (am_ev 40 0 [.ref h.1.length] [] h3) (fun h4 => (if am_kd h4 l0 = 3 then am_oe (am_R h4 l0 3) ((if am_kd h4 l0 = 3 then none else none)) (fun b5 => (if am_kd h4 l0 = 3 then (if am_kd h4 b5 = 8 ∧ ¬ ((am_I h4 l0 5) < 0 ∨ am_ln h4 b5 ≤ Int32.toNatClampNeg (am_I h4 l0 5)) then (if am_kd h4 h.1.length = 2 then (let h6 := am_sR h4 b5 (Int32.toNatClampNeg (am_I h4 l0 5)) (some h.1.length); am_ev 89 68 [.ref l0, .ref h.1.length] [] h6) else none) else none) else none)) else none)) else none))) (fun b7 => am_ev 89 68 [.ref l0, .ref b7] [] h) else none) else none)) else none) else some (none, h)) else none)) else none) else none)) else none) := (am_c2_eq am_m89 rfl [16, 68] rfl 49 16 _ _ _).trans rfl
set_option maxRecDepth 100000 in
set_option maxHeartbeats 4000000 in
theorem am_b89_68 (l0 : Nat) (l1 : Nat) (h : AH) : am_ev 89 68 [.ref l0, .ref l1] [] h = (if am_kd h l0 = 3 then am_oe (am_R h l0 0) ((if am_kd h l1 = 2 then am_bV (am_ev 42 0 [.ref l1, .null] [] h) (fun h1 => (if am_kd h1 l0 = 3 then (if am_kd h1 l0 = 3 then (let h2 := am_sI h1 l0 5 ((am_I h1 l0 5) + (1 : Int32)); some (none, h2)) else none) else none)) else none)) (fun b3 => (if am_kd h l1 = 2 then am_bV (am_ev 42 0 [.ref l1, .ref b3] [] h) (fun h4 => (if am_kd h4 l0 = 3 then (if am_kd h4 l0 = 3 then (let h5 := am_sI h4 l0 5 ((am_I h4 l0 5) + (1 : Int32)); some (none, h5)) else none) else none)) else none)) else none) := (am_c2_eq am_m89 rfl [16, 68] rfl 49 68 _ _ _).trans rfl
set_option maxRecDepth 100000 in
set_option maxHeartbeats 4000000 in
theorem am_b90_0 (l0 : Nat) (h : AH) : am_ev 90 0 [.ref l0, am_ph, am_ph] [] h = (if am_kd h l0 = 3 then am_oe (am_R h l0 3) (none) (fun b1 => (if am_kd h b1 = 8 ∧ ¬ ((0 : Int32) < 0 ∨ am_ln h b1 ≤ Int32.toNatClampNeg (0 : Int32)) then am_oe (am_R h b1 (Int32.toNatClampNeg (0 : Int32))) (am_ev 90 9 [.ref l0, .null, .int (1 : Int32)] [] h) (fun b2 => am_ev 90 9 [.ref l0, .ref b2, .int (1 : Int32)] [] h) else none)) else none) := (am_c2_eq am_m90 rfl [9] rfl 43 0 _ _ _).trans rfl
set_option maxRecDepth 100000 in
set_option maxHeartbeats 4000000 in
theorem am_b90_9 (l0 : Nat) (l1 : Nat) (l2 : Int32) (h : AH) : am_ev 90 9 [.ref l0, .ref l1, .int l2] [] h = (if am_kd h l0 = 3 then am_oe (am_R h l0 3) (none) (fun b1 => (if 5 ≤ am_kd h b1 ∧ am_kd h b1 ≤ 9 then (if l2 < (Int32.ofNat (am_ln h b1)) then (if am_kd h l0 = 3 then am_oe (am_R h l0 3) ((if am_kd h l0 = 3 then am_oe (am_R h l0 3) (none) (fun b2 => (if am_kd h b2 = 8 ∧ ¬ (l2 < 0 ∨ am_ln h b2 ≤ Int32.toNatClampNeg l2) then am_oe (am_R h b2 (Int32.toNatClampNeg l2)) (none) (fun b3 => none) else none)) else none)) (fun b4 => (if am_kd h l0 = 3 then am_oe (am_R h l0 3) (none) (fun b5 => (if am_kd h b5 = 8 ∧ ¬ (l2 < 0 ∨ am_ln h b5 ≤ Int32.toNatClampNeg l2) then am_oe (am_R h b5 (Int32.toNatClampNeg l2)) ((if am_kd h b4 = 8 ∧ ¬ ((l2 - (1 : Int32)) < 0 ∨ am_ln h b4 ≤ Int32.toNatClampNeg (l2 - (1 : Int32))) then (let h6 := am_sR h b4 (Int32.toNatClampNeg (l2 - (1 : Int32))) none; am_ev 90 9 [.ref l0, .ref l1, .int (l2 + (1 : Int32))] [] h6) else none)) (fun b7 => (if am_kd h b4 = 8 ∧ ¬ ((l2 - (1 : Int32)) < 0 ∨ am_ln h b4 ≤ Int32.toNatClampNeg (l2 - (1 : Int32))) then (if am_kd h b7 = 2 then (let h8 := am_sR h b4 (Int32.toNatClampNeg (l2 - (1 : Int32))) (some b7); am_ev 90 9 [.ref l0, .ref l1, .int (l2 + (1 : Int32))] [] h8) else none) else none)) else none)) else none)) else none) else (if am_kd h l0 = 3 then am_oe (am_R h l0 3) ((if am_kd h l0 = 3 then am_oe (am_R h l0 3) (none) (fun b9 => (if 5 ≤ am_kd h b9 ∧ am_kd h b9 ≤ 9 then none else none)) else none)) (fun b10 => (if am_kd h l0 = 3 then am_oe (am_R h l0 3) (none) (fun b11 => (if 5 ≤ am_kd h b11 ∧ am_kd h b11 ≤ 9 then (if am_kd h b10 = 8 ∧ ¬ (((Int32.ofNat (am_ln h b11)) - (1 : Int32)) < 0 ∨ am_ln h b10 ≤ Int32.toNatClampNeg ((Int32.ofNat (am_ln h b11)) - (1 : Int32))) then (if am_kd h l1 = 2 then (let h12 := am_sR h b10 (Int32.toNatClampNeg ((Int32.ofNat (am_ln h b11)) - (1 : Int32))) (some l1); (if am_kd h12 l0 = 3 then am_oe (am_R h12 l0 3) (none) (fun b13 => (if 5 ≤ am_kd h12 b13 ∧ am_kd h12 b13 ≤ 9 then (if am_kd h12 l0 = 3 then (let h14 := am_sI h12 l0 5 ((Int32.ofNat (am_ln h12 b13)) - (1 : Int32)); some (none, h14)) else none) else none)) else none)) else none) else none) else none)) else none)) else none)) else none)) else none) := (am_c2_eq am_m90 rfl [9] rfl 43 9 _ _ _).trans rfl
set_option maxRecDepth 100000 in
set_option maxHeartbeats 4000000 in
theorem am_b91_0 (l0 : Nat) (l1 : Int32) (h : AH) : am_ev 91 0 [.ref l0, .int l1] [] h = (if l1 < 0 then some (some (.int (0 : Int32)), h) else (if 5 ≤ am_kd h l0 ∧ am_kd h l0 ≤ 9 then (if l1 < (Int32.ofNat (am_ln h l0)) then (if (am_kd h l0 = 5 ∨ am_kd h l0 = 9) ∧ ¬ (l1 < 0 ∨ am_ln h l0 ≤ Int32.toNatClampNeg l1) then some (some (.int (am_I h l0 (Int32.toNatClampNeg l1))), h) else none) else some (some (.int (0 : Int32)), h)) else none)) := (am_c2_eq am_m91 rfl [] rfl 14 0 _ _ _).trans rfl
set_option maxRecDepth 100000 in
set_option maxHeartbeats 4000000 in
theorem am_b92_0 (l0 : Nat) (l1 : Int32) (l2 : Int32) (h : AH) : am_ev 92 0 [.ref l0, .int l1, .int l2] [] h = (if l1 < 0 then some (none, h) else (if 5 ≤ am_kd h l0 ∧ am_kd h l0 ≤ 9 then (if l1 < (Int32.ofNat (am_ln h l0)) then (if am_kd h l0 = 5 ∧ ¬ (l1 < 0 ∨ am_ln h l0 ≤ Int32.toNatClampNeg l1) then (let h1 := am_sI h l0 (Int32.toNatClampNeg l1) l2; some (none, h1)) else none) else some (none, h)) else none)) := (am_c2_eq am_m92 rfl [] rfl 13 0 _ _ _).trans rfl
set_option maxRecDepth 100000 in
set_option maxHeartbeats 4000000 in
theorem am_b93_0 (l0 : Nat) (l1 : Int32) (l2 : Int32) (h : AH) : am_ev 93 0 [.ref l0, .int l1, .int l2, am_ph] [] h = am_ev 93 2 [.ref l0, .int l1, .int l2, .int (0 : Int32)] [] h := (am_c2_eq am_m93 rfl [2] rfl 20 0 _ _ _).trans rfl
set_option maxRecDepth 100000 in
set_option maxHeartbeats 4000000 in
theorem am_b93_2 (l0 : Nat) (l1 : Int32) (l2 : Int32) (l3 : Int32) (h : AH) : am_ev 93 2 [.ref l0, .int l1, .int l2, .int l3] [] h = (if 5 ≤ am_kd h l0 ∧ am_kd h l0 ≤ 9 then (if l3 < (Int32.ofNat (am_ln h l0)) then (if l3 < l1 then (if am_kd h l0 = 5 ∧ ¬ (l3 < 0 ∨ am_ln h l0 ≤ Int32.toNatClampNeg l3) then (let h1 := am_sI h l0 (Int32.toNatClampNeg l3) l2; am_ev 93 2 [.ref l0, .int l1, .int l2, .int (l3 + (1 : Int32))] [] h1) else none) else (if am_kd h l0 = 5 ∧ ¬ (l3 < 0 ∨ am_ln h l0 ≤ Int32.toNatClampNeg l3) then (let h2 := am_sI h l0 (Int32.toNatClampNeg l3) (0 : Int32); am_ev 93 2 [.ref l0, .int l1, .int l2, .int (l3 + (1 : Int32))] [] h2) else none)) else some (none, h)) else none) := (am_c2_eq am_m93 rfl [2] rfl 20 2 _ _ _).trans rfl
set_option maxRecDepth 100000 in
set_option maxHeartbeats 4000000 in
theorem am_b94_0 (l0 : Nat) (h : AH) : am_ev 94 0 [.ref l0, am_ph, am_ph, am_ph, am_ph, am_ph] [] h = (if 5 ≤ am_kd h l0 ∧ am_kd h l0 ≤ 9 then am_ev 94 10 [am_ph, .int (0 : Int32), .ref l0, .int (Int32.ofNat (am_ln h l0)), .int (0 : Int32), am_ph] [] h else none) := (am_c2_eq am_m94 rfl [10] rfl 26 0 _ _ _).trans rfl
set_option maxRecDepth 100000 in
set_option maxHeartbeats 4000000 in
theorem am_b94_10 (l1 : Int32) (l2 : Nat) (l3 : Int32) (l4 : Int32) (h : AH) : am_ev 94 10 [am_ph, .int l1, .ref l2, .int l3, .int l4, am_ph] [] h = (if l4 < l3 then (if (am_kd h l2 = 5 ∨ am_kd h l2 = 9) ∧ ¬ (l4 < 0 ∨ am_ln h l2 ≤ Int32.toNatClampNeg l4) then am_ev 94 10 [am_ph, .int (l1 + (am_I h l2 (Int32.toNatClampNeg l4))), .ref l2, .int l3, .int (l4 + (1 : Int32)), am_ph] [] h else none) else some (some (.int l1), h)) := (am_c2_eq am_m94 rfl [10] rfl 26 10 _ _ _).trans rfl
end
section
/-! what each block of a method comes to: printed by program, checked by computation -/
set_option maxRecDepth 100000 in
set_option maxHeartbeats 4000000 in
theorem am_b95_0 (l0 : Nat) (l1 : Int32) (h : AH) : am_ev 95 0 [.ref l0, .int l1] [] h = (if 5 ≤ am_kd h l0 ∧ am_kd h l0 ≤ 9 then (if l1 < (Int32.ofNat (am_ln h l0)) then (if (am_kd h l0 = 5 ∨ am_kd h l0 = 9) ∧ ¬ (l1 < 0 ∨ am_ln h l0 ≤ Int32.toNatClampNeg l1) then some (some (.int (am_I h l0 (Int32.toNatClampNeg l1))), h) else none) else some (some (.int ((625341585 : Int32) * (l1 + (677 : Int32)))), h)) else none) := (am_c2_eq am_m95 rfl [] rfl 16 0 _ _ _).trans rfl
set_option maxRecDepth 100000 in
set_option maxHeartbeats 4000000 in
theorem am_b96_0 (l0 : Int32) (l1 : Int32) (h : AH) : am_ev 96 0 [.int l0, .int l1] [] h = (if l1 = 0 then none else some (some (.int ((l0 &&& (2147483647 : Int32)) - (l0 &&& (2147483647 : Int32)) / l1 * l1)), h)) := (am_c2_eq am_m96 rfl [] rfl 8 0 _ _ _).trans rfl
set_option maxRecDepth 100000 in
set_option maxHeartbeats 4000000 in
theorem am_b97_0 (l0 : Int32) (l1 : Int32) (h : AH) : am_ev 97 0 [.int l0, .int l1] [] h = (if (l0 - l0 / (2 : Int32) * (2 : Int32)) = 0 then some (some (.int l1), h) else some (some (.int ((1 : Int32) - l1)), h)) := (am_c2_eq am_m97 rfl [] rfl 12 0 _ _ _).trans rfl
set_option maxRecDepth 100000 in
set_option maxHeartbeats 4000000 in
theorem am_b98_0 (l0 : Int32) (l1 : Int32) (l2 : Int32) (h : AH) : am_ev 98 0 [.int l0, .int l1, .int l2, am_ph] [] h = (if l1 = 0 then none else (if l0 < (6 : Int32) then some (some (.int ((l2 + (l0 / (2 : Int32))) - (l2 + (l0 / (2 : Int32))) / l1 * l1)), h) else some (some (.int ((l1 - (1 : Int32)) - ((l2 + (l0 / (2 : Int32))) - (l2 + (l0 / (2 : Int32))) / l1 * l1))), h))) := (am_c2_eq am_m98 rfl [] rfl 21 0 _ _ _).trans rfl
set_option maxRecDepth 100000 in
set_option maxHeartbeats 4000000 in
theorem am_b99_0 (l0 : Nat) (l1 : Nat) (l2 : Int32) (l3 : Int32) (h : AH) : am_ev 99 0 [.ref l0, .ref l1, .int l2, .int l3, am_ph, am_ph, am_ph, am_ph, am_ph, am_ph] [] h = (if am_kd h l0 = 3 then am_bI (am_ev 71 0 [.ref l0, .int (0 : Int32)] [] h) (fun x2 h1 => (am_bI (am_ev 96 0 [.int (l3 >>> ((4 : Int32) &&& 31)), .int (2 : Int32)] [] h1) (fun x4 h3 => (am_bI (am_ev 96 0 [.int ((l3 >>> ((4 : Int32) &&& 31)) >>> ((2 : Int32) &&& 31)), .int x2] [] h3) (fun x6 h5 => (am_bI (am_ev 96 0 [.int l3, .int (7 : Int32)] [] h5) (fun x8 h7 => (if x8 = nI 0 then (am_bI (am_ev 96 0 [.int ((l3 >>> ((4 : Int32) &&& 31)) >>> ((5 : Int32) &&& 31)), .int (2 : Int32)] [] h7) (fun x10 h9 => (am_bI (am_ev 96 0 [.int ((l3 >>> ((4 : Int32) &&& 31)) >>> ((7 : Int32) &&& 31)), .int (19 : Int32)] [] h9) (fun x12 h11 => (if am_kd h11 l0 = 3 then am_bI (am_ev 62 0 [.ref l0, .int x10, .int x4, .int x6, .int (x12 - (9 : Int32)), am_ph, am_ph] [] h11) (fun x14 h13 => (am_bI (am_ev 97 0 [.int l2, .int x4] [] h13) (fun x16 h15 => (am_bI (am_ev 98 0 [.int l2, .int x2, .int x6, am_ph] [] h15) (fun x18 h17 => (if am_kd h17 l1 = 3 then am_bI (am_ev 62 0 [.ref l1, .int x10, .int x16, .int x18, .int (x12 - (9 : Int32)), am_ph, am_ph] [] h17) (fun x20 h19 => (if x14 = x20 then some (some (.int (1 : Int32)), h19) else some (some (.int (0 : Int32)), h19))) else none)))))) else none))))) else (if x8 = nI 1 then (am_bI (am_ev 96 0 [.int ((l3 >>> ((4 : Int32) &&& 31)) >>> ((5 : Int32) &&& 31)), .int (2 : Int32)] [] h7) (fun x22 h21 => (am_bI (am_ev 96 0 [.int ((l3 >>> ((4 : Int32) &&& 31)) >>> ((7 : Int32) &&& 31)), .int (19 : Int32)] [] h21) (fun x24 h23 => (if am_kd h23 l0 = 3 then am_bI (am_ev 62 0 [.ref l0, .int x22, .int x4, .int x6, .int (x24 - (9 : Int32)), am_ph, am_ph] [] h23) (fun x26 h25 => (am_bI (am_ev 97 0 [.int l2, .int x4] [] h25) (fun x28 h27 => (am_bI (am_ev 98 0 [.int l2, .int x2, .int x6, am_ph] [] h27) (fun x30 h29 => (if am_kd h29 l1 = 3 then am_bI (am_ev 62 0 [.ref l1, .int x22, .int x28, .int x30, .int (x24 - (9 : Int32)), am_ph, am_ph] [] h29) (fun x32 h31 => (if x26 = x32 then some (some (.int (1 : Int32)), h31) else some (some (.int (0 : Int32)), h31))) else none)))))) else none))))) else (if x8 = nI 2 then (am_bI (am_ev 96 0 [.int ((l3 >>> ((4 : Int32) &&& 31)) >>> ((5 : Int32) &&& 31)), .int (2 : Int32)] [] h7) (fun x34 h33 => (am_bI (am_ev 96 0 [.int ((l3 >>> ((4 : Int32) &&& 31)) >>> ((7 : Int32) &&& 31)), .int (19 : Int32)] [] h33) (fun x36 h35 => (if am_kd h35 l0 = 3 then am_bI (am_ev 62 0 [.ref l0, .int x34, .int x4, .int x6, .int (x36 - (9 : Int32)), am_ph, am_ph] [] h35) (fun x38 h37 => (am_bI (am_ev 97 0 [.int l2, .int x4] [] h37) (fun x40 h39 => (am_bI (am_ev 98 0 [.int l2, .int x2, .int x6, am_ph] [] h39) (fun x42 h41 => (if am_kd h41 l1 = 3 then am_bI (am_ev 62 0 [.ref l1, .int x34, .int x40, .int x42, .int (x36 - (9 : Int32)), am_ph, am_ph] [] h41) (fun x44 h43 => (if x38 = x44 then some (some (.int (1 : Int32)), h43) else some (some (.int (0 : Int32)), h43))) else none)))))) else none))))) else (if x8 = nI 3 then (am_bI (am_ev 96 0 [.int ((l3 >>> ((4 : Int32) &&& 31)) >>> ((5 : Int32) &&& 31)), .int (2 : Int32)] [] h7) (fun x46 h45 => (am_bI (am_ev 96 0 [.int ((l3 >>> ((4 : Int32) &&& 31)) >>> ((7 : Int32) &&& 31)), .int (19 : Int32)] [] h45) (fun x48 h47 => (if am_kd h47 l0 = 3 then am_bI (am_ev 62 0 [.ref l0, .int x46, .int x4, .int x6, .int (x48 - (9 : Int32)), am_ph, am_ph] [] h47) (fun x50 h49 => (am_bI (am_ev 97 0 [.int l2, .int x4] [] h49) (fun x52 h51 => (am_bI (am_ev 98 0 [.int l2, .int x2, .int x6, am_ph] [] h51) (fun x54 h53 => (if am_kd h53 l1 = 3 then am_bI (am_ev 62 0 [.ref l1, .int x46, .int x52, .int x54, .int (x48 - (9 : Int32)), am_ph, am_ph] [] h53) (fun x56 h55 => (if x50 = x56 then some (some (.int (1 : Int32)), h55) else some (some (.int (0 : Int32)), h55))) else none)))))) else none))))) else (am_bI (am_ev 96 0 [.int ((l3 >>> ((4 : Int32) &&& 31)) >>> ((6 : Int32) &&& 31)), .int (30 : Int32)] [] h7) (fun x58 h57 => (if am_kd h57 l0 = 3 then am_bI (am_ev 63 0 [.ref l0, .int x4, .int x6, .int x58, am_ph, am_ph] [] h57) (fun x60 h59 => (am_bI (am_ev 97 0 [.int l2, .int x4] [] h59) (fun x62 h61 => (am_bI (am_ev 98 0 [.int l2, .int x2, .int x6, am_ph] [] h61) (fun x64 h63 => (am_bI (am_ev 96 0 [.int ((l3 >>> ((4 : Int32) &&& 31)) >>> ((6 : Int32) &&& 31)), .int (30 : Int32)] [] h63) (fun x66 h65 => (if am_kd h65 l1 = 3 then am_bI (am_ev 63 0 [.ref l1, .int x62, .int x64, .int x66, am_ph, am_ph] [] h65) (fun x68 h67 => (if x60 = x68 then some (some (.int (1 : Int32)), h67) else some (some (.int (0 : Int32)), h67))) else none)))))))) else none)))))))))))))) else none) := (am_c2_eq am_m99 rfl [] rfl 88 0 _ _ _).trans rfl
set_option maxRecDepth 100000 in
set_option maxHeartbeats 4000000 in
theorem am_b100_0 (l0 : Nat) (l1 : Nat) (l2 : Int32) (l3 : Int32) (h : AH) : am_ev 100 0 [.ref l0, .ref l1, .int l2, .int l3, am_ph, am_ph, am_ph, am_ph, am_ph, am_ph, am_ph, am_ph] [] h = (if am_kd h l0 = 3 then am_bI (am_ev 71 0 [.ref l0, .int (0 : Int32)] [] h) (fun x2 h1 => (if am_kd h1 l0 = 3 then am_bI (am_ev 71 0 [.ref l0, .int (6 : Int32)] [] h1) (fun x4 h3 => (if am_kd h3 l1 = 3 then am_bI (am_ev 71 0 [.ref l1, .int (6 : Int32)] [] h3) (fun x6 h5 => (if x4 = x6 then (if am_kd h5 l0 = 3 then am_bI (am_ev 71 0 [.ref l0, .int (3 : Int32)] [] h5) (fun x8 h7 => (if am_kd h7 l1 = 3 then am_bI (am_ev 71 0 [.ref l1, .int (3 : Int32)] [] h7) (fun x10 h9 => (if x8 = x10 then (if am_kd h9 l0 = 3 then am_bI (am_ev 71 0 [.ref l0, .int (4 : Int32)] [] h9) (fun x12 h11 => (if am_kd h11 l1 = 3 then am_bI (am_ev 71 0 [.ref l1, .int (4 : Int32)] [] h11) (fun x14 h13 => (if x12 = x14 then (if am_kd h13 l0 = 3 then am_bI (am_ev 71 0 [.ref l0, .int (5 : Int32)] [] h13) (fun x16 h15 => (if am_kd h15 l1 = 3 then am_bI (am_ev 71 0 [.ref l1, .int (5 : Int32)] [] h15) (fun x18 h17 => (if x16 = x18 then am_ev 100 75 [.ref l0, .ref l1, .int l2, .int l3, .int x2, .int x4, .int (1 : Int32), .int (0 : Int32), am_ph, am_ph, am_ph, am_ph] [] h17 else am_ev 100 75 [.ref l0, .ref l1, .int l2, .int l3, .int x2, .int x4, .int (0 : Int32), .int (0 : Int32), am_ph, am_ph, am_ph, am_ph] [] h17)) else none)) else none) else am_ev 100 75 [.ref l0, .ref l1, .int l2, .int l3, .int x2, .int x4, .int (0 : Int32), .int (0 : Int32), am_ph, am_ph, am_ph, am_ph] [] h13)) else none)) else none) else am_ev 100 75 [.ref l0, .ref l1, .int l2, .int l3, .int x2, .int x4, .int (0 : Int32), .int (0 : Int32), am_ph, am_ph, am_ph, am_ph] [] h9)) else none)) else none) else am_ev 100 75 [.ref l0, .ref l1, .int l2, .int l3, .int x2, .int x4, .int (0 : Int32), .int (0 : Int32), am_ph, am_ph, am_ph, am_ph] [] h5)) else none)) else none)) else none) := (am_c2_eq am_m100 rfl [75, 134, 143, 153, 226, 280, 337, 363, 404] rfl 253 0 _ _ _).trans rfl
set_option maxRecDepth 100000 in
set_option maxHeartbeats 4000000 in
theorem am_b100_75 (l0 : Nat) (l1 : Nat) (l2 : Int32) (l3 : Int32) (l4 : Int32) (l5 : Int32) (l6 : Int32) (l7 : Int32) (h : AH) : am_ev 100 75 [.ref l0, .ref l1, .int l2, .int l3, .int l4, .int l5, .int l6, .int l7, am_ph, am_ph, am_ph, am_ph] [] h = (if l7 < (3 : Int32) then (if l6 = 0 then am_ev 100 75 [.ref l0, .ref l1, .int l2, .int l3, .int l4, .int l5, .int (0 : Int32), .int (l7 + (1 : Int32)), am_ph, am_ph, am_ph, am_ph] [] h else (if am_kd h l0 = 3 then am_bI (am_ev 72 0 [.ref l0, .int l7] [] h) (fun x2 h1 => (if am_kd h1 l1 = 3 then am_bI (am_ev 72 0 [.ref l1, .int l7] [] h1) (fun x4 h3 => (if x2 = x4 then (if am_kd h3 l0 = 3 then am_bI (am_ev 74 0 [.ref l0, .int l7, .int (1 : Int32), am_ph, am_ph] [] h3) (fun x6 h5 => (if am_kd h5 l1 = 3 then am_bI (am_ev 74 0 [.ref l1, .int l7, .int (1 : Int32), am_ph, am_ph] [] h5) (fun x8 h7 => (if x6 = x8 then am_ev 100 75 [.ref l0, .ref l1, .int l2, .int l3, .int l4, .int l5, .int (1 : Int32), .int (l7 + (1 : Int32)), am_ph, am_ph, am_ph, am_ph] [] h7 else am_ev 100 75 [.ref l0, .ref l1, .int l2, .int l3, .int l4, .int l5, .int (0 : Int32), .int (l7 + (1 : Int32)), am_ph, am_ph, am_ph, am_ph] [] h7)) else none)) else none) else am_ev 100 75 [.ref l0, .ref l1, .int l2, .int l3, .int l4, .int l5, .int (0 : Int32), .int (l7 + (1 : Int32)), am_ph, am_ph, am_ph, am_ph] [] h3)) else none)) else none)) else am_ev 100 134 [.ref l0, .ref l1, .int l2, .int l3, .int l4, .int l5, .int l6, .int (0 : Int32), am_ph, am_ph, am_ph, am_ph] [] h) := (am_c2_eq am_m100 rfl [75, 134, 143, 153, 226, 280, 337, 363, 404] rfl 253 75 _ _ _).trans rfl
set_option maxRecDepth 100000 in
set_option maxHeartbeats 4000000 in
theorem am_b100_134 (l0 : Nat) (l1 : Nat) (l2 : Int32) (l3 : Int32) (l4 : Int32) (l5 : Int32) (l6 : Int32) (l7 : Int32) (h : AH) : am_ev 100 134 [.ref l0, .ref l1, .int l2, .int l3, .int l4, .int l5, .int l6, .int l7, am_ph, am_ph, am_ph, am_ph] [] h = (if l7 < (2 : Int32) then am_ev 100 143 [.ref l0, .ref l1, .int l2, .int l3, .int l4, .int l5, .int l6, .int l7, .int (0 : Int32), am_ph, am_ph, am_ph] [] h else am_ev 100 226 [.ref l0, .ref l1, .int l2, .int l3, .int l4, .int l5, .int l6, .int (0 : Int32), am_ph, am_ph, am_ph, am_ph] [] h) := (am_c2_eq am_m100 rfl [75, 134, 143, 153, 226, 280, 337, 363, 404] rfl 253 134 _ _ _).trans rfl
set_option maxRecDepth 100000 in
set_option maxHeartbeats 4000000 in
theorem am_b100_143 (l0 : Nat) (l1 : Nat) (l2 : Int32) (l3 : Int32) (l4 : Int32) (l5 : Int32) (l6 : Int32) (l7 : Int32) (l8 : Int32) (h : AH) : am_ev 100 143 [.ref l0, .ref l1, .int l2, .int l3, .int l4, .int l5, .int l6, .int l7, .int l8, am_ph, am_ph, am_ph] [] h = (if l8 < l4 then am_ev 100 153 [.ref l0, .ref l1, .int l2, .int l3, .int l4, .int l5, .int l6, .int l7, .int l8, .int (0 : Int32), am_ph, am_ph] [] h else am_ev 100 134 [.ref l0, .ref l1, .int l2, .int l3, .int l4, .int l5, .int l6, .int (l7 + (1 : Int32)), am_ph, am_ph, am_ph, am_ph] [] h) := (am_c2_eq am_m100 rfl [75, 134, 143, 153, 226, 280, 337, 363, 404] rfl 253 143 _ _ _).trans rfl
set_option maxRecDepth 100000 in
set_option maxHeartbeats 4000000 in
theorem am_b100_153 (l0 : Nat) (l1 : Nat) (l2 : Int32) (l3 : Int32) (l4 : Int32) (l5 : Int32) (l6 : Int32) (l7 : Int32) (l8 : Int32) (l9 : Int32) (h : AH) : am_ev 100 153 [.ref l0, .ref l1, .int l2, .int l3, .int l4, .int l5, .int l6, .int l7, .int l8, .int l9, am_ph, am_ph] [] h = (if l9 < (6 : Int32) then (if l6 = 0 then am_ev 100 153 [.ref l0, .ref l1, .int l2, .int l3, .int l4, .int l5, .int (0 : Int32), .int l7, .int l8, .int (l9 + (1 : Int32)), am_ph, am_ph] [] h else (if am_kd h l0 = 3 then am_bI (am_ev 69 0 [.ref l0, .int l7, .int l8, .int l9, am_ph] [] h) (fun x2 h1 => (am_bI (am_ev 97 0 [.int l2, .int l7] [] h1) (fun x4 h3 => (am_bI (am_ev 98 0 [.int l2, .int l4, .int l8, am_ph] [] h3) (fun x6 h5 => (if am_kd h5 l1 = 3 then am_bI (am_ev 69 0 [.ref l1, .int x4, .int x6, .int l9, am_ph] [] h5) (fun x8 h7 => (if x2 = x8 then am_ev 100 153 [.ref l0, .ref l1, .int l2, .int l3, .int l4, .int l5, .int (1 : Int32), .int l7, .int l8, .int (l9 + (1 : Int32)), am_ph, am_ph] [] h7 else am_ev 100 153 [.ref l0, .ref l1, .int l2, .int l3, .int l4, .int l5, .int (0 : Int32), .int l7, .int l8, .int (l9 + (1 : Int32)), am_ph, am_ph] [] h7)) else none)))))) else none)) else am_ev 100 143 [.ref l0, .ref l1, .int l2, .int l3, .int l4, .int l5, .int l6, .int l7, .int (l8 + (1 : Int32)), am_ph, am_ph, am_ph] [] h) := (am_c2_eq am_m100 rfl [75, 134, 143, 153, 226, 280, 337, 363, 404] rfl 253 153 _ _ _).trans rfl
set_option maxRecDepth 100000 in
set_option maxHeartbeats 4000000 in
theorem am_b100_226 (l0 : Nat) (l1 : Nat) (l2 : Int32) (l3 : Int32) (l4 : Int32) (l5 : Int32) (l6 : Int32) (l7 : Int32) (h : AH) : am_ev 100 226 [.ref l0, .ref l1, .int l2, .int l3, .int l4, .int l5, .int l6, .int l7, am_ph, am_ph, am_ph, am_ph] [] h = (if l7 < (2 : Int32) then (if l6 = 0 then am_ev 100 226 [.ref l0, .ref l1, .int l2, .int l3, .int l4, .int l5, .int (0 : Int32), .int (l7 + (1 : Int32)), am_ph, am_ph, am_ph, am_ph] [] h else (if am_kd h l0 = 3 then am_bI (am_ev 75 0 [.ref l0, .int (0 : Int32), am_ph, am_ph, am_ph] [] h) (fun x2 h1 => (if am_kd h1 l1 = 3 then am_bI (am_ev 75 0 [.ref l1, .int (0 : Int32), am_ph, am_ph, am_ph] [] h1) (fun x4 h3 => (am_bI (am_ev 97 0 [.int l2, .int l7] [] h3) (fun x6 h5 => (if ((x2 >>> (l7 &&& 31)) &&& (1 : Int32)) = ((x4 >>> (x6 &&& 31)) &&& (1 : Int32)) then am_ev 100 226 [.ref l0, .ref l1, .int l2, .int l3, .int l4, .int l5, .int (1 : Int32), .int (l7 + (1 : Int32)), am_ph, am_ph, am_ph, am_ph] [] h5 else am_ev 100 226 [.ref l0, .ref l1, .int l2, .int l3, .int l4, .int l5, .int (0 : Int32), .int (l7 + (1 : Int32)), am_ph, am_ph, am_ph, am_ph] [] h5)))) else none)) else none)) else am_ev 100 280 [.ref l0, .ref l1, .int l2, .int l3, .int l4, .int l5, .int l6, .int (0 : Int32), am_ph, am_ph, am_ph, am_ph] [] h) := (am_c2_eq am_m100 rfl [75, 134, 143, 153, 226, 280, 337, 363, 404] rfl 253 226 _ _ _).trans rfl
set_option maxRecDepth 100000 in
set_option maxHeartbeats 4000000 in
theorem am_b100_280 (l0 : Nat) (l1 : Nat) (l2 : Int32) (l3 : Int32) (l4 : Int32) (l5 : Int32) (l6 : Int32) (l7 : Int32) (h : AH) : am_ev 100 280 [.ref l0, .ref l1, .int l2, .int l3, .int l4, .int l5, .int l6, .int l7, am_ph, am_ph, am_ph, am_ph] [] h = (if l7 < l4 then (if l6 = 0 then am_ev 100 280 [.ref l0, .ref l1, .int l2, .int l3, .int l4, .int l5, .int (0 : Int32), .int (l7 + (1 : Int32)), am_ph, am_ph, am_ph, am_ph] [] h else (if am_kd h l0 = 3 then am_bI (am_ev 75 0 [.ref l0, .int (1 : Int32), am_ph, am_ph, am_ph] [] h) (fun x2 h1 => (if am_kd h1 l1 = 3 then am_bI (am_ev 75 0 [.ref l1, .int (1 : Int32), am_ph, am_ph, am_ph] [] h1) (fun x4 h3 => (am_bI (am_ev 98 0 [.int l2, .int l4, .int l7, am_ph] [] h3) (fun x6 h5 => (if ((x2 >>> (l7 &&& 31)) &&& (1 : Int32)) = ((x4 >>> (x6 &&& 31)) &&& (1 : Int32)) then am_ev 100 280 [.ref l0, .ref l1, .int l2, .int l3, .int l4, .int l5, .int (1 : Int32), .int (l7 + (1 : Int32)), am_ph, am_ph, am_ph, am_ph] [] h5 else am_ev 100 280 [.ref l0, .ref l1, .int l2, .int l3, .int l4, .int l5, .int (0 : Int32), .int (l7 + (1 : Int32)), am_ph, am_ph, am_ph, am_ph] [] h5)))) else none)) else none)) else am_ev 100 337 [.ref l0, .ref l1, .int l2, .int l3, .int l4, .int l5, .int l6, .int (0 : Int32), am_ph, am_ph, am_ph, am_ph] [] h) := (am_c2_eq am_m100 rfl [75, 134, 143, 153, 226, 280, 337, 363, 404] rfl 253 280 _ _ _).trans rfl
set_option maxRecDepth 100000 in
set_option maxHeartbeats 4000000 in
theorem am_b100_337 (l0 : Nat) (l1 : Nat) (l2 : Int32) (l3 : Int32) (l4 : Int32) (l5 : Int32) (l6 : Int32) (l7 : Int32) (h : AH) : am_ev 100 337 [.ref l0, .ref l1, .int l2, .int l3, .int l4, .int l5, .int l6, .int l7, am_ph, am_ph, am_ph, am_ph] [] h = (if l7 < (2 : Int32) then (if l6 = 0 then (if l6 = 0 ∨ l6 = 1 then some (some (.int l6), h) else none) else (if l5 = 0 then none else am_ev 100 363 [.ref l0, .ref l1, .int l2, .int l3, .int l4, .int l5, am_ph, .int l7, .int ((l3 + l7) - (l3 + l7) / l5 * l5), .int (0 : Int32), .int (0 : Int32), am_ph] [] h)) else (if l6 = 0 ∨ l6 = 1 then some (some (.int l6), h) else none)) := (am_c2_eq am_m100 rfl [75, 134, 143, 153, 226, 280, 337, 363, 404] rfl 253 337 _ _ _).trans rfl
set_option maxRecDepth 100000 in
set_option maxHeartbeats 4000000 in
theorem am_b100_363 (l0 : Nat) (l1 : Nat) (l2 : Int32) (l3 : Int32) (l4 : Int32) (l5 : Int32) (l7 : Int32) (l8 : Int32) (l9 : Int32) (l10 : Int32) (h : AH) : am_ev 100 363 [.ref l0, .ref l1, .int l2, .int l3, .int l4, .int l5, am_ph, .int l7, .int l8, .int l9, .int l10, am_ph] [] h = (if l10 < l5 then (if l9 = 0 then (if am_kd h l0 = 3 then am_bI (am_ev 73 0 [.ref l0, .int l8, .int (6 : Int32), am_ph] [] h) (fun x2 h1 => (if am_kd h1 l1 = 3 then am_bI (am_ev 73 0 [.ref l1, .int l10, .int (6 : Int32), am_ph] [] h1) (fun x4 h3 => (if x2 = x4 then am_ev 100 404 [.ref l0, .ref l1, .int l2, .int l3, .int l4, .int l5, am_ph, .int l7, .int l8, .int (1 : Int32), .int l10, .int (0 : Int32)] [] h3 else am_ev 100 404 [.ref l0, .ref l1, .int l2, .int l3, .int l4, .int l5, am_ph, .int l7, .int l8, .int (0 : Int32), .int l10, .int (0 : Int32)] [] h3)) else none)) else none) else am_ev 100 337 [.ref l0, .ref l1, .int l2, .int l3, .int l4, .int l5, .int l9, .int (l7 + (1 : Int32)), am_ph, am_ph, am_ph, am_ph] [] h) else am_ev 100 337 [.ref l0, .ref l1, .int l2, .int l3, .int l4, .int l5, .int l9, .int (l7 + (1 : Int32)), am_ph, am_ph, am_ph, am_ph] [] h) := (am_c2_eq am_m100 rfl [75, 134, 143, 153, 226, 280, 337, 363, 404] rfl 253 363 _ _ _).trans rfl
set_option maxRecDepth 100000 in
set_option maxHeartbeats 4000000 in
theorem am_b100_404 (l0 : Nat) (l1 : Nat) (l2 : Int32) (l3 : Int32) (l4 : Int32) (l5 : Int32) (l7 : Int32) (l8 : Int32) (l9 : Int32) (l10 : Int32) (l11 : Int32) (h : AH) : am_ev 100 404 [.ref l0, .ref l1, .int l2, .int l3, .int l4, .int l5, am_ph, .int l7, .int l8, .int l9, .int l10, .int l11] [] h = (if l11 < ((2 : Int32) * l4) then (if l9 = 0 then am_ev 100 363 [.ref l0, .ref l1, .int l2, .int l3, .int l4, .int l5, am_ph, .int l7, .int l8, .int l9, .int (l10 + (1 : Int32)), am_ph] [] h else (if am_kd h l0 = 3 then am_bI (am_ev 73 0 [.ref l0, .int l8, .int l11, am_ph] [] h) (fun x2 h1 => (if l4 = 0 then none else (am_bI (am_ev 97 0 [.int l2, .int (l11 / l4)] [] h1) (fun x4 h3 => (if l4 = 0 then none else (am_bI (am_ev 98 0 [.int l2, .int l4, .int (l11 - l11 / l4 * l4), am_ph] [] h3) (fun x6 h5 => (if am_kd h5 l1 = 3 then am_bI (am_ev 73 0 [.ref l1, .int l10, .int ((l4 * x4) + x6), am_ph] [] h5) (fun x8 h7 => (if x2 = x8 then am_ev 100 404 [.ref l0, .ref l1, .int l2, .int l3, .int l4, .int l5, am_ph, .int l7, .int l8, .int (1 : Int32), .int l10, .int (l11 + (1 : Int32))] [] h7 else am_ev 100 404 [.ref l0, .ref l1, .int l2, .int l3, .int l4, .int l5, am_ph, .int l7, .int l8, .int (0 : Int32), .int l10, .int (l11 + (1 : Int32))] [] h7)) else none)))))))) else none)) else am_ev 100 363 [.ref l0, .ref l1, .int l2, .int l3, .int l4, .int l5, am_ph, .int l7, .int l8, .int l9, .int (l10 + (1 : Int32)), am_ph] [] h) := (am_c2_eq am_m100 rfl [75, 134, 143, 153, 226, 280, 337, 363, 404] rfl 253 404 _ _ _).trans rfl
set_option maxRecDepth 100000 in
set_option maxHeartbeats 4000000 in
theorem am_b101_0 (l0 : Nat) (l1 : Int32) (h : AH) : am_ev 101 0 [.ref l0, .int l1, am_ph, am_ph, am_ph, am_ph, am_ph, am_ph, am_ph] [] h = (if am_kd h l0 = 3 then am_bI (am_ev 71 0 [.ref l0, .int (6 : Int32)] [] h) (fun x2 h1 => (am_bI (am_ev 96 0 [.int l1, .int x2] [] h1) (fun x4 h3 => (if am_kd h3 l0 = 3 then am_bI (am_ev 64 0 [.ref l0, .int x4, am_ph] [] h3) (fun x6 h5 => (if x6 = (-4 : Int32) then am_ev 101 53 [.ref l0, .int l1, am_ph, am_ph, .int (1 : Int32), .int (0 : Int32), am_ph, am_ph, am_ph] [] h5 else (if am_kd h5 l0 = 3 then am_bI (am_ev 73 0 [.ref l0, .int x4, .int (6 : Int32), am_ph] [] h5) (fun x8 h7 => (if x6 = x8 then (if am_kd h7 l0 = 3 then am_bI (am_ev 71 0 [.ref l0, .int (4 : Int32)] [] h7) (fun x10 h9 => (if x10 = (1 : Int32) then am_ev 101 53 [.ref l0, .int l1, am_ph, am_ph, .int (1 : Int32), .int (0 : Int32), am_ph, am_ph, am_ph] [] h9 else am_ev 101 53 [.ref l0, .int l1, am_ph, am_ph, .int (0 : Int32), .int (0 : Int32), am_ph, am_ph, am_ph] [] h9)) else none) else am_ev 101 53 [.ref l0, .int l1, am_ph, am_ph, .int (0 : Int32), .int (0 : Int32), am_ph, am_ph, am_ph] [] h7)) else none))) else none)))) else none) := (am_c2_eq am_m101 rfl [53, 97, 159] rfl 136 0 _ _ _).trans rfl
set_option maxRecDepth 100000 in
set_option maxHeartbeats 4000000 in
theorem am_b101_53 (l0 : Nat) (l1 : Int32) (l4 : Int32) (l5 : Int32) (h : AH) : am_ev 101 53 [.ref l0, .int l1, am_ph, am_ph, .int l4, .int l5, am_ph, am_ph, am_ph] [] h = (if l5 < (4 : Int32) then (if l4 = 0 then (if l4 = 0 ∨ l4 = 1 then some (some (.int l4), h) else none) else (if am_kd h l0 = 3 then am_bI (am_ev 71 0 [.ref l0, .int (6 : Int32)] [] h) (fun x2 h1 => (am_bI (am_ev 96 0 [.int (l1 >>> (((4 : Int32) + ((3 : Int32) * l5)) &&& 31)), .int x2] [] h1) (fun x4 h3 => (if am_kd h3 l0 = 3 then am_bI (am_ev 71 0 [.ref l0, .int (4 : Int32)] [] h3) (fun x6 h5 => (if x6 = (1 : Int32) then am_ev 101 97 [.ref l0, .int l1, am_ph, am_ph, am_ph, .int l5, .int x4, am_ph, am_ph] [.int (1 : Int32)] h5 else am_ev 101 97 [.ref l0, .int l1, am_ph, am_ph, am_ph, .int l5, .int x4, am_ph, am_ph] [.int (0 : Int32)] h5)) else none)))) else none)) else (if l4 = 0 ∨ l4 = 1 then some (some (.int l4), h) else none)) := (am_c2_eq am_m101 rfl [53, 97, 159] rfl 136 53 _ _ _).trans rfl
set_option maxRecDepth 100000 in
set_option maxHeartbeats 4000000 in
theorem am_b101_97 (l0 : Nat) (l1 : Int32) (l5 : Int32) (l6 : Int32) (s0 : Int32) (h : AH) : am_ev 101 97 [.ref l0, .int l1, am_ph, am_ph, am_ph, .int l5, .int l6, am_ph, am_ph] [.int s0] h = (am_bI (am_ev 96 0 [.int (l1 >>> (((2 : Int32) * l5) &&& 31)), .int (3 : Int32)] [] h) (fun x2 h1 => (if am_kd h1 l0 = 3 then am_bI (am_ev 65 0 [.ref l0, .int l6, .int ((1 : Int32) + (l5 - l5 / (2 : Int32) * (2 : Int32))), .int x2, am_ph] [] h1) (fun x4 h3 => (if x4 = (-4 : Int32) then am_ev 101 159 [.ref l0, .int l1, am_ph, am_ph, am_ph, .int l5, am_ph, am_ph, am_ph] [.int (1 : Int32)] h3 else (if am_kd h3 l0 = 3 then am_bI (am_ev 71 0 [.ref l0, .int (3 : Int32)] [] h3) (fun x6 h5 => (if x4 = x6 then (if s0 = 0 then am_ev 101 159 [.ref l0, .int l1, am_ph, am_ph, am_ph, .int l5, am_ph, am_ph, am_ph] [.int (1 : Int32)] h5 else (if am_kd h5 l0 = 3 then am_bI (am_ev 71 0 [.ref l0, .int (4 : Int32)] [] h5) (fun x8 h7 => (if x8 = (1 : Int32) then am_ev 101 159 [.ref l0, .int l1, am_ph, am_ph, am_ph, .int l5, am_ph, am_ph, am_ph] [.int (1 : Int32)] h7 else am_ev 101 159 [.ref l0, .int l1, am_ph, am_ph, am_ph, .int l5, am_ph, am_ph, am_ph] [.int (0 : Int32)] h7)) else none)) else am_ev 101 159 [.ref l0, .int l1, am_ph, am_ph, am_ph, .int l5, am_ph, am_ph, am_ph] [.int (0 : Int32)] h5)) else none))) else none))) := (am_c2_eq am_m101 rfl [53, 97, 159] rfl 136 97 _ _ _).trans rfl
set_option maxRecDepth 100000 in
set_option maxHeartbeats 4000000 in
theorem am_b101_159 (l0 : Nat) (l1 : Int32) (l5 : Int32) (s0 : Int32) (h : AH) : am_ev 101 159 [.ref l0, .int l1, am_ph, am_ph, am_ph, .int l5, am_ph, am_ph, am_ph] [.int s0] h = (if am_kd h l0 = 3 then am_bI (am_ev 71 0 [.ref l0, .int (4 : Int32)] [] h) (fun x2 h1 => (if x2 = (1 : Int32) then (if s0 = 0 then am_ev 101 53 [.ref l0, .int l1, am_ph, am_ph, .int (0 : Int32), .int (l5 + (1 : Int32)), am_ph, am_ph, am_ph] [] h1 else (if am_kd h1 l0 = 3 then am_bI (am_ev 72 0 [.ref l0, .int (0 : Int32)] [] h1) (fun x4 h3 => (if am_kd h3 l0 = 3 then am_bI (am_ev 74 0 [.ref l0, .int (0 : Int32), .int (1 : Int32), am_ph, am_ph] [] h3) (fun x6 h5 => (if x6 < x4 then am_ev 101 53 [.ref l0, .int l1, am_ph, am_ph, .int (0 : Int32), .int (l5 + (1 : Int32)), am_ph, am_ph, am_ph] [] h5 else (if am_kd h5 l0 = 3 then am_bI (am_ev 72 0 [.ref l0, .int (1 : Int32)] [] h5) (fun x8 h7 => (if am_kd h7 l0 = 3 then am_bI (am_ev 74 0 [.ref l0, .int (1 : Int32), .int (1 : Int32), am_ph, am_ph] [] h7) (fun x10 h9 => (if x10 < x8 then am_ev 101 53 [.ref l0, .int l1, am_ph, am_ph, .int (0 : Int32), .int (l5 + (1 : Int32)), am_ph, am_ph, am_ph] [] h9 else (if am_kd h9 l0 = 3 then am_bI (am_ev 72 0 [.ref l0, .int (2 : Int32)] [] h9) (fun x12 h11 => (if am_kd h11 l0 = 3 then am_bI (am_ev 74 0 [.ref l0, .int (2 : Int32), .int (1 : Int32), am_ph, am_ph] [] h11) (fun x14 h13 => (if x14 < x12 then am_ev 101 53 [.ref l0, .int l1, am_ph, am_ph, .int (0 : Int32), .int (l5 + (1 : Int32)), am_ph, am_ph, am_ph] [] h13 else (if am_kd h13 l0 = 3 then am_bI (am_ev 71 0 [.ref l0, .int (5 : Int32)] [] h13) (fun x16 h15 => (if x16 = 0 then am_ev 101 53 [.ref l0, .int l1, am_ph, am_ph, .int (1 : Int32), .int (l5 + (1 : Int32)), am_ph, am_ph, am_ph] [] h15 else am_ev 101 53 [.ref l0, .int l1, am_ph, am_ph, .int (0 : Int32), .int (l5 + (1 : Int32)), am_ph, am_ph, am_ph] [] h15)) else none))) else none)) else none))) else none)) else none))) else none)) else none)) else am_ev 101 53 [.ref l0, .int l1, am_ph, am_ph, .int s0, .int (l5 + (1 : Int32)), am_ph, am_ph, am_ph] [] h1)) else none) := (am_c2_eq am_m101 rfl [53, 97, 159] rfl 136 159 _ _ _).trans rfl
set_option maxRecDepth 100000 in
set_option maxHeartbeats 4000000 in
theorem am_b102_0 (l0 : Nat) (l1 : Int32) (h : AH) : am_ev 102 0 [.ref l0, .int l1, am_ph, am_ph, am_ph, am_ph, am_ph, am_ph] [] h = (am_bI (am_ev 96 0 [.int l1, .int (100000 : Int32)] [] h) (fun x2 h1 => (if am_kd h1 l0 = 3 then am_bI (am_ev 67 0 [.ref l0, .int x2, am_ph] [] h1) (fun x4 h3 => (am_bI (am_ev 96 0 [.int (l1 >>> ((5 : Int32) &&& 31)), .int (40 : Int32)] [] h3) (fun x6 h5 => (if am_kd h5 l0 = 3 then am_bI (am_ev 66 0 [.ref l0, .int ((1 : Int32) + x6), am_ph, am_ph] [] h5) (fun x8 h7 => (if am_kd h7 l0 = 3 then am_bI (am_ev 71 0 [.ref l0, .int (0 : Int32)] [] h7) (fun x10 h9 => am_ev 102 39 [.ref l0, .int l1, .int x4, .int x8, .int (0 : Int32), .int x10, .int (0 : Int32), am_ph] [] h9) else none)) else none)))) else none))) := (am_c2_eq am_m102 rfl [39, 190] rfl 128 0 _ _ _).trans rfl
set_option maxRecDepth 100000 in
set_option maxHeartbeats 4000000 in
theorem am_b102_39 (l0 : Nat) (l1 : Int32) (l2 : Int32) (l3 : Int32) (l4 : Int32) (l5 : Int32) (l6 : Int32) (h : AH) : am_ev 102 39 [.ref l0, .int l1, .int l2, .int l3, .int l4, .int l5, .int l6, am_ph] [] h = (if l6 < ((2 : Int32) * l5) then (if l5 = 0 then none else (if l5 = 0 then none else (if am_kd h l0 = 3 then am_bI (am_ev 69 0 [.ref l0, .int (l6 / l5), .int (l6 - l6 / l5 * l5), .int (3 : Int32), am_ph] [] h) (fun x2 h1 => (if 0 < x2 then (if l5 = 0 then none else (if l5 = 0 then none else (if am_kd h1 l0 = 3 then am_bI (am_ev 69 0 [.ref l0, .int (l6 / l5), .int (l6 - l6 / l5 * l5), .int (2 : Int32), am_ph] [] h1) (fun x4 h3 => (if x4 = 0 then am_ev 102 39 [.ref l0, .int l1, .int (-1 : Int32), .int l3, .int (l4 + x2), .int l5, .int (l6 + (1 : Int32)), am_ph] [] h3 else am_ev 102 39 [.ref l0, .int l1, .int l2, .int l3, .int (l4 + x2), .int l5, .int (l6 + (1 : Int32)), am_ph] [] h3)) else none))) else am_ev 102 39 [.ref l0, .int l1, .int l2, .int l3, .int (l4 + x2), .int l5, .int (l6 + (1 : Int32)), am_ph] [] h1)) else none))) else (if l2 < 0 then am_ev 102 190 [.ref l0, am_ph, am_ph, am_ph, am_ph, am_ph, .int (0 : Int32), .int (0 : Int32)] [] h else (if am_kd h l0 = 3 then am_bI (am_ev 71 0 [.ref l0, .int (7 : Int32)] [] h) (fun x6 h5 => (if l4 = x6 then (am_bI (am_ev 96 0 [.int (l1 >>> ((5 : Int32) &&& 31)), .int (40 : Int32)] [] h5) (fun x8 h7 => (if l4 = ((1 : Int32) + x8) then (if l5 = 0 then none else (if l5 = 0 then none else (if am_kd h7 l0 = 3 then am_bI (am_ev 69 0 [.ref l0, .int (l3 / l5), .int (l3 - l3 / l5 * l5), .int (3 : Int32), am_ph] [] h7) (fun x10 h9 => (if 0 < x10 then (if am_kd h9 l0 = 3 then am_bI (am_ev 80 0 [.ref l0, am_ph] [] h9) (fun x12 h11 => (if x12 < 0 then am_ev 102 190 [.ref l0, am_ph, am_ph, am_ph, am_ph, am_ph, .int (0 : Int32), .int (0 : Int32)] [] h11 else (if am_kd h11 l0 = 3 then am_bI (am_ev 71 0 [.ref l0, .int (7 : Int32)] [] h11) (fun x14 h13 => (if x14 = 0 then (if am_kd h13 l0 = 3 then am_bI (am_ev 71 0 [.ref l0, .int (8 : Int32)] [] h13) (fun x16 h15 => (if x16 = (100000 : Int32) then am_ev 102 190 [.ref l0, am_ph, am_ph, am_ph, am_ph, am_ph, .int (1 : Int32), .int (0 : Int32)] [] h15 else am_ev 102 190 [.ref l0, am_ph, am_ph, am_ph, am_ph, am_ph, .int (0 : Int32), .int (0 : Int32)] [] h15)) else none) else am_ev 102 190 [.ref l0, am_ph, am_ph, am_ph, am_ph, am_ph, .int (0 : Int32), .int (0 : Int32)] [] h13)) else none))) else none) else am_ev 102 190 [.ref l0, am_ph, am_ph, am_ph, am_ph, am_ph, .int (0 : Int32), .int (0 : Int32)] [] h9)) else none))) else am_ev 102 190 [.ref l0, am_ph, am_ph, am_ph, am_ph, am_ph, .int (0 : Int32), .int (0 : Int32)] [] h7))) else am_ev 102 190 [.ref l0, am_ph, am_ph, am_ph, am_ph, am_ph, .int (0 : Int32), .int (0 : Int32)] [] h5)) else none))) := (am_c2_eq am_m102 rfl [39, 190] rfl 128 39 _ _ _).trans rfl
set_option maxRecDepth 100000 in
set_option maxHeartbeats 4000000 in
theorem am_b102_190 (l0 : Nat) (l6 : Int32) (l7 : Int32) (h : AH) : am_ev 102 190 [.ref l0, am_ph, am_ph, am_ph, am_ph, am_ph, .int l6, .int l7] [] h = (if am_kd h l0 = 3 then am_bI (am_ev 71 0 [.ref l0, .int (2 : Int32)] [] h) (fun x2 h1 => (if l7 < x2 then (if l6 = 0 then am_ev 102 190 [.ref l0, am_ph, am_ph, am_ph, am_ph, am_ph, .int (0 : Int32), .int (l7 + (1 : Int32))] [] h1 else (if am_kd h1 l0 = 3 then am_bI (am_ev 70 0 [.ref l0, .int l7, .int (4 : Int32)] [] h1) (fun x4 h3 => (if x4 = (1000000 : Int32) then am_ev 102 190 [.ref l0, am_ph, am_ph, am_ph, am_ph, am_ph, .int (1 : Int32), .int (l7 + (1 : Int32))] [] h3 else am_ev 102 190 [.ref l0, am_ph, am_ph, am_ph, am_ph, am_ph, .int (0 : Int32), .int (l7 + (1 : Int32))] [] h3)) else none)) else (if l6 = 0 ∨ l6 = 1 then some (some (.int l6), h1) else none))) else none) := (am_c2_eq am_m102 rfl [39, 190] rfl 128 190 _ _ _).trans rfl
set_option maxRecDepth 100000 in
set_option maxHeartbeats 4000000 in
theorem am_b162_0 (l0 : Int64) (l2 : Int64) (h : AH) : am_ev 162 0 [.long l0, am_ph, .long l2, am_ph, am_ph, am_ph] [] h = (if l2 = 0 then none else (if (lg_cmp (l0 ^^^ l2) (0 : Int64)) < 0 then (if (lg_cmp ((l0 / l2) * l2) l0) = 0 then some (some (.long (l0 / l2)), h) else some (some (.long ((l0 / l2) - (1 : Int64))), h)) else some (some (.long (l0 / l2)), h))) := (am_c2_eq am_m162 rfl [] rfl 24 0 _ _ _).trans rfl
set_option maxRecDepth 100000 in
set_option maxHeartbeats 4000000 in
theorem am_b163_0 (l0 : Int64) (l2 : Int64) (h : AH) : am_ev 163 0 [.long l0, am_ph, .long l2, am_ph] [] h = (if (lg_cmp l0 l2) < 0 then some (some (.long l2), h) else some (some (.long l0), h)) := (am_c2_eq am_m163 rfl [] rfl 10 0 _ _ _).trans rfl
set_option maxRecDepth 100000 in
set_option maxHeartbeats 4000000 in
theorem am_b164_0 (l0 : Int64) (l2 : Int64) (h : AH) : am_ev 164 0 [.long l0, am_ph, .long l2, am_ph] [] h = (if 0 < (lg_cmp l0 l2) then some (some (.long l2), h) else some (some (.long l0), h)) := (am_c2_eq am_m164 rfl [] rfl 10 0 _ _ _).trans rfl
set_option maxRecDepth 100000 in
set_option maxHeartbeats 4000000 in
theorem am_b165_0 (l0 : Nat) (h : AH) : am_ev 165 0 [.ref l0, am_ph, am_ph, am_ph, am_ph, am_ph, am_ph] [] h = (let h1 := am_nw h 3 6; (if am_kd h1 h.1.length = 3 then am_bV (am_ev 60 0 [.ref h.1.length] [] h1) (fun h2 => (let h3 := am_nw h2 3 6; (if am_kd h3 h2.1.length = 3 then am_bV (am_ev 60 0 [.ref h2.1.length] [] h3) (fun h4 => (am_bI (am_ev 95 0 [.ref l0, .int (0 : Int32)] [] h4) (fun x6 h5 => (am_bI (am_ev 96 0 [.int x6, .int (12 : Int32)] [] h5) (fun x8 h7 => (am_bI (am_ev 95 0 [.ref l0, .int (1 : Int32)] [] h7) (fun x10 h9 => (am_bI (am_ev 96 0 [.int x10, .int (2 : Int32)] [] h9) (fun x12 h11 => (if am_kd h11 h.1.length = 3 then am_bI (am_ev 61 0 [.ref h.1.length, .int ((2 : Int32) + x12), am_ph] [] h11) (fun x14 h13 => (if am_kd h13 h2.1.length = 3 then am_bI (am_ev 61 0 [.ref h2.1.length, .int ((2 : Int32) + x12), am_ph] [] h13) (fun x16 h15 => (if x14 = x16 then am_ev 165 65 [.ref l0, .ref h.1.length, .ref h2.1.length, .int x8, am_ph, .int (1 : Int32), .int (2 : Int32)] [] h15 else am_ev 165 65 [.ref l0, .ref h.1.length, .ref h2.1.length, .int x8, am_ph, .int (0 : Int32), .int (2 : Int32)] [] h15)) else none)) else none)))))))))) else none))) else none)) := (am_c2_eq am_m165 rfl [65, 140] rfl 102 0 _ _ _).trans rfl
set_option maxRecDepth 100000 in
set_option maxHeartbeats 4000000 in
theorem am_b165_65 (l0 : Nat) (l1 : Nat) (l2 : Nat) (l3 : Int32) (l5 : Int32) (l6 : Int32) (h : AH) : am_ev 165 65 [.ref l0, .ref l1, .ref l2, .int l3, am_ph, .int l5, .int l6] [] h = (if l6 < (38 : Int32) then (if l5 = 0 then am_ev 165 140 [.ref l0, .ref l1, .ref l2, .int l3, am_ph, .int l5, am_ph] [] h else (am_bI (am_ev 95 0 [.ref l0, .int l6] [] h) (fun x2 h1 => (am_bI (am_ev 99 0 [.ref l1, .ref l2, .int l3, .int x2, am_ph, am_ph, am_ph, am_ph, am_ph, am_ph] [] h1) (fun x4 h3 => (if x4 = 0 then am_ev 165 65 [.ref l0, .ref l1, .ref l2, .int l3, am_ph, .int (0 : Int32), .int (l6 + (1 : Int32))] [] h3 else (if 0 < (l6 - l6 / (18 : Int32) * (18 : Int32)) then am_ev 165 65 [.ref l0, .ref l1, .ref l2, .int l3, am_ph, .int (1 : Int32), .int (l6 + (1 : Int32))] [] h3 else (am_bI (am_ev 95 0 [.ref l0, .int l6] [] h3) (fun x6 h5 => (am_bI (am_ev 96 0 [.int (x6 >>> ((9 : Int32) &&& 31)), .int (100 : Int32)] [] h5) (fun x8 h7 => (am_bI (am_ev 100 0 [.ref l1, .ref l2, .int l3, .int x8, am_ph, am_ph, am_ph, am_ph, am_ph, am_ph, am_ph, am_ph] [] h7) (fun x10 h9 => (if x10 = 0 then am_ev 165 65 [.ref l0, .ref l1, .ref l2, .int l3, am_ph, .int (0 : Int32), .int (l6 + (1 : Int32))] [] h9 else am_ev 165 65 [.ref l0, .ref l1, .ref l2, .int l3, am_ph, .int (1 : Int32), .int (l6 + (1 : Int32))] [] h9)))))))))))))) else am_ev 165 140 [.ref l0, .ref l1, .ref l2, .int l3, am_ph, .int l5, am_ph] [] h) := (am_c2_eq am_m165 rfl [65, 140] rfl 102 65 _ _ _).trans rfl
set_option maxRecDepth 100000 in
set_option maxHeartbeats 4000000 in
theorem am_b165_140 (l0 : Nat) (l1 : Nat) (l2 : Nat) (l3 : Int32) (l5 : Int32) (h : AH) : am_ev 165 140 [.ref l0, .ref l1, .ref l2, .int l3, am_ph, .int l5, am_ph] [] h = (if l5 = 0 then some (some (.int (0 : Int32)), h) else (am_bI (am_ev 95 0 [.ref l0, .int (40 : Int32)] [] h) (fun x2 h1 => (am_bI (am_ev 96 0 [.int x2, .int (100 : Int32)] [] h1) (fun x4 h3 => (am_bI (am_ev 100 0 [.ref l1, .ref l2, .int l3, .int x4, am_ph, am_ph, am_ph, am_ph, am_ph, am_ph, am_ph, am_ph] [] h3) (fun x6 h5 => (if x6 = 0 then some (some (.int (0 : Int32)), h5) else (am_bI (am_ev 95 0 [.ref l0, .int (38 : Int32)] [] h5) (fun x8 h7 => (am_bI (am_ev 101 0 [.ref l1, .int x8, am_ph, am_ph, am_ph, am_ph, am_ph, am_ph, am_ph] [] h7) (fun x10 h9 => (if x10 = 0 then some (some (.int (0 : Int32)), h9) else (am_bI (am_ev 95 0 [.ref l0, .int (39 : Int32)] [] h9) (fun x12 h11 => (am_bI (am_ev 102 0 [.ref l1, .int x12, am_ph, am_ph, am_ph, am_ph, am_ph, am_ph] [] h11) (fun x14 h13 => (if x14 = 0 then some (some (.int (0 : Int32)), h13) else some (some (.int (1 : Int32)), h13))))))))))))))))))) := (am_c2_eq am_m165 rfl [65, 140] rfl 102 140 _ _ _).trans rfl
end
section
/-! ===== the small machine's tables against the claim's own: the bytes, the words ===== -/
/-- of a method: its name, bytes, locals, what it returns, the frames and words of locals below it, whether it is static, its parameters -/
abbrev SP : Type := MethodName × ByteArray × Nat × Option FieldType × Nat × Nat × Bool × Nat
def sm_fts : List (List Nat) := [[0, 0, 1, 1, 1, 1, 1, 1, 1, 0, 1], [0, 0, 1, 1, 0, 0, 0, 0, 2], [0, 0, 1, 1, 1], [1, 1, 1, 1, 1, 0]]
def sm_ft (c k : Nat) : Nat := (sm_fts.getD c []).getD k 0
def sm_cn (c : Nat) : String := match c with
  | 0 => RX0
  | 1 => RX1
  | 2 => RX2
  | 3 => RX3
  | _ => RX4
def sm_len : Instr → Nat
  | .bipush _ => 2
  | .ldc _ => 2
  | .iload _ => 2
  | .lload _ => 2
  | .aload _ => 2
  | .istore _ => 2
  | .lstore _ => 2
  | .astore _ => 2
  | .newarray _ => 2
  | .sipush _ => 3
  | .ldc2_w _ => 3
  | .iinc _ _ => 3
  | .ifCond _ _ => 3
  | .if_icmp _ _ => 3
  | .ifnonnull _ => 3
  | .goto _ => 3
  | .getfield _ => 3
  | .putfield _ => 3
  | .new _ => 3
  | .anewarray _ => 3
  | .invokevirtual _ => 3
  | .invokespecial _ => 3
  | .invokestatic _ => 3
  | .tableswitch .. => 0
  | _ => 1
def sm_Ps0 : List SP := [(yX0_init, cX0_init, 1, none, 1, 20, false, 0), (yX0_workedOut, cX0_workedOut, 3, (some (.object "ObedientDice$Extremes")), 5, 129, false, 1), (yX0_has, cX0_has, 2, (some .boolean), 0, 0, false, 1), (yX0_weight, cX0_weight, 4, (some .long), 0, 0, false, 2), (yX0_weightSum, cX0_weightSum, 2, (some .long), 0, 0, false, 1), (yX0_toldCells, cX0_toldCells, 4, (some .int), 1, 23, false, 1), (yX0_tightInequalities, cX0_tightInequalities, 2, (some .int), 1, 21, false, 1), (yX0_everTold, cX0_everTold, 3, (some .int), 2, 46, false, 0), (yX0_pointsBy, cX0_pointsBy, 7, (some .long), 3, 65, false, 3), (yX0_bestFor, cX0_bestFor, 9, (some .int), 4, 91, false, 2), (yX0_tightOf, cX0_tightOf, 2, (some .int), 0, 0, false, 1), (yX0_slackOf, cX0_slackOf, 2, (some .long), 0, 0, false, 1), (yX0_startWithSingleCells, cX0_startWithSingleCells, 6, none, 1, 23, false, 1), (yX0_cutWith, cX0_cutWith, 5, none, 4, 105, false, 2), (yX0_addNeighboursBelow, cX0_addNeighboursBelow, 4, none, 3, 82, false, 2), (yX0_takeSlacks, cX0_takeSlacks, 7, none, 3, 71, false, 2)]
def sm_Ps1 : List SP := [(yX0_areNeighbours, cX0_areNeighbours, 5, (some .boolean), 1, 21, false, 2), (yX0_keep, cX0_keep, 5, none, 1, 23, false, 2), (yX0_addBetween, cX0_addBetween, 10, none, 2, 53, false, 3), (yX0_mixedAtCut, cX0_mixedAtCut, 4, (some .long), 1, 23, false, 3), (yX0_startOfNext, cX0_startOfNext, 1, (some .int), 0, 0, false, 0), (yX0_setNext, cX0_setNext, 4, none, 0, 0, false, 2), (yX0_finishNext, cX0_finishNext, 2, none, 0, 0, false, 1), (yX0_turnToNext, cX0_turnToNext, 3, none, 0, 0, false, 0), (yX0_sumUp, cX0_sumUp, 5, none, 1, 23, false, 0), (yX0_sort, cX0_sort, 3, none, 2, 50, false, 0), (yX0_comesBefore, cX0_comesBefore, 8, (some .boolean), 1, 23, false, 2), (yX0_exchange, cX0_exchange, 6, none, 0, 0, false, 2), (yX0_commonDivisor, cX0_commonDivisor, 11, (some .long), 1, 23, true, 2), (yX1_init, cX1_init, 1, none, 1, 20, false, 0), (yL_up, cL_up, 2, (some .int), 0, 0, true, 2), (yL_up, cL_up, 2, (some .int), 0, 0, true, 2)]
def sm_Ps2 : List SP := [(yL_up, cL_up, 2, (some .int), 0, 0, true, 2), (yL_up, cL_up, 2, (some .int), 0, 0, true, 2), (yL_up, cL_up, 2, (some .int), 0, 0, true, 2), (yL_up, cL_up, 2, (some .int), 0, 0, true, 2), (yL_up, cL_up, 2, (some .int), 0, 0, true, 2), (yL_up, cL_up, 2, (some .int), 0, 0, true, 2), (yL_up, cL_up, 2, (some .int), 0, 0, true, 2), (yL_up, cL_up, 2, (some .int), 0, 0, true, 2), (yX2_init, cX2_init, 1, none, 2, 44, false, 0), (yX2_startAnew, cX2_startAnew, 2, none, 1, 23, false, 1), (yX2_copyFrom, cX2_copyFrom, 2, none, 1, 26, false, 1), (yX2_isSameGame, cX2_isSameGame, 4, (some .boolean), 1, 21, false, 2), (yX2_cells, cX2_cells, 1, (some .int), 0, 0, false, 0), (yX2_cellAt, cX2_cellAt, 3, (some .int), 0, 0, false, 2), (yX2_moveIn, cX2_moveIn, 4, (some .int), 0, 0, false, 2), (yX2_gain, cX2_gain, 3, (some .int), 1, 21, false, 2)]
def sm_Ps3 : List SP := [(yX2_setGain, cX2_setGain, 4, none, 1, 22, false, 3), (yX2_gainForOneOrBoth, cX2_gainForOneOrBoth, 3, (some .int), 2, 43, false, 2), (yX2_pointsBy, cX2_pointsBy, 5, (some .int), 3, 65, false, 2), (yX2_inequalities, cX2_inequalities, 1, (some .int), 0, 0, false, 0), (yX2_playerOf, cX2_playerOf, 2, (some .int), 0, 0, false, 1), (yX2_toldMove, cX2_toldMove, 2, (some .int), 0, 0, false, 1), (yX2_otherMove, cX2_otherMove, 4, (some .int), 1, 21, false, 1), (yX2_loss, cX2_loss, 8, (some .int), 2, 44, false, 2), (yX2_leftSide, cX2_leftSide, 5, (some .int), 3, 71, false, 2), (yX2_brokenInequalities, cX2_brokenInequalities, 3, (some .int), 4, 95, false, 0), (yX2_isSure, cX2_isSure, 3, (some .boolean), 3, 71, false, 1), (yX2_throwDice, cX2_throwDice, 5, (some .int), 1, 25, false, 0), (yX3_init, cX3_init, 1, none, 3, 64, false, 0), (yX3_begin, cX3_begin, 3, (some .int), 4, 85, false, 1), (yX3_points, cX3_points, 7, (some .int), 4, 85, false, 4), (yX3_weigh, cX3_weigh, 6, (some .int), 4, 85, false, 3)]
def sm_Ps4 : List SP := [(yX3_take, cX3_take, 3, (some .int), 6, 151, false, 1), (yX3_mix, cX3_mix, 5, (some .int), 6, 151, false, 3), (yX3_roll, cX3_roll, 4, (some .int), 4, 85, false, 1), (yX3_forget, cX3_forget, 3, (some .int), 4, 85, false, 1), (yL_up, cL_up, 2, (some .int), 0, 0, true, 2), (yX3_cell, cX3_cell, 5, (some .int), 6, 151, false, 3), (yX3_inequality, cX3_inequality, 3, (some .int), 4, 95, false, 2), (yX3_count, cX3_count, 2, (some .int), 6, 151, false, 1), (yX3_worth, cX3_worth, 2, (some .int), 4, 89, false, 1), (yX3_extreme, cX3_extreme, 4, (some .int), 6, 151, false, 2), (yX3_best, cX3_best, 5, (some .int), 6, 151, false, 2), (yX3_neverTold, cX3_neverTold, 5, (some .int), 6, 151, false, 1), (yL_up, cL_up, 2, (some .int), 0, 0, true, 2), (yL_up, cL_up, 2, (some .int), 0, 0, true, 2), (yL_up, cL_up, 2, (some .int), 0, 0, true, 2), (yL_up, cL_up, 2, (some .int), 0, 0, true, 2)]
def sm_Ps5 : List SP := [(yX3_undo, cX3_undo, 2, (some .int), 2, 47, false, 0), (yL_up, cL_up, 2, (some .int), 0, 0, true, 2), (yL_up, cL_up, 2, (some .int), 0, 0, true, 2), (yX3_isPlayer, cX3_isPlayer, 1, (some .boolean), 0, 0, true, 1), (yX3_isPlayerOrBoth, cX3_isPlayerOrBoth, 1, (some .boolean), 1, 20, true, 1), (yX3_isCell, cX3_isCell, 3, (some .boolean), 0, 0, false, 2), (yX3_mixWith, cX3_mixWith, 6, (some .int), 4, 85, false, 4), (yX3_mixedWeight, cX3_mixedWeight, 6, (some .long), 1, 23, false, 5), (yX3_thousandths, cX3_thousandths, 4, (some .int), 1, 25, true, 2), (yX3_recordChange, cX3_recordChange, 2, none, 3, 64, false, 0), (yX3_dropOldestChange, cX3_dropOldestChange, 3, none, 0, 0, false, 0), (yX3_amount, cX3_amount, 2, (some .int), 0, 0, true, 2), (yX3_setAmount, cX3_setAmount, 3, none, 0, 0, true, 3), (yX3_fillAmounts, cX3_fillAmounts, 4, none, 0, 0, true, 3), (yX3_sumOf, cX3_sumOf, 6, (some .int), 0, 0, true, 1), (yL_cell, cL_cell, 2, (some .int), 0, 0, true, 2)]
def sm_Ps6 : List SP := [(yL_up, cL_up, 2, (some .int), 0, 0, true, 2), (yL_row, cL_row, 2, (some .int), 0, 0, true, 2), (yL_column, cL_column, 4, (some .int), 0, 0, true, 3), (yL_isStep, cL_isStep, 10, (some .boolean), 7, 172, true, 4), (yL_areAlike, cL_areAlike, 12, (some .boolean), 7, 175, true, 4), (yL_isMixed, cL_isMixed, 9, (some .boolean), 7, 175, true, 2), (yL_isThrown, cL_isThrown, 8, (some .boolean), 7, 175, true, 2), (yL_up, cL_up, 2, (some .int), 0, 0, true, 2), (yL_up, cL_up, 2, (some .int), 0, 0, true, 2), (yL_up, cL_up, 2, (some .int), 0, 0, true, 2), (yL_up, cL_up, 2, (some .int), 0, 0, true, 2), (yL_up, cL_up, 2, (some .int), 0, 0, true, 2), (yL_up, cL_up, 2, (some .int), 0, 0, true, 2), (yL_up, cL_up, 2, (some .int), 0, 0, true, 2), (yL_up, cL_up, 2, (some .int), 0, 0, true, 2), (yL_up, cL_up, 2, (some .int), 0, 0, true, 2)]
def sm_Ps7 : List SP := [(yL_up, cL_up, 2, (some .int), 0, 0, true, 2), (yL_up, cL_up, 2, (some .int), 0, 0, true, 2), (yL_up, cL_up, 2, (some .int), 0, 0, true, 2), (yL_up, cL_up, 2, (some .int), 0, 0, true, 2), (yL_up, cL_up, 2, (some .int), 0, 0, true, 2), (yL_up, cL_up, 2, (some .int), 0, 0, true, 2), (yL_up, cL_up, 2, (some .int), 0, 0, true, 2), (yL_up, cL_up, 2, (some .int), 0, 0, true, 2), (yL_up, cL_up, 2, (some .int), 0, 0, true, 2), (yL_up, cL_up, 2, (some .int), 0, 0, true, 2), (yL_up, cL_up, 2, (some .int), 0, 0, true, 2), (yL_up, cL_up, 2, (some .int), 0, 0, true, 2), (yL_up, cL_up, 2, (some .int), 0, 0, true, 2), (yL_up, cL_up, 2, (some .int), 0, 0, true, 2), (yL_up, cL_up, 2, (some .int), 0, 0, true, 2), (yL_up, cL_up, 2, (some .int), 0, 0, true, 2)]
def sm_Ps8 : List SP := [(yL_up, cL_up, 2, (some .int), 0, 0, true, 2), (yL_up, cL_up, 2, (some .int), 0, 0, true, 2), (yL_up, cL_up, 2, (some .int), 0, 0, true, 2), (yL_up, cL_up, 2, (some .int), 0, 0, true, 2), (yL_up, cL_up, 2, (some .int), 0, 0, true, 2), (yL_up, cL_up, 2, (some .int), 0, 0, true, 2), (yL_up, cL_up, 2, (some .int), 0, 0, true, 2), (yL_up, cL_up, 2, (some .int), 0, 0, true, 2), (yL_up, cL_up, 2, (some .int), 0, 0, true, 2), (yL_up, cL_up, 2, (some .int), 0, 0, true, 2), (yL_up, cL_up, 2, (some .int), 0, 0, true, 2), (yL_up, cL_up, 2, (some .int), 0, 0, true, 2), (yL_up, cL_up, 2, (some .int), 0, 0, true, 2), (yL_up, cL_up, 2, (some .int), 0, 0, true, 2), (yL_up, cL_up, 2, (some .int), 0, 0, true, 2), (yL_up, cL_up, 2, (some .int), 0, 0, true, 2)]
def sm_Ps9 : List SP := [(yL_up, cL_up, 2, (some .int), 0, 0, true, 2), (yL_up, cL_up, 2, (some .int), 0, 0, true, 2), (yL_up, cL_up, 2, (some .int), 0, 0, true, 2), (yL_up, cL_up, 2, (some .int), 0, 0, true, 2), (yL_up, cL_up, 2, (some .int), 0, 0, true, 2), (yL_up, cL_up, 2, (some .int), 0, 0, true, 2), (yL_up, cL_up, 2, (some .int), 0, 0, true, 2), (yL_up, cL_up, 2, (some .int), 0, 0, true, 2), (yL_up, cL_up, 2, (some .int), 0, 0, true, 2), (yL_up, cL_up, 2, (some .int), 0, 0, true, 2), (yL_up, cL_up, 2, (some .int), 0, 0, true, 2), (yL_up, cL_up, 2, (some .int), 0, 0, true, 2), (yL_up, cL_up, 2, (some .int), 0, 0, true, 2), (yL_up, cL_up, 2, (some .int), 0, 0, true, 2), (yL_up, cL_up, 2, (some .int), 0, 0, true, 2), (yL_up, cL_up, 2, (some .int), 0, 0, true, 2)]
def sm_Ps10 : List SP := [(yL_up, cL_up, 2, (some .int), 0, 0, true, 2), (yL_up, cL_up, 2, (some .int), 0, 0, true, 2), (yJ9_floorDiv_f86c9, cJ9_floorDiv_f86c9, 6, (some .long), 0, 0, true, 2), (yJ9_max_f86c9, cJ9_max_f86c9, 4, (some .long), 0, 0, true, 2), (yJ9_min_f86c9, cJ9_min_f86c9, 4, (some .long), 0, 0, true, 2), (yL_law, cL_law, 7, (some .boolean), 8, 206, true, 1)]
def sm_P (i : Nat) : SP := bif Nat.blt i 16 then sm_Ps0.getD (i - 0) (yL_law, code, 0, none, 0, 0, true, 0) else bif Nat.blt i 32 then sm_Ps1.getD (i - 16) (yL_law, code, 0, none, 0, 0, true, 0) else bif Nat.blt i 48 then sm_Ps2.getD (i - 32) (yL_law, code, 0, none, 0, 0, true, 0) else bif Nat.blt i 64 then sm_Ps3.getD (i - 48) (yL_law, code, 0, none, 0, 0, true, 0) else bif Nat.blt i 80 then sm_Ps4.getD (i - 64) (yL_law, code, 0, none, 0, 0, true, 0) else bif Nat.blt i 96 then sm_Ps5.getD (i - 80) (yL_law, code, 0, none, 0, 0, true, 0) else bif Nat.blt i 112 then sm_Ps6.getD (i - 96) (yL_law, code, 0, none, 0, 0, true, 0) else bif Nat.blt i 128 then sm_Ps7.getD (i - 112) (yL_law, code, 0, none, 0, 0, true, 0) else bif Nat.blt i 144 then sm_Ps8.getD (i - 128) (yL_law, code, 0, none, 0, 0, true, 0) else bif Nat.blt i 160 then sm_Ps9.getD (i - 144) (yL_law, code, 0, none, 0, 0, true, 0) else bif Nat.blt i 176 then sm_Ps10.getD (i - 160) (yL_law, code, 0, none, 0, 0, true, 0) else (yL_law, code, 0, none, 0, 0, true, 0)
def sm_jB (pc : Nat) (off : Int) (ts : List Nat) : Bool := match ts with
  | [t] => decide ((pc : Int) + off = (t : Int))
  | _ => false
def sm_fB (own : String) (idx : Nat) (ci k ft p : Nat) : Bool := match vwCl[ci]? with
  | some r => decide (k < r.2.2) && (decide (lw_tbl[p]? = some (Cond.fieldLink own idx (r.2.1 k).1 (r.2.1 k).2.1 (r.2.1 k).2.2.1)) && decide (ft = sm_ft ci k))
  | none => false
def sm_wB (ini : Bool) (own : String) (ci k : Nat) : Bool := match vwCl[ci]? with
  | some r => decide ((r.2.1 k).2.2.2 = false) || (ini && (decide ((r.2.1 k).2.2.2 = true) && decide ((r.2.1 k).1 = own)))
  | none => false
def sm_lB (own : String) (idx : Nat) (y : MethodName) (p : Nat) : Bool := decide (lw_tbl[p]? = some (Cond.methodLink own idx y)) || decide (lw_tbl[p]? = some (Cond.methodLinkNest own idx y "ObedientDice"))
def sm_rB (rk : Nat) (r : Option FieldType) : Bool := match rk, r with
  | 0, none => true
  | 1, some .int => true
  | 2, some .boolean => true
  | 3, some .long => true
  | 4, some (.object _) => true
  | _, _ => false
/-- a call's numbers against the callee's row -/
def sm_cB (own : String) (fr lo idx mi na rk nL p : Nat) : Bool := decide (mi < 165) && (sm_lB own idx (sm_P mi).1 p && (decide ((sm_P mi).2.2.2.2.2.2.2 = na) && (sm_rB rk (sm_P mi).2.2.2.1 && (decide ((sm_P mi).2.2.1 = nL) && (decide ((sm_P mi).2.2.2.2.1 + 1 ≤ fr) && decide (8 + (nL + 11) + (sm_P mi).2.2.2.2.2.1 ≤ lo))))))
def sm_opB (own : String) (ini : Bool) (fr lo pc : Nat) (i : Instr) (ts : List Nat) (cv : Int32) (cj : Int64) (p : Nat) : Bool := match i with
  | .iconst m => decide (Int32.ofInt m = cv)
  | .bipush m => decide ((Int8.ofInt m).toInt32 = cv)
  | .sipush m => decide ((Int16.ofInt m).toInt32 = cv)
  | .lconst m => decide (Int64.ofNat (m : Nat) = cj)
  | .iinc _ m => decide (Int32.ofInt m = cv)
  | .ldc idx => decide (lw_tbl[p]? = some (Cond.constant own idx cv))
  | .ldc2_w idx => decide (lw_tbl[p]? = some (Cond.constantLong own idx cj))
  | .if_icmp _ off => sm_jB pc off ts
  | .ifCond _ off => sm_jB pc off ts
  | .ifnonnull off => sm_jB pc off ts
  | .goto off => sm_jB pc off ts
  | .tableswitch d lo hi offs => match ts with
    | k :: df :: r => decide (lo = (k : Int)) && (decide ((pc : Int) + d = (df : Int)) && (decide (offs.toList.map (fun o => (pc : Int) + o) = r.map (fun (t : Nat) => (t : Int))) && (decide (hi = (k : Int) + (r.length : Int) - 1) && decide (k + r.length < 1000))))
    | _ => false
  | .getfield idx => match ts with
    | [ci, k, ft] => sm_fB own idx ci k ft p
    | _ => false
  | .putfield idx => match ts with
    | [ci, k, ft] => sm_fB own idx ci k ft p && sm_wB ini own ci k
    | _ => false
  | .new idx => match ts with
    | [ci, nf] => (match vwCl[ci]? with
      | some r => decide (nf = r.2.2) && decide (lw_tbl[p]? = some (Cond.classLink own idx r.1))
      | none => false)
    | _ => false
  | .newarray t => match ts with
    | [5] => decide (newarray.typeOf t = .int)
    | [6] => decide (newarray.typeOf t = .long)
    | [7] => decide (newarray.typeOf t = .char)
    | _ => false
  | .anewarray idx => decide (lw_tbl[p]? = some (Cond.classLink own idx RX2))
  | .invokevirtual idx => match ts with
    | [mi, na, 0, rk, nL, rc] => sm_cB own fr lo idx mi na rk nL p && (decide ((sm_P mi).1.cls = sm_cn rc ∧ rc < 4) && (!(sm_P mi).2.2.2.2.2.2.1 && decide ((sm_P mi).1.name ≠ "<init>")))
    | _ => false
  | .invokespecial idx => match ts with
    | [mi, na, 0, rk, nL, rc] => sm_cB own fr lo idx mi na rk nL p && (decide (rk = 0) && (!(sm_P mi).2.2.2.2.2.2.1 && decide ((sm_P mi).1.name = "<init>")))
    | [2] => decide (lw_tbl[p]? = some (Cond.methodLink own idx objectInit)) && (decide (1 ≤ fr) && decide (20 ≤ lo))
    | _ => false
  | .invokestatic idx => match ts with
    | [mi, na, 1, rk, nL] => sm_cB own fr lo idx mi na rk nL p && (sm_P mi).2.2.2.2.2.2.1
    | [3, _] => decide (lw_tbl[p]? = some (Cond.methodLink own idx arraycopyName)) && (decide (1 ≤ fr) && decide (26 ≤ lo))
    | _ => false
  | _ => true
/-- an entry: the bytes say it, its numbers are right -/
def sm_eB (P : SP) (q : AE) (p : Nat) : Bool := (match decode P.2.1 q.1 with
  | .ok (i, l) => decide (i = q.2.1) && (decide (q.1 + l = q.2.2.1) && decide (sm_len i = 0 ∨ sm_len i = l))
  | _ => false) && sm_opB P.1.cls (decide (P.1.name = "<init>")) P.2.2.2.2.1 P.2.2.2.2.2.1 q.1 q.2.1 q.2.2.2.1 q.2.2.2.2.1 q.2.2.2.2.2 p
/-- a method's own words -/
def sm_mB (P : SP) (pc pi pk ps : Nat) : Bool := (decide (plainFor P.1 = true) && (decide (lw_tbl[pi]? = some (Cond.initialized P.1.cls)) && (decide (P.1.cls ≠ "java/lang/invoke/MethodHandle" ∧ P.1.cls ≠ "java/lang/invoke/VarHandle" ∧ (parseMethodDescriptor P.1.desc).map (fun d => d.parameters.length) = some P.2.2.2.2.2.2.2) && (bif P.2.2.2.2.2.2.1 then decide (lw_tbl[pk]? = some (Cond.static P.1)) else decide (lw_tbl[pk]? = some (Cond.instanceMethod P.1)) && (decide (P.1.name = "<init>") || decide (lw_tbl[ps]? = some (Cond.selects P.1.cls P.1 P.1)))))))
def sm_ps0 : List (List Nat) := [[0, 83, 0, 0, 84, 0, 0, 86, 0, 0, 0, 87, 0, 0, 0, 88, 0, 0, 0, 89, 0, 0, 0, 90, 0, 0, 0, 91, 0, 0, 0, 92, 0, 0, 0, 93, 0, 0, 94, 0, 0, 0, 95, 0], [0, 0, 94, 0, 95, 263, 0, 0, 0, 0, 0, 267, 268, 0, 0, 0, 0, 288, 0, 0, 0, 0, 289, 0, 0, 0, 343, 0, 347, 0, 0, 57, 94, 0, 61, 0, 0, 95, 0, 0, 363, 0, 0], [0, 0, 0, 0, 84, 0, 0, 0, 0, 0], [0, 0, 0, 0, 0, 0, 0, 0, 0, 0, 84, 0, 0, 0, 0, 0, 0, 0, 0, 87, 0, 0, 0, 0, 0, 87, 0, 0, 0], [0, 0, 0, 0, 92, 0, 0, 0, 0, 0, 92, 0, 0, 0], [0, 0, 0, 0, 0, 0, 0, 0, 0, 0, 301, 0, 0, 0, 0, 0, 0, 0, 0, 0, 0, 0, 0, 0], [0, 0, 314, 0, 0, 0], [0, 0, 0, 0, 0, 0, 84, 0, 0, 0, 0, 447, 0, 0, 0, 0, 0, 0], [0, 0, 0, 0, 0, 0, 267, 0, 0, 0, 0, 0, 301, 0, 0, 0, 432, 0, 0, 0, 0, 0, 0, 0, 0], [0, 0, 0, 0, 0, 0, 428, 0, 0, 0, 0, 0, 84, 0, 0, 0, 0, 0, 428, 0, 0, 0, 0, 355, 0, 0, 0, 0, 355, 0, 0, 0, 0, 0, 0, 0, 0, 0, 0, 0], [0, 0, 0, 0, 89, 0, 0, 0, 0, 0, 89, 0, 0, 0], [0, 0, 0, 0, 91, 0, 0, 0, 0, 0, 91, 0, 0, 0], [0, 0, 0, 0, 0, 0, 0, 0, 86, 0, 0, 0, 0, 0, 0, 272, 0, 0, 0, 0, 0, 0, 0, 0, 0, 0, 0, 0, 0, 0, 0, 0, 276, 0, 0, 0, 0, 0, 0, 0, 0, 0, 0, 280, 0, 0, 0, 284, 0], [0, 0, 0, 293, 0, 0, 0, 0, 0, 0, 0, 0, 86, 0, 0, 0, 0, 84, 0, 0, 0, 306, 0, 0, 0, 0, 0, 0, 0, 306, 0, 0, 0, 0, 0, 0, 310, 0, 0, 0, 0, 0, 0, 84, 0, 0, 0, 306, 0, 0, 0, 0, 0, 0, 318, 0, 0, 0, 284, 0], [0, 0, 0, 0, 84, 0, 0, 0, 306, 0, 0, 0, 0, 0, 0, 322, 0, 0, 0, 0, 0, 326, 0, 0, 0], [0, 0, 0, 0, 0, 0, 93, 0, 0, 0, 267, 0, 0, 0, 0, 297, 0, 0, 298, 0, 0, 0, 0, 0, 0, 84, 0, 0, 0, 91, 0, 0, 0, 0, 0, 0, 0, 0, 0, 0, 0, 0, 0, 301, 0, 93, 0, 305, 0, 0, 0, 0, 0, 0, 0, 91, 0, 0, 0, 0, 0, 0]]
def sm_ps1 : List (List Nat) := [[0, 0, 314, 0, 0, 314, 0, 0, 0, 0, 0, 0, 84, 0, 0, 0, 0, 0, 0, 0, 0, 0, 314, 0, 0, 0, 0, 0, 0, 0, 0, 0, 0], [0, 272, 0, 0, 0, 0, 0, 0, 0, 0, 0, 0, 0, 0, 0, 301, 276, 0, 0, 0, 0, 0, 314, 0, 0, 280, 0], [0, 272, 0, 0, 0, 0, 0, 0, 0, 0, 0, 0, 0, 0, 330, 0, 0, 0, 334, 0, 0, 0, 0, 0, 0, 0, 0, 0, 0, 0, 0, 330, 0, 0, 0, 0, 0, 0, 0, 0, 0, 0, 0, 0, 0, 0, 276, 0, 0, 0, 0, 0, 314, 0, 0, 314, 0, 0, 0, 280, 0], [0, 0, 306, 0, 0, 0, 301, 0, 0, 0, 306, 0, 0, 0, 301, 0, 0, 0], [0, 86, 0, 0, 0], [0, 0, 0, 0, 88, 0, 0, 0, 88, 0, 0, 0, 0], [0, 86, 0, 0, 86, 0, 90, 0, 0, 0, 90, 0, 86, 0, 0, 0, 0, 86, 0, 0, 86, 0], [0, 87, 0, 0, 0, 88, 87, 0, 0, 88, 0, 89, 0, 0, 0, 90, 89, 0, 0, 90, 0, 0, 86, 84, 0], [0, 0, 0, 0, 84, 0, 0, 0, 92, 0, 0, 0, 0, 0, 0, 0, 0, 0, 0, 0, 0, 0, 301, 0, 0, 0, 0, 0, 92, 0, 0, 0, 0, 0, 0], [0, 0, 0, 0, 84, 0, 0, 0, 0, 0, 0, 0, 0, 0, 0, 351, 0, 0, 0, 0, 0, 0, 359, 0, 0, 0, 0, 0], [0, 0, 0, 0, 0, 0, 0, 0, 301, 0, 0, 355, 0, 0, 0, 0, 0, 301, 0, 0, 355, 0, 0, 0, 0, 0, 0, 0, 0, 0, 0, 0, 0, 0, 0, 0, 0, 0, 0], [0, 0, 0, 0, 84, 0, 0, 0, 0, 0, 84, 0, 0, 84, 0, 0, 0, 0, 0, 0, 0, 0, 0, 87, 0, 0, 0, 0, 0, 0, 0, 0, 87, 0, 0, 0, 0, 0, 0, 87, 0, 0, 0, 0, 0, 0, 0, 0, 87, 0, 0, 0, 0, 0, 0, 0, 0, 0, 0, 89, 0, 0, 0, 0, 89, 0, 0, 89, 0, 0, 0, 0, 89, 0, 0, 0, 0, 92, 0, 0, 0, 0, 92, 0, 0, 92, 0, 0, 0, 0, 92, 0, 0, 0, 0], [0, 0, 337, 0, 0, 0, 340, 0, 0, 0, 0, 0, 0, 0, 0, 0, 0, 0, 0, 0, 0, 0, 0, 0, 0, 0, 0, 0, 0], [0, 125, 0, 0, 126, 0, 0, 128, 0, 0, 0, 129, 0, 0, 0, 130, 0, 0, 131, 0, 0, 132, 0, 0, 133, 0, 0, 134, 0, 0, 135, 0], [0, 203, 0, 0, 0, 0], [0, 203, 0, 0, 0, 0]]
def sm_ps2 : List (List Nat) := [[0, 203, 0, 0, 0, 0], [0, 203, 0, 0, 0, 0], [0, 203, 0, 0, 0, 0], [0, 203, 0, 0, 0, 0], [0, 203, 0, 0, 0, 0], [0, 203, 0, 0, 0, 0], [0, 203, 0, 0, 0, 0], [0, 203, 0, 0, 0, 0], [0, 43, 0, 0, 55, 0, 0, 58, 0, 0, 0, 60, 0, 0, 0, 62, 0, 0, 0, 64, 0, 0, 44, 0], [0, 0, 55, 0, 60, 0, 0, 48, 0, 62, 0, 51, 0, 48, 0, 64, 0, 0, 48, 0], [0, 0, 55, 55, 0, 0, 58, 58, 0, 60, 0, 0, 60, 0, 0, 192, 0, 62, 0, 0, 62, 0, 0, 192, 0, 64, 0, 0, 64, 0, 0, 192, 0], [0, 55, 0, 0, 0, 0, 0, 0, 0, 0, 0, 0, 60, 0, 228, 0, 0, 228, 0, 0, 0, 0, 0, 0, 0], [0, 0, 55, 0, 0], [0, 55, 0, 0, 0, 0, 0], [0, 0, 55, 0, 0, 0, 0, 0, 0, 0, 0, 0, 0, 0, 55, 0, 0, 0, 0], [0, 60, 0, 0, 0, 0, 0, 228, 0]]
def sm_ps3 : List (List Nat) := [[0, 60, 0, 0, 0, 0, 0, 0, 390, 0], [0, 0, 0, 0, 0, 0, 255, 0, 0, 0, 255, 0, 0, 0, 0, 0, 255, 0], [0, 0, 0, 0, 0, 0, 51, 0, 0, 0, 0, 228, 0, 0, 0, 368, 0, 0, 0, 0, 0, 0, 0], [0, 0, 55, 0, 55, 0, 0, 0, 0, 0], [0, 0, 0, 0, 0, 0, 0], [0, 0, 0, 0, 0, 0, 55, 0, 0, 0, 0, 0, 0, 0, 0, 0, 0, 0, 0], [0, 0, 243, 0, 0, 0, 0, 0, 55, 0, 0, 0, 0, 0, 0, 0, 0, 0, 0, 0, 0, 0, 0, 0, 0, 0, 0, 0, 0, 0], [0, 0, 235, 0, 0, 0, 0, 239, 0, 0, 243, 0, 0, 0, 0, 0, 0, 239, 0, 0, 0, 0, 239, 0, 0, 0, 247, 0, 0, 0, 0, 0, 0, 251, 0, 0, 0, 0, 251, 0, 0, 0, 0, 255, 0, 0, 0, 255, 0, 0], [0, 0, 0, 0, 0, 0, 51, 0, 0, 0, 0, 228, 0, 0, 0, 231, 0, 0, 0, 0, 0, 0, 0], [0, 0, 0, 0, 0, 0, 223, 0, 0, 0, 0, 62, 224, 0, 0, 0, 0, 0, 0], [0, 0, 0, 0, 223, 0, 0, 0, 0, 231, 0, 0, 0, 0, 0, 0, 0], [0, 0, 58, 0, 507, 0, 508, 0, 509, 0, 0, 58, 0, 62, 510, 0, 0, 0, 0, 0, 0, 58, 511, 0, 0, 0, 0, 0, 0, 0, 62, 0, 228, 0, 0, 0, 0, 0, 0, 51, 0, 0, 0, 0, 0, 0, 62, 0, 228, 0, 0, 0, 0, 64, 0, 0, 64, 0, 228, 0, 0, 390, 0, 0], [0, 35, 0, 38, 0, 40, 157, 0, 78, 0, 80, 158, 0, 120, 0, 122, 159, 0, 0, 38, 160, 0, 0, 38, 161, 0, 0, 162, 0], [0, 0, 0, 0, 0, 0, 0, 0, 0, 157, 56, 0, 0, 180, 0, 157, 0, 195, 0, 0], [0, 377, 0, 0, 0, 0, 380, 0, 0, 0, 0, 0, 0, 0, 0, 0, 0, 0, 0, 157, 0, 0, 384, 0, 0, 157, 0, 0, 385, 0, 0, 180, 0, 157, 0, 0, 0, 386, 0, 0, 0, 0], [0, 0, 0, 380, 0, 0, 0, 0, 0, 0, 0, 0, 0, 0, 0, 157, 0, 0, 384, 0, 0, 157, 63, 0, 401, 0, 0, 157, 63, 216, 0, 0, 0, 0, 0, 0, 0, 0, 180, 0, 157, 63, 0, 0, 402, 0, 0]]
def sm_ps4 : List (List Nat) := [[0, 158, 0, 157, 259, 0, 0, 0, 460, 0, 0, 0, 0, 0, 0, 0, 0, 477, 0], [0, 158, 0, 157, 259, 0, 0, 0, 460, 0, 0, 0, 0, 0, 0, 0, 0, 0, 0, 0, 0, 0, 0, 0, 0, 0, 0, 0, 0, 0, 0, 0, 0, 0, 0, 477, 0], [0, 0, 0, 0, 0, 0, 0, 0, 0, 157, 65, 216, 0, 0, 0, 0, 0, 0, 0, 180, 0, 0, 0, 0, 0, 0, 0, 0, 157, 503, 0, 0, 0, 0, 0], [0, 0, 0, 0, 0, 157, 65, 216, 0, 0, 180, 0, 157, 65, 0, 0, 498, 0, 157, 0, 59, 0, 0], [0, 203, 0, 0, 0, 0], [0, 0, 0, 380, 0, 0, 0, 0, 157, 0, 0, 384, 0, 0, 0, 0, 157, 0, 0, 385, 0, 0, 0, 0, 157, 63, 0, 401, 0, 0, 157, 65, 0, 401, 0, 0, 157, 0, 439, 0, 0, 0, 0, 0, 0, 158, 0, 157, 259, 443, 0, 0, 0, 0, 0, 0, 0], [0, 0, 0, 0, 157, 212, 0, 0, 0, 0, 0, 0, 157, 0, 520, 0, 0, 157, 0, 521, 0, 0, 157, 0, 522, 0, 0, 157, 0, 0, 157, 63, 523, 524, 0, 0, 524, 0, 157, 0, 0, 157, 65, 523, 0, 0, 0, 0], [0, 0, 0, 157, 56, 0, 0, 157, 211, 0, 0, 157, 212, 0, 0, 157, 63, 216, 0, 0, 157, 219, 0, 0, 0, 0, 0, 0, 157, 219, 0, 0, 158, 0, 157, 259, 85, 0, 0, 157, 65, 216, 0, 0, 157, 0, 157, 65, 0, 0, 0, 364, 372, 0, 0, 0, 157, 59, 0, 0, 159, 127, 0, 0, 162, 0, 0, 0], [0, 410, 0, 0, 0, 0, 157, 0, 157, 63, 0, 364, 0, 0, 157, 63, 216, 0, 413, 0], [0, 158, 0, 157, 259, 0, 0, 0, 460, 0, 0, 0, 0, 0, 0, 0, 157, 211, 0, 0, 0, 0, 464, 0, 0, 0, 0, 0, 0, 434, 0, 0, 0, 0, 465, 0, 0, 0, 466, 0, 0, 0], [0, 410, 0, 0, 0, 0, 0, 0, 0, 0, 0, 158, 0, 157, 259, 0, 0, 0, 157, 0, 424, 0, 0, 0, 0, 0, 0, 0, 157, 0, 0, 433, 0, 0, 434, 413, 0], [0, 377, 0, 0, 0, 0, 158, 0, 157, 259, 443, 0, 0, 0, 0, 0, 0, 0, 157, 211, 0, 0, 0, 0, 0, 0, 0, 0, 0, 0, 0, 157, 0, 0, 455, 0, 0, 0, 0, 0, 0, 0, 0, 0, 0, 0, 157, 56, 0, 0, 0, 0, 0, 0, 0, 0, 0, 0], [0, 203, 0, 0, 0, 0], [0, 203, 0, 0, 0, 0], [0, 203, 0, 0, 0, 0], [0, 203, 0, 0, 0, 0]]
def sm_ps5 : List (List Nat) := [[0, 162, 0, 0, 0, 162, 0, 160, 0, 0, 0, 0, 0, 160, 0, 162, 0, 0, 0, 0, 0, 0, 0, 0, 0, 157, 0, 188, 0, 0, 162, 0, 0, 162, 0, 162, 0], [0, 203, 0, 0, 0, 0], [0, 203, 0, 0, 0, 0], [0, 0, 0, 0, 0, 0, 0, 0, 0], [0, 377, 0, 0, 0, 0, 0, 0, 0, 0], [0, 0, 0, 0, 0, 0, 0, 0, 0, 157, 56, 0, 0, 0, 0, 0], [0, 0, 0, 0, 157, 211, 0, 0, 0, 0, 0, 0, 0, 481, 485, 0, 0, 0, 0, 0, 0, 0, 180, 0, 0, 0, 0, 157, 211, 0, 0, 157, 63, 0, 0, 0, 0, 0, 0, 0, 481, 0, 402, 0, 0, 0, 157, 63, 216, 0], [0, 0, 0, 157, 63, 0, 401, 0, 0, 0, 0, 0, 0, 0, 464, 0, 0, 0], [0, 0, 0, 0, 372, 0, 416, 0, 0, 0, 417, 0, 372, 0, 0], [0, 162, 0, 160, 0, 0, 0, 184, 0, 162, 0, 0, 162, 0, 160, 0, 0, 0, 0, 160, 0, 162, 0, 0, 0, 0, 38, 0, 40, 0, 0, 160, 0, 162, 0, 0, 0, 0, 157, 188, 0, 0, 162, 0, 0, 162, 0], [0, 160, 0, 0, 0, 0, 0, 0, 0, 160, 0, 0, 0, 160, 0, 0, 0, 0, 160, 0, 0, 0, 0, 0, 0, 160, 0, 160, 0, 0, 0, 0, 0, 0, 0, 160, 0, 0, 0, 162, 0], [0, 0, 0, 0, 0, 0, 0, 0, 0, 0, 0, 0], [0, 0, 0, 0, 0, 0, 0, 0, 0, 0, 0], [0, 0, 0, 0, 0, 0, 0, 0, 0, 0, 0, 0, 0, 0, 0, 0, 0, 0], [0, 0, 0, 0, 0, 0, 0, 0, 0, 0, 0, 0, 0, 0, 0, 0, 0, 0, 0, 0, 0, 0, 0, 0], [0, 0, 0, 0, 0, 0, 0, 0, 199, 0, 0, 0, 0, 0]]
def sm_ps6 : List (List Nat) := [[0, 203, 0, 0, 0, 0], [0, 0, 0, 0, 0, 0, 0, 0, 0, 0], [0, 0, 0, 0, 0, 0, 0, 0, 0, 0, 0, 0, 0, 0, 0, 0, 0, 0, 0], [0, 0, 0, 0, 0, 0, 207, 0, 0, 0, 200, 0, 0, 0, 0, 0, 200, 0, 0, 0, 200, 0, 0, 0, 0, 0, 200, 0, 0, 0, 0, 0, 200, 0, 0, 0, 0, 0, 0, 0, 0, 373, 0, 0, 0, 0, 391, 0, 0, 0, 394, 0, 373, 0, 0, 0, 0, 0, 0, 0, 0, 0, 0, 0, 0, 200, 397, 0, 0, 0, 391, 0, 0, 0, 394, 0, 0, 0, 0, 200, 397, 0, 0, 0, 0, 0], [0, 0, 207, 0, 0, 0, 207, 0, 0, 0, 0, 207, 0, 0, 0, 207, 0, 0, 207, 0, 0, 0, 207, 0, 0, 207, 0, 0, 0, 207, 0, 0, 207, 0, 0, 0, 0, 0, 0, 0, 0, 0, 0, 0, 0, 0, 0, 406, 0, 0, 406, 0, 0, 0, 0, 420, 0, 0, 0, 420, 0, 0, 0, 0, 0, 0, 0, 0, 0, 0, 0, 0, 0, 0, 0, 0, 0, 0, 0, 0, 0, 0, 0, 0, 0, 0, 0, 0, 435, 0, 0, 0, 391, 0, 0, 0, 394, 0, 435, 0, 0, 0, 0, 0, 0, 0, 0, 0, 0, 0, 0, 0, 0, 0, 0, 0, 0, 0, 0, 451, 0, 0, 0, 0, 0, 0, 451, 0, 0, 391, 0, 0, 0, 0, 0, 0, 0, 0, 0, 0, 0, 0, 0, 0, 0, 0, 0, 0, 0, 451, 0, 0, 0, 0, 0, 0, 451, 0, 0, 0, 394, 0, 0, 0, 0, 0, 0, 0, 0, 0, 0, 0, 0, 0, 0, 0, 0, 0, 0, 0, 0, 0, 0, 0, 0, 0, 0, 0, 0, 0, 0, 0, 0, 0, 0, 0, 456, 0, 0, 0, 456, 0, 0, 0, 0, 0, 0, 0, 0, 0, 0, 0, 0, 0, 0, 0, 0, 0, 456, 0, 0, 0, 0, 0, 0, 0, 391, 0, 0, 0, 0, 0, 0, 394, 0, 456, 0, 0, 0, 0, 0, 0, 0, 0, 0, 0, 0, 0, 0, 0, 0], [0, 0, 0, 207, 200, 0, 0, 0, 473, 0, 0, 0, 0, 0, 0, 0, 0, 456, 0, 0, 0, 207, 0, 0, 0, 0, 0, 0, 0, 0, 0, 0, 0, 0, 0, 0, 0, 0, 0, 0, 0, 0, 0, 0, 207, 200, 0, 0, 0, 207, 0, 0, 0, 0, 0, 0, 0, 0, 0, 0, 0, 0, 0, 0, 0, 0, 0, 0, 0, 200, 486, 0, 0, 0, 0, 0, 0, 0, 207, 0, 0, 0, 0, 0, 207, 0, 0, 0, 0, 0, 0, 0, 0, 207, 0, 0, 0, 0, 0, 0, 406, 0, 0, 0, 420, 0, 0, 0, 406, 0, 0, 0, 420, 0, 0, 0, 406, 0, 0, 0, 420, 0, 0, 0, 207, 0, 0, 0, 0, 0, 0, 0, 0, 0], [0, 0, 493, 200, 494, 0, 0, 0, 0, 0, 0, 0, 200, 0, 499, 0, 0, 0, 0, 0, 207, 0, 0, 0, 0, 0, 0, 0, 0, 0, 0, 0, 0, 0, 0, 0, 0, 435, 0, 0, 0, 0, 0, 0, 0, 0, 0, 0, 0, 0, 0, 0, 0, 435, 0, 0, 0, 0, 0, 0, 0, 0, 0, 0, 0, 0, 207, 0, 0, 0, 0, 0, 0, 0, 200, 0, 0, 0, 0, 0, 0, 0, 0, 0, 0, 435, 0, 0, 512, 0, 0, 0, 207, 0, 0, 0, 207, 493, 0, 0, 0, 0, 0, 0, 0, 0, 0, 0, 207, 0, 0, 0, 0, 0, 0, 516, 525, 0, 0, 0, 0, 0, 0, 0, 0, 0], [0, 203, 0, 0, 0, 0], [0, 203, 0, 0, 0, 0], [0, 203, 0, 0, 0, 0], [0, 203, 0, 0, 0, 0], [0, 203, 0, 0, 0, 0], [0, 203, 0, 0, 0, 0], [0, 203, 0, 0, 0, 0], [0, 203, 0, 0, 0, 0], [0, 203, 0, 0, 0, 0]]
def sm_ps7 : List (List Nat) := [[0, 203, 0, 0, 0, 0], [0, 203, 0, 0, 0, 0], [0, 203, 0, 0, 0, 0], [0, 203, 0, 0, 0, 0], [0, 203, 0, 0, 0, 0], [0, 203, 0, 0, 0, 0], [0, 203, 0, 0, 0, 0], [0, 203, 0, 0, 0, 0], [0, 203, 0, 0, 0, 0], [0, 203, 0, 0, 0, 0], [0, 203, 0, 0, 0, 0], [0, 203, 0, 0, 0, 0], [0, 203, 0, 0, 0, 0], [0, 203, 0, 0, 0, 0], [0, 203, 0, 0, 0, 0], [0, 203, 0, 0, 0, 0]]
def sm_ps8 : List (List Nat) := [[0, 203, 0, 0, 0, 0], [0, 203, 0, 0, 0, 0], [0, 203, 0, 0, 0, 0], [0, 203, 0, 0, 0, 0], [0, 203, 0, 0, 0, 0], [0, 203, 0, 0, 0, 0], [0, 203, 0, 0, 0, 0], [0, 203, 0, 0, 0, 0], [0, 203, 0, 0, 0, 0], [0, 203, 0, 0, 0, 0], [0, 203, 0, 0, 0, 0], [0, 203, 0, 0, 0, 0], [0, 203, 0, 0, 0, 0], [0, 203, 0, 0, 0, 0], [0, 203, 0, 0, 0, 0], [0, 203, 0, 0, 0, 0]]
def sm_ps9 : List (List Nat) := [[0, 203, 0, 0, 0, 0], [0, 203, 0, 0, 0, 0], [0, 203, 0, 0, 0, 0], [0, 203, 0, 0, 0, 0], [0, 203, 0, 0, 0, 0], [0, 203, 0, 0, 0, 0], [0, 203, 0, 0, 0, 0], [0, 203, 0, 0, 0, 0], [0, 203, 0, 0, 0, 0], [0, 203, 0, 0, 0, 0], [0, 203, 0, 0, 0, 0], [0, 203, 0, 0, 0, 0], [0, 203, 0, 0, 0, 0], [0, 203, 0, 0, 0, 0], [0, 203, 0, 0, 0, 0], [0, 203, 0, 0, 0, 0]]
def sm_ps10 : List (List Nat) := [[0, 203, 0, 0, 0, 0], [0, 203, 0, 0, 0, 0], [0, 0, 0, 0, 0, 0, 0, 0, 0, 0, 0, 0, 0, 0, 0, 0, 0, 0, 0, 0, 0, 0], [0, 0, 0, 0, 0, 0, 0, 0], [0, 0, 0, 0, 0, 0, 0, 0], [30, 0, 32, 0, 30, 0, 32, 0, 0, 0, 196, 0, 200, 0, 0, 0, 0, 196, 0, 200, 0, 0, 0, 0, 176, 0, 0, 176, 0, 0, 0, 0, 0, 0, 0, 0, 0, 0, 0, 0, 0, 0, 0, 0, 0, 196, 204, 0, 0, 0, 0, 0, 0, 0, 0, 0, 0, 0, 0, 196, 0, 0, 0, 200, 403, 0, 0, 0, 0, 0, 0, 0, 0, 0, 0, 0, 0, 0, 0, 196, 0, 200, 403, 0, 0, 0, 0, 196, 470, 0, 0, 0, 0, 196, 490, 0, 0, 0, 0, 0]]
def sm_ps (i : Nat) : List Nat := bif Nat.blt i 16 then sm_ps0.getD (i - 0) [] else bif Nat.blt i 32 then sm_ps1.getD (i - 16) [] else bif Nat.blt i 48 then sm_ps2.getD (i - 32) [] else bif Nat.blt i 64 then sm_ps3.getD (i - 48) [] else bif Nat.blt i 80 then sm_ps4.getD (i - 64) [] else bif Nat.blt i 96 then sm_ps5.getD (i - 80) [] else bif Nat.blt i 112 then sm_ps6.getD (i - 96) [] else bif Nat.blt i 128 then sm_ps7.getD (i - 112) [] else bif Nat.blt i 144 then sm_ps8.getD (i - 128) [] else bif Nat.blt i 160 then sm_ps9.getD (i - 144) [] else bif Nat.blt i 176 then sm_ps10.getD (i - 160) [] else []
def sm_mw : List (Nat × Nat × Nat × Nat) := [(82, 26, 81, 0), (262, 26, 260, 261), (463, 26, 461, 462), (304, 26, 302, 303), (358, 26, 356, 357), (450, 26, 448, 449), (469, 26, 467, 468), (446, 26, 444, 445), (431, 26, 429, 430), (427, 26, 425, 426), (317, 26, 316, 11), (309, 26, 308, 9), (271, 26, 270, 2), (292, 26, 291, 7), (321, 26, 320, 12), (296, 26, 295, 8), (325, 26, 324, 13), (313, 26, 312, 10), (329, 26, 328, 14), (333, 26, 332, 15), (275, 26, 274, 3), (279, 26, 278, 4), (283, 26, 282, 5), (287, 26, 286, 6), (346, 26, 345, 16), (350, 26, 349, 17), (354, 26, 353, 18), (362, 26, 361, 19), (336, 26, 335, 0), (124, 27, 123, 0), (202, 23, 201, 0), (202, 23, 201, 0), (202, 23, 201, 0), (202, 23, 201, 0), (202, 23, 201, 0), (202, 23, 201, 0), (202, 23, 201, 0), (202, 23, 201, 0), (202, 23, 201, 0), (202, 23, 201, 0), (42, 25, 41, 0), (47, 25, 45, 46), (191, 25, 189, 190), (266, 25, 264, 265), (54, 25, 52, 53), (254, 25, 252, 253), (242, 25, 240, 241), (258, 25, 256, 257), (389, 25, 387, 388), (371, 25, 369, 370), (367, 25, 365, 366), (215, 25, 213, 214), (238, 25, 236, 237), (246, 25, 244, 245), (250, 25, 248, 249), (234, 25, 232, 233), (227, 25, 225, 226), (222, 25, 220, 221), (442, 25, 440, 441), (506, 25, 504, 505), (34, 24, 33, 0), (179, 24, 177, 178), (376, 24, 374, 375), (400, 24, 398, 399), (476, 24, 474, 475), (489, 24, 487, 488), (502, 24, 500, 501), (497, 24, 495, 496), (202, 23, 201, 0), (438, 24, 436, 437), (519, 24, 517, 518), (210, 24, 208, 209), (409, 24, 407, 408), (459, 24, 457, 458), (423, 24, 421, 422), (454, 24, 452, 453), (202, 23, 201, 0), (202, 23, 201, 0), (202, 23, 201, 0), (202, 23, 201, 0), (515, 24, 513, 514), (202, 23, 201, 0), (202, 23, 201, 0), (379, 24, 378, 0), (412, 24, 411, 0), (383, 24, 382, 20), (480, 24, 479, 21), (484, 24, 483, 22), (415, 24, 414, 0), (183, 24, 182, 0), (187, 24, 186, 1), (230, 24, 229, 0), (300, 24, 299, 0), (50, 24, 49, 0), (218, 24, 217, 0), (198, 23, 197, 0), (202, 23, 201, 0), (393, 23, 392, 0), (396, 23, 395, 0), (206, 23, 205, 0), (405, 23, 404, 0), (472, 23, 471, 0), (492, 23, 491, 0), (202, 23, 201, 0), (202, 23, 201, 0), (202, 23, 201, 0), (202, 23, 201, 0), (202, 23, 201, 0), (202, 23, 201, 0), (202, 23, 201, 0), (202, 23, 201, 0), (202, 23, 201, 0), (202, 23, 201, 0), (202, 23, 201, 0), (202, 23, 201, 0), (202, 23, 201, 0), (202, 23, 201, 0), (202, 23, 201, 0), (202, 23, 201, 0), (202, 23, 201, 0), (202, 23, 201, 0), (202, 23, 201, 0), (202, 23, 201, 0), (202, 23, 201, 0), (202, 23, 201, 0), (202, 23, 201, 0), (202, 23, 201, 0), (202, 23, 201, 0), (202, 23, 201, 0), (202, 23, 201, 0), (202, 23, 201, 0), (202, 23, 201, 0), (202, 23, 201, 0), (202, 23, 201, 0), (202, 23, 201, 0), (202, 23, 201, 0), (202, 23, 201, 0), (202, 23, 201, 0), (202, 23, 201, 0), (202, 23, 201, 0), (202, 23, 201, 0), (202, 23, 201, 0), (202, 23, 201, 0), (202, 23, 201, 0), (202, 23, 201, 0), (202, 23, 201, 0), (202, 23, 201, 0), (202, 23, 201, 0), (202, 23, 201, 0), (202, 23, 201, 0), (202, 23, 201, 0), (202, 23, 201, 0), (202, 23, 201, 0), (202, 23, 201, 0), (202, 23, 201, 0), (202, 23, 201, 0), (202, 23, 201, 0), (202, 23, 201, 0), (202, 23, 201, 0), (202, 23, 201, 0), (202, 23, 201, 0), (202, 23, 201, 0), (419, 29, 418, 0), (339, 29, 338, 0), (342, 29, 341, 0)]
def sm_zB (P : SP) : List AE → List Nat → Bool
  | [], _ => true
  | q :: r, p :: ps => sm_eB P q p && sm_zB P r ps
  | _ :: _, [] => false
def sm_iB (i : Nat) : Bool := sm_zB (sm_P i) (am_M i).1 (sm_ps i) && (decide ((am_M i).2.1 = (sm_P i).2.2.1) && sm_rB (am_M i).2.2.1 (sm_P i).2.2.2.1)
set_option maxRecDepth 100000 in
theorem sm_mws : ((List.range 165).zip sm_mw).all (fun x => sm_mB (sm_P x.1) x.2.1 x.2.2.1 x.2.2.2.1 x.2.2.2.2) = true := by decide +kernel
set_option maxRecDepth 100000 in
theorem sm_cw0 : lw_tbl[82]? = some (Cond.code (sm_P 0).1 (sm_P 0).2.1 (sm_P 0).2.2.1 (sm_P 0).2.2.2.1) := rfl
set_option maxRecDepth 100000 in
theorem sm_cw1 : lw_tbl[262]? = some (Cond.code (sm_P 1).1 (sm_P 1).2.1 (sm_P 1).2.2.1 (sm_P 1).2.2.2.1) := rfl
set_option maxRecDepth 100000 in
theorem sm_cw2 : lw_tbl[463]? = some (Cond.code (sm_P 2).1 (sm_P 2).2.1 (sm_P 2).2.2.1 (sm_P 2).2.2.2.1) := rfl
set_option maxRecDepth 100000 in
theorem sm_cw3 : lw_tbl[304]? = some (Cond.code (sm_P 3).1 (sm_P 3).2.1 (sm_P 3).2.2.1 (sm_P 3).2.2.2.1) := rfl
set_option maxRecDepth 100000 in
theorem sm_cw4 : lw_tbl[358]? = some (Cond.code (sm_P 4).1 (sm_P 4).2.1 (sm_P 4).2.2.1 (sm_P 4).2.2.2.1) := rfl
set_option maxRecDepth 100000 in
theorem sm_cw5 : lw_tbl[450]? = some (Cond.code (sm_P 5).1 (sm_P 5).2.1 (sm_P 5).2.2.1 (sm_P 5).2.2.2.1) := rfl
set_option maxRecDepth 100000 in
theorem sm_cw6 : lw_tbl[469]? = some (Cond.code (sm_P 6).1 (sm_P 6).2.1 (sm_P 6).2.2.1 (sm_P 6).2.2.2.1) := rfl
set_option maxRecDepth 100000 in
theorem sm_cw7 : lw_tbl[446]? = some (Cond.code (sm_P 7).1 (sm_P 7).2.1 (sm_P 7).2.2.1 (sm_P 7).2.2.2.1) := rfl
set_option maxRecDepth 100000 in
theorem sm_cw8 : lw_tbl[431]? = some (Cond.code (sm_P 8).1 (sm_P 8).2.1 (sm_P 8).2.2.1 (sm_P 8).2.2.2.1) := rfl
set_option maxRecDepth 100000 in
theorem sm_cw9 : lw_tbl[427]? = some (Cond.code (sm_P 9).1 (sm_P 9).2.1 (sm_P 9).2.2.1 (sm_P 9).2.2.2.1) := rfl
set_option maxRecDepth 100000 in
theorem sm_cw10 : lw_tbl[317]? = some (Cond.code (sm_P 10).1 (sm_P 10).2.1 (sm_P 10).2.2.1 (sm_P 10).2.2.2.1) := rfl
set_option maxRecDepth 100000 in
theorem sm_cw11 : lw_tbl[309]? = some (Cond.code (sm_P 11).1 (sm_P 11).2.1 (sm_P 11).2.2.1 (sm_P 11).2.2.2.1) := rfl
set_option maxRecDepth 100000 in
theorem sm_cw12 : lw_tbl[271]? = some (Cond.code (sm_P 12).1 (sm_P 12).2.1 (sm_P 12).2.2.1 (sm_P 12).2.2.2.1) := rfl
set_option maxRecDepth 100000 in
theorem sm_cw13 : lw_tbl[292]? = some (Cond.code (sm_P 13).1 (sm_P 13).2.1 (sm_P 13).2.2.1 (sm_P 13).2.2.2.1) := rfl
set_option maxRecDepth 100000 in
theorem sm_cw14 : lw_tbl[321]? = some (Cond.code (sm_P 14).1 (sm_P 14).2.1 (sm_P 14).2.2.1 (sm_P 14).2.2.2.1) := rfl
set_option maxRecDepth 100000 in
theorem sm_cw15 : lw_tbl[296]? = some (Cond.code (sm_P 15).1 (sm_P 15).2.1 (sm_P 15).2.2.1 (sm_P 15).2.2.2.1) := rfl
set_option maxRecDepth 100000 in
theorem sm_cw16 : lw_tbl[325]? = some (Cond.code (sm_P 16).1 (sm_P 16).2.1 (sm_P 16).2.2.1 (sm_P 16).2.2.2.1) := rfl
set_option maxRecDepth 100000 in
theorem sm_cw17 : lw_tbl[313]? = some (Cond.code (sm_P 17).1 (sm_P 17).2.1 (sm_P 17).2.2.1 (sm_P 17).2.2.2.1) := rfl
set_option maxRecDepth 100000 in
theorem sm_cw18 : lw_tbl[329]? = some (Cond.code (sm_P 18).1 (sm_P 18).2.1 (sm_P 18).2.2.1 (sm_P 18).2.2.2.1) := rfl
set_option maxRecDepth 100000 in
theorem sm_cw19 : lw_tbl[333]? = some (Cond.code (sm_P 19).1 (sm_P 19).2.1 (sm_P 19).2.2.1 (sm_P 19).2.2.2.1) := rfl
set_option maxRecDepth 100000 in
theorem sm_cw20 : lw_tbl[275]? = some (Cond.code (sm_P 20).1 (sm_P 20).2.1 (sm_P 20).2.2.1 (sm_P 20).2.2.2.1) := rfl
set_option maxRecDepth 100000 in
theorem sm_cw21 : lw_tbl[279]? = some (Cond.code (sm_P 21).1 (sm_P 21).2.1 (sm_P 21).2.2.1 (sm_P 21).2.2.2.1) := rfl
set_option maxRecDepth 100000 in
theorem sm_cw22 : lw_tbl[283]? = some (Cond.code (sm_P 22).1 (sm_P 22).2.1 (sm_P 22).2.2.1 (sm_P 22).2.2.2.1) := rfl
set_option maxRecDepth 100000 in
theorem sm_cw23 : lw_tbl[287]? = some (Cond.code (sm_P 23).1 (sm_P 23).2.1 (sm_P 23).2.2.1 (sm_P 23).2.2.2.1) := rfl
set_option maxRecDepth 100000 in
theorem sm_cw24 : lw_tbl[346]? = some (Cond.code (sm_P 24).1 (sm_P 24).2.1 (sm_P 24).2.2.1 (sm_P 24).2.2.2.1) := rfl
set_option maxRecDepth 100000 in
theorem sm_cw25 : lw_tbl[350]? = some (Cond.code (sm_P 25).1 (sm_P 25).2.1 (sm_P 25).2.2.1 (sm_P 25).2.2.2.1) := rfl
set_option maxRecDepth 100000 in
theorem sm_cw26 : lw_tbl[354]? = some (Cond.code (sm_P 26).1 (sm_P 26).2.1 (sm_P 26).2.2.1 (sm_P 26).2.2.2.1) := rfl
set_option maxRecDepth 100000 in
theorem sm_cw27 : lw_tbl[362]? = some (Cond.code (sm_P 27).1 (sm_P 27).2.1 (sm_P 27).2.2.1 (sm_P 27).2.2.2.1) := rfl
set_option maxRecDepth 100000 in
theorem sm_cw28 : lw_tbl[336]? = some (Cond.code (sm_P 28).1 (sm_P 28).2.1 (sm_P 28).2.2.1 (sm_P 28).2.2.2.1) := rfl
set_option maxRecDepth 100000 in
theorem sm_cw29 : lw_tbl[124]? = some (Cond.code (sm_P 29).1 (sm_P 29).2.1 (sm_P 29).2.2.1 (sm_P 29).2.2.2.1) := rfl
set_option maxRecDepth 100000 in
theorem sm_cw30 : lw_tbl[202]? = some (Cond.code (sm_P 30).1 (sm_P 30).2.1 (sm_P 30).2.2.1 (sm_P 30).2.2.2.1) := rfl
set_option maxRecDepth 100000 in
theorem sm_cw31 : lw_tbl[202]? = some (Cond.code (sm_P 31).1 (sm_P 31).2.1 (sm_P 31).2.2.1 (sm_P 31).2.2.2.1) := rfl
set_option maxRecDepth 100000 in
theorem sm_cw32 : lw_tbl[202]? = some (Cond.code (sm_P 32).1 (sm_P 32).2.1 (sm_P 32).2.2.1 (sm_P 32).2.2.2.1) := rfl
set_option maxRecDepth 100000 in
theorem sm_cw33 : lw_tbl[202]? = some (Cond.code (sm_P 33).1 (sm_P 33).2.1 (sm_P 33).2.2.1 (sm_P 33).2.2.2.1) := rfl
set_option maxRecDepth 100000 in
theorem sm_cw34 : lw_tbl[202]? = some (Cond.code (sm_P 34).1 (sm_P 34).2.1 (sm_P 34).2.2.1 (sm_P 34).2.2.2.1) := rfl
set_option maxRecDepth 100000 in
theorem sm_cw35 : lw_tbl[202]? = some (Cond.code (sm_P 35).1 (sm_P 35).2.1 (sm_P 35).2.2.1 (sm_P 35).2.2.2.1) := rfl
set_option maxRecDepth 100000 in
theorem sm_cw36 : lw_tbl[202]? = some (Cond.code (sm_P 36).1 (sm_P 36).2.1 (sm_P 36).2.2.1 (sm_P 36).2.2.2.1) := rfl
set_option maxRecDepth 100000 in
theorem sm_cw37 : lw_tbl[202]? = some (Cond.code (sm_P 37).1 (sm_P 37).2.1 (sm_P 37).2.2.1 (sm_P 37).2.2.2.1) := rfl
set_option maxRecDepth 100000 in
theorem sm_cw38 : lw_tbl[202]? = some (Cond.code (sm_P 38).1 (sm_P 38).2.1 (sm_P 38).2.2.1 (sm_P 38).2.2.2.1) := rfl
set_option maxRecDepth 100000 in
theorem sm_cw39 : lw_tbl[202]? = some (Cond.code (sm_P 39).1 (sm_P 39).2.1 (sm_P 39).2.2.1 (sm_P 39).2.2.2.1) := rfl
set_option maxRecDepth 100000 in
theorem sm_cw40 : lw_tbl[42]? = some (Cond.code (sm_P 40).1 (sm_P 40).2.1 (sm_P 40).2.2.1 (sm_P 40).2.2.2.1) := rfl
set_option maxRecDepth 100000 in
theorem sm_cw41 : lw_tbl[47]? = some (Cond.code (sm_P 41).1 (sm_P 41).2.1 (sm_P 41).2.2.1 (sm_P 41).2.2.2.1) := rfl
set_option maxRecDepth 100000 in
theorem sm_cw42 : lw_tbl[191]? = some (Cond.code (sm_P 42).1 (sm_P 42).2.1 (sm_P 42).2.2.1 (sm_P 42).2.2.2.1) := rfl
set_option maxRecDepth 100000 in
theorem sm_cw43 : lw_tbl[266]? = some (Cond.code (sm_P 43).1 (sm_P 43).2.1 (sm_P 43).2.2.1 (sm_P 43).2.2.2.1) := rfl
set_option maxRecDepth 100000 in
theorem sm_cw44 : lw_tbl[54]? = some (Cond.code (sm_P 44).1 (sm_P 44).2.1 (sm_P 44).2.2.1 (sm_P 44).2.2.2.1) := rfl
set_option maxRecDepth 100000 in
theorem sm_cw45 : lw_tbl[254]? = some (Cond.code (sm_P 45).1 (sm_P 45).2.1 (sm_P 45).2.2.1 (sm_P 45).2.2.2.1) := rfl
set_option maxRecDepth 100000 in
theorem sm_cw46 : lw_tbl[242]? = some (Cond.code (sm_P 46).1 (sm_P 46).2.1 (sm_P 46).2.2.1 (sm_P 46).2.2.2.1) := rfl
set_option maxRecDepth 100000 in
theorem sm_cw47 : lw_tbl[258]? = some (Cond.code (sm_P 47).1 (sm_P 47).2.1 (sm_P 47).2.2.1 (sm_P 47).2.2.2.1) := rfl
set_option maxRecDepth 100000 in
theorem sm_cw48 : lw_tbl[389]? = some (Cond.code (sm_P 48).1 (sm_P 48).2.1 (sm_P 48).2.2.1 (sm_P 48).2.2.2.1) := rfl
set_option maxRecDepth 100000 in
theorem sm_cw49 : lw_tbl[371]? = some (Cond.code (sm_P 49).1 (sm_P 49).2.1 (sm_P 49).2.2.1 (sm_P 49).2.2.2.1) := rfl
set_option maxRecDepth 100000 in
theorem sm_cw50 : lw_tbl[367]? = some (Cond.code (sm_P 50).1 (sm_P 50).2.1 (sm_P 50).2.2.1 (sm_P 50).2.2.2.1) := rfl
set_option maxRecDepth 100000 in
theorem sm_cw51 : lw_tbl[215]? = some (Cond.code (sm_P 51).1 (sm_P 51).2.1 (sm_P 51).2.2.1 (sm_P 51).2.2.2.1) := rfl
set_option maxRecDepth 100000 in
theorem sm_cw52 : lw_tbl[238]? = some (Cond.code (sm_P 52).1 (sm_P 52).2.1 (sm_P 52).2.2.1 (sm_P 52).2.2.2.1) := rfl
set_option maxRecDepth 100000 in
theorem sm_cw53 : lw_tbl[246]? = some (Cond.code (sm_P 53).1 (sm_P 53).2.1 (sm_P 53).2.2.1 (sm_P 53).2.2.2.1) := rfl
set_option maxRecDepth 100000 in
theorem sm_cw54 : lw_tbl[250]? = some (Cond.code (sm_P 54).1 (sm_P 54).2.1 (sm_P 54).2.2.1 (sm_P 54).2.2.2.1) := rfl
set_option maxRecDepth 100000 in
theorem sm_cw55 : lw_tbl[234]? = some (Cond.code (sm_P 55).1 (sm_P 55).2.1 (sm_P 55).2.2.1 (sm_P 55).2.2.2.1) := rfl
set_option maxRecDepth 100000 in
theorem sm_cw56 : lw_tbl[227]? = some (Cond.code (sm_P 56).1 (sm_P 56).2.1 (sm_P 56).2.2.1 (sm_P 56).2.2.2.1) := rfl
set_option maxRecDepth 100000 in
theorem sm_cw57 : lw_tbl[222]? = some (Cond.code (sm_P 57).1 (sm_P 57).2.1 (sm_P 57).2.2.1 (sm_P 57).2.2.2.1) := rfl
set_option maxRecDepth 100000 in
theorem sm_cw58 : lw_tbl[442]? = some (Cond.code (sm_P 58).1 (sm_P 58).2.1 (sm_P 58).2.2.1 (sm_P 58).2.2.2.1) := rfl
set_option maxRecDepth 100000 in
theorem sm_cw59 : lw_tbl[506]? = some (Cond.code (sm_P 59).1 (sm_P 59).2.1 (sm_P 59).2.2.1 (sm_P 59).2.2.2.1) := rfl
set_option maxRecDepth 100000 in
theorem sm_cw60 : lw_tbl[34]? = some (Cond.code (sm_P 60).1 (sm_P 60).2.1 (sm_P 60).2.2.1 (sm_P 60).2.2.2.1) := rfl
set_option maxRecDepth 100000 in
theorem sm_cw61 : lw_tbl[179]? = some (Cond.code (sm_P 61).1 (sm_P 61).2.1 (sm_P 61).2.2.1 (sm_P 61).2.2.2.1) := rfl
set_option maxRecDepth 100000 in
theorem sm_cw62 : lw_tbl[376]? = some (Cond.code (sm_P 62).1 (sm_P 62).2.1 (sm_P 62).2.2.1 (sm_P 62).2.2.2.1) := rfl
set_option maxRecDepth 100000 in
theorem sm_cw63 : lw_tbl[400]? = some (Cond.code (sm_P 63).1 (sm_P 63).2.1 (sm_P 63).2.2.1 (sm_P 63).2.2.2.1) := rfl
set_option maxRecDepth 100000 in
theorem sm_cw64 : lw_tbl[476]? = some (Cond.code (sm_P 64).1 (sm_P 64).2.1 (sm_P 64).2.2.1 (sm_P 64).2.2.2.1) := rfl
set_option maxRecDepth 100000 in
theorem sm_cw65 : lw_tbl[489]? = some (Cond.code (sm_P 65).1 (sm_P 65).2.1 (sm_P 65).2.2.1 (sm_P 65).2.2.2.1) := rfl
set_option maxRecDepth 100000 in
theorem sm_cw66 : lw_tbl[502]? = some (Cond.code (sm_P 66).1 (sm_P 66).2.1 (sm_P 66).2.2.1 (sm_P 66).2.2.2.1) := rfl
set_option maxRecDepth 100000 in
theorem sm_cw67 : lw_tbl[497]? = some (Cond.code (sm_P 67).1 (sm_P 67).2.1 (sm_P 67).2.2.1 (sm_P 67).2.2.2.1) := rfl
set_option maxRecDepth 100000 in
theorem sm_cw68 : lw_tbl[202]? = some (Cond.code (sm_P 68).1 (sm_P 68).2.1 (sm_P 68).2.2.1 (sm_P 68).2.2.2.1) := rfl
set_option maxRecDepth 100000 in
theorem sm_cw69 : lw_tbl[438]? = some (Cond.code (sm_P 69).1 (sm_P 69).2.1 (sm_P 69).2.2.1 (sm_P 69).2.2.2.1) := rfl
set_option maxRecDepth 100000 in
theorem sm_cw70 : lw_tbl[519]? = some (Cond.code (sm_P 70).1 (sm_P 70).2.1 (sm_P 70).2.2.1 (sm_P 70).2.2.2.1) := rfl
set_option maxRecDepth 100000 in
theorem sm_cw71 : lw_tbl[210]? = some (Cond.code (sm_P 71).1 (sm_P 71).2.1 (sm_P 71).2.2.1 (sm_P 71).2.2.2.1) := rfl
set_option maxRecDepth 100000 in
theorem sm_cw72 : lw_tbl[409]? = some (Cond.code (sm_P 72).1 (sm_P 72).2.1 (sm_P 72).2.2.1 (sm_P 72).2.2.2.1) := rfl
set_option maxRecDepth 100000 in
theorem sm_cw73 : lw_tbl[459]? = some (Cond.code (sm_P 73).1 (sm_P 73).2.1 (sm_P 73).2.2.1 (sm_P 73).2.2.2.1) := rfl
set_option maxRecDepth 100000 in
theorem sm_cw74 : lw_tbl[423]? = some (Cond.code (sm_P 74).1 (sm_P 74).2.1 (sm_P 74).2.2.1 (sm_P 74).2.2.2.1) := rfl
set_option maxRecDepth 100000 in
theorem sm_cw75 : lw_tbl[454]? = some (Cond.code (sm_P 75).1 (sm_P 75).2.1 (sm_P 75).2.2.1 (sm_P 75).2.2.2.1) := rfl
set_option maxRecDepth 100000 in
theorem sm_cw76 : lw_tbl[202]? = some (Cond.code (sm_P 76).1 (sm_P 76).2.1 (sm_P 76).2.2.1 (sm_P 76).2.2.2.1) := rfl
set_option maxRecDepth 100000 in
theorem sm_cw77 : lw_tbl[202]? = some (Cond.code (sm_P 77).1 (sm_P 77).2.1 (sm_P 77).2.2.1 (sm_P 77).2.2.2.1) := rfl
set_option maxRecDepth 100000 in
theorem sm_cw78 : lw_tbl[202]? = some (Cond.code (sm_P 78).1 (sm_P 78).2.1 (sm_P 78).2.2.1 (sm_P 78).2.2.2.1) := rfl
set_option maxRecDepth 100000 in
theorem sm_cw79 : lw_tbl[202]? = some (Cond.code (sm_P 79).1 (sm_P 79).2.1 (sm_P 79).2.2.1 (sm_P 79).2.2.2.1) := rfl
set_option maxRecDepth 100000 in
theorem sm_cw80 : lw_tbl[515]? = some (Cond.code (sm_P 80).1 (sm_P 80).2.1 (sm_P 80).2.2.1 (sm_P 80).2.2.2.1) := rfl
set_option maxRecDepth 100000 in
theorem sm_cw81 : lw_tbl[202]? = some (Cond.code (sm_P 81).1 (sm_P 81).2.1 (sm_P 81).2.2.1 (sm_P 81).2.2.2.1) := rfl
set_option maxRecDepth 100000 in
theorem sm_cw82 : lw_tbl[202]? = some (Cond.code (sm_P 82).1 (sm_P 82).2.1 (sm_P 82).2.2.1 (sm_P 82).2.2.2.1) := rfl
set_option maxRecDepth 100000 in
theorem sm_cw83 : lw_tbl[379]? = some (Cond.code (sm_P 83).1 (sm_P 83).2.1 (sm_P 83).2.2.1 (sm_P 83).2.2.2.1) := rfl
set_option maxRecDepth 100000 in
theorem sm_cw84 : lw_tbl[412]? = some (Cond.code (sm_P 84).1 (sm_P 84).2.1 (sm_P 84).2.2.1 (sm_P 84).2.2.2.1) := rfl
set_option maxRecDepth 100000 in
theorem sm_cw85 : lw_tbl[383]? = some (Cond.code (sm_P 85).1 (sm_P 85).2.1 (sm_P 85).2.2.1 (sm_P 85).2.2.2.1) := rfl
set_option maxRecDepth 100000 in
theorem sm_cw86 : lw_tbl[480]? = some (Cond.code (sm_P 86).1 (sm_P 86).2.1 (sm_P 86).2.2.1 (sm_P 86).2.2.2.1) := rfl
set_option maxRecDepth 100000 in
theorem sm_cw87 : lw_tbl[484]? = some (Cond.code (sm_P 87).1 (sm_P 87).2.1 (sm_P 87).2.2.1 (sm_P 87).2.2.2.1) := rfl
set_option maxRecDepth 100000 in
theorem sm_cw88 : lw_tbl[415]? = some (Cond.code (sm_P 88).1 (sm_P 88).2.1 (sm_P 88).2.2.1 (sm_P 88).2.2.2.1) := rfl
set_option maxRecDepth 100000 in
theorem sm_cw89 : lw_tbl[183]? = some (Cond.code (sm_P 89).1 (sm_P 89).2.1 (sm_P 89).2.2.1 (sm_P 89).2.2.2.1) := rfl
set_option maxRecDepth 100000 in
theorem sm_cw90 : lw_tbl[187]? = some (Cond.code (sm_P 90).1 (sm_P 90).2.1 (sm_P 90).2.2.1 (sm_P 90).2.2.2.1) := rfl
set_option maxRecDepth 100000 in
theorem sm_cw91 : lw_tbl[230]? = some (Cond.code (sm_P 91).1 (sm_P 91).2.1 (sm_P 91).2.2.1 (sm_P 91).2.2.2.1) := rfl
set_option maxRecDepth 100000 in
theorem sm_cw92 : lw_tbl[300]? = some (Cond.code (sm_P 92).1 (sm_P 92).2.1 (sm_P 92).2.2.1 (sm_P 92).2.2.2.1) := rfl
set_option maxRecDepth 100000 in
theorem sm_cw93 : lw_tbl[50]? = some (Cond.code (sm_P 93).1 (sm_P 93).2.1 (sm_P 93).2.2.1 (sm_P 93).2.2.2.1) := rfl
set_option maxRecDepth 100000 in
theorem sm_cw94 : lw_tbl[218]? = some (Cond.code (sm_P 94).1 (sm_P 94).2.1 (sm_P 94).2.2.1 (sm_P 94).2.2.2.1) := rfl
set_option maxRecDepth 100000 in
theorem sm_cw95 : lw_tbl[198]? = some (Cond.code (sm_P 95).1 (sm_P 95).2.1 (sm_P 95).2.2.1 (sm_P 95).2.2.2.1) := rfl
set_option maxRecDepth 100000 in
theorem sm_cw96 : lw_tbl[202]? = some (Cond.code (sm_P 96).1 (sm_P 96).2.1 (sm_P 96).2.2.1 (sm_P 96).2.2.2.1) := rfl
set_option maxRecDepth 100000 in
theorem sm_cw97 : lw_tbl[393]? = some (Cond.code (sm_P 97).1 (sm_P 97).2.1 (sm_P 97).2.2.1 (sm_P 97).2.2.2.1) := rfl
set_option maxRecDepth 100000 in
theorem sm_cw98 : lw_tbl[396]? = some (Cond.code (sm_P 98).1 (sm_P 98).2.1 (sm_P 98).2.2.1 (sm_P 98).2.2.2.1) := rfl
set_option maxRecDepth 100000 in
theorem sm_cw99 : lw_tbl[206]? = some (Cond.code (sm_P 99).1 (sm_P 99).2.1 (sm_P 99).2.2.1 (sm_P 99).2.2.2.1) := rfl
set_option maxRecDepth 100000 in
theorem sm_cw100 : lw_tbl[405]? = some (Cond.code (sm_P 100).1 (sm_P 100).2.1 (sm_P 100).2.2.1 (sm_P 100).2.2.2.1) := rfl
set_option maxRecDepth 100000 in
theorem sm_cw101 : lw_tbl[472]? = some (Cond.code (sm_P 101).1 (sm_P 101).2.1 (sm_P 101).2.2.1 (sm_P 101).2.2.2.1) := rfl
set_option maxRecDepth 100000 in
theorem sm_cw102 : lw_tbl[492]? = some (Cond.code (sm_P 102).1 (sm_P 102).2.1 (sm_P 102).2.2.1 (sm_P 102).2.2.2.1) := rfl
set_option maxRecDepth 100000 in
theorem sm_cw103 : lw_tbl[202]? = some (Cond.code (sm_P 103).1 (sm_P 103).2.1 (sm_P 103).2.2.1 (sm_P 103).2.2.2.1) := rfl
set_option maxRecDepth 100000 in
theorem sm_cw104 : lw_tbl[202]? = some (Cond.code (sm_P 104).1 (sm_P 104).2.1 (sm_P 104).2.2.1 (sm_P 104).2.2.2.1) := rfl
set_option maxRecDepth 100000 in
theorem sm_cw105 : lw_tbl[202]? = some (Cond.code (sm_P 105).1 (sm_P 105).2.1 (sm_P 105).2.2.1 (sm_P 105).2.2.2.1) := rfl
set_option maxRecDepth 100000 in
theorem sm_cw106 : lw_tbl[202]? = some (Cond.code (sm_P 106).1 (sm_P 106).2.1 (sm_P 106).2.2.1 (sm_P 106).2.2.2.1) := rfl
set_option maxRecDepth 100000 in
theorem sm_cw107 : lw_tbl[202]? = some (Cond.code (sm_P 107).1 (sm_P 107).2.1 (sm_P 107).2.2.1 (sm_P 107).2.2.2.1) := rfl
set_option maxRecDepth 100000 in
theorem sm_cw108 : lw_tbl[202]? = some (Cond.code (sm_P 108).1 (sm_P 108).2.1 (sm_P 108).2.2.1 (sm_P 108).2.2.2.1) := rfl
set_option maxRecDepth 100000 in
theorem sm_cw109 : lw_tbl[202]? = some (Cond.code (sm_P 109).1 (sm_P 109).2.1 (sm_P 109).2.2.1 (sm_P 109).2.2.2.1) := rfl
set_option maxRecDepth 100000 in
theorem sm_cw110 : lw_tbl[202]? = some (Cond.code (sm_P 110).1 (sm_P 110).2.1 (sm_P 110).2.2.1 (sm_P 110).2.2.2.1) := rfl
set_option maxRecDepth 100000 in
theorem sm_cw111 : lw_tbl[202]? = some (Cond.code (sm_P 111).1 (sm_P 111).2.1 (sm_P 111).2.2.1 (sm_P 111).2.2.2.1) := rfl
set_option maxRecDepth 100000 in
theorem sm_cw112 : lw_tbl[202]? = some (Cond.code (sm_P 112).1 (sm_P 112).2.1 (sm_P 112).2.2.1 (sm_P 112).2.2.2.1) := rfl
set_option maxRecDepth 100000 in
theorem sm_cw113 : lw_tbl[202]? = some (Cond.code (sm_P 113).1 (sm_P 113).2.1 (sm_P 113).2.2.1 (sm_P 113).2.2.2.1) := rfl
set_option maxRecDepth 100000 in
theorem sm_cw114 : lw_tbl[202]? = some (Cond.code (sm_P 114).1 (sm_P 114).2.1 (sm_P 114).2.2.1 (sm_P 114).2.2.2.1) := rfl
set_option maxRecDepth 100000 in
theorem sm_cw115 : lw_tbl[202]? = some (Cond.code (sm_P 115).1 (sm_P 115).2.1 (sm_P 115).2.2.1 (sm_P 115).2.2.2.1) := rfl
set_option maxRecDepth 100000 in
theorem sm_cw116 : lw_tbl[202]? = some (Cond.code (sm_P 116).1 (sm_P 116).2.1 (sm_P 116).2.2.1 (sm_P 116).2.2.2.1) := rfl
set_option maxRecDepth 100000 in
theorem sm_cw117 : lw_tbl[202]? = some (Cond.code (sm_P 117).1 (sm_P 117).2.1 (sm_P 117).2.2.1 (sm_P 117).2.2.2.1) := rfl
set_option maxRecDepth 100000 in
theorem sm_cw118 : lw_tbl[202]? = some (Cond.code (sm_P 118).1 (sm_P 118).2.1 (sm_P 118).2.2.1 (sm_P 118).2.2.2.1) := rfl
set_option maxRecDepth 100000 in
theorem sm_cw119 : lw_tbl[202]? = some (Cond.code (sm_P 119).1 (sm_P 119).2.1 (sm_P 119).2.2.1 (sm_P 119).2.2.2.1) := rfl
set_option maxRecDepth 100000 in
theorem sm_cw120 : lw_tbl[202]? = some (Cond.code (sm_P 120).1 (sm_P 120).2.1 (sm_P 120).2.2.1 (sm_P 120).2.2.2.1) := rfl
set_option maxRecDepth 100000 in
theorem sm_cw121 : lw_tbl[202]? = some (Cond.code (sm_P 121).1 (sm_P 121).2.1 (sm_P 121).2.2.1 (sm_P 121).2.2.2.1) := rfl
set_option maxRecDepth 100000 in
theorem sm_cw122 : lw_tbl[202]? = some (Cond.code (sm_P 122).1 (sm_P 122).2.1 (sm_P 122).2.2.1 (sm_P 122).2.2.2.1) := rfl
set_option maxRecDepth 100000 in
theorem sm_cw123 : lw_tbl[202]? = some (Cond.code (sm_P 123).1 (sm_P 123).2.1 (sm_P 123).2.2.1 (sm_P 123).2.2.2.1) := rfl
set_option maxRecDepth 100000 in
theorem sm_cw124 : lw_tbl[202]? = some (Cond.code (sm_P 124).1 (sm_P 124).2.1 (sm_P 124).2.2.1 (sm_P 124).2.2.2.1) := rfl
set_option maxRecDepth 100000 in
theorem sm_cw125 : lw_tbl[202]? = some (Cond.code (sm_P 125).1 (sm_P 125).2.1 (sm_P 125).2.2.1 (sm_P 125).2.2.2.1) := rfl
set_option maxRecDepth 100000 in
theorem sm_cw126 : lw_tbl[202]? = some (Cond.code (sm_P 126).1 (sm_P 126).2.1 (sm_P 126).2.2.1 (sm_P 126).2.2.2.1) := rfl
set_option maxRecDepth 100000 in
theorem sm_cw127 : lw_tbl[202]? = some (Cond.code (sm_P 127).1 (sm_P 127).2.1 (sm_P 127).2.2.1 (sm_P 127).2.2.2.1) := rfl
set_option maxRecDepth 100000 in
theorem sm_cw128 : lw_tbl[202]? = some (Cond.code (sm_P 128).1 (sm_P 128).2.1 (sm_P 128).2.2.1 (sm_P 128).2.2.2.1) := rfl
set_option maxRecDepth 100000 in
theorem sm_cw129 : lw_tbl[202]? = some (Cond.code (sm_P 129).1 (sm_P 129).2.1 (sm_P 129).2.2.1 (sm_P 129).2.2.2.1) := rfl
set_option maxRecDepth 100000 in
theorem sm_cw130 : lw_tbl[202]? = some (Cond.code (sm_P 130).1 (sm_P 130).2.1 (sm_P 130).2.2.1 (sm_P 130).2.2.2.1) := rfl
set_option maxRecDepth 100000 in
theorem sm_cw131 : lw_tbl[202]? = some (Cond.code (sm_P 131).1 (sm_P 131).2.1 (sm_P 131).2.2.1 (sm_P 131).2.2.2.1) := rfl
set_option maxRecDepth 100000 in
theorem sm_cw132 : lw_tbl[202]? = some (Cond.code (sm_P 132).1 (sm_P 132).2.1 (sm_P 132).2.2.1 (sm_P 132).2.2.2.1) := rfl
set_option maxRecDepth 100000 in
theorem sm_cw133 : lw_tbl[202]? = some (Cond.code (sm_P 133).1 (sm_P 133).2.1 (sm_P 133).2.2.1 (sm_P 133).2.2.2.1) := rfl
set_option maxRecDepth 100000 in
theorem sm_cw134 : lw_tbl[202]? = some (Cond.code (sm_P 134).1 (sm_P 134).2.1 (sm_P 134).2.2.1 (sm_P 134).2.2.2.1) := rfl
set_option maxRecDepth 100000 in
theorem sm_cw135 : lw_tbl[202]? = some (Cond.code (sm_P 135).1 (sm_P 135).2.1 (sm_P 135).2.2.1 (sm_P 135).2.2.2.1) := rfl
set_option maxRecDepth 100000 in
theorem sm_cw136 : lw_tbl[202]? = some (Cond.code (sm_P 136).1 (sm_P 136).2.1 (sm_P 136).2.2.1 (sm_P 136).2.2.2.1) := rfl
set_option maxRecDepth 100000 in
theorem sm_cw137 : lw_tbl[202]? = some (Cond.code (sm_P 137).1 (sm_P 137).2.1 (sm_P 137).2.2.1 (sm_P 137).2.2.2.1) := rfl
set_option maxRecDepth 100000 in
theorem sm_cw138 : lw_tbl[202]? = some (Cond.code (sm_P 138).1 (sm_P 138).2.1 (sm_P 138).2.2.1 (sm_P 138).2.2.2.1) := rfl
set_option maxRecDepth 100000 in
theorem sm_cw139 : lw_tbl[202]? = some (Cond.code (sm_P 139).1 (sm_P 139).2.1 (sm_P 139).2.2.1 (sm_P 139).2.2.2.1) := rfl
set_option maxRecDepth 100000 in
theorem sm_cw140 : lw_tbl[202]? = some (Cond.code (sm_P 140).1 (sm_P 140).2.1 (sm_P 140).2.2.1 (sm_P 140).2.2.2.1) := rfl
set_option maxRecDepth 100000 in
theorem sm_cw141 : lw_tbl[202]? = some (Cond.code (sm_P 141).1 (sm_P 141).2.1 (sm_P 141).2.2.1 (sm_P 141).2.2.2.1) := rfl
set_option maxRecDepth 100000 in
theorem sm_cw142 : lw_tbl[202]? = some (Cond.code (sm_P 142).1 (sm_P 142).2.1 (sm_P 142).2.2.1 (sm_P 142).2.2.2.1) := rfl
set_option maxRecDepth 100000 in
theorem sm_cw143 : lw_tbl[202]? = some (Cond.code (sm_P 143).1 (sm_P 143).2.1 (sm_P 143).2.2.1 (sm_P 143).2.2.2.1) := rfl
set_option maxRecDepth 100000 in
theorem sm_cw144 : lw_tbl[202]? = some (Cond.code (sm_P 144).1 (sm_P 144).2.1 (sm_P 144).2.2.1 (sm_P 144).2.2.2.1) := rfl
set_option maxRecDepth 100000 in
theorem sm_cw145 : lw_tbl[202]? = some (Cond.code (sm_P 145).1 (sm_P 145).2.1 (sm_P 145).2.2.1 (sm_P 145).2.2.2.1) := rfl
set_option maxRecDepth 100000 in
theorem sm_cw146 : lw_tbl[202]? = some (Cond.code (sm_P 146).1 (sm_P 146).2.1 (sm_P 146).2.2.1 (sm_P 146).2.2.2.1) := rfl
set_option maxRecDepth 100000 in
theorem sm_cw147 : lw_tbl[202]? = some (Cond.code (sm_P 147).1 (sm_P 147).2.1 (sm_P 147).2.2.1 (sm_P 147).2.2.2.1) := rfl
set_option maxRecDepth 100000 in
theorem sm_cw148 : lw_tbl[202]? = some (Cond.code (sm_P 148).1 (sm_P 148).2.1 (sm_P 148).2.2.1 (sm_P 148).2.2.2.1) := rfl
set_option maxRecDepth 100000 in
theorem sm_cw149 : lw_tbl[202]? = some (Cond.code (sm_P 149).1 (sm_P 149).2.1 (sm_P 149).2.2.1 (sm_P 149).2.2.2.1) := rfl
set_option maxRecDepth 100000 in
theorem sm_cw150 : lw_tbl[202]? = some (Cond.code (sm_P 150).1 (sm_P 150).2.1 (sm_P 150).2.2.1 (sm_P 150).2.2.2.1) := rfl
set_option maxRecDepth 100000 in
theorem sm_cw151 : lw_tbl[202]? = some (Cond.code (sm_P 151).1 (sm_P 151).2.1 (sm_P 151).2.2.1 (sm_P 151).2.2.2.1) := rfl
set_option maxRecDepth 100000 in
theorem sm_cw152 : lw_tbl[202]? = some (Cond.code (sm_P 152).1 (sm_P 152).2.1 (sm_P 152).2.2.1 (sm_P 152).2.2.2.1) := rfl
set_option maxRecDepth 100000 in
theorem sm_cw153 : lw_tbl[202]? = some (Cond.code (sm_P 153).1 (sm_P 153).2.1 (sm_P 153).2.2.1 (sm_P 153).2.2.2.1) := rfl
set_option maxRecDepth 100000 in
theorem sm_cw154 : lw_tbl[202]? = some (Cond.code (sm_P 154).1 (sm_P 154).2.1 (sm_P 154).2.2.1 (sm_P 154).2.2.2.1) := rfl
set_option maxRecDepth 100000 in
theorem sm_cw155 : lw_tbl[202]? = some (Cond.code (sm_P 155).1 (sm_P 155).2.1 (sm_P 155).2.2.1 (sm_P 155).2.2.2.1) := rfl
set_option maxRecDepth 100000 in
theorem sm_cw156 : lw_tbl[202]? = some (Cond.code (sm_P 156).1 (sm_P 156).2.1 (sm_P 156).2.2.1 (sm_P 156).2.2.2.1) := rfl
set_option maxRecDepth 100000 in
theorem sm_cw157 : lw_tbl[202]? = some (Cond.code (sm_P 157).1 (sm_P 157).2.1 (sm_P 157).2.2.1 (sm_P 157).2.2.2.1) := rfl
set_option maxRecDepth 100000 in
theorem sm_cw158 : lw_tbl[202]? = some (Cond.code (sm_P 158).1 (sm_P 158).2.1 (sm_P 158).2.2.1 (sm_P 158).2.2.2.1) := rfl
set_option maxRecDepth 100000 in
theorem sm_cw159 : lw_tbl[202]? = some (Cond.code (sm_P 159).1 (sm_P 159).2.1 (sm_P 159).2.2.1 (sm_P 159).2.2.2.1) := rfl
set_option maxRecDepth 100000 in
theorem sm_cw160 : lw_tbl[202]? = some (Cond.code (sm_P 160).1 (sm_P 160).2.1 (sm_P 160).2.2.1 (sm_P 160).2.2.2.1) := rfl
set_option maxRecDepth 100000 in
theorem sm_cw161 : lw_tbl[202]? = some (Cond.code (sm_P 161).1 (sm_P 161).2.1 (sm_P 161).2.2.1 (sm_P 161).2.2.2.1) := rfl
set_option maxRecDepth 100000 in
theorem sm_cw162 : lw_tbl[419]? = some (Cond.code (sm_P 162).1 (sm_P 162).2.1 (sm_P 162).2.2.1 (sm_P 162).2.2.2.1) := rfl
set_option maxRecDepth 100000 in
theorem sm_cw163 : lw_tbl[339]? = some (Cond.code (sm_P 163).1 (sm_P 163).2.1 (sm_P 163).2.2.1 (sm_P 163).2.2.2.1) := rfl
set_option maxRecDepth 100000 in
theorem sm_cw164 : lw_tbl[342]? = some (Cond.code (sm_P 164).1 (sm_P 164).2.1 (sm_P 164).2.2.1 (sm_P 164).2.2.2.1) := rfl
end
section
set_option maxRecDepth 100000 in
theorem sm_i0 : (List.range' 0 12).all sm_iB = true := by decide +kernel
set_option maxRecDepth 100000 in
theorem sm_i1 : (List.range' 12 12).all sm_iB = true := by decide +kernel
set_option maxRecDepth 100000 in
theorem sm_i2 : (List.range' 24 12).all sm_iB = true := by decide +kernel
set_option maxRecDepth 100000 in
theorem sm_i3 : (List.range' 36 12).all sm_iB = true := by decide +kernel
set_option maxRecDepth 100000 in
theorem sm_i4 : (List.range' 48 12).all sm_iB = true := by decide +kernel
set_option maxRecDepth 100000 in
theorem sm_i5 : (List.range' 60 12).all sm_iB = true := by decide +kernel
set_option maxRecDepth 100000 in
theorem sm_i6 : (List.range' 72 12).all sm_iB = true := by decide +kernel
set_option maxRecDepth 100000 in
theorem sm_i7 : (List.range' 84 12).all sm_iB = true := by decide +kernel
set_option maxRecDepth 100000 in
theorem sm_i8 : (List.range' 96 12).all sm_iB = true := by decide +kernel
set_option maxRecDepth 100000 in
theorem sm_i9 : (List.range' 108 12).all sm_iB = true := by decide +kernel
set_option maxRecDepth 100000 in
theorem sm_i10 : (List.range' 120 12).all sm_iB = true := by decide +kernel
set_option maxRecDepth 100000 in
theorem sm_i11 : (List.range' 132 12).all sm_iB = true := by decide +kernel
set_option maxRecDepth 100000 in
theorem sm_i12 : (List.range' 144 12).all sm_iB = true := by decide +kernel
set_option maxRecDepth 100000 in
theorem sm_i13 : (List.range' 156 10).all sm_iB = true := by decide +kernel
end
section
/-! ===== THE SMALL MACHINE'S MEMORY IN THE MACHINE'S OWN: cells at addresses μ, the script's array apart ===== -/
def sm_GT : List Cond := lw_tbl.filter goodWord
def sm_isN : Cond → Bool
  | .methodLinkNest .. => true
  | _ => false
def sm_NT : List Cond := lw_tbl.filter sm_isN
def sm_TY (dA : Nat → ClassId) : List (ClassId × FieldType) := [(dA 5, .int), (dA 6, .long), (dA 7, .char), (dA 8, .object RX2)]
def sm_nf (c : Nat) : Nat := match c with
  | 0 => 11
  | 1 => 9
  | 2 => 5
  | 3 => 6
  | _ => 21
def sm_tyf (c k : Nat) : FieldType := match c with
  | 0 => tyX0 k
  | 1 => tyX1 k
  | 2 => tyX2 k
  | 3 => tyX3 k
  | _ => tyX4 k
def sm_v (μ : Nat → Nat) : Value → Value
  | .ref a => .ref (μ a)
  | v => v
/-- a reference is to a cell that there is (and no value is a double) -/
def sm_wv (n : Nat) (v : Value) : Prop := ∀ a, (v = .ref a ∨ ∃ d, v = .double d) → a < n
theorem sm_wv_ph {n : Nat} : sm_wv n am_ph := fun _ h => by rcases h with h | ⟨d, h⟩ <;> cases h
def sm_fv (μ : Nat → Nat) (h : AH) (c a k : Nat) : Value := if sm_ft c k = 1 then va_rf ((am_R h a k).map μ) else .int (am_I h a k)
def sm_E (dA : Nat → ClassId) (μ : Nat → Nat) (h : AH) (a : Nat) : va_E :=
  if am_kd h a < 5 then .inr (am_kd h a, (List.range (am_ln h a)).map (sm_fv μ h (am_kd h a) a))
  else .inl (dA (am_kd h a), am_ln h a, if am_kd h a = 6 then .inr (.inl (am_J h a)) else if am_kd h a = 8 then .inr (.inr (.inr (.inr fun j => (am_R h a j).map μ))) else .inl (am_I h a))
def sm_wl (dA : Nat → ClassId) (μ : Nat → Nat) (h : AH) : va_W := (List.range (h.1.length - 1)).map fun i => (μ (i + 1), sm_E dA μ h (i + 1))
def sm_sz (h : AH) : Nat := (h.1.map fun t => t.2).sum
def sm_WF (L : Nat) (xs : Nat → Int32) (h : AH) : Prop := h.1[0]? = some (9, L) ∧ (∀ j, am_I h 0 j = xs j) ∧ (∀ a, 0 < a → a < h.1.length → am_kd h a < 9 ∧ (am_kd h a < 5 → am_ln h a = sm_nf (am_kd h a))) ∧ ∀ a k c, am_R h a k = some c → c < h.1.length
def sm_R (D : va_G) (dA : Nat → ClassId) (base b L : Nat) (xs : Nat → Int32) (μ : Nat → Nat) (h : AH) (H : Heap) : Prop := va_P D vwCl (sm_wl dA μ h) H ∧ va_D (fun q => base ≤ q) (sm_wl dA μ h) ∧ μ 0 = b ∧ sm_WF L xs h
def sm_L (μ : Nat → Nat) (n nL : Nat) (ls : List Value) (A : Array Slot) : Prop := A.size = nL ∧ lv_wf A ∧ ls.length = nL ∧ (∀ (i : Nat) (v : Value), ls[i]? = some v → v ≠ am_ph → A[i]? = some (.val (sm_v μ v))) ∧ ∀ v ∈ ls, sm_wv n v
theorem sm_wv_i {n : Nat} {x : Int32} : sm_wv n (.int x) := fun _ h => by rcases h with h | ⟨d, h⟩ <;> cases h
theorem sm_wv_l {n : Nat} {x : Int64} : sm_wv n (.long x) := fun _ h => by rcases h with h | ⟨d, h⟩ <;> cases h
theorem sm_wv_n {n : Nat} : sm_wv n .null := fun _ h => by rcases h with h | ⟨d, h⟩ <;> cases h
theorem sm_wv_r {n a : Nat} (h : a < n) : sm_wv n (.ref a) := fun _ e => by
  rcases e with e | ⟨d, e⟩
  · cases e; exact h
  · cases e
theorem sm_wt {n : Nat} {a : Value} {r : List Value} (h : ∀ v ∈ a :: r, sm_wv n v) : ∀ v ∈ r, sm_wv n v := fun v hv => h v (List.mem_cons_of_mem _ hv)
theorem sm_wc {n : Nat} {a : Value} {r : List Value} (ha : sm_wv n a) (h : ∀ v ∈ r, sm_wv n v) : ∀ v ∈ a :: r, sm_wv n v := fun v hv => by
  rcases List.mem_cons.mp hv with rfl | hv
  · exact ha
  · exact h v hv
theorem sm_wm {n k : Nat} (hk : n ≤ k) {r : List Value} (h : ∀ v ∈ r, sm_wv n v) : ∀ v ∈ r, sm_wv k v := fun v hv a e => Nat.lt_of_lt_of_le (h v hv a e) hk
theorem sm_wh {n a : Nat} {r : List Value} (h : ∀ v ∈ Value.ref a :: r, sm_wv n v) : a < n := h _ List.mem_cons_self a (Or.inl rfl)
theorem sm_cat (μ : Nat → Nat) (v : Value) : (sm_v μ v).category = v.category := by cases v <;> rfl
theorem sm_v_ph {μ : Nat → Nat} {v : Value} (h : v ≠ am_ph) : sm_v μ v ≠ am_ph := by
  cases v <;> simp_all [sm_v, am_ph]
theorem sm_kd_lt {h : AH} {a k : Nat} (hk : am_kd h a = k) (h9 : k < 99) : a < h.1.length := by
  rcases Nat.lt_or_ge a h.1.length with q | q
  · exact q
  · unfold am_kd at hk
    rw [List.getD_eq_getElem?_getD, List.getElem?_eq_none q] at hk
    simp at hk
    omega
theorem sm_WF.pos {L : Nat} {xs : Nat → Int32} {h : AH} (w : sm_WF L xs h) {a k : Nat} (hk : am_kd h a = k) (h9 : k < 9) : 0 < a := by
  rcases Nat.eq_zero_or_pos a with q | q
  · subst q
    have := w.1
    unfold am_kd at hk
    rw [List.getD_eq_getElem?_getD, this] at hk
    simp at hk
    omega
  · exact q
theorem sm_WF.one {L : Nat} {xs : Nat → Int32} {h : AH} (w : sm_WF L xs h) : 1 ≤ h.1.length := by
  rcases Nat.eq_zero_or_pos h.1.length with q | q
  · have := w.1
    rw [List.getElem?_eq_none (by omega)] at this
    cases this
  · exact q
theorem sm_wl_get {dA : Nat → ClassId} {μ : Nat → Nat} {h : AH} {a : Nat} (h0 : 0 < a) (h1 : a < h.1.length) : (sm_wl dA μ h)[a - 1]? = some (μ a, sm_E dA μ h a) := by
  unfold sm_wl
  rw [List.getElem?_map, List.getElem?_range (by omega)]
  simp [Nat.sub_add_cancel h0]
theorem sm_E_same {dA : Nat → ClassId} {μ μ' : Nat → Nat} {h h' : AH} {a : Nat} (hk : am_kd h' a = am_kd h a) (hn : am_ln h' a = am_ln h a) (hI : am_I h' a = am_I h a) (hJ : am_J h' a = am_J h a) (hR : ∀ k, (am_R h' a k).map μ' = (am_R h a k).map μ) : sm_E dA μ' h' a = sm_E dA μ h a := by
  have e : sm_fv μ' h' (am_kd h a) a = sm_fv μ h (am_kd h a) a := by
    funext k
    unfold sm_fv
    rw [hI, hR]
  unfold sm_E
  rw [hk, hn, hI, hJ, e]
  simp only [hR]
theorem sm_wl_set {dA : Nat → ClassId} {μ : Nat → Nat} {h h' : AH} {a : Nat} (h0 : 0 < a) (h1 : a < h.1.length) (ht : h'.1 = h.1) (hs : ∀ c, c ≠ a → am_I h' c = am_I h c ∧ am_J h' c = am_J h c ∧ am_R h' c = am_R h c) : sm_wl dA μ h' = (sm_wl dA μ h).set (a - 1) (μ a, sm_E dA μ h' a) := by
  apply List.ext_getElem?
  intro i
  rw [List.getElem?_set]
  unfold sm_wl
  rw [ht]
  simp only [List.getElem?_map, List.length_map, List.length_range]
  by_cases hi : a - 1 = i
  · subst hi
    rw [if_pos rfl, List.getElem?_range (by omega), if_pos (by omega)]
    simp [Nat.sub_add_cancel h0]
  · rw [if_neg hi]
    by_cases hl : i < h.1.length - 1
    · rw [List.getElem?_range hl]
      simp only [Option.map_some]
      obtain ⟨e1, e2, e3⟩ := hs (i + 1) (by omega)
      rw [sm_E_same (by unfold am_kd; rw [ht]) (by unfold am_ln; rw [ht]) e1 e2 (fun k => by rw [e3])]
    · rw [List.getElem?_eq_none (by simp; omega)]
      rfl
theorem sm_kd_nw {h : AH} {k n a : Nat} (ha : a < h.1.length) : am_kd (am_nw h k n) a = am_kd h a ∧ am_ln (am_nw h k n) a = am_ln h a := by
  unfold am_kd am_ln am_nw
  simp only [List.getD_eq_getElem?_getD]
  rw [List.getElem?_append_left ha]
  exact ⟨rfl, rfl⟩
theorem sm_kd_nw0 {h : AH} {k n : Nat} : am_kd (am_nw h k n) h.1.length = k ∧ am_ln (am_nw h k n) h.1.length = n := by
  unfold am_kd am_ln am_nw
  simp only [List.getD_eq_getElem?_getD]
  rw [List.getElem?_append_right (Nat.le_refl _)]
  simp
theorem am_ud_ne {α : Type} {f : Nat → α} {k j : Nat} {v : α} (h : j ≠ k) : am_ud f k v j = f j := by simp [am_ud, h]
theorem am_ud_eq {α : Type} {f : Nat → α} {k : Nat} {v : α} : am_ud f k v k = v := by simp [am_ud]
theorem sm_wl_nw {dA : Nat → ClassId} {μ : Nat → Nat} {h : AH} {k n q : Nat} (h1 : 1 ≤ h.1.length) (hr : ∀ a k c, am_R h a k = some c → c < h.1.length) : sm_wl dA (am_ud μ h.1.length q) (am_nw h k n) = sm_wl dA μ h ++ [(q, sm_E dA (am_ud μ h.1.length q) (am_nw h k n) h.1.length)] := by
  have hl : (am_nw h k n).1.length = h.1.length + 1 := by simp [am_nw]
  unfold sm_wl
  rw [hl, show h.1.length + 1 - 1 = (h.1.length - 1) + 1 by omega, List.range_succ, List.map_append]
  congr 1
  · apply List.map_congr_left
    intro i hi
    have hi := List.mem_range.mp hi
    have hne : i + 1 ≠ h.1.length := by omega
    obtain ⟨e1, e2⟩ := sm_kd_nw (h := h) (k := k) (n := n) (a := i + 1) (by omega)
    rw [am_ud_ne hne, sm_E_same (h := h) (μ := μ) e1 e2 (am_ud_ne hne) (am_ud_ne hne)]
    intro j
    rw [show am_R (am_nw h k n) (i + 1) = am_R h (i + 1) from am_ud_ne hne]
    cases hc : am_R h (i + 1) j with
    | none => rfl
    | some c => simp [am_ud, Nat.ne_of_lt (hr _ _ _ hc)]
  · simp only [List.map_cons, List.map_nil]
    rw [show h.1.length - 1 + 1 = h.1.length by omega, am_ud_eq]
theorem sm_sz_nw (h : AH) (k n : Nat) : sm_sz (am_nw h k n) = sm_sz h + n := by simp [sm_sz, am_nw]
theorem sm_ln_nw (h : AH) (k n : Nat) : (am_nw h k n).1.length = h.1.length + 1 := by simp [am_nw]
theorem sm_WF.nw {L : Nat} {xs : Nat → Int32} {h : AH} {k n : Nat} (w : sm_WF L xs h) (hk : k < 9) (hn : k < 5 → n = sm_nf k) : sm_WF L xs (am_nw h k n) := by
  have h1 := w.one
  obtain ⟨w1, w2, w3, w4⟩ := w
  refine ⟨?_, fun j => ?_, fun a ha hl => ?_, fun a j c hc => ?_⟩
  · show (h.1 ++ [(k, n)])[0]? = _
    rw [List.getElem?_append_left (by omega)]
    exact w1
  · show am_ud (am_I h) h.1.length (fun _ => 0) 0 j = xs j
    rw [am_ud_ne (by omega)]
    exact w2 j
  · rw [sm_ln_nw] at hl
    by_cases he : a = h.1.length
    · subst he
      rw [sm_kd_nw0.1, sm_kd_nw0.2]
      exact ⟨hk, hn⟩
    · obtain ⟨e1, e2⟩ := sm_kd_nw (h := h) (k := k) (n := n) (a := a) (by omega)
      rw [e1, e2]
      exact w3 a ha (by omega)
  · rw [sm_ln_nw]
    by_cases he : a = h.1.length
    · subst he
      rw [show am_R (am_nw h k n) h.1.length = fun _ => none from am_ud_eq] at hc
      cases hc
    · rw [show am_R (am_nw h k n) a = am_R h a from am_ud_ne he] at hc
      exact Nat.lt_succ_of_lt (w4 a j c hc)
/-- the tables' words of the five classes -/
theorem sm_cls {ci : Nat} {r : vw_C} (h : vwCl[ci]? = some r) : ci < 5 ∧ r.1 = sm_cn ci ∧ r.2.2 = sm_nf ci ∧ (∀ w ∈ u_ws r.1 r.2.1 r.2.2, w ∈ sm_GT) ∧ (∀ k, k < r.2.2 → parseFieldDescriptor (r.2.1 k).2.2.1 = some (sm_tyf ci k)) ∧ (∀ a, a < r.2.2 → ∀ b, b < r.2.2 → a ≠ b → (r.2.1 a).2.1 ≠ (r.2.1 b).2.1) ∧ Cond.instantiable r.1 r.2.2 ∈ sm_GT ∧ Cond.initialized r.1 ∈ sm_GT ∧ (∀ k, k < r.2.2 → (sm_ft ci k = 0 → sm_tyf ci k = .int) ∧ (sm_ft ci k = 2 → sm_tyf ci k = .boolean) ∧ (sm_ft ci k = 1 → (∃ n, sm_tyf ci k = .object n) ∨ ∃ t, sm_tyf ci k = .array t) ∧ sm_ft ci k ≤ 2) := by
  have gl : ∀ {C : String} {T : u_T} {N : Nat}, (∀ w ∈ u_ws C T N, w ∈ lw_tbl) → ∀ w ∈ u_ws C T N, w ∈ sm_GT := by
    intro C T N hi w hw
    refine List.mem_filter.mpr ⟨hi w hw, ?_⟩
    obtain ⟨k, -, rfl⟩ := List.mem_map.mp hw
    unfold u_lay
    split <;> rfl
  match ci, h with
  | 0, h =>
    cases h
    exact ⟨by omega, rfl, rfl, gl inX0, tyX0_ok, nmX0, List.mem_filter.mpr ⟨List.mem_of_getElem? (i := 79) (by decide +kernel), rfl⟩, List.mem_filter.mpr ⟨List.mem_of_getElem? (i := 26) (by decide +kernel), rfl⟩, fun k hk => by
      rcases (show k = 0 ∨ k = 1 ∨ k = 2 ∨ k = 3 ∨ k = 4 ∨ k = 5 ∨ k = 6 ∨ k = 7 ∨ k = 8 ∨ k = 9 ∨ k = 10 by simp only at hk; omega) with rfl | rfl | rfl | rfl | rfl | rfl | rfl | rfl | rfl | rfl | rfl <;> simp [sm_ft, sm_fts, sm_tyf, tyX0]⟩
  | 1, h =>
    cases h
    exact ⟨by omega, rfl, rfl, gl inX1, tyX1_ok, nmX1, List.mem_filter.mpr ⟨List.mem_of_getElem? (i := 121) (by decide +kernel), rfl⟩, List.mem_filter.mpr ⟨List.mem_of_getElem? (i := 27) (by decide +kernel), rfl⟩, fun k hk => by
      rcases (show k = 0 ∨ k = 1 ∨ k = 2 ∨ k = 3 ∨ k = 4 ∨ k = 5 ∨ k = 6 ∨ k = 7 ∨ k = 8 by simp only at hk; omega) with rfl | rfl | rfl | rfl | rfl | rfl | rfl | rfl | rfl <;> simp [sm_ft, sm_fts, sm_tyf, tyX1]⟩
  | 2, h =>
    cases h
    exact ⟨by omega, rfl, rfl, gl inX2, tyX2_ok, nmX2, List.mem_filter.mpr ⟨List.mem_of_getElem? (i := 39) (by decide +kernel), rfl⟩, List.mem_filter.mpr ⟨List.mem_of_getElem? (i := 25) (by decide +kernel), rfl⟩, fun k hk => by
      rcases (show k = 0 ∨ k = 1 ∨ k = 2 ∨ k = 3 ∨ k = 4 by simp only at hk; omega) with rfl | rfl | rfl | rfl | rfl <;> simp [sm_ft, sm_fts, sm_tyf, tyX2]⟩
  | 3, h =>
    cases h
    exact ⟨by omega, rfl, rfl, gl inX3, tyX3_ok, nmX3, List.mem_filter.mpr ⟨List.mem_of_getElem? (i := 31) (by decide +kernel), rfl⟩, List.mem_filter.mpr ⟨List.mem_of_getElem? (i := 24) (by decide +kernel), rfl⟩, fun k hk => by
      rcases (show k = 0 ∨ k = 1 ∨ k = 2 ∨ k = 3 ∨ k = 4 ∨ k = 5 by simp only at hk; omega) with rfl | rfl | rfl | rfl | rfl | rfl <;> simp [sm_ft, sm_fts, sm_tyf, tyX3]⟩
  | k + 4, h => simp [vwCl] at h
end
section
/-! ===== ONE STEP OF THE SMALL MACHINE IS STEPS OF THE MACHINE ===== -/
def sm_nx (p : Program) (l : Launch) (e : Env) (R : Room) (s : State) (m : MethodId) (args : Array Value) (below : List Frame) (meth : Method) (c : Code) (Q : State → Prop) (P : SP) (D : va_G) (dA : Nat → ClassId) (base b L : Nat) (xs : Nat → Int32) (μ0 : Nat → Nat) (n0 cE sE : Nat) (F : AH) (pc : Nat) (ls st : List Value) (h : AH) : Prop :=
  h.1.length ≤ F.1.length ∧ sm_sz h ≤ sm_sz F ∧ (n0 ≤ h.1.length → ∀ (μ : Nat → Nat) (H : Heap) (locs : List Loc) (cells slots : Nat) (A : Array Slot), sm_R D dA base b L xs μ h H → sm_L μ h.1.length P.2.2.1 ls A → (∀ v ∈ st, sm_wv h.1.length v) → va_S (fun q => base ≤ q) s.heap H locs → (∀ a, a < n0 → μ a = μ0 a) → cells + F.1.length = cE + h.1.length → slots + sm_sz F = sE + sm_sz h → W p l e R s m args below meth c H locs cells slots Q (F0 m pc A (st.map (sm_v μ))))
/-- what stands about a frame: the machine, its code, the tables' words, the script, its room -/
def sm_cx (p : Program) (R : Room) (s : State) (m : MethodId) (args : Array Value) (meth : Method) (c : Code) (P : SP) (Ts : List Cond) (D : va_G) (dA : Nat → ClassId) (base b L : Nat) (xs : Nat → Int32) (cE sE : Nat) : Prop :=
  p.tables.exec = Jvm.exec ∧ c.code = P.2.1 ∧ c.maxLocals = P.2.2.1 ∧ s.vm.findClass P.1.cls = some m.cls ∧ (∀ w ∈ Ts, w.before args s = true) ∧ (∀ w ∈ sm_GT, w ∈ Ts) ∧ (∀ w ∈ sm_NT, va_Nw w s) ∧ va_AO RX2 s ∧ va_K D vwCl (sm_TY dA) s ∧ va_X b L xs s s.heap ∧ b < base ∧ base ≤ s.heap.size ∧ (P.1.name = "<init>" → meth.name = "<init>") ∧ P.2.2.2.2.1 ≤ R.frames ∧ P.2.2.2.2.2.1 ≤ R.locals ∧ cE ≤ R.cells ∧ sE ≤ R.slots
section inv
variable {st : List Value}
theorem am_i1_ex {f : Int32 → List Value → Prop} (h : am_i1 False f st) : ∃ x r, st = .int x :: r ∧ f x r := by
  unfold am_i1 at h
  split at h
  · exact ⟨_, _, rfl, h⟩
  · cases h
theorem am_i2_ex {f : Int32 → Int32 → List Value → Prop} (h : am_i2 False f st) : ∃ x y r, st = .int y :: .int x :: r ∧ f x y r := by
  unfold am_i2 at h
  split at h
  · exact ⟨_, _, _, rfl, h⟩
  · cases h
theorem am_l1_ex {f : Int64 → List Value → Prop} (h : am_l1 False f st) : ∃ x r, st = .long x :: r ∧ f x r := by
  unfold am_l1 at h
  split at h
  · exact ⟨_, _, rfl, h⟩
  · cases h
theorem am_l2_ex {f : Int64 → Int64 → List Value → Prop} (h : am_l2 False f st) : ∃ x y r, st = .long y :: .long x :: r ∧ f x y r := by
  unfold am_l2 at h
  split at h
  · exact ⟨_, _, _, rfl, h⟩
  · cases h
theorem am_li_ex {f : Int64 → Int32 → List Value → Prop} (h : am_li False f st) : ∃ x y r, st = .int y :: .long x :: r ∧ f x y r := by
  unfold am_li at h
  split at h
  · exact ⟨_, _, _, rfl, h⟩
  · cases h
theorem am_r1_ex {f : Nat → List Value → Prop} (h : am_r1 False f st) : ∃ a r, st = .ref a :: r ∧ f a r := by
  unfold am_r1 at h
  split at h
  · exact ⟨_, _, rfl, h⟩
  · cases h
theorem am_o1_ex {f : Option Nat → List Value → Prop} (h : am_o1 False f st) : ∃ o r, st = am_ob o :: r ∧ f o r := by
  unfold am_o1 at h
  split at h
  · exact ⟨some _, _, rfl, h⟩
  · exact ⟨none, _, rfl, h⟩
  · cases h
theorem am_ai_ex {f : Nat → Int32 → List Value → Prop} (h : am_ai False f st) : ∃ a i r, st = .int i :: .ref a :: r ∧ f a i r := by
  unfold am_ai at h
  split at h
  · exact ⟨_, _, _, rfl, h⟩
  · cases h
theorem am_aii_ex {f : Nat → Int32 → Int32 → List Value → Prop} (h : am_aii False f st) : ∃ a i x r, st = .int x :: .int i :: .ref a :: r ∧ f a i x r := by
  unfold am_aii at h
  split at h
  · exact ⟨_, _, _, _, rfl, h⟩
  · cases h
theorem am_ail_ex {f : Nat → Int32 → Int64 → List Value → Prop} (h : am_ail False f st) : ∃ a i x r, st = .long x :: .int i :: .ref a :: r ∧ f a i x r := by
  unfold am_ail at h
  split at h
  · exact ⟨_, _, _, _, rfl, h⟩
  · cases h
theorem am_air_ex {f : Nat → Int32 → Option Nat → List Value → Prop} (h : am_air False f st) : ∃ a i o r, st = am_ob o :: .int i :: .ref a :: r ∧ f a i o r := by
  unfold am_air at h
  split at h
  · exact ⟨_, _, some _, _, rfl, h⟩
  · exact ⟨_, _, none, _, rfl, h⟩
  · cases h
theorem am_ri_ex {f : Nat → Int32 → List Value → Prop} (h : am_ri False f st) : ∃ a x r, st = .int x :: .ref a :: r ∧ f a x r := by
  unfold am_ri at h
  split at h
  · exact ⟨_, _, _, rfl, h⟩
  · cases h
theorem am_rr_ex {f : Nat → Option Nat → List Value → Prop} (h : am_rr False f st) : ∃ a o r, st = am_ob o :: .ref a :: r ∧ f a o r := by
  unfold am_rr at h
  split at h
  · exact ⟨_, some _, _, rfl, h⟩
  · exact ⟨_, none, _, rfl, h⟩
  · cases h
theorem am_v1_ex {f : Value → List Value → Prop} (h : am_v1 False f st) : ∃ v r, st = v :: r ∧ v.category = 1 ∧ f v r := by
  unfold am_v1 at h
  split at h
  · split at h
    · exact ⟨_, _, rfl, by assumption, h⟩
    · cases h
  · cases h
theorem am_v2_ex {f : Value → Value → List Value → Prop} (h : am_v2 False f st) : ∃ v w r, st = v :: w :: r ∧ (v.category = 1 ∧ w.category = 1) ∧ f v w r := by
  unfold am_v2 at h
  split at h
  · split at h
    · exact ⟨_, _, _, rfl, by assumption, h⟩
    · cases h
  · cases h
theorem am_ldI_ex {f : Int32 → Prop} {o : Option Value} (h : am_ldI False f o) : ∃ x, o = some (.int x) ∧ f x := by
  unfold am_ldI at h
  split at h
  · exact ⟨_, rfl, h⟩
  · cases h
theorem am_ldJ_ex {f : Int64 → Prop} {o : Option Value} (h : am_ldJ False f o) : ∃ x, o = some (.long x) ∧ f x := by
  unfold am_ldJ at h
  split at h
  · exact ⟨_, rfl, h⟩
  · cases h
theorem am_ldA_ex {f : Option Nat → Prop} {o : Option Value} (h : am_ldA False f o) : ∃ x, o = some (am_ob x) ∧ f x := by
  unfold am_ldA at h
  split at h
  · exact ⟨some _, rfl, h⟩
  · exact ⟨none, rfl, h⟩
  · cases h
end inv
theorem sm_ob_cat (o : Option Nat) : (am_ob o).category = 1 := by cases o <;> rfl
theorem sm_ob_ph (o : Option Nat) : am_ob o ≠ am_ph := by cases o <;> (intro h; cases h)
/-! locals -/
def sm_as (μ : Nat → Nat) (ls : List Value) : List (Nat × Value) := ls.zipIdx.filterMap fun q => if q.1 = am_ph then none else some (q.2, sm_v μ q.1)
theorem sm_as_mem {μ : Nat → Nat} {ls : List Value} {i : Nat} {w : Value} : (i, w) ∈ sm_as μ ls ↔ ∃ v, ls[i]? = some v ∧ v ≠ am_ph ∧ w = sm_v μ v := by
  unfold sm_as
  rw [List.mem_filterMap]
  constructor
  · rintro ⟨⟨v, j⟩, hm, he⟩
    rw [List.mem_zipIdx_iff_getElem?] at hm
    by_cases hp : v = am_ph
    · simp [hp] at he
    · simp only [hp, if_false, Option.some.injEq, Prod.mk.injEq] at he
      exact ⟨v, by rw [← he.1]; exact hm, hp, he.2.symm⟩
  · rintro ⟨v, h1, h2, rfl⟩
    exact ⟨(v, i), by rw [List.mem_zipIdx_iff_getElem?]; exact h1, by simp [h2]⟩
theorem sm_L.has {μ : Nat → Nat} {n nL : Nat} {ls : List Value} {A : Array Slot} (h : sm_L μ n nL ls A) : lv_has A nL (sm_as μ ls) := by
  refine ⟨h.1, h.2.1, fun q hq => ?_⟩
  obtain ⟨v, h1, h2, h3⟩ := sm_as_mem.mp hq
  rw [h3]
  exact h.2.2.2.1 _ _ h1 h2
theorem am_set1_get : ∀ (ls : List Value) (k : Nat) (v : Value) (j : Nat), k < ls.length → (am_set1 ls k v)[j]? = if j = k then some v else if j + 1 = k then ls[j]?.map am_half else ls[j]?
  | [], k, v, j, h => by simp at h
  | a :: r, 0, v, j, h => by
    cases j with
    | zero => rfl
    | succ j => simp [am_set1]
  | a :: r, 1, v, j, h => by
    have h2 : 0 < r.length := by
      simp only [List.length_cons] at h
      omega
    cases j with
    | zero => simp [am_set1]
    | succ j =>
      have := am_set1_get r 0 v j h2
      simp only [am_set1, List.getElem?_cons_succ, this]
      cases j <;> simp
  | a :: r, k + 2, v, j, h => by
    have h2 : k + 1 < r.length := by
      simp only [List.length_cons] at h
      omega
    cases j with
    | zero => simp [am_set1]
    | succ j =>
      have := am_set1_get r (k + 1) v j h2
      simp only [am_set1, List.getElem?_cons_succ, this]
      simp only [Nat.add_right_cancel_iff]
theorem am_set1_len : ∀ (ls : List Value) (k : Nat) (v : Value), (am_set1 ls k v).length = ls.length
  | [], k, v => rfl
  | a :: r, 0, v => rfl
  | a :: r, 1, v => by simp [am_set1, am_set1_len r 0 v]
  | a :: r, k + 2, v => by simp [am_set1, am_set1_len r (k + 1) v]
theorem am_set2_get : ∀ (ls : List Value) (k : Nat) (v : Value) (j : Nat), k + 1 < ls.length → (am_set2 ls k v)[j]? = if j = k then some v else if j = k + 1 then some am_ph else if j + 1 = k then ls[j]?.map am_half else ls[j]?
  | [], k, v, j, h => by simp at h
  | a :: r, 0, v, j, h => by
    have h2 : 0 < r.length := by
      simp only [List.length_cons] at h
      omega
    cases j with
    | zero => rfl
    | succ j =>
      have := am_set1_get r 0 am_ph j h2
      simp only [am_set2, List.getElem?_cons_succ, this]
      cases j <;> simp
  | a :: r, 1, v, j, h => by
    have h2 : 0 + 1 < r.length := by
      simp only [List.length_cons] at h
      omega
    cases j with
    | zero => simp [am_set2]
    | succ j =>
      have := am_set2_get r 0 v j h2
      simp only [am_set2, List.getElem?_cons_succ, this]
      cases j <;> simp
  | a :: r, k + 2, v, j, h => by
    have h2 : (k + 1) + 1 < r.length := by
      simp only [List.length_cons] at h
      omega
    cases j with
    | zero => simp [am_set2]
    | succ j =>
      have := am_set2_get r (k + 1) v j h2
      simp only [am_set2, List.getElem?_cons_succ, this]
      simp only [Nat.add_right_cancel_iff]
theorem am_set2_len : ∀ (ls : List Value) (k : Nat) (v : Value), (am_set2 ls k v).length = ls.length
  | [], k, v => rfl
  | a :: r, 0, v => by simp [am_set2, am_set1_len]
  | a :: r, 1, v => by simp [am_set2, am_set2_len r 0 v]
  | a :: r, k + 2, v => by simp [am_set2, am_set2_len r (k + 1) v]
theorem am_half_some {v u : Value} (h : am_half v = u) (hu : u ≠ am_ph) : u = v ∧ v.category ≠ 2 := by
  cases v <;> simp_all [am_half, Value.category]
theorem sm_L.set1 {μ : Nat → Nat} {n nL k : Nat} {ls : List Value} {A A' : Array Slot} {v : Value} (h : sm_L μ n nL ls A) (hk : k < ls.length) (hw : sm_wv n v)
    (h' : lv_has A' nL ((k, sm_v μ v) :: (sm_as μ ls).filter (fun q => !(q.1 == k) && !(q.1 + 1 == k && q.2.category == 2)))) : sm_L μ n nL (am_set1 ls k v) A' := by
  refine ⟨h'.1, h'.2.1, by rw [am_set1_len]; exact h.2.2.1, fun i u hu hp => ?_, fun u hu => ?_⟩
  · rw [am_set1_get ls k v i hk] at hu
    by_cases e : i = k
    · rw [if_pos e] at hu
      cases hu
      subst e
      exact h'.2.2 (i, sm_v μ v) List.mem_cons_self
    · rw [if_neg e] at hu
      have key : ∀ w, ls[i]? = some w → w ≠ am_ph → (i + 1 = k → w.category ≠ 2) → A'[i]? = some (.val (sm_v μ w)) := fun w h1 h2 h3 => by
        refine h'.2.2 (i, sm_v μ w) (List.mem_cons_of_mem _ (List.mem_filter.mpr ⟨sm_as_mem.mpr ⟨w, h1, h2, rfl⟩, ?_⟩))
        by_cases e2 : i + 1 = k
        · simp [e, sm_cat, h3 e2]
        · simp [e, e2]
      by_cases e2 : i + 1 = k
      · rw [if_pos e2] at hu
        cases hx : ls[i]? with
        | none => rw [hx] at hu; cases hu
        | some w =>
          rw [hx] at hu
          obtain ⟨rfl, h3⟩ := am_half_some (Option.some.inj hu) hp
          exact key _ hx hp (fun _ => h3)
      · rw [if_neg e2] at hu
        exact key u hu hp (fun z => absurd z e2)
  · obtain ⟨i, hi⟩ := List.getElem?_of_mem hu
    rw [am_set1_get ls k v i hk] at hi
    by_cases e : i = k
    · rw [if_pos e] at hi; cases hi; exact hw
    · rw [if_neg e] at hi
      by_cases e2 : i + 1 = k
      · rw [if_pos e2] at hi
        cases hx : ls[i]? with
        | none => rw [hx] at hi; cases hi
        | some w =>
          rw [hx] at hi
          cases hi
          have := h.2.2.2.2 w (List.mem_of_getElem? hx)
          cases w <;> first | exact this | exact sm_wv_ph
      · rw [if_neg e2] at hi
        exact h.2.2.2.2 u (List.mem_of_getElem? hi)
theorem sm_L.set2 {μ : Nat → Nat} {n nL k : Nat} {ls : List Value} {A A' : Array Slot} {x : Int64} (h : sm_L μ n nL ls A) (hk : k + 1 < ls.length)
    (h' : lv_has A' nL ((k, .long x) :: (sm_as μ ls).filter (fun q => !(q.1 == k) && (!(q.1 == k + 1) && !(q.1 + 1 == k && q.2.category == 2))))) : sm_L μ n nL (am_set2 ls k (.long x)) A' := by
  refine ⟨h'.1, h'.2.1, by rw [am_set2_len]; exact h.2.2.1, fun i u hu hp => ?_, fun u hu => ?_⟩
  · rw [am_set2_get ls k _ i hk] at hu
    by_cases e : i = k
    · rw [if_pos e] at hu
      cases hu
      subst e
      exact h'.2.2 (i, .long x) List.mem_cons_self
    · rw [if_neg e] at hu
      by_cases e1 : i = k + 1
      · rw [if_pos e1] at hu
        exact absurd (Option.some.inj hu).symm hp
      · rw [if_neg e1] at hu
        have key : ∀ w, ls[i]? = some w → w ≠ am_ph → (i + 1 = k → w.category ≠ 2) → A'[i]? = some (.val (sm_v μ w)) := fun w h1 h2 h3 => by
          refine h'.2.2 (i, sm_v μ w) (List.mem_cons_of_mem _ (List.mem_filter.mpr ⟨sm_as_mem.mpr ⟨w, h1, h2, rfl⟩, ?_⟩))
          by_cases e2 : i + 1 = k
          · simp [e, e1, sm_cat, h3 e2]
          · simp [e, e1, e2]
        by_cases e2 : i + 1 = k
        · rw [if_pos e2] at hu
          cases hx : ls[i]? with
          | none => rw [hx] at hu; cases hu
          | some w =>
            rw [hx] at hu
            obtain ⟨rfl, h3⟩ := am_half_some (Option.some.inj hu) hp
            exact key _ hx hp (fun _ => h3)
        · rw [if_neg e2] at hu
          exact key u hu hp (fun z => absurd z e2)
  · obtain ⟨i, hi⟩ := List.getElem?_of_mem hu
    rw [am_set2_get ls k _ i hk] at hi
    by_cases e : i = k
    · rw [if_pos e] at hi; cases hi; exact sm_wv_l
    · rw [if_neg e] at hi
      by_cases e1 : i = k + 1
      · rw [if_pos e1] at hi; cases hi; exact sm_wv_ph
      · rw [if_neg e1] at hi
        by_cases e2 : i + 1 = k
        · rw [if_pos e2] at hi
          cases hx : ls[i]? with
          | none => rw [hx] at hi; cases hi
          | some w =>
            rw [hx] at hi
            cases hi
            have := h.2.2.2.2 w (List.mem_of_getElem? hx)
            cases w <;> first | exact this | exact sm_wv_ph
        · rw [if_neg e2] at hi
          exact h.2.2.2.2 u (List.mem_of_getElem? hi)
end
section
/-! ===== the rows: an instruction of the small machine, and the kit's row of it ===== -/
section steps
variable {p : Program} {l : Launch} {e : Env} {R : Room} {s : State} {m : MethodId} {args : Array Value} {below : List Frame} {meth : Method} {c : Code} {Q : State → Prop}
variable {P : SP} {Ts : List Cond} {D : va_G} {dA : Nat → ClassId} {base b L : Nat} {xs : Nat → Int32} {μ0 : Nat → Nat} {n0 cE sE : Nat} {F : AH}
variable {CL : Nat → Nat → Nat → List Value → Nat → List Value → List Value → AH → Prop} {RT : Option Value → AH → Prop} {rk : Nat} {ts : List Nat} {cv : Int32} {cj : Int64} {ls st : List Value} {h : AH} {pc : Nat}
theorem sm_x_iadd (hx : p.tables.exec = Jvm.exec) (hb : c.code = P.2.1) (hd : decode P.2.1 pc = .ok (.iadd, 1)) (h1 : am_x_iadd (sm_nx p l e R s m args below meth c Q P D dA base b L xs μ0 n0 cE sE F) CL RT False rk (pc + 1) ts cv cj ls st h) : sm_nx p l e R s m args below meth c Q P D dA base b L xs μ0 n0 cE sE F pc ls st h := by
  unfold am_x_iadd at h1
  obtain ⟨x, y, r, rfl, k⟩ := am_i2_ex h1
  exact ⟨k.1, k.2.1, fun hn μ H locs cells slots A hR hL hw hS hm hc hs => lv_iadd hx hb hd (k.2.2 hn μ H locs cells slots A hR hL (sm_wc sm_wv_i (sm_wt (sm_wt hw))) hS hm hc hs)⟩
theorem sm_x_isub (hx : p.tables.exec = Jvm.exec) (hb : c.code = P.2.1) (hd : decode P.2.1 pc = .ok (.isub, 1)) (h1 : am_x_isub (sm_nx p l e R s m args below meth c Q P D dA base b L xs μ0 n0 cE sE F) CL RT False rk (pc + 1) ts cv cj ls st h) : sm_nx p l e R s m args below meth c Q P D dA base b L xs μ0 n0 cE sE F pc ls st h := by
  unfold am_x_isub at h1
  obtain ⟨x, y, r, rfl, k⟩ := am_i2_ex h1
  exact ⟨k.1, k.2.1, fun hn μ H locs cells slots A hR hL hw hS hm hc hs => lv_isub hx hb hd (k.2.2 hn μ H locs cells slots A hR hL (sm_wc sm_wv_i (sm_wt (sm_wt hw))) hS hm hc hs)⟩
theorem sm_x_imul (hx : p.tables.exec = Jvm.exec) (hb : c.code = P.2.1) (hd : decode P.2.1 pc = .ok (.imul, 1)) (h1 : am_x_imul (sm_nx p l e R s m args below meth c Q P D dA base b L xs μ0 n0 cE sE F) CL RT False rk (pc + 1) ts cv cj ls st h) : sm_nx p l e R s m args below meth c Q P D dA base b L xs μ0 n0 cE sE F pc ls st h := by
  unfold am_x_imul at h1
  obtain ⟨x, y, r, rfl, k⟩ := am_i2_ex h1
  exact ⟨k.1, k.2.1, fun hn μ H locs cells slots A hR hL hw hS hm hc hs => lv_imul hx hb hd (k.2.2 hn μ H locs cells slots A hR hL (sm_wc sm_wv_i (sm_wt (sm_wt hw))) hS hm hc hs)⟩
theorem sm_x_iand (hx : p.tables.exec = Jvm.exec) (hb : c.code = P.2.1) (hd : decode P.2.1 pc = .ok (.iand, 1)) (h1 : am_x_iand (sm_nx p l e R s m args below meth c Q P D dA base b L xs μ0 n0 cE sE F) CL RT False rk (pc + 1) ts cv cj ls st h) : sm_nx p l e R s m args below meth c Q P D dA base b L xs μ0 n0 cE sE F pc ls st h := by
  unfold am_x_iand at h1
  obtain ⟨x, y, r, rfl, k⟩ := am_i2_ex h1
  exact ⟨k.1, k.2.1, fun hn μ H locs cells slots A hR hL hw hS hm hc hs => lv_iand hx hb hd (k.2.2 hn μ H locs cells slots A hR hL (sm_wc sm_wv_i (sm_wt (sm_wt hw))) hS hm hc hs)⟩
theorem sm_x_ior (hx : p.tables.exec = Jvm.exec) (hb : c.code = P.2.1) (hd : decode P.2.1 pc = .ok (.ior, 1)) (h1 : am_x_ior (sm_nx p l e R s m args below meth c Q P D dA base b L xs μ0 n0 cE sE F) CL RT False rk (pc + 1) ts cv cj ls st h) : sm_nx p l e R s m args below meth c Q P D dA base b L xs μ0 n0 cE sE F pc ls st h := by
  unfold am_x_ior at h1
  obtain ⟨x, y, r, rfl, k⟩ := am_i2_ex h1
  exact ⟨k.1, k.2.1, fun hn μ H locs cells slots A hR hL hw hS hm hc hs => lv_ior hx hb hd (k.2.2 hn μ H locs cells slots A hR hL (sm_wc sm_wv_i (sm_wt (sm_wt hw))) hS hm hc hs)⟩
theorem sm_x_ixor (hx : p.tables.exec = Jvm.exec) (hb : c.code = P.2.1) (hd : decode P.2.1 pc = .ok (.ixor, 1)) (h1 : am_x_ixor (sm_nx p l e R s m args below meth c Q P D dA base b L xs μ0 n0 cE sE F) CL RT False rk (pc + 1) ts cv cj ls st h) : sm_nx p l e R s m args below meth c Q P D dA base b L xs μ0 n0 cE sE F pc ls st h := by
  unfold am_x_ixor at h1
  obtain ⟨x, y, r, rfl, k⟩ := am_i2_ex h1
  exact ⟨k.1, k.2.1, fun hn μ H locs cells slots A hR hL hw hS hm hc hs => lv_ixor hx hb hd (k.2.2 hn μ H locs cells slots A hR hL (sm_wc sm_wv_i (sm_wt (sm_wt hw))) hS hm hc hs)⟩
theorem sm_x_ishl (hx : p.tables.exec = Jvm.exec) (hb : c.code = P.2.1) (hd : decode P.2.1 pc = .ok (.ishl, 1)) (h1 : am_x_ishl (sm_nx p l e R s m args below meth c Q P D dA base b L xs μ0 n0 cE sE F) CL RT False rk (pc + 1) ts cv cj ls st h) : sm_nx p l e R s m args below meth c Q P D dA base b L xs μ0 n0 cE sE F pc ls st h := by
  unfold am_x_ishl at h1
  obtain ⟨x, y, r, rfl, k⟩ := am_i2_ex h1
  exact ⟨k.1, k.2.1, fun hn μ H locs cells slots A hR hL hw hS hm hc hs => lv_ishl hx hb hd (k.2.2 hn μ H locs cells slots A hR hL (sm_wc sm_wv_i (sm_wt (sm_wt hw))) hS hm hc hs)⟩
theorem sm_x_ishr (hx : p.tables.exec = Jvm.exec) (hb : c.code = P.2.1) (hd : decode P.2.1 pc = .ok (.ishr, 1)) (h1 : am_x_ishr (sm_nx p l e R s m args below meth c Q P D dA base b L xs μ0 n0 cE sE F) CL RT False rk (pc + 1) ts cv cj ls st h) : sm_nx p l e R s m args below meth c Q P D dA base b L xs μ0 n0 cE sE F pc ls st h := by
  unfold am_x_ishr at h1
  obtain ⟨x, y, r, rfl, k⟩ := am_i2_ex h1
  exact ⟨k.1, k.2.1, fun hn μ H locs cells slots A hR hL hw hS hm hc hs => lv_ishr hx hb hd (k.2.2 hn μ H locs cells slots A hR hL (sm_wc sm_wv_i (sm_wt (sm_wt hw))) hS hm hc hs)⟩
theorem sm_x_idiv (hx : p.tables.exec = Jvm.exec) (hb : c.code = P.2.1) (hd : decode P.2.1 pc = .ok (.idiv, 1)) (h1 : am_x_idiv (sm_nx p l e R s m args below meth c Q P D dA base b L xs μ0 n0 cE sE F) CL RT False rk (pc + 1) ts cv cj ls st h) : sm_nx p l e R s m args below meth c Q P D dA base b L xs μ0 n0 cE sE F pc ls st h := by
  unfold am_x_idiv at h1
  obtain ⟨x, y, r, rfl, k⟩ := am_i2_ex h1
  by_cases hy : y = 0
  · rw [if_pos hy] at k
    exact k.elim
  · rw [if_neg hy] at k
    exact ⟨k.1, k.2.1, fun hn μ H locs cells slots A hR hL hw hS hm hc hs => lv_idiv hx hb hd hy (k.2.2 hn μ H locs cells slots A hR hL (sm_wc sm_wv_i (sm_wt (sm_wt hw))) hS hm hc hs)⟩
theorem sm_x_irem (hx : p.tables.exec = Jvm.exec) (hb : c.code = P.2.1) (hd : decode P.2.1 pc = .ok (.irem, 1)) (h1 : am_x_irem (sm_nx p l e R s m args below meth c Q P D dA base b L xs μ0 n0 cE sE F) CL RT False rk (pc + 1) ts cv cj ls st h) : sm_nx p l e R s m args below meth c Q P D dA base b L xs μ0 n0 cE sE F pc ls st h := by
  unfold am_x_irem at h1
  obtain ⟨x, y, r, rfl, k⟩ := am_i2_ex h1
  by_cases hy : y = 0
  · rw [if_pos hy] at k
    exact k.elim
  · rw [if_neg hy] at k
    exact ⟨k.1, k.2.1, fun hn μ H locs cells slots A hR hL hw hS hm hc hs => lv_irem hx hb hd hy (k.2.2 hn μ H locs cells slots A hR hL (sm_wc sm_wv_i (sm_wt (sm_wt hw))) hS hm hc hs)⟩
theorem sm_x_ladd (hx : p.tables.exec = Jvm.exec) (hb : c.code = P.2.1) (hd : decode P.2.1 pc = .ok (.ladd, 1)) (h1 : am_x_ladd (sm_nx p l e R s m args below meth c Q P D dA base b L xs μ0 n0 cE sE F) CL RT False rk (pc + 1) ts cv cj ls st h) : sm_nx p l e R s m args below meth c Q P D dA base b L xs μ0 n0 cE sE F pc ls st h := by
  unfold am_x_ladd at h1
  obtain ⟨x, y, r, rfl, k⟩ := am_l2_ex h1
  exact ⟨k.1, k.2.1, fun hn μ H locs cells slots A hR hL hw hS hm hc hs => lv_ladd hx hb hd (k.2.2 hn μ H locs cells slots A hR hL (sm_wc sm_wv_l (sm_wt (sm_wt hw))) hS hm hc hs)⟩
theorem sm_x_lsub (hx : p.tables.exec = Jvm.exec) (hb : c.code = P.2.1) (hd : decode P.2.1 pc = .ok (.lsub, 1)) (h1 : am_x_lsub (sm_nx p l e R s m args below meth c Q P D dA base b L xs μ0 n0 cE sE F) CL RT False rk (pc + 1) ts cv cj ls st h) : sm_nx p l e R s m args below meth c Q P D dA base b L xs μ0 n0 cE sE F pc ls st h := by
  unfold am_x_lsub at h1
  obtain ⟨x, y, r, rfl, k⟩ := am_l2_ex h1
  exact ⟨k.1, k.2.1, fun hn μ H locs cells slots A hR hL hw hS hm hc hs => lv_lsub hx hb hd (k.2.2 hn μ H locs cells slots A hR hL (sm_wc sm_wv_l (sm_wt (sm_wt hw))) hS hm hc hs)⟩
theorem sm_x_lmul (hx : p.tables.exec = Jvm.exec) (hb : c.code = P.2.1) (hd : decode P.2.1 pc = .ok (.lmul, 1)) (h1 : am_x_lmul (sm_nx p l e R s m args below meth c Q P D dA base b L xs μ0 n0 cE sE F) CL RT False rk (pc + 1) ts cv cj ls st h) : sm_nx p l e R s m args below meth c Q P D dA base b L xs μ0 n0 cE sE F pc ls st h := by
  unfold am_x_lmul at h1
  obtain ⟨x, y, r, rfl, k⟩ := am_l2_ex h1
  exact ⟨k.1, k.2.1, fun hn μ H locs cells slots A hR hL hw hS hm hc hs => lv_lmul hx hb hd (k.2.2 hn μ H locs cells slots A hR hL (sm_wc sm_wv_l (sm_wt (sm_wt hw))) hS hm hc hs)⟩
theorem sm_x_land (hx : p.tables.exec = Jvm.exec) (hb : c.code = P.2.1) (hd : decode P.2.1 pc = .ok (.land, 1)) (h1 : am_x_land (sm_nx p l e R s m args below meth c Q P D dA base b L xs μ0 n0 cE sE F) CL RT False rk (pc + 1) ts cv cj ls st h) : sm_nx p l e R s m args below meth c Q P D dA base b L xs μ0 n0 cE sE F pc ls st h := by
  unfold am_x_land at h1
  obtain ⟨x, y, r, rfl, k⟩ := am_l2_ex h1
  exact ⟨k.1, k.2.1, fun hn μ H locs cells slots A hR hL hw hS hm hc hs => lv_land hx hb hd (k.2.2 hn μ H locs cells slots A hR hL (sm_wc sm_wv_l (sm_wt (sm_wt hw))) hS hm hc hs)⟩
theorem sm_x_lor (hx : p.tables.exec = Jvm.exec) (hb : c.code = P.2.1) (hd : decode P.2.1 pc = .ok (.lor, 1)) (h1 : am_x_lor (sm_nx p l e R s m args below meth c Q P D dA base b L xs μ0 n0 cE sE F) CL RT False rk (pc + 1) ts cv cj ls st h) : sm_nx p l e R s m args below meth c Q P D dA base b L xs μ0 n0 cE sE F pc ls st h := by
  unfold am_x_lor at h1
  obtain ⟨x, y, r, rfl, k⟩ := am_l2_ex h1
  exact ⟨k.1, k.2.1, fun hn μ H locs cells slots A hR hL hw hS hm hc hs => lv_lor hx hb hd (k.2.2 hn μ H locs cells slots A hR hL (sm_wc sm_wv_l (sm_wt (sm_wt hw))) hS hm hc hs)⟩
theorem sm_x_lxor (hx : p.tables.exec = Jvm.exec) (hb : c.code = P.2.1) (hd : decode P.2.1 pc = .ok (.lxor, 1)) (h1 : am_x_lxor (sm_nx p l e R s m args below meth c Q P D dA base b L xs μ0 n0 cE sE F) CL RT False rk (pc + 1) ts cv cj ls st h) : sm_nx p l e R s m args below meth c Q P D dA base b L xs μ0 n0 cE sE F pc ls st h := by
  unfold am_x_lxor at h1
  obtain ⟨x, y, r, rfl, k⟩ := am_l2_ex h1
  exact ⟨k.1, k.2.1, fun hn μ H locs cells slots A hR hL hw hS hm hc hs => lv_lxor hx hb hd (k.2.2 hn μ H locs cells slots A hR hL (sm_wc sm_wv_l (sm_wt (sm_wt hw))) hS hm hc hs)⟩
theorem sm_x_ldiv (hx : p.tables.exec = Jvm.exec) (hb : c.code = P.2.1) (hd : decode P.2.1 pc = .ok (.ldiv, 1)) (h1 : am_x_ldiv (sm_nx p l e R s m args below meth c Q P D dA base b L xs μ0 n0 cE sE F) CL RT False rk (pc + 1) ts cv cj ls st h) : sm_nx p l e R s m args below meth c Q P D dA base b L xs μ0 n0 cE sE F pc ls st h := by
  unfold am_x_ldiv at h1
  obtain ⟨x, y, r, rfl, k⟩ := am_l2_ex h1
  by_cases hy : y = 0
  · rw [if_pos hy] at k
    exact k.elim
  · rw [if_neg hy] at k
    exact ⟨k.1, k.2.1, fun hn μ H locs cells slots A hR hL hw hS hm hc hs => lv_ldiv hx hb hd hy (k.2.2 hn μ H locs cells slots A hR hL (sm_wc sm_wv_l (sm_wt (sm_wt hw))) hS hm hc hs)⟩
theorem sm_x_lrem (hx : p.tables.exec = Jvm.exec) (hb : c.code = P.2.1) (hd : decode P.2.1 pc = .ok (.lrem, 1)) (h1 : am_x_lrem (sm_nx p l e R s m args below meth c Q P D dA base b L xs μ0 n0 cE sE F) CL RT False rk (pc + 1) ts cv cj ls st h) : sm_nx p l e R s m args below meth c Q P D dA base b L xs μ0 n0 cE sE F pc ls st h := by
  unfold am_x_lrem at h1
  obtain ⟨x, y, r, rfl, k⟩ := am_l2_ex h1
  by_cases hy : y = 0
  · rw [if_pos hy] at k
    exact k.elim
  · rw [if_neg hy] at k
    exact ⟨k.1, k.2.1, fun hn μ H locs cells slots A hR hL hw hS hm hc hs => lv_lrem hx hb hd hy (k.2.2 hn μ H locs cells slots A hR hL (sm_wc sm_wv_l (sm_wt (sm_wt hw))) hS hm hc hs)⟩
theorem sm_x_lneg (hx : p.tables.exec = Jvm.exec) (hb : c.code = P.2.1) (hd : decode P.2.1 pc = .ok (.lneg, 1)) (h1 : am_x_lneg (sm_nx p l e R s m args below meth c Q P D dA base b L xs μ0 n0 cE sE F) CL RT False rk (pc + 1) ts cv cj ls st h) : sm_nx p l e R s m args below meth c Q P D dA base b L xs μ0 n0 cE sE F pc ls st h := by
  unfold am_x_lneg at h1
  obtain ⟨x, r, rfl, k⟩ := am_l1_ex h1
  exact ⟨k.1, k.2.1, fun hn μ H locs cells slots A hR hL hw hS hm hc hs => lv_lneg hx hb hd (k.2.2 hn μ H locs cells slots A hR hL (sm_wc sm_wv_l (sm_wt hw)) hS hm hc hs)⟩
theorem sm_x_lshl (hx : p.tables.exec = Jvm.exec) (hb : c.code = P.2.1) (hd : decode P.2.1 pc = .ok (.lshl, 1)) (h1 : am_x_lshl (sm_nx p l e R s m args below meth c Q P D dA base b L xs μ0 n0 cE sE F) CL RT False rk (pc + 1) ts cv cj ls st h) : sm_nx p l e R s m args below meth c Q P D dA base b L xs μ0 n0 cE sE F pc ls st h := by
  unfold am_x_lshl at h1
  obtain ⟨x, y, r, rfl, k⟩ := am_li_ex h1
  exact ⟨k.1, k.2.1, fun hn μ H locs cells slots A hR hL hw hS hm hc hs => lv_lshl hx hb hd rfl (k.2.2 hn μ H locs cells slots A hR hL (sm_wc sm_wv_l (sm_wt (sm_wt hw))) hS hm hc hs)⟩
theorem sm_x_lushr (hx : p.tables.exec = Jvm.exec) (hb : c.code = P.2.1) (hd : decode P.2.1 pc = .ok (.lushr, 1)) (h1 : am_x_lushr (sm_nx p l e R s m args below meth c Q P D dA base b L xs μ0 n0 cE sE F) CL RT False rk (pc + 1) ts cv cj ls st h) : sm_nx p l e R s m args below meth c Q P D dA base b L xs μ0 n0 cE sE F pc ls st h := by
  unfold am_x_lushr at h1
  obtain ⟨x, y, r, rfl, k⟩ := am_li_ex h1
  exact ⟨k.1, k.2.1, fun hn μ H locs cells slots A hR hL hw hS hm hc hs => lv_lushr hx hb hd rfl (k.2.2 hn μ H locs cells slots A hR hL (sm_wc sm_wv_l (sm_wt (sm_wt hw))) hS hm hc hs)⟩
theorem sm_x_lcmp (hx : p.tables.exec = Jvm.exec) (hb : c.code = P.2.1) (hd : decode P.2.1 pc = .ok (.lcmp, 1)) (h1 : am_x_lcmp (sm_nx p l e R s m args below meth c Q P D dA base b L xs μ0 n0 cE sE F) CL RT False rk (pc + 1) ts cv cj ls st h) : sm_nx p l e R s m args below meth c Q P D dA base b L xs μ0 n0 cE sE F pc ls st h := by
  unfold am_x_lcmp at h1
  obtain ⟨x, y, r, rfl, k⟩ := am_l2_ex h1
  exact ⟨k.1, k.2.1, fun hn μ H locs cells slots A hR hL hw hS hm hc hs => W.lcmp hx hb hd (k.2.2 hn μ H locs cells slots A hR hL (sm_wc sm_wv_i (sm_wt (sm_wt hw))) hS hm hc hs)⟩
theorem sm_x_i2l (hx : p.tables.exec = Jvm.exec) (hb : c.code = P.2.1) (hd : decode P.2.1 pc = .ok (.i2l, 1)) (h1 : am_x_i2l (sm_nx p l e R s m args below meth c Q P D dA base b L xs μ0 n0 cE sE F) CL RT False rk (pc + 1) ts cv cj ls st h) : sm_nx p l e R s m args below meth c Q P D dA base b L xs μ0 n0 cE sE F pc ls st h := by
  unfold am_x_i2l at h1
  obtain ⟨x, r, rfl, k⟩ := am_i1_ex h1
  exact ⟨k.1, k.2.1, fun hn μ H locs cells slots A hR hL hw hS hm hc hs => lv_i2l hx hb hd rfl (k.2.2 hn μ H locs cells slots A hR hL (sm_wc sm_wv_l (sm_wt hw)) hS hm hc hs)⟩
theorem sm_x_l2i (hx : p.tables.exec = Jvm.exec) (hb : c.code = P.2.1) (hd : decode P.2.1 pc = .ok (.l2i, 1)) (h1 : am_x_l2i (sm_nx p l e R s m args below meth c Q P D dA base b L xs μ0 n0 cE sE F) CL RT False rk (pc + 1) ts cv cj ls st h) : sm_nx p l e R s m args below meth c Q P D dA base b L xs μ0 n0 cE sE F pc ls st h := by
  unfold am_x_l2i at h1
  obtain ⟨x, r, rfl, k⟩ := am_l1_ex h1
  exact ⟨k.1, k.2.1, fun hn μ H locs cells slots A hR hL hw hS hm hc hs => lv_l2i hx hb hd rfl (k.2.2 hn μ H locs cells slots A hR hL (sm_wc sm_wv_i (sm_wt hw)) hS hm hc hs)⟩
theorem sm_x_i2c (hx : p.tables.exec = Jvm.exec) (hb : c.code = P.2.1) (hd : decode P.2.1 pc = .ok (.i2c, 1)) (h1 : am_x_i2c (sm_nx p l e R s m args below meth c Q P D dA base b L xs μ0 n0 cE sE F) CL RT False rk (pc + 1) ts cv cj ls st h) : sm_nx p l e R s m args below meth c Q P D dA base b L xs μ0 n0 cE sE F pc ls st h := by
  unfold am_x_i2c at h1
  obtain ⟨x, r, rfl, k⟩ := am_i1_ex h1
  exact ⟨k.1, k.2.1, fun hn μ H locs cells slots A hR hL hw hS hm hc hs => lv_i2c hx hb hd rfl (k.2.2 hn μ H locs cells slots A hR hL (sm_wc sm_wv_i (sm_wt hw)) hS hm hc hs)⟩
theorem sm_x_dup (hx : p.tables.exec = Jvm.exec) (hb : c.code = P.2.1) (hd : decode P.2.1 pc = .ok (.dup, 1)) (h1 : am_x_dup (sm_nx p l e R s m args below meth c Q P D dA base b L xs μ0 n0 cE sE F) CL RT False rk (pc + 1) ts cv cj ls st h) : sm_nx p l e R s m args below meth c Q P D dA base b L xs μ0 n0 cE sE F pc ls st h := by
  unfold am_x_dup at h1
  obtain ⟨v, r, rfl, hv, k⟩ := am_v1_ex h1
  exact ⟨k.1, k.2.1, fun hn μ H locs cells slots A hR hL hw hS hm hc hs => lv_dup hx hb hd ((sm_cat μ v).trans hv) (k.2.2 hn μ H locs cells slots A hR hL (sm_wc (hw _ List.mem_cons_self) hw) hS hm hc hs)⟩
theorem sm_x_dup2 (hx : p.tables.exec = Jvm.exec) (hb : c.code = P.2.1) (hd : decode P.2.1 pc = .ok (.dup2, 1)) (h1 : am_x_dup2 (sm_nx p l e R s m args below meth c Q P D dA base b L xs μ0 n0 cE sE F) CL RT False rk (pc + 1) ts cv cj ls st h) : sm_nx p l e R s m args below meth c Q P D dA base b L xs μ0 n0 cE sE F pc ls st h := by
  unfold am_x_dup2 at h1
  obtain ⟨v, w, r, rfl, ⟨hv, hw2⟩, k⟩ := am_v2_ex h1
  exact ⟨k.1, k.2.1, fun hn μ H locs cells slots A hR hL hw hS hm hc hs => lv_dup2_11 hx hb hd ((sm_cat μ v).trans hv) ((sm_cat μ w).trans hw2) (k.2.2 hn μ H locs cells slots A hR hL (sm_wc (hw _ List.mem_cons_self) (sm_wc (hw _ (List.mem_cons_of_mem _ List.mem_cons_self)) hw)) hS hm hc hs)⟩
theorem sm_x_iconst (hx : p.tables.exec = Jvm.exec) (hb : c.code = P.2.1) {q : Int} (hv : Int32.ofInt q = cv) (hd : decode P.2.1 pc = .ok (.iconst q, 1)) (h1 : am_x_cI (sm_nx p l e R s m args below meth c Q P D dA base b L xs μ0 n0 cE sE F) CL RT False rk (pc + 1) ts cv cj ls st h) : sm_nx p l e R s m args below meth c Q P D dA base b L xs μ0 n0 cE sE F pc ls st h := by
  unfold am_x_cI at h1
  exact ⟨h1.1, h1.2.1, fun hn μ H locs cells slots A hR hL hw hS hm hc hs => lv_iconst hx hb hd hv (h1.2.2 hn μ H locs cells slots A hR hL (sm_wc sm_wv_i hw) hS hm hc hs)⟩
theorem sm_x_bipush (hx : p.tables.exec = Jvm.exec) (hb : c.code = P.2.1) {q : Int} (hv : (Int8.ofInt q).toInt32 = cv) (hd : decode P.2.1 pc = .ok (.bipush q, 2)) (h1 : am_x_cI (sm_nx p l e R s m args below meth c Q P D dA base b L xs μ0 n0 cE sE F) CL RT False rk (pc + 2) ts cv cj ls st h) : sm_nx p l e R s m args below meth c Q P D dA base b L xs μ0 n0 cE sE F pc ls st h := by
  unfold am_x_cI at h1
  exact ⟨h1.1, h1.2.1, fun hn μ H locs cells slots A hR hL hw hS hm hc hs => lv_bipush hx hb hd hv (h1.2.2 hn μ H locs cells slots A hR hL (sm_wc sm_wv_i hw) hS hm hc hs)⟩
theorem sm_x_sipush (hx : p.tables.exec = Jvm.exec) (hb : c.code = P.2.1) {q : Int} (hv : (Int16.ofInt q).toInt32 = cv) (hd : decode P.2.1 pc = .ok (.sipush q, 3)) (h1 : am_x_cI (sm_nx p l e R s m args below meth c Q P D dA base b L xs μ0 n0 cE sE F) CL RT False rk (pc + 3) ts cv cj ls st h) : sm_nx p l e R s m args below meth c Q P D dA base b L xs μ0 n0 cE sE F pc ls st h := by
  unfold am_x_cI at h1
  exact ⟨h1.1, h1.2.1, fun hn μ H locs cells slots A hR hL hw hS hm hc hs => lv_sipush hx hb hd hv (h1.2.2 hn μ H locs cells slots A hR hL (sm_wc sm_wv_i hw) hS hm hc hs)⟩
theorem sm_x_ldc (hx : p.tables.exec = Jvm.exec) (hb : c.code = P.2.1) {q : Nat} (hown : s.vm.findClass P.1.cls = some m.cls) (hv : (Jvm.Cond.constant P.1.cls q cv).before args s = true) (hd : decode P.2.1 pc = .ok (.ldc q, 2)) (h1 : am_x_cI (sm_nx p l e R s m args below meth c Q P D dA base b L xs μ0 n0 cE sE F) CL RT False rk (pc + 2) ts cv cj ls st h) : sm_nx p l e R s m args below meth c Q P D dA base b L xs μ0 n0 cE sE F pc ls st h := by
  unfold am_x_cI at h1
  exact ⟨h1.1, h1.2.1, fun hn μ H locs cells slots A hR hL hw hS hm hc hs => lv_ldc hx hb hown hv hd (h1.2.2 hn μ H locs cells slots A hR hL (sm_wc sm_wv_i hw) hS hm hc hs)⟩
theorem sm_x_ldc2 (hx : p.tables.exec = Jvm.exec) (hb : c.code = P.2.1) {q : Nat} (hown : s.vm.findClass P.1.cls = some m.cls) (hv : (Jvm.Cond.constantLong P.1.cls q cj).before args s = true) (hd : decode P.2.1 pc = .ok (.ldc2_w q, 3)) (h1 : am_x_cJ (sm_nx p l e R s m args below meth c Q P D dA base b L xs μ0 n0 cE sE F) CL RT False rk (pc + 3) ts cv cj ls st h) : sm_nx p l e R s m args below meth c Q P D dA base b L xs μ0 n0 cE sE F pc ls st h := by
  unfold am_x_cJ at h1
  exact ⟨h1.1, h1.2.1, fun hn μ H locs cells slots A hR hL hw hS hm hc hs => lv_ldc2 hx hb hown hv hd (h1.2.2 hn μ H locs cells slots A hR hL (sm_wc sm_wv_l hw) hS hm hc hs)⟩
theorem sm_x_lconst (hx : p.tables.exec = Jvm.exec) (hb : c.code = P.2.1) {q : Fin 2} (hv : Int64.ofNat (q : Nat) = cj) (hd : decode P.2.1 pc = .ok (.lconst q, 1)) (h1 : am_x_cJ (sm_nx p l e R s m args below meth c Q P D dA base b L xs μ0 n0 cE sE F) CL RT False rk (pc + 1) ts cv cj ls st h) : sm_nx p l e R s m args below meth c Q P D dA base b L xs μ0 n0 cE sE F pc ls st h := by
  unfold am_x_cJ at h1
  exact ⟨h1.1, h1.2.1, fun hn μ H locs cells slots A hR hL hw hS hm hc hs => lv_lconst hx hb hd hv (h1.2.2 hn μ H locs cells slots A hR hL (sm_wc sm_wv_l hw) hS hm hc hs)⟩
theorem sm_x_iload (hx : p.tables.exec = Jvm.exec) (hb : c.code = P.2.1) {q : Nat} (hd : decode P.2.1 pc = .ok (.iload q, 2)) (h1 : am_x_iload q (sm_nx p l e R s m args below meth c Q P D dA base b L xs μ0 n0 cE sE F) CL RT False rk (pc + 2) ts cv cj ls st h) : sm_nx p l e R s m args below meth c Q P D dA base b L xs μ0 n0 cE sE F pc ls st h := by
  unfold am_x_iload at h1
  obtain ⟨x, hq, k⟩ := am_ldI_ex h1
  exact ⟨k.1, k.2.1, fun hn μ H locs cells slots A hR hL hw hS hm hc hs => lv_iload hx hb hd (hL.2.2.2.1 q (.int x) hq (by intro z; cases z)) (k.2.2 hn μ H locs cells slots A hR hL (sm_wc sm_wv_i hw) hS hm hc hs)⟩
theorem sm_x_iload_n (hx : p.tables.exec = Jvm.exec) (hb : c.code = P.2.1) {q : Fin 4} (hd : decode P.2.1 pc = .ok (.iload_n q, 1)) (h1 : am_x_iload q (sm_nx p l e R s m args below meth c Q P D dA base b L xs μ0 n0 cE sE F) CL RT False rk (pc + 1) ts cv cj ls st h) : sm_nx p l e R s m args below meth c Q P D dA base b L xs μ0 n0 cE sE F pc ls st h := by
  unfold am_x_iload at h1
  obtain ⟨x, hq, k⟩ := am_ldI_ex h1
  exact ⟨k.1, k.2.1, fun hn μ H locs cells slots A hR hL hw hS hm hc hs => lv_iload_n hx hb hd rfl (hL.2.2.2.1 q (.int x) hq (by intro z; cases z)) (k.2.2 hn μ H locs cells slots A hR hL (sm_wc sm_wv_i hw) hS hm hc hs)⟩
theorem sm_x_lload (hx : p.tables.exec = Jvm.exec) (hb : c.code = P.2.1) {q : Nat} (hd : decode P.2.1 pc = .ok (.lload q, 2)) (h1 : am_x_lload q (sm_nx p l e R s m args below meth c Q P D dA base b L xs μ0 n0 cE sE F) CL RT False rk (pc + 2) ts cv cj ls st h) : sm_nx p l e R s m args below meth c Q P D dA base b L xs μ0 n0 cE sE F pc ls st h := by
  unfold am_x_lload at h1
  obtain ⟨x, hq, k⟩ := am_ldJ_ex h1
  exact ⟨k.1, k.2.1, fun hn μ H locs cells slots A hR hL hw hS hm hc hs => lv_lload hx hb hd (hL.2.2.2.1 q (.long x) hq (by intro z; cases z)) (k.2.2 hn μ H locs cells slots A hR hL (sm_wc sm_wv_l hw) hS hm hc hs)⟩
theorem sm_x_lload_n (hx : p.tables.exec = Jvm.exec) (hb : c.code = P.2.1) {q : Fin 4} (hd : decode P.2.1 pc = .ok (.lload_n q, 1)) (h1 : am_x_lload q (sm_nx p l e R s m args below meth c Q P D dA base b L xs μ0 n0 cE sE F) CL RT False rk (pc + 1) ts cv cj ls st h) : sm_nx p l e R s m args below meth c Q P D dA base b L xs μ0 n0 cE sE F pc ls st h := by
  unfold am_x_lload at h1
  obtain ⟨x, hq, k⟩ := am_ldJ_ex h1
  exact ⟨k.1, k.2.1, fun hn μ H locs cells slots A hR hL hw hS hm hc hs => lv_lload_n hx hb hd rfl (hL.2.2.2.1 q (.long x) hq (by intro z; cases z)) (k.2.2 hn μ H locs cells slots A hR hL (sm_wc sm_wv_l hw) hS hm hc hs)⟩
theorem sm_x_aload (hx : p.tables.exec = Jvm.exec) (hb : c.code = P.2.1) {q : Nat} (hd : decode P.2.1 pc = .ok (.aload q, 2)) (h1 : am_x_aload q (sm_nx p l e R s m args below meth c Q P D dA base b L xs μ0 n0 cE sE F) CL RT False rk (pc + 2) ts cv cj ls st h) : sm_nx p l e R s m args below meth c Q P D dA base b L xs μ0 n0 cE sE F pc ls st h := by
  unfold am_x_aload at h1
  obtain ⟨x, hq, k⟩ := am_ldA_ex h1
  cases x with
  | none => exact ⟨k.1, k.2.1, fun hn μ H locs cells slots A hR hL hw hS hm hc hs => lv_aloadN hx hb hd (hL.2.2.2.1 q .null hq (by intro z; cases z)) (k.2.2 hn μ H locs cells slots A hR hL (sm_wc sm_wv_n hw) hS hm hc hs)⟩
  | some a => exact ⟨k.1, k.2.1, fun hn μ H locs cells slots A hR hL hw hS hm hc hs => lv_aload hx hb hd (hL.2.2.2.1 q (.ref a) hq (by intro z; cases z)) (k.2.2 hn μ H locs cells slots A hR hL (sm_wc (hL.2.2.2.2 _ (List.mem_of_getElem? hq)) hw) hS hm hc hs)⟩
theorem sm_x_aload_n (hx : p.tables.exec = Jvm.exec) (hb : c.code = P.2.1) {q : Fin 4} (hd : decode P.2.1 pc = .ok (.aload_n q, 1)) (h1 : am_x_aload q (sm_nx p l e R s m args below meth c Q P D dA base b L xs μ0 n0 cE sE F) CL RT False rk (pc + 1) ts cv cj ls st h) : sm_nx p l e R s m args below meth c Q P D dA base b L xs μ0 n0 cE sE F pc ls st h := by
  unfold am_x_aload at h1
  obtain ⟨x, hq, k⟩ := am_ldA_ex h1
  cases x with
  | none => exact ⟨k.1, k.2.1, fun hn μ H locs cells slots A hR hL hw hS hm hc hs => lv_aload_nN hx hb hd rfl (hL.2.2.2.1 q .null hq (by intro z; cases z)) (k.2.2 hn μ H locs cells slots A hR hL (sm_wc sm_wv_n hw) hS hm hc hs)⟩
  | some a => exact ⟨k.1, k.2.1, fun hn μ H locs cells slots A hR hL hw hS hm hc hs => lv_aload_n hx hb hd rfl (hL.2.2.2.1 q (.ref a) hq (by intro z; cases z)) (k.2.2 hn μ H locs cells slots A hR hL (sm_wc (hL.2.2.2.2 _ (List.mem_of_getElem? hq)) hw) hS hm hc hs)⟩
theorem sm_x_istore (hx : p.tables.exec = Jvm.exec) (hb : c.code = P.2.1) {q : Nat} (hd : decode P.2.1 pc = .ok (.istore q, 2)) (h1 : am_x_istore q (sm_nx p l e R s m args below meth c Q P D dA base b L xs μ0 n0 cE sE F) CL RT False rk (pc + 2) ts cv cj ls st h) : sm_nx p l e R s m args below meth c Q P D dA base b L xs μ0 n0 cE sE F pc ls st h := by
  unfold am_x_istore at h1
  obtain ⟨x, r, rfl, k⟩ := am_i1_ex h1
  by_cases hk : (q : Nat) < ls.length
  · rw [if_pos hk] at k
    exact ⟨k.1, k.2.1, fun hn μ H locs cells slots A hR hL hw hS hm hc hs => lv_istore hx hb hd hL.has (by rw [← hL.2.2.1]; exact hk) rfl (fun A' h' => (k.2.2 hn μ H locs cells slots A' hR (hL.set1 (v := .int x) hk sm_wv_i h') (sm_wt hw) hS hm hc hs))⟩
  · rw [if_neg hk] at k
    exact k.elim
theorem sm_x_istore_n (hx : p.tables.exec = Jvm.exec) (hb : c.code = P.2.1) {q : Fin 4} (hd : decode P.2.1 pc = .ok (.istore_n q, 1)) (h1 : am_x_istore q (sm_nx p l e R s m args below meth c Q P D dA base b L xs μ0 n0 cE sE F) CL RT False rk (pc + 1) ts cv cj ls st h) : sm_nx p l e R s m args below meth c Q P D dA base b L xs μ0 n0 cE sE F pc ls st h := by
  unfold am_x_istore at h1
  obtain ⟨x, r, rfl, k⟩ := am_i1_ex h1
  by_cases hk : (q : Nat) < ls.length
  · rw [if_pos hk] at k
    exact ⟨k.1, k.2.1, fun hn μ H locs cells slots A hR hL hw hS hm hc hs => lv_istore_n hx hb hd rfl hL.has (by rw [← hL.2.2.1]; exact hk) rfl (fun A' h' => (k.2.2 hn μ H locs cells slots A' hR (hL.set1 (v := .int x) hk sm_wv_i h') (sm_wt hw) hS hm hc hs))⟩
  · rw [if_neg hk] at k
    exact k.elim
theorem sm_x_lstore (hx : p.tables.exec = Jvm.exec) (hb : c.code = P.2.1) {q : Nat} (hd : decode P.2.1 pc = .ok (.lstore q, 2)) (h1 : am_x_lstore q (sm_nx p l e R s m args below meth c Q P D dA base b L xs μ0 n0 cE sE F) CL RT False rk (pc + 2) ts cv cj ls st h) : sm_nx p l e R s m args below meth c Q P D dA base b L xs μ0 n0 cE sE F pc ls st h := by
  unfold am_x_lstore at h1
  obtain ⟨x, r, rfl, k⟩ := am_l1_ex h1
  by_cases hk : (q : Nat) + 1 < ls.length
  · rw [if_pos hk] at k
    exact ⟨k.1, k.2.1, fun hn μ H locs cells slots A hR hL hw hS hm hc hs => lv_lstore hx hb hd hL.has (by rw [← hL.2.2.1]; exact hk) rfl (fun A' h' => (k.2.2 hn μ H locs cells slots A' hR (hL.set2 hk h') (sm_wt hw) hS hm hc hs))⟩
  · rw [if_neg hk] at k
    exact k.elim
theorem sm_x_lstore_n (hx : p.tables.exec = Jvm.exec) (hb : c.code = P.2.1) {q : Fin 4} (hd : decode P.2.1 pc = .ok (.lstore_n q, 1)) (h1 : am_x_lstore q (sm_nx p l e R s m args below meth c Q P D dA base b L xs μ0 n0 cE sE F) CL RT False rk (pc + 1) ts cv cj ls st h) : sm_nx p l e R s m args below meth c Q P D dA base b L xs μ0 n0 cE sE F pc ls st h := by
  unfold am_x_lstore at h1
  obtain ⟨x, r, rfl, k⟩ := am_l1_ex h1
  by_cases hk : (q : Nat) + 1 < ls.length
  · rw [if_pos hk] at k
    exact ⟨k.1, k.2.1, fun hn μ H locs cells slots A hR hL hw hS hm hc hs => lv_lstore_n hx hb hd rfl hL.has (by rw [← hL.2.2.1]; exact hk) rfl (fun A' h' => (k.2.2 hn μ H locs cells slots A' hR (hL.set2 hk h') (sm_wt hw) hS hm hc hs))⟩
  · rw [if_neg hk] at k
    exact k.elim
theorem sm_x_astore (hx : p.tables.exec = Jvm.exec) (hb : c.code = P.2.1) {q : Nat} (hd : decode P.2.1 pc = .ok (.astore q, 2)) (h1 : am_x_astore q (sm_nx p l e R s m args below meth c Q P D dA base b L xs μ0 n0 cE sE F) CL RT False rk (pc + 2) ts cv cj ls st h) : sm_nx p l e R s m args below meth c Q P D dA base b L xs μ0 n0 cE sE F pc ls st h := by
  unfold am_x_astore at h1
  obtain ⟨x, r, rfl, k⟩ := am_o1_ex h1
  by_cases hk : (q : Nat) < ls.length
  · rw [if_pos hk] at k
    cases x with
    | none => exact ⟨k.1, k.2.1, fun hn μ H locs cells slots A hR hL hw hS hm hc hs => lv_astoreN hx hb hd hL.has (by rw [← hL.2.2.1]; exact hk) rfl (fun A' h' => (k.2.2 hn μ H locs cells slots A' hR (hL.set1 (v := .null) hk sm_wv_n h') (sm_wt hw) hS hm hc hs))⟩
    | some a => exact ⟨k.1, k.2.1, fun hn μ H locs cells slots A hR hL hw hS hm hc hs => lv_astore hx hb hd hL.has (by rw [← hL.2.2.1]; exact hk) rfl (fun A' h' => (k.2.2 hn μ H locs cells slots A' hR (hL.set1 (v := .ref a) hk (hw _ List.mem_cons_self) h') (sm_wt hw) hS hm hc hs))⟩
  · rw [if_neg hk] at k
    exact k.elim
theorem sm_x_astore_n (hx : p.tables.exec = Jvm.exec) (hb : c.code = P.2.1) {q : Fin 4} (hd : decode P.2.1 pc = .ok (.astore_n q, 1)) (h1 : am_x_astore q (sm_nx p l e R s m args below meth c Q P D dA base b L xs μ0 n0 cE sE F) CL RT False rk (pc + 1) ts cv cj ls st h) : sm_nx p l e R s m args below meth c Q P D dA base b L xs μ0 n0 cE sE F pc ls st h := by
  unfold am_x_astore at h1
  obtain ⟨x, r, rfl, k⟩ := am_o1_ex h1
  by_cases hk : (q : Nat) < ls.length
  · rw [if_pos hk] at k
    cases x with
    | none => exact ⟨k.1, k.2.1, fun hn μ H locs cells slots A hR hL hw hS hm hc hs => lv_astore_nN hx hb hd rfl hL.has (by rw [← hL.2.2.1]; exact hk) rfl (fun A' h' => (k.2.2 hn μ H locs cells slots A' hR (hL.set1 (v := .null) hk sm_wv_n h') (sm_wt hw) hS hm hc hs))⟩
    | some a => exact ⟨k.1, k.2.1, fun hn μ H locs cells slots A hR hL hw hS hm hc hs => lv_astore_n hx hb hd rfl hL.has (by rw [← hL.2.2.1]; exact hk) rfl (fun A' h' => (k.2.2 hn μ H locs cells slots A' hR (hL.set1 (v := .ref a) hk (hw _ List.mem_cons_self) h') (sm_wt hw) hS hm hc hs))⟩
  · rw [if_neg hk] at k
    exact k.elim
theorem sm_x_iinc (hx : p.tables.exec = Jvm.exec) (hb : c.code = P.2.1) {q : Nat} {z : Int} (hv : Int32.ofInt z = cv) (hd : decode P.2.1 pc = .ok (.iinc q z, 3)) (h1 : am_x_iinc q (sm_nx p l e R s m args below meth c Q P D dA base b L xs μ0 n0 cE sE F) CL RT False rk (pc + 3) ts cv cj ls st h) : sm_nx p l e R s m args below meth c Q P D dA base b L xs μ0 n0 cE sE F pc ls st h := by
  unfold am_x_iinc at h1
  obtain ⟨x, hq, k⟩ := am_ldI_ex h1
  by_cases hk : q < ls.length
  · rw [if_pos hk] at k
    refine ⟨k.1, k.2.1, fun hn μ H locs cells slots A hR hL hw hS hm hc hs => ?_⟩
    have hl : lv_has A P.2.2.1 ((q, .int x) :: sm_as μ ls) := ⟨hL.1, hL.2.1, fun w hw2 => by
      rcases List.mem_cons.mp hw2 with rfl | hw2
      · exact hL.2.2.2.1 q (.int x) hq (by intro z; cases z)
      · exact hL.has.2.2 w hw2⟩
    refine lv_iinc (k := 0) hx hb hd hl rfl (by rw [hv]) (by rw [← hL.2.2.1]; exact hk) rfl (fun A' h' => ?_)
    have h2 : lv_has A' P.2.2.1 ((q, sm_v μ (.int (x + cv))) :: (sm_as μ ls).filter (fun w => !(w.1 == q) && !(w.1 + 1 == q && w.2.category == 2))) := ⟨h'.1, h'.2.1, fun w hw2 => by
      rcases List.mem_cons.mp hw2 with rfl | hw2
      · exact h'.2.2 _ List.mem_cons_self
      · refine h'.2.2 w (List.mem_cons_of_mem _ ?_)
        rw [List.mem_filter] at hw2 ⊢
        exact ⟨List.mem_cons_of_mem _ hw2.1, hw2.2⟩⟩
    exact k.2.2 hn μ H locs cells slots A' hR (hL.set1 (v := .int (x + cv)) hk sm_wv_i h2) hw hS hm hc hs
  · rw [if_neg hk] at k
    exact k.elim
theorem sm_x_ifCond_eq (hx : p.tables.exec = Jvm.exec) (hb : c.code = P.2.1) {off : Int} {t : Nat} (ht : (pc : Int) + off = (t : Int)) (hd : decode P.2.1 pc = .ok (.ifCond .eq off, 3)) (h1 : am_x_ifCond_eq (sm_nx p l e R s m args below meth c Q P D dA base b L xs μ0 n0 cE sE F) CL RT False rk (pc + 3) [t] cv cj ls st h) : sm_nx p l e R s m args below meth c Q P D dA base b L xs μ0 n0 cE sE F pc ls st h := by
  unfold am_x_ifCond_eq at h1
  obtain ⟨x, r, rfl, k⟩ := am_i1_ex h1
  by_cases hq : x = 0
  · rw [if_pos hq] at k
    have rt : x = 0 := hq
    exact ⟨k.1, k.2.1, fun hn μ H locs cells slots A hR hL hw hS hm hc hs => lv_if_eq (tgt := t) hx hb hd ht (fun _ => (k.2.2 hn μ H locs cells slots A hR hL (sm_wt hw) hS hm hc hs)) (fun z => absurd rt z)⟩
  · rw [if_neg hq] at k
    have rt : ¬ (x = 0) := hq
    exact ⟨k.1, k.2.1, fun hn μ H locs cells slots A hR hL hw hS hm hc hs => lv_if_eq (tgt := t) hx hb hd ht (fun z => absurd z rt) (fun _ => (k.2.2 hn μ H locs cells slots A hR hL (sm_wt hw) hS hm hc hs))⟩
theorem sm_x_ifCond_ne (hx : p.tables.exec = Jvm.exec) (hb : c.code = P.2.1) {off : Int} {t : Nat} (ht : (pc : Int) + off = (t : Int)) (hd : decode P.2.1 pc = .ok (.ifCond .ne off, 3)) (h1 : am_x_ifCond_ne (sm_nx p l e R s m args below meth c Q P D dA base b L xs μ0 n0 cE sE F) CL RT False rk (pc + 3) [t] cv cj ls st h) : sm_nx p l e R s m args below meth c Q P D dA base b L xs μ0 n0 cE sE F pc ls st h := by
  unfold am_x_ifCond_ne at h1
  obtain ⟨x, r, rfl, k⟩ := am_i1_ex h1
  by_cases hq : x = 0
  · rw [if_pos hq] at k
    have rt : ¬ (¬ x = 0) := fun z => z hq
    exact ⟨k.1, k.2.1, fun hn μ H locs cells slots A hR hL hw hS hm hc hs => lv_if_ne (tgt := t) hx hb hd ht (fun z => absurd z rt) (fun _ => (k.2.2 hn μ H locs cells slots A hR hL (sm_wt hw) hS hm hc hs))⟩
  · rw [if_neg hq] at k
    have rt : ¬ x = 0 := hq
    exact ⟨k.1, k.2.1, fun hn μ H locs cells slots A hR hL hw hS hm hc hs => lv_if_ne (tgt := t) hx hb hd ht (fun _ => (k.2.2 hn μ H locs cells slots A hR hL (sm_wt hw) hS hm hc hs)) (fun z => absurd z rt)⟩
theorem sm_x_ifCond_lt (hx : p.tables.exec = Jvm.exec) (hb : c.code = P.2.1) {off : Int} {t : Nat} (ht : (pc : Int) + off = (t : Int)) (hd : decode P.2.1 pc = .ok (.ifCond .lt off, 3)) (h1 : am_x_ifCond_lt (sm_nx p l e R s m args below meth c Q P D dA base b L xs μ0 n0 cE sE F) CL RT False rk (pc + 3) [t] cv cj ls st h) : sm_nx p l e R s m args below meth c Q P D dA base b L xs μ0 n0 cE sE F pc ls st h := by
  unfold am_x_ifCond_lt at h1
  obtain ⟨x, r, rfl, k⟩ := am_i1_ex h1
  by_cases hq : x < 0
  · rw [if_pos hq] at k
    have rt : x < 0 := hq
    exact ⟨k.1, k.2.1, fun hn μ H locs cells slots A hR hL hw hS hm hc hs => lv_if_lt (tgt := t) hx hb hd ht (fun _ => (k.2.2 hn μ H locs cells slots A hR hL (sm_wt hw) hS hm hc hs)) (fun z => absurd rt z)⟩
  · rw [if_neg hq] at k
    have rt : ¬ (x < 0) := hq
    exact ⟨k.1, k.2.1, fun hn μ H locs cells slots A hR hL hw hS hm hc hs => lv_if_lt (tgt := t) hx hb hd ht (fun z => absurd z rt) (fun _ => (k.2.2 hn μ H locs cells slots A hR hL (sm_wt hw) hS hm hc hs))⟩
theorem sm_x_ifCond_ge (hx : p.tables.exec = Jvm.exec) (hb : c.code = P.2.1) {off : Int} {t : Nat} (ht : (pc : Int) + off = (t : Int)) (hd : decode P.2.1 pc = .ok (.ifCond .ge off, 3)) (h1 : am_x_ifCond_ge (sm_nx p l e R s m args below meth c Q P D dA base b L xs μ0 n0 cE sE F) CL RT False rk (pc + 3) [t] cv cj ls st h) : sm_nx p l e R s m args below meth c Q P D dA base b L xs μ0 n0 cE sE F pc ls st h := by
  unfold am_x_ifCond_ge at h1
  obtain ⟨x, r, rfl, k⟩ := am_i1_ex h1
  by_cases hq : x < 0
  · rw [if_pos hq] at k
    have rt : ¬ (0 ≤ x) := Int32.not_le.mpr hq
    exact ⟨k.1, k.2.1, fun hn μ H locs cells slots A hR hL hw hS hm hc hs => lv_if_ge (tgt := t) hx hb hd ht (fun z => absurd z rt) (fun _ => (k.2.2 hn μ H locs cells slots A hR hL (sm_wt hw) hS hm hc hs))⟩
  · rw [if_neg hq] at k
    have rt : 0 ≤ x := Int32.not_lt.mp hq
    exact ⟨k.1, k.2.1, fun hn μ H locs cells slots A hR hL hw hS hm hc hs => lv_if_ge (tgt := t) hx hb hd ht (fun _ => (k.2.2 hn μ H locs cells slots A hR hL (sm_wt hw) hS hm hc hs)) (fun z => absurd rt z)⟩
theorem sm_x_ifCond_gt (hx : p.tables.exec = Jvm.exec) (hb : c.code = P.2.1) {off : Int} {t : Nat} (ht : (pc : Int) + off = (t : Int)) (hd : decode P.2.1 pc = .ok (.ifCond .gt off, 3)) (h1 : am_x_ifCond_gt (sm_nx p l e R s m args below meth c Q P D dA base b L xs μ0 n0 cE sE F) CL RT False rk (pc + 3) [t] cv cj ls st h) : sm_nx p l e R s m args below meth c Q P D dA base b L xs μ0 n0 cE sE F pc ls st h := by
  unfold am_x_ifCond_gt at h1
  obtain ⟨x, r, rfl, k⟩ := am_i1_ex h1
  by_cases hq : 0 < x
  · rw [if_pos hq] at k
    have rt : 0 < x := hq
    exact ⟨k.1, k.2.1, fun hn μ H locs cells slots A hR hL hw hS hm hc hs => lv_if_gt (tgt := t) hx hb hd ht (fun _ => (k.2.2 hn μ H locs cells slots A hR hL (sm_wt hw) hS hm hc hs)) (fun z => absurd rt z)⟩
  · rw [if_neg hq] at k
    have rt : ¬ (0 < x) := hq
    exact ⟨k.1, k.2.1, fun hn μ H locs cells slots A hR hL hw hS hm hc hs => lv_if_gt (tgt := t) hx hb hd ht (fun z => absurd z rt) (fun _ => (k.2.2 hn μ H locs cells slots A hR hL (sm_wt hw) hS hm hc hs))⟩
theorem sm_x_ifCond_le (hx : p.tables.exec = Jvm.exec) (hb : c.code = P.2.1) {off : Int} {t : Nat} (ht : (pc : Int) + off = (t : Int)) (hd : decode P.2.1 pc = .ok (.ifCond .le off, 3)) (h1 : am_x_ifCond_le (sm_nx p l e R s m args below meth c Q P D dA base b L xs μ0 n0 cE sE F) CL RT False rk (pc + 3) [t] cv cj ls st h) : sm_nx p l e R s m args below meth c Q P D dA base b L xs μ0 n0 cE sE F pc ls st h := by
  unfold am_x_ifCond_le at h1
  obtain ⟨x, r, rfl, k⟩ := am_i1_ex h1
  by_cases hq : 0 < x
  · rw [if_pos hq] at k
    have rt : ¬ (x ≤ 0) := Int32.not_le.mpr hq
    exact ⟨k.1, k.2.1, fun hn μ H locs cells slots A hR hL hw hS hm hc hs => lv_if_le (tgt := t) hx hb hd ht (fun z => absurd z rt) (fun _ => (k.2.2 hn μ H locs cells slots A hR hL (sm_wt hw) hS hm hc hs))⟩
  · rw [if_neg hq] at k
    have rt : x ≤ 0 := Int32.not_lt.mp hq
    exact ⟨k.1, k.2.1, fun hn μ H locs cells slots A hR hL hw hS hm hc hs => lv_if_le (tgt := t) hx hb hd ht (fun _ => (k.2.2 hn μ H locs cells slots A hR hL (sm_wt hw) hS hm hc hs)) (fun z => absurd rt z)⟩
theorem sm_x_if_icmp_eq (hx : p.tables.exec = Jvm.exec) (hb : c.code = P.2.1) {off : Int} {t : Nat} (ht : (pc : Int) + off = (t : Int)) (hd : decode P.2.1 pc = .ok (.if_icmp .eq off, 3)) (h1 : am_x_if_icmp_eq (sm_nx p l e R s m args below meth c Q P D dA base b L xs μ0 n0 cE sE F) CL RT False rk (pc + 3) [t] cv cj ls st h) : sm_nx p l e R s m args below meth c Q P D dA base b L xs μ0 n0 cE sE F pc ls st h := by
  unfold am_x_if_icmp_eq at h1
  obtain ⟨x, y, r, rfl, k⟩ := am_i2_ex h1
  by_cases hq : x = y
  · rw [if_pos hq] at k
    have rt : x = y := hq
    exact ⟨k.1, k.2.1, fun hn μ H locs cells slots A hR hL hw hS hm hc hs => lv_icmp_eq (tgt := t) hx hb hd ht (fun _ => (k.2.2 hn μ H locs cells slots A hR hL (sm_wt (sm_wt hw)) hS hm hc hs)) (fun z => absurd rt z)⟩
  · rw [if_neg hq] at k
    have rt : ¬ (x = y) := hq
    exact ⟨k.1, k.2.1, fun hn μ H locs cells slots A hR hL hw hS hm hc hs => lv_icmp_eq (tgt := t) hx hb hd ht (fun z => absurd z rt) (fun _ => (k.2.2 hn μ H locs cells slots A hR hL (sm_wt (sm_wt hw)) hS hm hc hs))⟩
theorem sm_x_if_icmp_ne (hx : p.tables.exec = Jvm.exec) (hb : c.code = P.2.1) {off : Int} {t : Nat} (ht : (pc : Int) + off = (t : Int)) (hd : decode P.2.1 pc = .ok (.if_icmp .ne off, 3)) (h1 : am_x_if_icmp_ne (sm_nx p l e R s m args below meth c Q P D dA base b L xs μ0 n0 cE sE F) CL RT False rk (pc + 3) [t] cv cj ls st h) : sm_nx p l e R s m args below meth c Q P D dA base b L xs μ0 n0 cE sE F pc ls st h := by
  unfold am_x_if_icmp_ne at h1
  obtain ⟨x, y, r, rfl, k⟩ := am_i2_ex h1
  by_cases hq : x = y
  · rw [if_pos hq] at k
    have rt : ¬ (¬ x = y) := fun z => z hq
    exact ⟨k.1, k.2.1, fun hn μ H locs cells slots A hR hL hw hS hm hc hs => lv_icmp_ne (tgt := t) hx hb hd ht (fun z => absurd z rt) (fun _ => (k.2.2 hn μ H locs cells slots A hR hL (sm_wt (sm_wt hw)) hS hm hc hs))⟩
  · rw [if_neg hq] at k
    have rt : ¬ x = y := hq
    exact ⟨k.1, k.2.1, fun hn μ H locs cells slots A hR hL hw hS hm hc hs => lv_icmp_ne (tgt := t) hx hb hd ht (fun _ => (k.2.2 hn μ H locs cells slots A hR hL (sm_wt (sm_wt hw)) hS hm hc hs)) (fun z => absurd z rt)⟩
theorem sm_x_if_icmp_lt (hx : p.tables.exec = Jvm.exec) (hb : c.code = P.2.1) {off : Int} {t : Nat} (ht : (pc : Int) + off = (t : Int)) (hd : decode P.2.1 pc = .ok (.if_icmp .lt off, 3)) (h1 : am_x_if_icmp_lt (sm_nx p l e R s m args below meth c Q P D dA base b L xs μ0 n0 cE sE F) CL RT False rk (pc + 3) [t] cv cj ls st h) : sm_nx p l e R s m args below meth c Q P D dA base b L xs μ0 n0 cE sE F pc ls st h := by
  unfold am_x_if_icmp_lt at h1
  obtain ⟨x, y, r, rfl, k⟩ := am_i2_ex h1
  by_cases hq : x < y
  · rw [if_pos hq] at k
    have rt : x < y := hq
    exact ⟨k.1, k.2.1, fun hn μ H locs cells slots A hR hL hw hS hm hc hs => lv_icmp_lt (tgt := t) hx hb hd ht (fun _ => (k.2.2 hn μ H locs cells slots A hR hL (sm_wt (sm_wt hw)) hS hm hc hs)) (fun z => absurd rt z)⟩
  · rw [if_neg hq] at k
    have rt : ¬ (x < y) := hq
    exact ⟨k.1, k.2.1, fun hn μ H locs cells slots A hR hL hw hS hm hc hs => lv_icmp_lt (tgt := t) hx hb hd ht (fun z => absurd z rt) (fun _ => (k.2.2 hn μ H locs cells slots A hR hL (sm_wt (sm_wt hw)) hS hm hc hs))⟩
theorem sm_x_if_icmp_ge (hx : p.tables.exec = Jvm.exec) (hb : c.code = P.2.1) {off : Int} {t : Nat} (ht : (pc : Int) + off = (t : Int)) (hd : decode P.2.1 pc = .ok (.if_icmp .ge off, 3)) (h1 : am_x_if_icmp_ge (sm_nx p l e R s m args below meth c Q P D dA base b L xs μ0 n0 cE sE F) CL RT False rk (pc + 3) [t] cv cj ls st h) : sm_nx p l e R s m args below meth c Q P D dA base b L xs μ0 n0 cE sE F pc ls st h := by
  unfold am_x_if_icmp_ge at h1
  obtain ⟨x, y, r, rfl, k⟩ := am_i2_ex h1
  by_cases hq : x < y
  · rw [if_pos hq] at k
    have rt : ¬ (y ≤ x) := Int32.not_le.mpr hq
    exact ⟨k.1, k.2.1, fun hn μ H locs cells slots A hR hL hw hS hm hc hs => lv_icmp_ge (tgt := t) hx hb hd ht (fun z => absurd z rt) (fun _ => (k.2.2 hn μ H locs cells slots A hR hL (sm_wt (sm_wt hw)) hS hm hc hs))⟩
  · rw [if_neg hq] at k
    have rt : y ≤ x := Int32.not_lt.mp hq
    exact ⟨k.1, k.2.1, fun hn μ H locs cells slots A hR hL hw hS hm hc hs => lv_icmp_ge (tgt := t) hx hb hd ht (fun _ => (k.2.2 hn μ H locs cells slots A hR hL (sm_wt (sm_wt hw)) hS hm hc hs)) (fun z => absurd rt z)⟩
theorem sm_x_if_icmp_gt (hx : p.tables.exec = Jvm.exec) (hb : c.code = P.2.1) {off : Int} {t : Nat} (ht : (pc : Int) + off = (t : Int)) (hd : decode P.2.1 pc = .ok (.if_icmp .gt off, 3)) (h1 : am_x_if_icmp_gt (sm_nx p l e R s m args below meth c Q P D dA base b L xs μ0 n0 cE sE F) CL RT False rk (pc + 3) [t] cv cj ls st h) : sm_nx p l e R s m args below meth c Q P D dA base b L xs μ0 n0 cE sE F pc ls st h := by
  unfold am_x_if_icmp_gt at h1
  obtain ⟨x, y, r, rfl, k⟩ := am_i2_ex h1
  by_cases hq : y < x
  · rw [if_pos hq] at k
    have rt : y < x := hq
    exact ⟨k.1, k.2.1, fun hn μ H locs cells slots A hR hL hw hS hm hc hs => lv_icmp_gt (tgt := t) hx hb hd ht (fun _ => (k.2.2 hn μ H locs cells slots A hR hL (sm_wt (sm_wt hw)) hS hm hc hs)) (fun z => absurd rt z)⟩
  · rw [if_neg hq] at k
    have rt : ¬ (y < x) := hq
    exact ⟨k.1, k.2.1, fun hn μ H locs cells slots A hR hL hw hS hm hc hs => lv_icmp_gt (tgt := t) hx hb hd ht (fun z => absurd z rt) (fun _ => (k.2.2 hn μ H locs cells slots A hR hL (sm_wt (sm_wt hw)) hS hm hc hs))⟩
theorem sm_x_if_icmp_le (hx : p.tables.exec = Jvm.exec) (hb : c.code = P.2.1) {off : Int} {t : Nat} (ht : (pc : Int) + off = (t : Int)) (hd : decode P.2.1 pc = .ok (.if_icmp .le off, 3)) (h1 : am_x_if_icmp_le (sm_nx p l e R s m args below meth c Q P D dA base b L xs μ0 n0 cE sE F) CL RT False rk (pc + 3) [t] cv cj ls st h) : sm_nx p l e R s m args below meth c Q P D dA base b L xs μ0 n0 cE sE F pc ls st h := by
  unfold am_x_if_icmp_le at h1
  obtain ⟨x, y, r, rfl, k⟩ := am_i2_ex h1
  by_cases hq : y < x
  · rw [if_pos hq] at k
    have rt : ¬ (x ≤ y) := Int32.not_le.mpr hq
    exact ⟨k.1, k.2.1, fun hn μ H locs cells slots A hR hL hw hS hm hc hs => lv_icmp_le (tgt := t) hx hb hd ht (fun z => absurd z rt) (fun _ => (k.2.2 hn μ H locs cells slots A hR hL (sm_wt (sm_wt hw)) hS hm hc hs))⟩
  · rw [if_neg hq] at k
    have rt : x ≤ y := Int32.not_lt.mp hq
    exact ⟨k.1, k.2.1, fun hn μ H locs cells slots A hR hL hw hS hm hc hs => lv_icmp_le (tgt := t) hx hb hd ht (fun _ => (k.2.2 hn μ H locs cells slots A hR hL (sm_wt (sm_wt hw)) hS hm hc hs)) (fun z => absurd rt z)⟩
theorem sm_x_goto (hx : p.tables.exec = Jvm.exec) (hb : c.code = P.2.1) {off : Int} {t : Nat} (ht : (pc : Int) + off = (t : Int)) (hd : decode P.2.1 pc = .ok (.goto off, 3)) (h1 : am_x_goto (sm_nx p l e R s m args below meth c Q P D dA base b L xs μ0 n0 cE sE F) CL RT False rk (pc + 3) [t] cv cj ls st h) : sm_nx p l e R s m args below meth c Q P D dA base b L xs μ0 n0 cE sE F pc ls st h := by
  unfold am_x_goto at h1
  exact ⟨h1.1, h1.2.1, fun hn μ H locs cells slots A hR hL hw hS hm hc hs => lv_goto (tgt := t) hx hb hd ht (h1.2.2 hn μ H locs cells slots A hR hL (hw) hS hm hc hs)⟩
theorem sm_x_ifnonnull (hx : p.tables.exec = Jvm.exec) (hb : c.code = P.2.1) {off : Int} {t : Nat} (ht : (pc : Int) + off = (t : Int)) (hd : decode P.2.1 pc = .ok (.ifnonnull off, 3)) (h1 : am_x_ifnonnull (sm_nx p l e R s m args below meth c Q P D dA base b L xs μ0 n0 cE sE F) CL RT False rk (pc + 3) [t] cv cj ls st h) : sm_nx p l e R s m args below meth c Q P D dA base b L xs μ0 n0 cE sE F pc ls st h := by
  unfold am_x_ifnonnull at h1
  obtain ⟨x, r, rfl, k⟩ := am_o1_ex h1
  cases x with
  | none =>
    have k : sm_nx p l e R s m args below meth c Q P D dA base b L xs μ0 n0 cE sE F (pc + 3) ls r h := k
    exact ⟨k.1, k.2.1, fun hn μ H locs cells slots A hR hL hw hS hm hc hs => lv_ifnonnullN hx hb hd (k.2.2 hn μ H locs cells slots A hR hL (sm_wt hw) hS hm hc hs)⟩
  | some a =>
    have k : sm_nx p l e R s m args below meth c Q P D dA base b L xs μ0 n0 cE sE F t ls r h := k
    exact ⟨k.1, k.2.1, fun hn μ H locs cells slots A hR hL hw hS hm hc hs => lv_ifnonnull (tgt := t) hx hb hd ht (k.2.2 hn μ H locs cells slots A hR hL (sm_wt hw) hS hm hc hs)⟩
end steps
end
section
/-! ===== the memory's rows ===== -/
theorem sm_L.mono {μ μ' : Nat → Nat} {n k nL : Nat} {ls : List Value} {A : Array Slot} (h : sm_L μ n nL ls A) (hk : n ≤ k) (hm : ∀ a, a < n → μ' a = μ a) : sm_L μ' k nL ls A := by
  refine ⟨h.1, h.2.1, h.2.2.1, fun i v hv hp => ?_, sm_wm hk h.2.2.2.2⟩
  have := h.2.2.2.1 i v hv hp
  have w := h.2.2.2.2 v (List.mem_of_getElem? hv)
  cases v <;> first | exact this | (simp only [sm_v] at this ⊢; rw [hm _ (w _ (Or.inl rfl))]; exact this)
theorem sm_map_ext {μ μ' : Nat → Nat} {n : Nat} {st : List Value} (hm : ∀ a, a < n → μ' a = μ a) (hw : ∀ v ∈ st, sm_wv n v) : st.map (sm_v μ') = st.map (sm_v μ) := by
  apply List.map_congr_left
  intro v hv
  have w := hw v hv
  cases v <;> first | rfl | (simp only [sm_v]; rw [hm _ (w _ (Or.inl rfl))])
theorem sm_wl_obj {dA : Nat → ClassId} {μ : Nat → Nat} {L : Nat} {xs : Nat → Int32} {h : AH} {a ci : Nat} (w : sm_WF L xs h) (hk : am_kd h a = ci) (hc : ci < 5) : (0 < a ∧ a < h.1.length) ∧ (sm_wl dA μ h)[a - 1]? = some (μ a, .inr (ci, (List.range (sm_nf ci)).map (sm_fv μ h ci a))) := by
  have h0 := w.pos hk (by omega)
  have h1 := sm_kd_lt hk (by omega)
  refine ⟨⟨h0, h1⟩, ?_⟩
  rw [sm_wl_get h0 h1]
  have hn := (w.2.2.1 a h0 h1).2 (by omega)
  unfold sm_E
  rw [hk] at hn ⊢
  rw [if_pos hc, hn]
theorem sm_wl_arr {dA : Nat → ClassId} {μ : Nat → Nat} {L : Nat} {xs : Nat → Int32} {h : AH} {a k : Nat} (w : sm_WF L xs h) (hk : am_kd h a = k) (hc : 5 ≤ k) (hc2 : k < 9) : (0 < a ∧ a < h.1.length) ∧ (sm_wl dA μ h)[a - 1]? = some (μ a, .inl (dA k, am_ln h a, if k = 6 then .inr (.inl (am_J h a)) else if k = 8 then .inr (.inr (.inr (.inr fun j => (am_R h a j).map μ))) else .inl (am_I h a))) := by
  have h0 := w.pos hk (by omega)
  have h1 := sm_kd_lt hk (by omega)
  refine ⟨⟨h0, h1⟩, ?_⟩
  rw [sm_wl_get h0 h1]
  unfold sm_E
  rw [hk, if_neg (show ¬ k < 5 by omega)]
theorem sm_wl_put {dA : Nat → ClassId} {μ : Nat → Nat} {L : Nat} {xs : Nat → Int32} {h h' : AH} {a ci k : Nat} {v : Value} (w : sm_WF L xs h) (hk : am_kd h a = ci) (hc : ci < 5) (ht : h'.1 = h.1) (hs : ∀ c, c ≠ a → am_I h' c = am_I h c ∧ am_J h' c = am_J h c ∧ am_R h' c = am_R h c) (hv : ∀ j, sm_fv μ h' ci a j = if j = k then v else sm_fv μ h ci a j) : (sm_wl dA μ h).set (a - 1) (μ a, .inr (ci, ((List.range (sm_nf ci)).map (sm_fv μ h ci a)).set k v)) = sm_wl dA μ h' := by
  obtain ⟨⟨h0, h1⟩, -⟩ := sm_wl_obj (dA := dA) (μ := μ) w hk hc
  have hn := (w.2.2.1 a h0 h1).2 (by omega)
  rw [sm_wl_set h0 h1 ht hs]
  congr 2
  have e1 : am_kd h' a = ci := by unfold am_kd at hk ⊢; rw [ht]; exact hk
  have e2 : am_ln h' a = sm_nf ci := by
    unfold am_ln at hn ⊢
    rw [ht, hn, hk]
  unfold sm_E
  rw [e1, if_pos hc, e2]
  congr 2
  apply List.ext_getElem?
  intro i
  rw [List.getElem?_set]
  by_cases hi : k = i
  · subst hi
    rw [if_pos rfl]
    by_cases hl : k < sm_nf ci
    · rw [if_pos (by simpa using hl), List.getElem?_map, List.getElem?_range hl]
      simp [hv]
    · rw [if_neg (by simpa using hl), List.getElem?_eq_none (by simpa using hl)]
  · rw [if_neg hi, List.getElem?_map, List.getElem?_map]
    by_cases hl : i < sm_nf ci
    · rw [List.getElem?_range hl]
      simp [hv, Ne.symm hi]
    · rw [List.getElem?_eq_none (by simpa using hl)]
      rfl
theorem sm_wl_arrset {dA : Nat → ClassId} {μ : Nat → Nat} {L : Nat} {xs : Nat → Int32} {h h' : AH} {a k : Nat} (w : sm_WF L xs h) (hk : am_kd h a = k) (hc : 5 ≤ k) (hc2 : k < 9) (ht : h'.1 = h.1) (hs : ∀ c, c ≠ a → am_I h' c = am_I h c ∧ am_J h' c = am_J h c ∧ am_R h' c = am_R h c) : (sm_wl dA μ h).set (a - 1) (μ a, .inl (dA k, am_ln h a, if k = 6 then .inr (.inl (am_J h' a)) else if k = 8 then .inr (.inr (.inr (.inr fun j => (am_R h' a j).map μ))) else .inl (am_I h' a))) = sm_wl dA μ h' := by
  have h0 := w.pos hk (by omega)
  have h1 := sm_kd_lt hk (by omega)
  rw [sm_wl_set h0 h1 ht hs]
  have e1 : am_kd h' a = k := by unfold am_kd at hk ⊢; rw [ht]; exact hk
  have e2 : am_ln h' a = am_ln h a := by unfold am_ln; rw [ht]
  unfold sm_E
  rw [e1, e2, if_neg (show ¬ k < 5 by omega)]
theorem sm_WF.rI {L : Nat} {xs : Nat → Int32} {h : AH} {a : Nat} {f : Nat → Int32} (w : sm_WF L xs h) (ha : 0 < a) : sm_WF L xs (am_rI h a f) := by
  refine ⟨w.1, fun j => ?_, w.2.2.1, w.2.2.2⟩
  show am_ud (am_I h) a f 0 j = xs j
  rw [am_ud_ne (by omega)]
  exact w.2.1 j
theorem sm_WF.rJ {L : Nat} {xs : Nat → Int32} {h : AH} {a : Nat} {f : Nat → Int64} (w : sm_WF L xs h) : sm_WF L xs (am_rJ h a f) := ⟨w.1, w.2.1, w.2.2.1, w.2.2.2⟩
theorem sm_WF.sR {L : Nat} {xs : Nat → Int32} {h : AH} {a k : Nat} {v : Option Nat} (w : sm_WF L xs h) (hv : ∀ c, v = some c → c < h.1.length) : sm_WF L xs (am_sR h a k v) := by
  refine ⟨w.1, w.2.1, w.2.2.1, fun c j q hq => ?_⟩
  have hq : am_ud (am_R h) a (am_ud (am_R h a) k v) c j = some q := hq
  by_cases hc : c = a
  · subst hc
    rw [am_ud_eq] at hq
    by_cases hj : j = k
    · subst hj
      rw [am_ud_eq] at hq
      exact hv q hq
    · rw [am_ud_ne hj] at hq
      exact w.2.2.2 _ _ _ hq
  · rw [am_ud_ne hc] at hq
    exact w.2.2.2 _ _ _ hq
theorem sm_sI_other {h : AH} {a : Nat} {f : Nat → Int32} : ∀ c, c ≠ a → am_I (am_rI h a f) c = am_I h c ∧ am_J (am_rI h a f) c = am_J h c ∧ am_R (am_rI h a f) c = am_R h c := fun c hc => ⟨am_ud_ne hc, rfl, rfl⟩
theorem sm_sJ_other {h : AH} {a : Nat} {f : Nat → Int64} : ∀ c, c ≠ a → am_I (am_rJ h a f) c = am_I h c ∧ am_J (am_rJ h a f) c = am_J h c ∧ am_R (am_rJ h a f) c = am_R h c := fun c hc => ⟨rfl, am_ud_ne hc, rfl⟩
theorem sm_sR_other {h : AH} {a : Nat} {f : Nat → Option Nat} : ∀ c, c ≠ a → am_I (am_rR h a f) c = am_I h c ∧ am_J (am_rR h a f) c = am_J h c ∧ am_R (am_rR h a f) c = am_R h c := fun c hc => ⟨rfl, rfl, am_ud_ne hc⟩
def sm_fP (own : String) (idx ci k ft : Nat) : Prop := ∃ r : vw_C, vwCl[ci]? = some r ∧ k < r.2.2 ∧ Cond.fieldLink own idx (r.2.1 k).1 (r.2.1 k).2.1 (r.2.1 k).2.2.1 ∈ sm_GT ∧ ft = sm_ft ci k
theorem sm_fB_P {own : String} {idx ci k ft q : Nat} (h : sm_fB own idx ci k ft q = true) : sm_fP own idx ci k ft := by
  unfold sm_fB at h
  split at h
  · rename_i r hr
    simp only [Bool.and_eq_true, decide_eq_true_eq] at h
    exact ⟨r, hr, h.1, List.mem_filter.mpr ⟨List.mem_of_getElem? h.2.1, rfl⟩, h.2.2⟩
  · cases h
def sm_wP (P : SP) (ci k : Nat) : Prop := ∀ r : vw_C, vwCl[ci]? = some r → (r.2.1 k).2.2.2 = false ∨ (P.1.name = "<init>" ∧ (r.2.1 k).2.2.2 = true ∧ (r.2.1 k).1 = P.1.cls)
theorem sm_wB_P {P : SP} {ci k : Nat} (h : sm_wB (decide (P.1.name = "<init>")) P.1.cls ci k = true) : sm_wP P ci k := by
  intro r hr
  unfold sm_wB at h
  rw [hr] at h
  simp only [Bool.or_eq_true, Bool.and_eq_true, decide_eq_true_eq] at h
  rcases h with h | ⟨h1, h2, h3⟩
  · exact Or.inl h
  · exact Or.inr ⟨h1, h2, h3⟩
theorem sm_fs {μ : Nat → Nat} {h : AH} {ci a k : Nat} (hk : k < sm_nf ci) : ((List.range (sm_nf ci)).map (sm_fv μ h ci a))[k]? = some (sm_fv μ h ci a k) := by
  rw [List.getElem?_map, List.getElem?_range hk]
  rfl
section memory
variable {p : Program} {l : Launch} {e : Env} {R : Room} {s : State} {m : MethodId} {args : Array Value} {below : List Frame} {meth : Method} {c : Code} {Q : State → Prop}
variable {P : SP} {Ts : List Cond} {D : va_G} {dA : Nat → ClassId} {base b L : Nat} {xs : Nat → Int32} {μ0 : Nat → Nat} {n0 cE sE : Nat} {F : AH}
variable {CL : Nat → Nat → Nat → List Value → Nat → List Value → List Value → AH → Prop} {RT : Option Value → AH → Prop} {rk : Nat} {ts : List Nat} {cv : Int32} {cj : Int64} {ls st : List Value} {h : AH} {pc : Nat}
theorem sm_x_getfield (C : sm_cx p R s m args meth c P Ts D dA base b L xs cE sE) {idx ci k ft : Nat} (hf : sm_fP P.1.cls idx ci k ft) (hd : decode P.2.1 pc = .ok (.getfield idx, 3)) (h1 : am_x_getfield (sm_nx p l e R s m args below meth c Q P D dA base b L xs μ0 n0 cE sE F) CL RT False rk (pc + 3) [ci, k, ft] cv cj ls st h) : sm_nx p l e R s m args below meth c Q P D dA base b L xs μ0 n0 cE sE F pc ls st h := by
  obtain ⟨hx, hb, hml, hown, hts, hG, hNT, hAO, hK, hX, hbb, hbs, hin, hfr, hlo, hcE, hsE⟩ := C
  obtain ⟨r, hr, hkr, hlk, hft⟩ := hf
  have hcl := sm_cls hr
  have hnf := hcl.2.2.1
  have hle := (hcl.2.2.2.2.2.2.2.2 k hkr).2.2.2
  have hint : ∀ {a : Nat} {r2 : List Value}, sm_ft ci k ≠ 1 → st = .ref a :: r2 → am_kd h a = ci → (sm_nx p l e R s m args below meth c Q P D dA base b L xs μ0 n0 cE sE F) (pc + 3) ls (.int (am_I h a k) :: r2) h → (sm_nx p l e R s m args below meth c Q P D dA base b L xs μ0 n0 cE sE F) pc ls st h := by
    intro a r2 h01 e hk kk
    subst e
    refine ⟨kk.1, kk.2.1, fun hn μ H locs cells slots A hR hL hw hS hm hc hs => ?_⟩
    obtain ⟨⟨h0, h1'⟩, he⟩ := sm_wl_obj (dA := dA) (μ := μ) hR.2.2.2 hk hcl.1
    exact va_get hx hb hts (fun w z => hG w (hcl.2.2.2.1 w z)) hown hK hR.1 (a - 1) he hr k hkr (hts _ (hG _ hlk)) (fun _ z => z) (v := .int (am_I h a k)) (by rw [sm_fs (hnf ▸ hkr)]; unfold sm_fv; rw [if_neg h01]) hd (kk.2.2 hn μ H locs cells slots A hR hL (sm_wc sm_wv_i (sm_wt hw)) hS hm hc hs)
  rcases (show ft = 0 ∨ ft = 1 ∨ ft = 2 by omega) with rfl | rfl | rfl
  · unfold am_x_getfield at h1
    obtain ⟨a, r2, e, kk⟩ := am_r1_ex h1
    by_cases hk : am_kd h a = ci
    · rw [if_pos hk] at kk
      exact hint (by omega) e hk kk
    · rw [if_neg hk] at kk
      exact kk.elim
  · unfold am_x_getfield at h1
    obtain ⟨a, r2, e, kk⟩ := am_r1_ex h1
    subst e
    by_cases hk : am_kd h a = ci
    · rw [if_pos hk] at kk
      cases ho : am_R h a k with
      | none =>
        rw [ho] at kk
        have kk : (sm_nx p l e R s m args below meth c Q P D dA base b L xs μ0 n0 cE sE F) (pc + 3) ls (.null :: r2) h := kk
        refine ⟨kk.1, kk.2.1, fun hn μ H locs cells slots A hR hL hw hS hm hc hs => ?_⟩
        obtain ⟨⟨h0, h1'⟩, he⟩ := sm_wl_obj (dA := dA) (μ := μ) hR.2.2.2 hk hcl.1
        exact va_get hx hb hts (fun w z => hG w (hcl.2.2.2.1 w z)) hown hK hR.1 (a - 1) he hr k hkr (hts _ (hG _ hlk)) (fun _ z => z) (v := .null) (by rw [sm_fs (hnf ▸ hkr)]; unfold sm_fv; rw [if_pos hft.symm, ho]; rfl) hd (kk.2.2 hn μ H locs cells slots A hR hL (sm_wc sm_wv_n (sm_wt hw)) hS hm hc hs)
      | some d =>
        rw [ho] at kk
        have kk : (sm_nx p l e R s m args below meth c Q P D dA base b L xs μ0 n0 cE sE F) (pc + 3) ls (.ref d :: r2) h := kk
        refine ⟨kk.1, kk.2.1, fun hn μ H locs cells slots A hR hL hw hS hm hc hs => ?_⟩
        obtain ⟨⟨h0, h1'⟩, he⟩ := sm_wl_obj (dA := dA) (μ := μ) hR.2.2.2 hk hcl.1
        exact va_get hx hb hts (fun w z => hG w (hcl.2.2.2.1 w z)) hown hK hR.1 (a - 1) he hr k hkr (hts _ (hG _ hlk)) (fun _ z => z) (v := .ref (μ d)) (by rw [sm_fs (hnf ▸ hkr)]; unfold sm_fv; rw [if_pos hft.symm, ho]; rfl) hd (kk.2.2 hn μ H locs cells slots A hR hL (sm_wc (sm_wv_r (hR.2.2.2.2.2.2 _ _ _ ho)) (sm_wt hw)) hS hm hc hs)
    · rw [if_neg hk] at kk
      exact kk.elim
  · unfold am_x_getfield at h1
    obtain ⟨a, r2, e, kk⟩ := am_r1_ex h1
    by_cases hk : am_kd h a = ci
    · rw [if_pos hk] at kk
      exact hint (by omega) e hk kk
    · rw [if_neg hk] at kk
      exact kk.elim
theorem sm_x_put (C : sm_cx p R s m args meth c P Ts D dA base b L xs cE sE) {idx ci k ft : Nat} (hf : sm_fP P.1.cls idx ci k ft) (hwp : sm_wP P ci k) (hd : decode P.2.1 pc = .ok (.putfield idx, 3)) {a : Nat} {v : Value} {r2 : List Value} {h' : AH} (hk : am_kd h a = ci) (ht : h'.1 = h.1) (hs' : ∀ c, c ≠ a → am_I h' c = am_I h c ∧ am_J h' c = am_J h c ∧ am_R h' c = am_R h c)
    (hfv : ∀ μ j, sm_fv μ h' ci a j = if j = k then sm_v μ v else sm_fv μ h ci a j) (hwf : sm_WF L xs h → sm_wv h.1.length v → sm_WF L xs h') (hfit : ∀ μ, narrow (sm_tyf ci k) (sm_v μ v) = sm_v μ v ∧ fits (sm_tyf ci k) (sm_v μ v) = true)
    (kk : sm_nx p l e R s m args below meth c Q P D dA base b L xs μ0 n0 cE sE F (pc + 3) ls r2 h') : sm_nx p l e R s m args below meth c Q P D dA base b L xs μ0 n0 cE sE F pc ls (v :: .ref a :: r2) h := by
  obtain ⟨hx, hb, hml, hown, hts, hG, hNT, hAO, hK, hX, hbb, hbs, hin, hfr, hlo, hcE, hsE⟩ := C
  obtain ⟨r, hr, hkr, hlk, hft⟩ := hf
  have hcl := sm_cls hr
  have hnf := hcl.2.2.1
  have hln : h'.1.length = h.1.length := by rw [ht]
  have hsz : sm_sz h' = sm_sz h := by unfold sm_sz; rw [ht]
  refine ⟨hln ▸ kk.1, hsz ▸ kk.2.1, fun hn μ H locs cells slots A hR hL hw hS hm hc hs => ?_⟩
  obtain ⟨⟨h0, h1'⟩, he⟩ := sm_wl_obj (dA := dA) (μ := μ) hR.2.2.2 hk hcl.1
  have hfin : ∀ (H1 : Heap) (locs1 : List Loc), va_P D vwCl ((sm_wl dA μ h).set (a - 1) (μ a, .inr (ci, ((List.range (sm_nf ci)).map (sm_fv μ h ci a)).set k (sm_v μ v)))) H1 → va_D (fun q => base ≤ q) ((sm_wl dA μ h).set (a - 1) (μ a, .inr (ci, ((List.range (sm_nf ci)).map (sm_fv μ h ci a)).set k (sm_v μ v)))) → va_S (fun q => base ≤ q) s.heap H1 locs1 → W p l e R s m args below meth c H1 locs1 cells slots Q (F0 m (pc + 3) A (r2.map (sm_v μ))) := by
    intro H1 locs1 hP1 hD1 hS1
    rw [sm_wl_put hR.2.2.2 hk hcl.1 ht hs' (hfv μ)] at hP1 hD1
    exact kk.2.2 (hln ▸ hn) μ H1 locs1 cells slots A ⟨hP1, hD1, hR.2.2.1, hwf hR.2.2.2 (hw _ List.mem_cons_self)⟩ (hln ▸ hL) (hln ▸ sm_wt (sm_wt hw)) hS1 hm (hln ▸ hc) (hsz ▸ hs)
  rcases hwp r hr with hf | ⟨hi, hf, ho⟩
  · exact va_put hx hb hts (fun w z => hG w (hcl.2.2.2.1 w z)) (sm_tyf ci) hcl.2.2.2.2.1 hcl.2.2.2.2.2.1 hown hK hR.1 hR.2.1 hS (a - 1) he hr k hkr (hts _ (hG _ hlk)) (fun _ z => z) hf (hcl.2.2.2.2.1 k hkr) (hfit μ).1 (hfit μ).2 (by simpa [hnf] using hkr) hd hfin
  · exact va_putF hx hb hts (fun w z => hG w (hcl.2.2.2.1 w z)) (sm_tyf ci) hcl.2.2.2.2.1 hcl.2.2.2.2.2.1 hown hK hR.1 hR.2.1 hS (a - 1) he hr k hkr (hts _ (hG _ hlk)) (fun _ z => z) hf (hin hi) ho (hcl.2.2.2.2.1 k hkr) (hfit μ).1 (hfit μ).2 (by simpa [hnf] using hkr) hd hfin
theorem sm_x_putfield (C : sm_cx p R s m args meth c P Ts D dA base b L xs cE sE) {idx ci k ft : Nat} (hf : sm_fP P.1.cls idx ci k ft) (hwp : sm_wP P ci k) (hd : decode P.2.1 pc = .ok (.putfield idx, 3)) (h1 : am_x_putfield (sm_nx p l e R s m args below meth c Q P D dA base b L xs μ0 n0 cE sE F) CL RT False rk (pc + 3) [ci, k, ft] cv cj ls st h) : sm_nx p l e R s m args below meth c Q P D dA base b L xs μ0 n0 cE sE F pc ls st h := by
  obtain ⟨r, hr, hkr, hlk, hft⟩ := id hf
  have hcl := sm_cls hr
  obtain ⟨ty0, ty2, ty1, hle⟩ := hcl.2.2.2.2.2.2.2.2 k hkr
  have intFv : ∀ {a : Nat} {x : Int32}, sm_ft ci k ≠ 1 → ∀ (μ : Nat → Nat) (j : Nat), sm_fv μ (am_sI h a k x) ci a j = if j = k then sm_v μ (.int x) else sm_fv μ h ci a j := by
    intro a x h1 μ j
    unfold sm_fv
    by_cases hj : j = k
    · subst hj
      rw [if_neg h1, if_pos rfl]
      show Value.int (am_ud (am_I h) a (am_ud (am_I h a) j x) a j) = .int x
      rw [am_ud_eq, am_ud_eq]
    · rw [if_neg hj]
      show (if sm_ft ci j = 1 then _ else Value.int (am_ud (am_I h) a (am_ud (am_I h a) k x) a j)) = _
      rw [am_ud_eq, am_ud_ne hj]
      rfl
  rcases (show ft = 0 ∨ ft = 1 ∨ ft = 2 by omega) with rfl | rfl | rfl
  · unfold am_x_putfield at h1
    obtain ⟨a, x, r2, e, kk⟩ := am_ri_ex h1
    subst e
    by_cases hk : am_kd h a = ci
    · rw [if_pos hk] at kk
      exact sm_x_put C hf hwp hd (h' := am_sI h a k x) hk rfl sm_sI_other (intFv (by omega)) (fun w _ => w.rI (w.pos hk (by have := hcl.1; omega))) (fun μ => by rw [ty0 hft.symm]; exact ⟨rfl, rfl⟩) kk
    · rw [if_neg hk] at kk
      exact kk.elim
  · unfold am_x_putfield at h1
    obtain ⟨a, x, r2, e, kk⟩ := am_rr_ex h1
    subst e
    by_cases hk : am_kd h a = ci
    · rw [if_pos hk] at kk
      refine sm_x_put C hf hwp hd (h' := am_sR h a k x) hk rfl sm_sR_other (fun μ j => ?_) (fun w hv => w.sR (fun d hd' => ?_)) (fun μ => ?_) kk
      · unfold sm_fv
        by_cases hj : j = k
        · subst hj
          rw [if_pos hft.symm, if_pos rfl]
          show va_rf ((am_ud (am_R h) a (am_ud (am_R h a) j x) a j).map μ) = _
          rw [am_ud_eq, am_ud_eq]
          cases x <;> rfl
        · rw [if_neg hj]
          show (if sm_ft ci j = 1 then va_rf ((am_ud (am_R h) a (am_ud (am_R h a) k x) a j).map μ) else _) = _
          rw [am_ud_eq, am_ud_ne hj]
          rfl
      · subst hd'
        exact hv d (Or.inl rfl)
      · rcases ty1 hft.symm with ⟨nm, e⟩ | ⟨nm, e⟩ <;> rw [e] <;> cases x <;> exact ⟨rfl, rfl⟩
    · rw [if_neg hk] at kk
      exact kk.elim
  · unfold am_x_putfield at h1
    obtain ⟨a, x, r2, e, kk⟩ := am_ri_ex h1
    subst e
    by_cases hk : am_kd h a = ci
    · rw [if_pos hk] at kk
      by_cases hx2 : x = 0 ∨ x = 1
      · rw [if_pos hx2] at kk
        exact sm_x_put C hf hwp hd (h' := am_sI h a k x) hk rfl sm_sI_other (intFv (by omega)) (fun w _ => w.rI (w.pos hk (by have := hcl.1; omega))) (fun μ => by rw [ty2 hft.symm]; rcases hx2 with rfl | rfl <;> first | exact ⟨(by decide : narrow .boolean (.int 0) = .int 0), (by decide : fits .boolean (.int 0) = true)⟩ | exact ⟨(by decide : narrow .boolean (.int 1) = .int 1), (by decide : fits .boolean (.int 1) = true)⟩) kk
      · rw [if_neg hx2] at kk
        exact kk.elim
    · rw [if_neg hk] at kk
      exact kk.elim
end memory
end
section
/-! ===== new cells, arrays ===== -/
theorem sm_arrI : Cond.arrayClass .int ∈ sm_GT := List.mem_filter.mpr ⟨List.mem_of_getElem? (i := 77) (by decide +kernel), rfl⟩
theorem sm_arrJ : Cond.arrayClass .long ∈ sm_GT := List.mem_filter.mpr ⟨List.mem_of_getElem? (i := 119) (by decide +kernel), rfl⟩
theorem sm_arrC : Cond.arrayClass .char ∈ sm_GT := List.mem_filter.mpr ⟨List.mem_of_getElem? (i := 155) (by decide +kernel), rfl⟩
theorem sm_upd (f : Nat → Int32) (k : Nat) (x : Int32) : upd f k x = am_ud f k x := rfl
theorem sm_updL (f : Nat → Int64) (k : Nat) (x : Int64) : vp_updL f k x = am_ud f k x := rfl
section arrays
variable {p : Program} {l : Launch} {e : Env} {R : Room} {s : State} {m : MethodId} {args : Array Value} {below : List Frame} {meth : Method} {c : Code} {Q : State → Prop}
variable {P : SP} {Ts : List Cond} {D : va_G} {dA : Nat → ClassId} {base b L : Nat} {xs : Nat → Int32} {μ0 : Nat → Nat} {n0 cE sE : Nat} {F : AH}
variable {CL : Nat → Nat → Nat → List Value → Nat → List Value → List Value → AH → Prop} {RT : Option Value → AH → Prop} {rk : Nat} {ts : List Nat} {cv : Int32} {cj : Int64} {ls st : List Value} {h : AH} {pc : Nat}
/-- behind a new cell: the next state's world, locals and stack -/
theorem sm_born {k n q : Nat} {μ : Nat → Nat} {H1 : Heap} {A : Array Slot} {Ev : va_E} (hn : n0 ≤ h.1.length) (hR : va_P D vwCl (sm_wl dA μ h ++ [(q, Ev)]) H1 ∧ va_D (fun q => base ≤ q) (sm_wl dA μ h ++ [(q, Ev)]) ∧ μ 0 = b ∧ sm_WF L xs h) (hk : k < 9) (hkn : k < 5 → n = sm_nf k) (hE : sm_E dA (am_ud μ h.1.length q) (am_nw h k n) h.1.length = Ev) (hL : sm_L μ h.1.length P.2.2.1 ls A) (hw : ∀ v ∈ st, sm_wv h.1.length v) (hm : ∀ a, a < n0 → μ a = μ0 a) :
    sm_R D dA base b L xs (am_ud μ h.1.length q) (am_nw h k n) H1 ∧ sm_L (am_ud μ h.1.length q) (am_nw h k n).1.length P.2.2.1 ls A ∧ (∀ v ∈ Value.ref h.1.length :: st, sm_wv (am_nw h k n).1.length v) ∧ (∀ a, a < n0 → am_ud μ h.1.length q a = μ0 a) ∧ (Value.ref h.1.length :: st).map (sm_v (am_ud μ h.1.length q)) = .ref q :: st.map (sm_v μ) := by
  have h1 := hR.2.2.2.one
  have hlt : ∀ a, a < h.1.length → am_ud μ h.1.length q a = μ a := fun a ha => am_ud_ne (by omega)
  refine ⟨⟨?_, ?_, (hlt 0 (by omega)).trans hR.2.2.1, hR.2.2.2.nw hk hkn⟩, hL.mono (by rw [sm_ln_nw]; omega) hlt, sm_wc (sm_wv_r (by rw [sm_ln_nw]; omega)) (sm_wm (by rw [sm_ln_nw]; omega) hw), fun a ha => (hlt a (by omega)).trans (hm a ha), ?_⟩
  · rw [sm_wl_nw h1 hR.2.2.2.2.2.2, hE]
    exact hR.1
  · rw [sm_wl_nw h1 hR.2.2.2.2.2.2, hE]
    exact hR.2.1
  · rw [List.map_cons, sm_map_ext hlt hw]
    show Value.ref (am_ud μ h.1.length q h.1.length) :: _ = _
    rw [am_ud_eq]
theorem sm_x_new (C : sm_cx p R s m args meth c P Ts D dA base b L xs cE sE) {idx ci nf : Nat} {r : vw_C} (hr : vwCl[ci]? = some r) (hnf : nf = r.2.2) (hlk : Cond.classLink P.1.cls idx r.1 ∈ sm_GT) (hd : decode P.2.1 pc = .ok (.new idx, 3)) (h1 : am_x_new (sm_nx p l e R s m args below meth c Q P D dA base b L xs μ0 n0 cE sE F) CL RT False rk (pc + 3) [ci, nf] cv cj ls st h) : sm_nx p l e R s m args below meth c Q P D dA base b L xs μ0 n0 cE sE F pc ls st h := by
  obtain ⟨hx, hb, hml, hown, hts, hG, hNT, hAO, hK, hX, hbb, hbs, hin, hfr, hlo, hcE, hsE⟩ := C
  unfold am_x_new at h1
  have k : sm_nx p l e R s m args below meth c Q P D dA base b L xs μ0 n0 cE sE F (pc + 3) ls (.ref h.1.length :: st) (am_nw h ci nf) := h1
  have hcl := sm_cls hr
  have kl := k.1
  have ks := k.2.1
  rw [sm_ln_nw] at kl
  rw [sm_sz_nw] at ks
  refine ⟨by omega, by omega, fun hn μ H locs cells slots A hR hL hw hS hm hc hs => ?_⟩
  have hdv : ∀ j, j < r.2.2 → sm_fv (fun _ => 0) (am_nw h ci nf) ci h.1.length j = defaultValue (sm_tyf ci j) ∧ ∀ μ : Nat → Nat, sm_fv μ (am_nw h ci nf) ci h.1.length j = defaultValue (sm_tyf ci j) := by
    intro j hj
    have key : ∀ μ : Nat → Nat, sm_fv μ (am_nw h ci nf) ci h.1.length j = defaultValue (sm_tyf ci j) := by
      intro μ
      obtain ⟨t0, t2, t1, tl⟩ := hcl.2.2.2.2.2.2.2.2 j hj
      unfold sm_fv
      rw [show am_R (am_nw h ci nf) h.1.length = fun _ => none from am_ud_eq, show am_I (am_nw h ci nf) h.1.length = fun _ => 0 from am_ud_eq]
      rcases (show sm_ft ci j = 0 ∨ sm_ft ci j = 1 ∨ sm_ft ci j = 2 by omega) with e | e | e
      · rw [t0 e, e]; rfl
      · rw [if_pos e]
        rcases t1 e with ⟨nm, e2⟩ | ⟨nm, e2⟩ <;> rw [e2] <;> rfl
      · rw [t2 e, e]; rfl
    exact ⟨key _, key⟩
  refine va_new (N := r.2.2) (T := r.2.1) (C := r.1) (fs := (List.range r.2.2).map (fun j => defaultValue (sm_tyf ci j))) hx hb hts (fun w z => hG w (hcl.2.2.2.1 w z)) (sm_tyf ci) hcl.2.2.2.2.1 hown (hts _ (hG _ hlk)) (hts _ (hG _ hcl.2.2.2.2.2.2.1)) (hts _ (hG _ hcl.2.2.2.2.2.2.2.1)) hK hR.1 hR.2.1 hS (fun q z => Nat.le_trans hbs z) hr (fun j hj => ?_) (by omega) (by omega) hd (fun q H1 hP1 hD1 hS1 => ?_)
  · unfold vp_V
    rw [List.getD_eq_getElem?_getD, List.getElem?_map, List.getElem?_range hj]
    rfl
  · obtain ⟨g1, g2, g3, g4, g5⟩ := sm_born (P := P) (μ0 := μ0) (n0 := n0) (dA := dA) (k := ci) (n := nf) (q := q) hn ⟨hP1, hD1, hR.2.2.1, hR.2.2.2⟩ (by have := hcl.1; omega) (fun _ => by rw [hnf]; exact hcl.2.2.1) (by
      unfold sm_E
      rw [sm_kd_nw0.1, sm_kd_nw0.2, if_pos hcl.1, hnf]
      congr 2
      apply List.map_congr_left
      intro j hj
      subst hnf
      exact (hdv j (List.mem_range.mp hj)).2 _) hL hw hm
    have := k.2.2 (by rw [sm_ln_nw]; omega) _ H1 locs (cells + 1) (slots + r.2.2) A g1 g2 g3 hS1 g4 (by rw [sm_ln_nw]; omega) (by rw [sm_sz_nw, hnf]; omega)
    rw [g5] at this
    exact this
theorem sm_x_newarrI (C : sm_cx p R s m args meth c P Ts D dA base b L xs cE sE) {t : ArrayType} (ht : newarray.typeOf t = .int) (hd : decode P.2.1 pc = .ok (.newarray t, 2)) (h1 : am_x_newarray (sm_nx p l e R s m args below meth c Q P D dA base b L xs μ0 n0 cE sE F) CL RT False rk (pc + 2) [5] cv cj ls st h) : sm_nx p l e R s m args below meth c Q P D dA base b L xs μ0 n0 cE sE F pc ls st h := by
  obtain ⟨hx, hb, hml, hown, hts, hG, hNT, hAO, hK, hX, hbb, hbs, hin, hfr, hlo, hcE, hsE⟩ := C
  unfold am_x_newarray at h1
  obtain ⟨x, r2, e, k⟩ := am_i1_ex h1
  subst e
  by_cases hxn : x < 0 ∨ 1000 < x.toNatClampNeg
  · rw [if_pos hxn] at k
    exact k.elim
  rw [if_neg hxn] at k
  have hx0 : ¬ x < 0 := fun z => hxn (Or.inl z)
  have hx1 : x.toNatClampNeg ≤ 1000 := Nat.not_lt.mp fun z => hxn (Or.inr z)
  have kl := k.1
  have ks := k.2.1
  rw [sm_ln_nw] at kl
  rw [sm_sz_nw] at ks
  refine ⟨by omega, by omega, fun hn μ H locs cells slots A hR hL hw hS hm hc hs => ?_⟩
  refine va_newa (atype := t) (ty := .int) (a0 := (x.toNatClampNeg, .inl (fun _ => 0))) hx hb (by rw [ht]; exact hts _ (hG _ sm_arrI)) ht hK hR.1 hR.2.1 hS (fun q z => Nat.le_trans hbs z) (fun cA => rfl) hx0 rfl (by show _ * 4 ≤ _; omega) (by omega) (by omega) hd (fun q cA H1 hK1 hP1 hD1 hS1 => ?_)
  have e1 : s.vm.findClass ("[" ++ (.int : FieldType).toString) = some cA := (hK1.2 4 (cA, .int) rfl).2
  have e2 : s.vm.findClass ("[" ++ (.int : FieldType).toString) = some (dA 5) := (hK.2 0 (dA 5, .int) rfl).2
  have e3 : cA = dA 5 := Option.some.inj (e1.symm.trans e2)
  subst e3
  obtain ⟨g1, g2, g3, g4, g5⟩ := sm_born (P := P) (μ0 := μ0) (n0 := n0) (k := 5) (n := x.toNatClampNeg) (q := q) hn ⟨hP1, hD1, hR.2.2.1, hR.2.2.2⟩ (by omega) (fun z => by omega) (by
    unfold sm_E
    rw [sm_kd_nw0.1, sm_kd_nw0.2, if_neg (by omega)]
    rw [show am_I (am_nw h 5 x.toNatClampNeg) h.1.length = fun _ => 0 from am_ud_eq, show am_J (am_nw h 5 x.toNatClampNeg) h.1.length = fun _ => 0 from am_ud_eq]
    rfl) hL (sm_wt hw) hm
  have := k.2.2 (by rw [sm_ln_nw]; omega) _ H1 locs (cells + 1) (slots + x.toNatClampNeg) A g1 g2 g3 hS1 g4 (by rw [sm_ln_nw]; omega) (by rw [sm_sz_nw]; omega)
  rw [g5] at this
  exact this
theorem sm_x_newarrJ (C : sm_cx p R s m args meth c P Ts D dA base b L xs cE sE) {t : ArrayType} (ht : newarray.typeOf t = .long) (hd : decode P.2.1 pc = .ok (.newarray t, 2)) (h1 : am_x_newarray (sm_nx p l e R s m args below meth c Q P D dA base b L xs μ0 n0 cE sE F) CL RT False rk (pc + 2) [6] cv cj ls st h) : sm_nx p l e R s m args below meth c Q P D dA base b L xs μ0 n0 cE sE F pc ls st h := by
  obtain ⟨hx, hb, hml, hown, hts, hG, hNT, hAO, hK, hX, hbb, hbs, hin, hfr, hlo, hcE, hsE⟩ := C
  unfold am_x_newarray at h1
  obtain ⟨x, r2, e, k⟩ := am_i1_ex h1
  subst e
  by_cases hxn : x < 0 ∨ 1000 < x.toNatClampNeg
  · rw [if_pos hxn] at k
    exact k.elim
  rw [if_neg hxn] at k
  have hx0 : ¬ x < 0 := fun z => hxn (Or.inl z)
  have hx1 : x.toNatClampNeg ≤ 1000 := Nat.not_lt.mp fun z => hxn (Or.inr z)
  have kl := k.1
  have ks := k.2.1
  rw [sm_ln_nw] at kl
  rw [sm_sz_nw] at ks
  refine ⟨by omega, by omega, fun hn μ H locs cells slots A hR hL hw hS hm hc hs => ?_⟩
  refine va_newa (atype := t) (ty := .long) (a0 := (x.toNatClampNeg, .inr (.inl (fun _ => 0)))) hx hb (by rw [ht]; exact hts _ (hG _ sm_arrJ)) ht hK hR.1 hR.2.1 hS (fun q z => Nat.le_trans hbs z) (fun cA => rfl) hx0 rfl (by show _ * 8 ≤ _; omega) (by omega) (by omega) hd (fun q cA H1 hK1 hP1 hD1 hS1 => ?_)
  have e1 : s.vm.findClass ("[" ++ (.long : FieldType).toString) = some cA := (hK1.2 4 (cA, .long) rfl).2
  have e2 : s.vm.findClass ("[" ++ (.long : FieldType).toString) = some (dA 6) := (hK.2 1 (dA 6, .long) rfl).2
  have e3 : cA = dA 6 := Option.some.inj (e1.symm.trans e2)
  subst e3
  obtain ⟨g1, g2, g3, g4, g5⟩ := sm_born (P := P) (μ0 := μ0) (n0 := n0) (k := 6) (n := x.toNatClampNeg) (q := q) hn ⟨hP1, hD1, hR.2.2.1, hR.2.2.2⟩ (by omega) (fun z => by omega) (by
    unfold sm_E
    rw [sm_kd_nw0.1, sm_kd_nw0.2, if_neg (by omega)]
    rw [show am_I (am_nw h 6 x.toNatClampNeg) h.1.length = fun _ => 0 from am_ud_eq, show am_J (am_nw h 6 x.toNatClampNeg) h.1.length = fun _ => 0 from am_ud_eq]
    rfl) hL (sm_wt hw) hm
  have := k.2.2 (by rw [sm_ln_nw]; omega) _ H1 locs (cells + 1) (slots + x.toNatClampNeg) A g1 g2 g3 hS1 g4 (by rw [sm_ln_nw]; omega) (by rw [sm_sz_nw]; omega)
  rw [g5] at this
  exact this
theorem sm_x_newarrC (C : sm_cx p R s m args meth c P Ts D dA base b L xs cE sE) {t : ArrayType} (ht : newarray.typeOf t = .char) (hd : decode P.2.1 pc = .ok (.newarray t, 2)) (h1 : am_x_newarray (sm_nx p l e R s m args below meth c Q P D dA base b L xs μ0 n0 cE sE F) CL RT False rk (pc + 2) [7] cv cj ls st h) : sm_nx p l e R s m args below meth c Q P D dA base b L xs μ0 n0 cE sE F pc ls st h := by
  obtain ⟨hx, hb, hml, hown, hts, hG, hNT, hAO, hK, hX, hbb, hbs, hin, hfr, hlo, hcE, hsE⟩ := C
  unfold am_x_newarray at h1
  obtain ⟨x, r2, e, k⟩ := am_i1_ex h1
  subst e
  by_cases hxn : x < 0 ∨ 1000 < x.toNatClampNeg
  · rw [if_pos hxn] at k
    exact k.elim
  rw [if_neg hxn] at k
  have hx0 : ¬ x < 0 := fun z => hxn (Or.inl z)
  have hx1 : x.toNatClampNeg ≤ 1000 := Nat.not_lt.mp fun z => hxn (Or.inr z)
  have kl := k.1
  have ks := k.2.1
  rw [sm_ln_nw] at kl
  rw [sm_sz_nw] at ks
  refine ⟨by omega, by omega, fun hn μ H locs cells slots A hR hL hw hS hm hc hs => ?_⟩
  refine va_newa (atype := t) (ty := .char) (a0 := (x.toNatClampNeg, .inl (fun _ => 0))) hx hb (by rw [ht]; exact hts _ (hG _ sm_arrC)) ht hK hR.1 hR.2.1 hS (fun q z => Nat.le_trans hbs z) (fun cA => rfl) hx0 rfl (by show _ * 2 ≤ _; omega) (by omega) (by omega) hd (fun q cA H1 hK1 hP1 hD1 hS1 => ?_)
  have e1 : s.vm.findClass ("[" ++ (.char : FieldType).toString) = some cA := (hK1.2 4 (cA, .char) rfl).2
  have e2 : s.vm.findClass ("[" ++ (.char : FieldType).toString) = some (dA 7) := (hK.2 2 (dA 7, .char) rfl).2
  have e3 : cA = dA 7 := Option.some.inj (e1.symm.trans e2)
  subst e3
  obtain ⟨g1, g2, g3, g4, g5⟩ := sm_born (P := P) (μ0 := μ0) (n0 := n0) (k := 7) (n := x.toNatClampNeg) (q := q) hn ⟨hP1, hD1, hR.2.2.1, hR.2.2.2⟩ (by omega) (fun z => by omega) (by
    unfold sm_E
    rw [sm_kd_nw0.1, sm_kd_nw0.2, if_neg (by omega)]
    rw [show am_I (am_nw h 7 x.toNatClampNeg) h.1.length = fun _ => 0 from am_ud_eq, show am_J (am_nw h 7 x.toNatClampNeg) h.1.length = fun _ => 0 from am_ud_eq]
    rfl) hL (sm_wt hw) hm
  have := k.2.2 (by rw [sm_ln_nw]; omega) _ H1 locs (cells + 1) (slots + x.toNatClampNeg) A g1 g2 g3 hS1 g4 (by rw [sm_ln_nw]; omega) (by rw [sm_sz_nw]; omega)
  rw [g5] at this
  exact this
theorem sm_x_anewarray (C : sm_cx p R s m args meth c P Ts D dA base b L xs cE sE) {idx : Nat} (hlk : Cond.classLink P.1.cls idx RX2 ∈ sm_GT) (hd : decode P.2.1 pc = .ok (.anewarray idx, 3)) (h1 : am_x_anewarray (sm_nx p l e R s m args below meth c Q P D dA base b L xs μ0 n0 cE sE F) CL RT False rk (pc + 3) ts cv cj ls st h) : sm_nx p l e R s m args below meth c Q P D dA base b L xs μ0 n0 cE sE F pc ls st h := by
  obtain ⟨hx, hb, hml, hown, hts, hG, hNT, hAO, hK, hX, hbb, hbs, hin, hfr, hlo, hcE, hsE⟩ := C
  unfold am_x_anewarray at h1
  obtain ⟨x, r2, e, k⟩ := am_i1_ex h1
  subst e
  by_cases hxn : x < 0 ∨ 1000 < x.toNatClampNeg
  · rw [if_pos hxn] at k
    exact k.elim
  rw [if_neg hxn] at k
  have hx0 : ¬ x < 0 := fun z => hxn (Or.inl z)
  have hx1 : x.toNatClampNeg ≤ 1000 := Nat.not_lt.mp fun z => hxn (Or.inr z)
  have kl := k.1
  have ks := k.2.1
  rw [sm_ln_nw] at kl
  rw [sm_sz_nw] at ks
  refine ⟨by omega, by omega, fun hn μ H locs cells slots A hR hL hw hS hm hc hs => ?_⟩
  refine va_newq hx hb hown (hts _ (hG _ hlk)) hAO hK hR.1 hR.2.1 hS (fun q z => Nat.le_trans hbs z) hx0 rfl (by omega) (by omega) (by omega) hd (fun q cA H1 hK1 hP1 hD1 hS1 => ?_)
  obtain ⟨_, _, _, _, _, e1⟩ := (hK1.2 4 (cA, .object RX2) rfl).2
  obtain ⟨_, _, _, _, _, e2⟩ := (hK.2 3 (dA 8, .object RX2) rfl).2
  have e3 : cA = dA 8 := Option.some.inj (e1.symm.trans e2)
  subst e3
  obtain ⟨g1, g2, g3, g4, g5⟩ := sm_born (P := P) (μ0 := μ0) (n0 := n0) (k := 8) (n := x.toNatClampNeg) (q := q) hn ⟨hP1, hD1, hR.2.2.1, hR.2.2.2⟩ (by omega) (fun z => by omega) (by
    unfold sm_E
    rw [sm_kd_nw0.1, sm_kd_nw0.2, if_neg (by omega)]
    rw [show am_R (am_nw h 8 x.toNatClampNeg) h.1.length = fun _ => none from am_ud_eq]
    rfl) hL (sm_wt hw) hm
  have := k.2.2 (by rw [sm_ln_nw]; omega) _ H1 locs (cells + 1) (slots + x.toNatClampNeg) A g1 g2 g3 hS1 g4 (by rw [sm_ln_nw]; omega) (by rw [sm_sz_nw]; omega)
  rw [g5] at this
  exact this
theorem sm_scr {a : Nat} (w : sm_WF L xs h) (hk : am_kd h a = 9) : a = 0 ∧ am_ln h a = L := by
  have h1 := sm_kd_lt hk (by omega)
  have h0 : a = 0 := by
    rcases Nat.eq_zero_or_pos a with q | q
    · exact q
    · have := (w.2.2.1 a q h1).1
      omega
  subst h0
  refine ⟨rfl, ?_⟩
  unfold am_ln
  rw [List.getD_eq_getElem?_getD, w.1]
  rfl
theorem sm_x_arraylength (C : sm_cx p R s m args meth c P Ts D dA base b L xs cE sE) (hd : decode P.2.1 pc = .ok (.arraylength, 1)) (h1 : am_x_arraylength (sm_nx p l e R s m args below meth c Q P D dA base b L xs μ0 n0 cE sE F) CL RT False rk (pc + 1) ts cv cj ls st h) : sm_nx p l e R s m args below meth c Q P D dA base b L xs μ0 n0 cE sE F pc ls st h := by
  obtain ⟨hx, hb, hml, hown, hts, hG, hNT, hAO, hK, hX, hbb, hbs, hin, hfr, hlo, hcE, hsE⟩ := C
  unfold am_x_arraylength at h1
  obtain ⟨a, r2, e, k⟩ := am_r1_ex h1
  subst e
  by_cases hk : 5 ≤ am_kd h a ∧ am_kd h a ≤ 9
  · rw [if_pos hk] at k
    refine ⟨k.1, k.2.1, fun hn μ H locs cells slots A hR hL hw hS hm hc hs => ?_⟩
    by_cases h9 : am_kd h a = 9
    · obtain ⟨rfl, hl⟩ := sm_scr hR.2.2.2 h9
      show W p l e R s m args below meth c H locs cells slots Q (F0 m pc A (.ref (μ 0) :: r2.map (sm_v μ)))
      rw [hR.2.2.1]
      refine va_slen hx hb hX (by omega) (by omega) hS hd ?_
      rw [hl] at k
      exact (k.2.2 hn μ H locs cells slots A hR hL (sm_wc sm_wv_i (sm_wt hw)) hS hm hc hs)
    · obtain ⟨⟨h0, h1'⟩, he⟩ := sm_wl_arr (dA := dA) (μ := μ) hR.2.2.2 rfl hk.1 (by omega)
      have hty : ∃ (t0 : Nat) (ty : FieldType), (sm_TY dA)[t0]? = some (dA (am_kd h a), ty) := by
        rcases (show am_kd h a = 5 ∨ am_kd h a = 6 ∨ am_kd h a = 7 ∨ am_kd h a = 8 by omega) with z | z | z | z <;> rw [z]
        · exact ⟨0, _, rfl⟩
        · exact ⟨1, _, rfl⟩
        · exact ⟨2, _, rfl⟩
        · exact ⟨3, _, rfl⟩
      obtain ⟨t0, ty, ht⟩ := hty
      exact va_alen hx hb hK hR.1 (a - 1) t0 he ht rfl hd (k.2.2 hn μ H locs cells slots A hR hL (sm_wc sm_wv_i (sm_wt hw)) hS hm hc hs)
  · rw [if_neg hk] at k
    exact k.elim
theorem sm_x_iaload (C : sm_cx p R s m args meth c P Ts D dA base b L xs cE sE) (hd : decode P.2.1 pc = .ok (.iaload, 1)) (h1 : am_x_iaload (sm_nx p l e R s m args below meth c Q P D dA base b L xs μ0 n0 cE sE F) CL RT False rk (pc + 1) ts cv cj ls st h) : sm_nx p l e R s m args below meth c Q P D dA base b L xs μ0 n0 cE sE F pc ls st h := by
  obtain ⟨hx, hb, hml, hown, hts, hG, hNT, hAO, hK, hX, hbb, hbs, hin, hfr, hlo, hcE, hsE⟩ := C
  unfold am_x_iaload at h1
  obtain ⟨a, x, r2, e, k⟩ := am_ai_ex h1
  subst e
  by_cases hk : (am_kd h a = 5 ∨ am_kd h a = 9) ∧ ¬ (x < 0 ∨ am_ln h a ≤ x.toNatClampNeg)
  · rw [if_pos hk] at k
    refine ⟨k.1, k.2.1, fun hn μ H locs cells slots A hR hL hw hS hm hc hs => ?_⟩
    rcases hk with ⟨h5 | h9, hin2⟩
    · obtain ⟨⟨h0, h1'⟩, he⟩ := sm_wl_arr (dA := dA) (μ := μ) hR.2.2.2 h5 (by omega) (by omega)
      exact va_iald hx hb hK hR.1 (a - 1) 0 he rfl hin2 hd (k.2.2 hn μ H locs cells slots A hR hL (sm_wc sm_wv_i (sm_wt (sm_wt hw))) hS hm hc hs)
    · obtain ⟨rfl, hl⟩ := sm_scr hR.2.2.2 h9
      show W p l e R s m args below meth c H locs cells slots Q (F0 m pc A (.int x :: .ref (μ 0) :: r2.map (sm_v μ)))
      rw [hR.2.2.1]
      rw [hl] at hin2
      refine va_sld hx hb hX (by omega) (by omega) hS hin2 hd ?_
      rw [hR.2.2.2.2.1] at k
      exact (k.2.2 hn μ H locs cells slots A hR hL (sm_wc sm_wv_i (sm_wt (sm_wt hw))) hS hm hc hs)
  · rw [if_neg hk] at k
    exact k.elim
theorem sm_x_laload (C : sm_cx p R s m args meth c P Ts D dA base b L xs cE sE) (hd : decode P.2.1 pc = .ok (.laload, 1)) (h1 : am_x_laload (sm_nx p l e R s m args below meth c Q P D dA base b L xs μ0 n0 cE sE F) CL RT False rk (pc + 1) ts cv cj ls st h) : sm_nx p l e R s m args below meth c Q P D dA base b L xs μ0 n0 cE sE F pc ls st h := by
  obtain ⟨hx, hb, hml, hown, hts, hG, hNT, hAO, hK, hX, hbb, hbs, hin, hfr, hlo, hcE, hsE⟩ := C
  unfold am_x_laload at h1
  obtain ⟨a, x, r2, e, k⟩ := am_ai_ex h1
  subst e
  by_cases hk : am_kd h a = 6 ∧ ¬ (x < 0 ∨ am_ln h a ≤ x.toNatClampNeg)
  · rw [if_pos hk] at k
    refine ⟨k.1, k.2.1, fun hn μ H locs cells slots A hR hL hw hS hm hc hs => ?_⟩
    obtain ⟨⟨h0, h1'⟩, he⟩ := sm_wl_arr (dA := dA) (μ := μ) hR.2.2.2 hk.1 (by omega) (by omega)
    exact va_lald hx hb hK hR.1 (a - 1) 1 he rfl hk.2 hd (k.2.2 hn μ H locs cells slots A hR hL (sm_wc sm_wv_l (sm_wt (sm_wt hw))) hS hm hc hs)
  · rw [if_neg hk] at k
    exact k.elim
theorem sm_x_caload (C : sm_cx p R s m args meth c P Ts D dA base b L xs cE sE) (hd : decode P.2.1 pc = .ok (.caload, 1)) (h1 : am_x_caload (sm_nx p l e R s m args below meth c Q P D dA base b L xs μ0 n0 cE sE F) CL RT False rk (pc + 1) ts cv cj ls st h) : sm_nx p l e R s m args below meth c Q P D dA base b L xs μ0 n0 cE sE F pc ls st h := by
  obtain ⟨hx, hb, hml, hown, hts, hG, hNT, hAO, hK, hX, hbb, hbs, hin, hfr, hlo, hcE, hsE⟩ := C
  unfold am_x_caload at h1
  obtain ⟨a, x, r2, e, k⟩ := am_ai_ex h1
  subst e
  by_cases hk : am_kd h a = 7 ∧ ¬ (x < 0 ∨ am_ln h a ≤ x.toNatClampNeg)
  · rw [if_pos hk] at k
    refine ⟨k.1, k.2.1, fun hn μ H locs cells slots A hR hL hw hS hm hc hs => ?_⟩
    obtain ⟨⟨h0, h1'⟩, he⟩ := sm_wl_arr (dA := dA) (μ := μ) hR.2.2.2 hk.1 (by omega) (by omega)
    exact va_cald hx hb hK hR.1 (a - 1) 2 he rfl hk.2 hd (k.2.2 hn μ H locs cells slots A hR hL (sm_wc sm_wv_i (sm_wt (sm_wt hw))) hS hm hc hs)
  · rw [if_neg hk] at k
    exact k.elim
theorem sm_x_aaload (C : sm_cx p R s m args meth c P Ts D dA base b L xs cE sE) (hd : decode P.2.1 pc = .ok (.aaload, 1)) (h1 : am_x_aaload (sm_nx p l e R s m args below meth c Q P D dA base b L xs μ0 n0 cE sE F) CL RT False rk (pc + 1) ts cv cj ls st h) : sm_nx p l e R s m args below meth c Q P D dA base b L xs μ0 n0 cE sE F pc ls st h := by
  obtain ⟨hx, hb, hml, hown, hts, hG, hNT, hAO, hK, hX, hbb, hbs, hin, hfr, hlo, hcE, hsE⟩ := C
  unfold am_x_aaload at h1
  obtain ⟨a, x, r2, e, k⟩ := am_ai_ex h1
  subst e
  by_cases hk : am_kd h a = 8 ∧ ¬ (x < 0 ∨ am_ln h a ≤ x.toNatClampNeg)
  · rw [if_pos hk] at k
    cases ho : am_R h a x.toNatClampNeg with
    | none =>
      rw [ho] at k
      have k : sm_nx p l e R s m args below meth c Q P D dA base b L xs μ0 n0 cE sE F (pc + 1) ls (.null :: r2) h := k
      refine ⟨k.1, k.2.1, fun hn μ H locs cells slots A hR hL hw hS hm hc hs => ?_⟩
      obtain ⟨⟨h0, h1'⟩, he⟩ := sm_wl_arr (dA := dA) (μ := μ) hR.2.2.2 hk.1 (by omega) (by omega)
      refine va_aldq hx hb hK hR.1 (a - 1) 3 he rfl hk.2 hd ?_
      show W p l e R s m args below meth c H locs cells slots Q (F0 m (pc + 1) A (va_rf ((am_R h a x.toNatClampNeg).map μ) :: r2.map (sm_v μ)))
      rw [ho]
      exact (k.2.2 hn μ H locs cells slots A hR hL (sm_wc sm_wv_n (sm_wt (sm_wt hw))) hS hm hc hs)
    | some d =>
      rw [ho] at k
      have k : sm_nx p l e R s m args below meth c Q P D dA base b L xs μ0 n0 cE sE F (pc + 1) ls (.ref d :: r2) h := k
      refine ⟨k.1, k.2.1, fun hn μ H locs cells slots A hR hL hw hS hm hc hs => ?_⟩
      obtain ⟨⟨h0, h1'⟩, he⟩ := sm_wl_arr (dA := dA) (μ := μ) hR.2.2.2 hk.1 (by omega) (by omega)
      refine va_aldq hx hb hK hR.1 (a - 1) 3 he rfl hk.2 hd ?_
      show W p l e R s m args below meth c H locs cells slots Q (F0 m (pc + 1) A (va_rf ((am_R h a x.toNatClampNeg).map μ) :: r2.map (sm_v μ)))
      rw [ho]
      exact (k.2.2 hn μ H locs cells slots A hR hL (sm_wc (sm_wv_r (hR.2.2.2.2.2.2 _ _ _ ho)) (sm_wt (sm_wt hw))) hS hm hc hs)
  · rw [if_neg hk] at k
    exact k.elim
theorem sm_x_iastore (C : sm_cx p R s m args meth c P Ts D dA base b L xs cE sE) (hd : decode P.2.1 pc = .ok (.iastore, 1)) (h1 : am_x_iastore (sm_nx p l e R s m args below meth c Q P D dA base b L xs μ0 n0 cE sE F) CL RT False rk (pc + 1) ts cv cj ls st h) : sm_nx p l e R s m args below meth c Q P D dA base b L xs μ0 n0 cE sE F pc ls st h := by
  obtain ⟨hx, hb, hml, hown, hts, hG, hNT, hAO, hK, hX, hbb, hbs, hin, hfr, hlo, hcE, hsE⟩ := C
  unfold am_x_iastore at h1
  obtain ⟨a, x, v, r2, e, k⟩ := am_aii_ex h1
  subst e
  by_cases hk : am_kd h a = 5 ∧ ¬ (x < 0 ∨ am_ln h a ≤ x.toNatClampNeg)
  · rw [if_pos hk] at k
    refine ⟨k.1, k.2.1, fun hn μ H locs cells slots A hR hL hw hS hm hc hs => ?_⟩
    obtain ⟨⟨h0, h1'⟩, he⟩ := sm_wl_arr (dA := dA) (μ := μ) hR.2.2.2 hk.1 (by omega) (by omega)
    refine va_iast hx hb hK hR.1 hR.2.1 hS (a - 1) 0 he rfl hk.2 hd (fun H1 locs1 hP1 hD1 hS1 => ?_)
    have e3 := sm_wl_arrset (dA := dA) (μ := μ) (h' := am_sI h a x.toNatClampNeg v) hR.2.2.2 hk.1 (by omega) (by omega) rfl sm_sI_other
    rw [show am_I (am_sI h a x.toNatClampNeg v) a = upd (am_I h a) x.toNatClampNeg v from am_ud_eq] at e3
    have hP1 : va_P D vwCl ((sm_wl dA μ h).set (a - 1) (μ a, .inl (dA 5, am_ln h a, .inl (upd (am_I h a) x.toNatClampNeg v)))) H1 := hP1
    have hD1 : va_D (fun q => base ≤ q) ((sm_wl dA μ h).set (a - 1) (μ a, .inl (dA 5, am_ln h a, .inl (upd (am_I h a) x.toNatClampNeg v)))) := hD1
    rw [show (sm_wl dA μ h).set (a - 1) (μ a, .inl (dA 5, am_ln h a, .inl (upd (am_I h a) x.toNatClampNeg v))) = sm_wl dA μ (am_sI h a x.toNatClampNeg v) from e3] at hP1 hD1
    exact k.2.2 hn μ H1 locs1 cells slots A ⟨hP1, hD1, hR.2.2.1, hR.2.2.2.rI h0⟩ hL (sm_wt (sm_wt (sm_wt hw))) hS1 hm hc hs
  · rw [if_neg hk] at k
    exact k.elim
theorem sm_x_castore (C : sm_cx p R s m args meth c P Ts D dA base b L xs cE sE) (hd : decode P.2.1 pc = .ok (.castore, 1)) (h1 : am_x_castore (sm_nx p l e R s m args below meth c Q P D dA base b L xs μ0 n0 cE sE F) CL RT False rk (pc + 1) ts cv cj ls st h) : sm_nx p l e R s m args below meth c Q P D dA base b L xs μ0 n0 cE sE F pc ls st h := by
  obtain ⟨hx, hb, hml, hown, hts, hG, hNT, hAO, hK, hX, hbb, hbs, hin, hfr, hlo, hcE, hsE⟩ := C
  unfold am_x_castore at h1
  obtain ⟨a, x, v, r2, e, k⟩ := am_aii_ex h1
  subst e
  by_cases hk : am_kd h a = 7 ∧ ¬ (x < 0 ∨ am_ln h a ≤ x.toNatClampNeg)
  · rw [if_pos hk] at k
    refine ⟨k.1, k.2.1, fun hn μ H locs cells slots A hR hL hw hS hm hc hs => ?_⟩
    obtain ⟨⟨h0, h1'⟩, he⟩ := sm_wl_arr (dA := dA) (μ := μ) hR.2.2.2 hk.1 (by omega) (by omega)
    refine va_cast hx hb hK hR.1 hR.2.1 hS (a - 1) 2 he rfl hk.2 hd (fun H1 locs1 hP1 hD1 hS1 => ?_)
    have e3 := sm_wl_arrset (dA := dA) (μ := μ) (h' := am_sI h a x.toNatClampNeg v.toUInt32.toUInt16.toUInt32.toInt32) hR.2.2.2 hk.1 (by omega) (by omega) rfl sm_sI_other
    rw [show am_I (am_sI h a x.toNatClampNeg v.toUInt32.toUInt16.toUInt32.toInt32) a = upd (am_I h a) x.toNatClampNeg (vp_nar .char v) from am_ud_eq] at e3
    have hP1 : va_P D vwCl ((sm_wl dA μ h).set (a - 1) (μ a, .inl (dA 7, am_ln h a, .inl (upd (am_I h a) x.toNatClampNeg (vp_nar .char v))))) H1 := hP1
    have hD1 : va_D (fun q => base ≤ q) ((sm_wl dA μ h).set (a - 1) (μ a, .inl (dA 7, am_ln h a, .inl (upd (am_I h a) x.toNatClampNeg (vp_nar .char v))))) := hD1
    rw [show (sm_wl dA μ h).set (a - 1) (μ a, .inl (dA 7, am_ln h a, .inl (upd (am_I h a) x.toNatClampNeg (vp_nar .char v)))) = sm_wl dA μ (am_sI h a x.toNatClampNeg v.toUInt32.toUInt16.toUInt32.toInt32) from e3] at hP1 hD1
    exact k.2.2 hn μ H1 locs1 cells slots A ⟨hP1, hD1, hR.2.2.1, hR.2.2.2.rI h0⟩ hL (sm_wt (sm_wt (sm_wt hw))) hS1 hm hc hs
  · rw [if_neg hk] at k
    exact k.elim
theorem sm_x_lastore (C : sm_cx p R s m args meth c P Ts D dA base b L xs cE sE) (hd : decode P.2.1 pc = .ok (.lastore, 1)) (h1 : am_x_lastore (sm_nx p l e R s m args below meth c Q P D dA base b L xs μ0 n0 cE sE F) CL RT False rk (pc + 1) ts cv cj ls st h) : sm_nx p l e R s m args below meth c Q P D dA base b L xs μ0 n0 cE sE F pc ls st h := by
  obtain ⟨hx, hb, hml, hown, hts, hG, hNT, hAO, hK, hX, hbb, hbs, hin, hfr, hlo, hcE, hsE⟩ := C
  unfold am_x_lastore at h1
  obtain ⟨a, x, v, r2, e, k⟩ := am_ail_ex h1
  subst e
  by_cases hk : am_kd h a = 6 ∧ ¬ (x < 0 ∨ am_ln h a ≤ x.toNatClampNeg)
  · rw [if_pos hk] at k
    refine ⟨k.1, k.2.1, fun hn μ H locs cells slots A hR hL hw hS hm hc hs => ?_⟩
    obtain ⟨⟨h0, h1'⟩, he⟩ := sm_wl_arr (dA := dA) (μ := μ) hR.2.2.2 hk.1 (by omega) (by omega)
    refine va_last hx hb hK hR.1 hR.2.1 hS (a - 1) 1 he rfl hk.2 hd (fun H1 locs1 hP1 hD1 hS1 => ?_)
    have e3 := sm_wl_arrset (dA := dA) (μ := μ) (h' := am_sJ h a x.toNatClampNeg v) hR.2.2.2 hk.1 (by omega) (by omega) rfl sm_sJ_other
    rw [show am_J (am_sJ h a x.toNatClampNeg v) a = vp_updL (am_J h a) x.toNatClampNeg v from am_ud_eq] at e3
    have hP1 : va_P D vwCl ((sm_wl dA μ h).set (a - 1) (μ a, .inl (dA 6, am_ln h a, .inr (.inl (vp_updL (am_J h a) x.toNatClampNeg v))))) H1 := hP1
    have hD1 : va_D (fun q => base ≤ q) ((sm_wl dA μ h).set (a - 1) (μ a, .inl (dA 6, am_ln h a, .inr (.inl (vp_updL (am_J h a) x.toNatClampNeg v))))) := hD1
    rw [show (sm_wl dA μ h).set (a - 1) (μ a, .inl (dA 6, am_ln h a, .inr (.inl (vp_updL (am_J h a) x.toNatClampNeg v)))) = sm_wl dA μ (am_sJ h a x.toNatClampNeg v) from e3] at hP1 hD1
    exact k.2.2 hn μ H1 locs1 cells slots A ⟨hP1, hD1, hR.2.2.1, hR.2.2.2.rJ⟩ hL (sm_wt (sm_wt (sm_wt hw))) hS1 hm hc hs
  · rw [if_neg hk] at k
    exact k.elim
theorem sm_x_aastore (C : sm_cx p R s m args meth c P Ts D dA base b L xs cE sE) (hd : decode P.2.1 pc = .ok (.aastore, 1)) (h1 : am_x_aastore (sm_nx p l e R s m args below meth c Q P D dA base b L xs μ0 n0 cE sE F) CL RT False rk (pc + 1) ts cv cj ls st h) : sm_nx p l e R s m args below meth c Q P D dA base b L xs μ0 n0 cE sE F pc ls st h := by
  obtain ⟨hx, hb, hml, hown, hts, hG, hNT, hAO, hK, hX, hbb, hbs, hin, hfr, hlo, hcE, hsE⟩ := C
  unfold am_x_aastore at h1
  obtain ⟨a, x, v, r2, e, k⟩ := am_air_ex h1
  subst e
  by_cases hk : am_kd h a = 8 ∧ ¬ (x < 0 ∨ am_ln h a ≤ x.toNatClampNeg)
  · rw [if_pos hk] at k
    have fin : ∀ (μ : Nat → Nat) (o : Option Nat), sm_WF L xs h → (sm_wl dA μ h).set (a - 1) (μ a, .inl (dA 8, am_ln h a, .inr (.inr (.inr (.inr (va_up (fun j => (am_R h a j).map μ) x.toNatClampNeg (o.map μ))))))) = sm_wl dA μ (am_sR h a x.toNatClampNeg o) := by
      intro μ o w
      have e3 := sm_wl_arrset (dA := dA) (μ := μ) (h' := am_sR h a x.toNatClampNeg o) w hk.1 (by omega) (by omega) rfl sm_sR_other
      rw [show am_R (am_sR h a x.toNatClampNeg o) a = am_ud (am_R h a) x.toNatClampNeg o from am_ud_eq] at e3
      have ef : va_up (fun j => (am_R h a j).map μ) x.toNatClampNeg (o.map μ) = fun j => (am_ud (am_R h a) x.toNatClampNeg o j).map μ := by
        funext j
        unfold va_up am_ud
        split <;> rfl
      rw [ef]
      exact e3
    cases v with
    | none =>
      have k : sm_nx p l e R s m args below meth c Q P D dA base b L xs μ0 n0 cE sE F (pc + 1) ls r2 (am_sR h a x.toNatClampNeg none) := k
      refine ⟨k.1, k.2.1, fun hn μ H locs cells slots A hR hL hw hS hm hc hs => ?_⟩
      obtain ⟨⟨h0, h1'⟩, he⟩ := sm_wl_arr (dA := dA) (μ := μ) hR.2.2.2 hk.1 (by omega) (by omega)
      refine va_astqN (C := RX2) hx hb hK hR.1 hR.2.1 hS (a - 1) 3 he rfl hk.2 hd (fun H1 locs1 hP1 hD1 hS1 => ?_)
      have e3 := fin μ none hR.2.2.2
      exact k.2.2 hn μ H1 locs1 cells slots A ⟨e3 ▸ hP1, e3 ▸ hD1, hR.2.2.1, hR.2.2.2.sR (fun _ z => by cases z)⟩ hL (sm_wt (sm_wt (sm_wt hw))) hS1 hm hc hs
    | some d =>
      have k : if am_kd h d = 2 then sm_nx p l e R s m args below meth c Q P D dA base b L xs μ0 n0 cE sE F (pc + 1) ls r2 (am_sR h a x.toNatClampNeg (some d)) else False := k
      by_cases h2 : am_kd h d = 2
      · rw [if_pos h2] at k
        refine ⟨k.1, k.2.1, fun hn μ H locs cells slots A hR hL hw hS hm hc hs => ?_⟩
        obtain ⟨⟨h0, h1'⟩, he⟩ := sm_wl_arr (dA := dA) (μ := μ) hR.2.2.2 hk.1 (by omega) (by omega)
        obtain ⟨⟨d0, d1⟩, hed⟩ := sm_wl_obj (dA := dA) (μ := μ) hR.2.2.2 h2 (by omega)
        refine va_astq (r := (RX2, TX2, 5)) hx hb hK hR.1 hR.2.1 hS (a - 1) 3 (d - 1) 2 he rfl hed rfl hk.2 hd (fun H1 locs1 hP1 hD1 hS1 => ?_)
        have e3 := fin μ (some d) hR.2.2.2
        exact k.2.2 hn μ H1 locs1 cells slots A ⟨e3 ▸ hP1, e3 ▸ hD1, hR.2.2.1, hR.2.2.2.sR (fun _ z => by cases z; exact d1)⟩ hL (sm_wt (sm_wt (sm_wt hw))) hS1 hm hc hs
      · rw [if_neg h2] at k
        exact k.elim
  · rw [if_neg hk] at k
    exact k.elim
end arrays
end
section
/-! ===== calls ===== -/
def sm_B (D : va_G) (dA : Nat → ClassId) (base b L : Nat) (xs : Nat → Int32) (μ : Nat → Nat) (h : AH) (U : State) : Prop := base ≤ U.heap.size ∧ b < base ∧ (∀ w ∈ sm_NT, va_Nw w U) ∧ va_AO RX2 U ∧ va_K D vwCl (sm_TY dA) U ∧ va_X b L xs U U.heap ∧ sm_R D dA base b L xs μ h U.heap
def sm_Q (D : va_G) (dA : Nat → ClassId) (base b L : Nat) (xs : Nat → Int32) (μ : Nat → Nat) (n : Nat) (v : Option Value) (h1 : AH) : Array Value → State → Outcome → State → Prop := match v with
  | none => va_Qv (fun μ' : Nat → Nat => ∀ a, a < n → μ' a = μ a) (fun μ' t => sm_R D dA base b L xs μ' h1 t.heap) (fun q => base ≤ q)
  | some (.int x) => va_Qi (fun (r : Int32) (μ' : Nat → Nat) => r = x ∧ ∀ a, a < n → μ' a = μ a) (fun μ' t => sm_R D dA base b L xs μ' h1 t.heap) (fun q => base ≤ q)
  | some (.long x) => va_Ql (fun (r : Int64) (μ' : Nat → Nat) => r = x ∧ ∀ a, a < n → μ' a = μ a) (fun μ' t => sm_R D dA base b L xs μ' h1 t.heap) (fun q => base ≤ q)
  | some (.ref d) => va_Qr (fun μ' : Nat → Nat => ∀ a, a < n → μ' a = μ a) (fun μ' ra t => ra = μ' d ∧ d < h1.1.length ∧ sm_R D dA base b L xs μ' h1 t.heap) (fun q => base ≤ q)
  | _ => fun _ _ _ _ => False
def sm_vo (v : Option Value) : Prop := v = none ∨ (∃ x, v = some (.int x)) ∨ (∃ x, v = some (.long x)) ∨ ∃ x, v = some (.ref x)
def sm_rm (P : SP) (h h1 : AH) : Room := { frames := P.2.2.2.2.1, cells := h1.1.length - h.1.length, slots := sm_sz h1 - sm_sz h, locals := P.2.2.2.2.2.1 }
def sm_ws (P : SP) : List Cond := .code P.1 P.2.1 P.2.2.1 P.2.2.2.1 :: sm_GT
def sm_call (l : Launch) (D : va_G) (dA : Nat → ClassId) (base b L : Nat) (xs : Nat → Int32) (mi : Nat) (as : List Value) (h : AH) (v : Option Value) (h1 : AH) : Prop := h.1.length ≤ h1.1.length ∧ sm_sz h ≤ sm_sz h1 ∧ sm_vo v ∧ ((∀ w ∈ as, sm_wv h.1.length w) → (am_pad as).length ≤ (sm_P mi).2.2.1 → ∀ μ : Nat → Nat, Met l (sm_P mi).1 (sm_ws (sm_P mi)) (sm_rm (sm_P mi) h h1) (va_Pc (as.map (sm_v μ)) (sm_B D dA base b L xs μ h)) (sm_Q D dA base b L xs μ h.1.length v h1) (h1.1.length - h.1.length) (sm_sz h1 - sm_sz h) (fun q => base ≤ q))
theorem sm_cws0 : ∀ a, a < 0 → Cond.code (sm_P a).1 (sm_P a).2.1 (sm_P a).2.2.1 (sm_P a).2.2.2.1 ∈ lw_tbl := fun _ h => absurd h (Nat.not_lt_zero _)
theorem sm_cws1 : ∀ a, a < 1 → Cond.code (sm_P a).1 (sm_P a).2.1 (sm_P a).2.2.1 (sm_P a).2.2.2.1 ∈ lw_tbl := lt_s sm_cws0 (List.mem_of_getElem? sm_cw0)
theorem sm_cws2 : ∀ a, a < 2 → Cond.code (sm_P a).1 (sm_P a).2.1 (sm_P a).2.2.1 (sm_P a).2.2.2.1 ∈ lw_tbl := lt_s sm_cws1 (List.mem_of_getElem? sm_cw1)
theorem sm_cws3 : ∀ a, a < 3 → Cond.code (sm_P a).1 (sm_P a).2.1 (sm_P a).2.2.1 (sm_P a).2.2.2.1 ∈ lw_tbl := lt_s sm_cws2 (List.mem_of_getElem? sm_cw2)
theorem sm_cws4 : ∀ a, a < 4 → Cond.code (sm_P a).1 (sm_P a).2.1 (sm_P a).2.2.1 (sm_P a).2.2.2.1 ∈ lw_tbl := lt_s sm_cws3 (List.mem_of_getElem? sm_cw3)
theorem sm_cws5 : ∀ a, a < 5 → Cond.code (sm_P a).1 (sm_P a).2.1 (sm_P a).2.2.1 (sm_P a).2.2.2.1 ∈ lw_tbl := lt_s sm_cws4 (List.mem_of_getElem? sm_cw4)
theorem sm_cws6 : ∀ a, a < 6 → Cond.code (sm_P a).1 (sm_P a).2.1 (sm_P a).2.2.1 (sm_P a).2.2.2.1 ∈ lw_tbl := lt_s sm_cws5 (List.mem_of_getElem? sm_cw5)
theorem sm_cws7 : ∀ a, a < 7 → Cond.code (sm_P a).1 (sm_P a).2.1 (sm_P a).2.2.1 (sm_P a).2.2.2.1 ∈ lw_tbl := lt_s sm_cws6 (List.mem_of_getElem? sm_cw6)
theorem sm_cws8 : ∀ a, a < 8 → Cond.code (sm_P a).1 (sm_P a).2.1 (sm_P a).2.2.1 (sm_P a).2.2.2.1 ∈ lw_tbl := lt_s sm_cws7 (List.mem_of_getElem? sm_cw7)
theorem sm_cws9 : ∀ a, a < 9 → Cond.code (sm_P a).1 (sm_P a).2.1 (sm_P a).2.2.1 (sm_P a).2.2.2.1 ∈ lw_tbl := lt_s sm_cws8 (List.mem_of_getElem? sm_cw8)
theorem sm_cws10 : ∀ a, a < 10 → Cond.code (sm_P a).1 (sm_P a).2.1 (sm_P a).2.2.1 (sm_P a).2.2.2.1 ∈ lw_tbl := lt_s sm_cws9 (List.mem_of_getElem? sm_cw9)
theorem sm_cws11 : ∀ a, a < 11 → Cond.code (sm_P a).1 (sm_P a).2.1 (sm_P a).2.2.1 (sm_P a).2.2.2.1 ∈ lw_tbl := lt_s sm_cws10 (List.mem_of_getElem? sm_cw10)
theorem sm_cws12 : ∀ a, a < 12 → Cond.code (sm_P a).1 (sm_P a).2.1 (sm_P a).2.2.1 (sm_P a).2.2.2.1 ∈ lw_tbl := lt_s sm_cws11 (List.mem_of_getElem? sm_cw11)
theorem sm_cws13 : ∀ a, a < 13 → Cond.code (sm_P a).1 (sm_P a).2.1 (sm_P a).2.2.1 (sm_P a).2.2.2.1 ∈ lw_tbl := lt_s sm_cws12 (List.mem_of_getElem? sm_cw12)
theorem sm_cws14 : ∀ a, a < 14 → Cond.code (sm_P a).1 (sm_P a).2.1 (sm_P a).2.2.1 (sm_P a).2.2.2.1 ∈ lw_tbl := lt_s sm_cws13 (List.mem_of_getElem? sm_cw13)
theorem sm_cws15 : ∀ a, a < 15 → Cond.code (sm_P a).1 (sm_P a).2.1 (sm_P a).2.2.1 (sm_P a).2.2.2.1 ∈ lw_tbl := lt_s sm_cws14 (List.mem_of_getElem? sm_cw14)
theorem sm_cws16 : ∀ a, a < 16 → Cond.code (sm_P a).1 (sm_P a).2.1 (sm_P a).2.2.1 (sm_P a).2.2.2.1 ∈ lw_tbl := lt_s sm_cws15 (List.mem_of_getElem? sm_cw15)
theorem sm_cws17 : ∀ a, a < 17 → Cond.code (sm_P a).1 (sm_P a).2.1 (sm_P a).2.2.1 (sm_P a).2.2.2.1 ∈ lw_tbl := lt_s sm_cws16 (List.mem_of_getElem? sm_cw16)
theorem sm_cws18 : ∀ a, a < 18 → Cond.code (sm_P a).1 (sm_P a).2.1 (sm_P a).2.2.1 (sm_P a).2.2.2.1 ∈ lw_tbl := lt_s sm_cws17 (List.mem_of_getElem? sm_cw17)
theorem sm_cws19 : ∀ a, a < 19 → Cond.code (sm_P a).1 (sm_P a).2.1 (sm_P a).2.2.1 (sm_P a).2.2.2.1 ∈ lw_tbl := lt_s sm_cws18 (List.mem_of_getElem? sm_cw18)
theorem sm_cws20 : ∀ a, a < 20 → Cond.code (sm_P a).1 (sm_P a).2.1 (sm_P a).2.2.1 (sm_P a).2.2.2.1 ∈ lw_tbl := lt_s sm_cws19 (List.mem_of_getElem? sm_cw19)
theorem sm_cws21 : ∀ a, a < 21 → Cond.code (sm_P a).1 (sm_P a).2.1 (sm_P a).2.2.1 (sm_P a).2.2.2.1 ∈ lw_tbl := lt_s sm_cws20 (List.mem_of_getElem? sm_cw20)
theorem sm_cws22 : ∀ a, a < 22 → Cond.code (sm_P a).1 (sm_P a).2.1 (sm_P a).2.2.1 (sm_P a).2.2.2.1 ∈ lw_tbl := lt_s sm_cws21 (List.mem_of_getElem? sm_cw21)
theorem sm_cws23 : ∀ a, a < 23 → Cond.code (sm_P a).1 (sm_P a).2.1 (sm_P a).2.2.1 (sm_P a).2.2.2.1 ∈ lw_tbl := lt_s sm_cws22 (List.mem_of_getElem? sm_cw22)
theorem sm_cws24 : ∀ a, a < 24 → Cond.code (sm_P a).1 (sm_P a).2.1 (sm_P a).2.2.1 (sm_P a).2.2.2.1 ∈ lw_tbl := lt_s sm_cws23 (List.mem_of_getElem? sm_cw23)
theorem sm_cws25 : ∀ a, a < 25 → Cond.code (sm_P a).1 (sm_P a).2.1 (sm_P a).2.2.1 (sm_P a).2.2.2.1 ∈ lw_tbl := lt_s sm_cws24 (List.mem_of_getElem? sm_cw24)
theorem sm_cws26 : ∀ a, a < 26 → Cond.code (sm_P a).1 (sm_P a).2.1 (sm_P a).2.2.1 (sm_P a).2.2.2.1 ∈ lw_tbl := lt_s sm_cws25 (List.mem_of_getElem? sm_cw25)
theorem sm_cws27 : ∀ a, a < 27 → Cond.code (sm_P a).1 (sm_P a).2.1 (sm_P a).2.2.1 (sm_P a).2.2.2.1 ∈ lw_tbl := lt_s sm_cws26 (List.mem_of_getElem? sm_cw26)
theorem sm_cws28 : ∀ a, a < 28 → Cond.code (sm_P a).1 (sm_P a).2.1 (sm_P a).2.2.1 (sm_P a).2.2.2.1 ∈ lw_tbl := lt_s sm_cws27 (List.mem_of_getElem? sm_cw27)
theorem sm_cws29 : ∀ a, a < 29 → Cond.code (sm_P a).1 (sm_P a).2.1 (sm_P a).2.2.1 (sm_P a).2.2.2.1 ∈ lw_tbl := lt_s sm_cws28 (List.mem_of_getElem? sm_cw28)
theorem sm_cws30 : ∀ a, a < 30 → Cond.code (sm_P a).1 (sm_P a).2.1 (sm_P a).2.2.1 (sm_P a).2.2.2.1 ∈ lw_tbl := lt_s sm_cws29 (List.mem_of_getElem? sm_cw29)
theorem sm_cws31 : ∀ a, a < 31 → Cond.code (sm_P a).1 (sm_P a).2.1 (sm_P a).2.2.1 (sm_P a).2.2.2.1 ∈ lw_tbl := lt_s sm_cws30 (List.mem_of_getElem? sm_cw30)
theorem sm_cws32 : ∀ a, a < 32 → Cond.code (sm_P a).1 (sm_P a).2.1 (sm_P a).2.2.1 (sm_P a).2.2.2.1 ∈ lw_tbl := lt_s sm_cws31 (List.mem_of_getElem? sm_cw31)
theorem sm_cws33 : ∀ a, a < 33 → Cond.code (sm_P a).1 (sm_P a).2.1 (sm_P a).2.2.1 (sm_P a).2.2.2.1 ∈ lw_tbl := lt_s sm_cws32 (List.mem_of_getElem? sm_cw32)
theorem sm_cws34 : ∀ a, a < 34 → Cond.code (sm_P a).1 (sm_P a).2.1 (sm_P a).2.2.1 (sm_P a).2.2.2.1 ∈ lw_tbl := lt_s sm_cws33 (List.mem_of_getElem? sm_cw33)
theorem sm_cws35 : ∀ a, a < 35 → Cond.code (sm_P a).1 (sm_P a).2.1 (sm_P a).2.2.1 (sm_P a).2.2.2.1 ∈ lw_tbl := lt_s sm_cws34 (List.mem_of_getElem? sm_cw34)
theorem sm_cws36 : ∀ a, a < 36 → Cond.code (sm_P a).1 (sm_P a).2.1 (sm_P a).2.2.1 (sm_P a).2.2.2.1 ∈ lw_tbl := lt_s sm_cws35 (List.mem_of_getElem? sm_cw35)
theorem sm_cws37 : ∀ a, a < 37 → Cond.code (sm_P a).1 (sm_P a).2.1 (sm_P a).2.2.1 (sm_P a).2.2.2.1 ∈ lw_tbl := lt_s sm_cws36 (List.mem_of_getElem? sm_cw36)
theorem sm_cws38 : ∀ a, a < 38 → Cond.code (sm_P a).1 (sm_P a).2.1 (sm_P a).2.2.1 (sm_P a).2.2.2.1 ∈ lw_tbl := lt_s sm_cws37 (List.mem_of_getElem? sm_cw37)
theorem sm_cws39 : ∀ a, a < 39 → Cond.code (sm_P a).1 (sm_P a).2.1 (sm_P a).2.2.1 (sm_P a).2.2.2.1 ∈ lw_tbl := lt_s sm_cws38 (List.mem_of_getElem? sm_cw38)
theorem sm_cws40 : ∀ a, a < 40 → Cond.code (sm_P a).1 (sm_P a).2.1 (sm_P a).2.2.1 (sm_P a).2.2.2.1 ∈ lw_tbl := lt_s sm_cws39 (List.mem_of_getElem? sm_cw39)
theorem sm_cws41 : ∀ a, a < 41 → Cond.code (sm_P a).1 (sm_P a).2.1 (sm_P a).2.2.1 (sm_P a).2.2.2.1 ∈ lw_tbl := lt_s sm_cws40 (List.mem_of_getElem? sm_cw40)
theorem sm_cws42 : ∀ a, a < 42 → Cond.code (sm_P a).1 (sm_P a).2.1 (sm_P a).2.2.1 (sm_P a).2.2.2.1 ∈ lw_tbl := lt_s sm_cws41 (List.mem_of_getElem? sm_cw41)
theorem sm_cws43 : ∀ a, a < 43 → Cond.code (sm_P a).1 (sm_P a).2.1 (sm_P a).2.2.1 (sm_P a).2.2.2.1 ∈ lw_tbl := lt_s sm_cws42 (List.mem_of_getElem? sm_cw42)
theorem sm_cws44 : ∀ a, a < 44 → Cond.code (sm_P a).1 (sm_P a).2.1 (sm_P a).2.2.1 (sm_P a).2.2.2.1 ∈ lw_tbl := lt_s sm_cws43 (List.mem_of_getElem? sm_cw43)
theorem sm_cws45 : ∀ a, a < 45 → Cond.code (sm_P a).1 (sm_P a).2.1 (sm_P a).2.2.1 (sm_P a).2.2.2.1 ∈ lw_tbl := lt_s sm_cws44 (List.mem_of_getElem? sm_cw44)
theorem sm_cws46 : ∀ a, a < 46 → Cond.code (sm_P a).1 (sm_P a).2.1 (sm_P a).2.2.1 (sm_P a).2.2.2.1 ∈ lw_tbl := lt_s sm_cws45 (List.mem_of_getElem? sm_cw45)
theorem sm_cws47 : ∀ a, a < 47 → Cond.code (sm_P a).1 (sm_P a).2.1 (sm_P a).2.2.1 (sm_P a).2.2.2.1 ∈ lw_tbl := lt_s sm_cws46 (List.mem_of_getElem? sm_cw46)
theorem sm_cws48 : ∀ a, a < 48 → Cond.code (sm_P a).1 (sm_P a).2.1 (sm_P a).2.2.1 (sm_P a).2.2.2.1 ∈ lw_tbl := lt_s sm_cws47 (List.mem_of_getElem? sm_cw47)
theorem sm_cws49 : ∀ a, a < 49 → Cond.code (sm_P a).1 (sm_P a).2.1 (sm_P a).2.2.1 (sm_P a).2.2.2.1 ∈ lw_tbl := lt_s sm_cws48 (List.mem_of_getElem? sm_cw48)
theorem sm_cws50 : ∀ a, a < 50 → Cond.code (sm_P a).1 (sm_P a).2.1 (sm_P a).2.2.1 (sm_P a).2.2.2.1 ∈ lw_tbl := lt_s sm_cws49 (List.mem_of_getElem? sm_cw49)
theorem sm_cws51 : ∀ a, a < 51 → Cond.code (sm_P a).1 (sm_P a).2.1 (sm_P a).2.2.1 (sm_P a).2.2.2.1 ∈ lw_tbl := lt_s sm_cws50 (List.mem_of_getElem? sm_cw50)
theorem sm_cws52 : ∀ a, a < 52 → Cond.code (sm_P a).1 (sm_P a).2.1 (sm_P a).2.2.1 (sm_P a).2.2.2.1 ∈ lw_tbl := lt_s sm_cws51 (List.mem_of_getElem? sm_cw51)
theorem sm_cws53 : ∀ a, a < 53 → Cond.code (sm_P a).1 (sm_P a).2.1 (sm_P a).2.2.1 (sm_P a).2.2.2.1 ∈ lw_tbl := lt_s sm_cws52 (List.mem_of_getElem? sm_cw52)
theorem sm_cws54 : ∀ a, a < 54 → Cond.code (sm_P a).1 (sm_P a).2.1 (sm_P a).2.2.1 (sm_P a).2.2.2.1 ∈ lw_tbl := lt_s sm_cws53 (List.mem_of_getElem? sm_cw53)
theorem sm_cws55 : ∀ a, a < 55 → Cond.code (sm_P a).1 (sm_P a).2.1 (sm_P a).2.2.1 (sm_P a).2.2.2.1 ∈ lw_tbl := lt_s sm_cws54 (List.mem_of_getElem? sm_cw54)
theorem sm_cws56 : ∀ a, a < 56 → Cond.code (sm_P a).1 (sm_P a).2.1 (sm_P a).2.2.1 (sm_P a).2.2.2.1 ∈ lw_tbl := lt_s sm_cws55 (List.mem_of_getElem? sm_cw55)
theorem sm_cws57 : ∀ a, a < 57 → Cond.code (sm_P a).1 (sm_P a).2.1 (sm_P a).2.2.1 (sm_P a).2.2.2.1 ∈ lw_tbl := lt_s sm_cws56 (List.mem_of_getElem? sm_cw56)
theorem sm_cws58 : ∀ a, a < 58 → Cond.code (sm_P a).1 (sm_P a).2.1 (sm_P a).2.2.1 (sm_P a).2.2.2.1 ∈ lw_tbl := lt_s sm_cws57 (List.mem_of_getElem? sm_cw57)
theorem sm_cws59 : ∀ a, a < 59 → Cond.code (sm_P a).1 (sm_P a).2.1 (sm_P a).2.2.1 (sm_P a).2.2.2.1 ∈ lw_tbl := lt_s sm_cws58 (List.mem_of_getElem? sm_cw58)
theorem sm_cws60 : ∀ a, a < 60 → Cond.code (sm_P a).1 (sm_P a).2.1 (sm_P a).2.2.1 (sm_P a).2.2.2.1 ∈ lw_tbl := lt_s sm_cws59 (List.mem_of_getElem? sm_cw59)
theorem sm_cws61 : ∀ a, a < 61 → Cond.code (sm_P a).1 (sm_P a).2.1 (sm_P a).2.2.1 (sm_P a).2.2.2.1 ∈ lw_tbl := lt_s sm_cws60 (List.mem_of_getElem? sm_cw60)
theorem sm_cws62 : ∀ a, a < 62 → Cond.code (sm_P a).1 (sm_P a).2.1 (sm_P a).2.2.1 (sm_P a).2.2.2.1 ∈ lw_tbl := lt_s sm_cws61 (List.mem_of_getElem? sm_cw61)
theorem sm_cws63 : ∀ a, a < 63 → Cond.code (sm_P a).1 (sm_P a).2.1 (sm_P a).2.2.1 (sm_P a).2.2.2.1 ∈ lw_tbl := lt_s sm_cws62 (List.mem_of_getElem? sm_cw62)
theorem sm_cws64 : ∀ a, a < 64 → Cond.code (sm_P a).1 (sm_P a).2.1 (sm_P a).2.2.1 (sm_P a).2.2.2.1 ∈ lw_tbl := lt_s sm_cws63 (List.mem_of_getElem? sm_cw63)
theorem sm_cws65 : ∀ a, a < 65 → Cond.code (sm_P a).1 (sm_P a).2.1 (sm_P a).2.2.1 (sm_P a).2.2.2.1 ∈ lw_tbl := lt_s sm_cws64 (List.mem_of_getElem? sm_cw64)
theorem sm_cws66 : ∀ a, a < 66 → Cond.code (sm_P a).1 (sm_P a).2.1 (sm_P a).2.2.1 (sm_P a).2.2.2.1 ∈ lw_tbl := lt_s sm_cws65 (List.mem_of_getElem? sm_cw65)
theorem sm_cws67 : ∀ a, a < 67 → Cond.code (sm_P a).1 (sm_P a).2.1 (sm_P a).2.2.1 (sm_P a).2.2.2.1 ∈ lw_tbl := lt_s sm_cws66 (List.mem_of_getElem? sm_cw66)
theorem sm_cws68 : ∀ a, a < 68 → Cond.code (sm_P a).1 (sm_P a).2.1 (sm_P a).2.2.1 (sm_P a).2.2.2.1 ∈ lw_tbl := lt_s sm_cws67 (List.mem_of_getElem? sm_cw67)
theorem sm_cws69 : ∀ a, a < 69 → Cond.code (sm_P a).1 (sm_P a).2.1 (sm_P a).2.2.1 (sm_P a).2.2.2.1 ∈ lw_tbl := lt_s sm_cws68 (List.mem_of_getElem? sm_cw68)
theorem sm_cws70 : ∀ a, a < 70 → Cond.code (sm_P a).1 (sm_P a).2.1 (sm_P a).2.2.1 (sm_P a).2.2.2.1 ∈ lw_tbl := lt_s sm_cws69 (List.mem_of_getElem? sm_cw69)
theorem sm_cws71 : ∀ a, a < 71 → Cond.code (sm_P a).1 (sm_P a).2.1 (sm_P a).2.2.1 (sm_P a).2.2.2.1 ∈ lw_tbl := lt_s sm_cws70 (List.mem_of_getElem? sm_cw70)
theorem sm_cws72 : ∀ a, a < 72 → Cond.code (sm_P a).1 (sm_P a).2.1 (sm_P a).2.2.1 (sm_P a).2.2.2.1 ∈ lw_tbl := lt_s sm_cws71 (List.mem_of_getElem? sm_cw71)
theorem sm_cws73 : ∀ a, a < 73 → Cond.code (sm_P a).1 (sm_P a).2.1 (sm_P a).2.2.1 (sm_P a).2.2.2.1 ∈ lw_tbl := lt_s sm_cws72 (List.mem_of_getElem? sm_cw72)
theorem sm_cws74 : ∀ a, a < 74 → Cond.code (sm_P a).1 (sm_P a).2.1 (sm_P a).2.2.1 (sm_P a).2.2.2.1 ∈ lw_tbl := lt_s sm_cws73 (List.mem_of_getElem? sm_cw73)
theorem sm_cws75 : ∀ a, a < 75 → Cond.code (sm_P a).1 (sm_P a).2.1 (sm_P a).2.2.1 (sm_P a).2.2.2.1 ∈ lw_tbl := lt_s sm_cws74 (List.mem_of_getElem? sm_cw74)
theorem sm_cws76 : ∀ a, a < 76 → Cond.code (sm_P a).1 (sm_P a).2.1 (sm_P a).2.2.1 (sm_P a).2.2.2.1 ∈ lw_tbl := lt_s sm_cws75 (List.mem_of_getElem? sm_cw75)
theorem sm_cws77 : ∀ a, a < 77 → Cond.code (sm_P a).1 (sm_P a).2.1 (sm_P a).2.2.1 (sm_P a).2.2.2.1 ∈ lw_tbl := lt_s sm_cws76 (List.mem_of_getElem? sm_cw76)
theorem sm_cws78 : ∀ a, a < 78 → Cond.code (sm_P a).1 (sm_P a).2.1 (sm_P a).2.2.1 (sm_P a).2.2.2.1 ∈ lw_tbl := lt_s sm_cws77 (List.mem_of_getElem? sm_cw77)
theorem sm_cws79 : ∀ a, a < 79 → Cond.code (sm_P a).1 (sm_P a).2.1 (sm_P a).2.2.1 (sm_P a).2.2.2.1 ∈ lw_tbl := lt_s sm_cws78 (List.mem_of_getElem? sm_cw78)
theorem sm_cws80 : ∀ a, a < 80 → Cond.code (sm_P a).1 (sm_P a).2.1 (sm_P a).2.2.1 (sm_P a).2.2.2.1 ∈ lw_tbl := lt_s sm_cws79 (List.mem_of_getElem? sm_cw79)
theorem sm_cws81 : ∀ a, a < 81 → Cond.code (sm_P a).1 (sm_P a).2.1 (sm_P a).2.2.1 (sm_P a).2.2.2.1 ∈ lw_tbl := lt_s sm_cws80 (List.mem_of_getElem? sm_cw80)
theorem sm_cws82 : ∀ a, a < 82 → Cond.code (sm_P a).1 (sm_P a).2.1 (sm_P a).2.2.1 (sm_P a).2.2.2.1 ∈ lw_tbl := lt_s sm_cws81 (List.mem_of_getElem? sm_cw81)
theorem sm_cws83 : ∀ a, a < 83 → Cond.code (sm_P a).1 (sm_P a).2.1 (sm_P a).2.2.1 (sm_P a).2.2.2.1 ∈ lw_tbl := lt_s sm_cws82 (List.mem_of_getElem? sm_cw82)
theorem sm_cws84 : ∀ a, a < 84 → Cond.code (sm_P a).1 (sm_P a).2.1 (sm_P a).2.2.1 (sm_P a).2.2.2.1 ∈ lw_tbl := lt_s sm_cws83 (List.mem_of_getElem? sm_cw83)
theorem sm_cws85 : ∀ a, a < 85 → Cond.code (sm_P a).1 (sm_P a).2.1 (sm_P a).2.2.1 (sm_P a).2.2.2.1 ∈ lw_tbl := lt_s sm_cws84 (List.mem_of_getElem? sm_cw84)
theorem sm_cws86 : ∀ a, a < 86 → Cond.code (sm_P a).1 (sm_P a).2.1 (sm_P a).2.2.1 (sm_P a).2.2.2.1 ∈ lw_tbl := lt_s sm_cws85 (List.mem_of_getElem? sm_cw85)
theorem sm_cws87 : ∀ a, a < 87 → Cond.code (sm_P a).1 (sm_P a).2.1 (sm_P a).2.2.1 (sm_P a).2.2.2.1 ∈ lw_tbl := lt_s sm_cws86 (List.mem_of_getElem? sm_cw86)
theorem sm_cws88 : ∀ a, a < 88 → Cond.code (sm_P a).1 (sm_P a).2.1 (sm_P a).2.2.1 (sm_P a).2.2.2.1 ∈ lw_tbl := lt_s sm_cws87 (List.mem_of_getElem? sm_cw87)
theorem sm_cws89 : ∀ a, a < 89 → Cond.code (sm_P a).1 (sm_P a).2.1 (sm_P a).2.2.1 (sm_P a).2.2.2.1 ∈ lw_tbl := lt_s sm_cws88 (List.mem_of_getElem? sm_cw88)
theorem sm_cws90 : ∀ a, a < 90 → Cond.code (sm_P a).1 (sm_P a).2.1 (sm_P a).2.2.1 (sm_P a).2.2.2.1 ∈ lw_tbl := lt_s sm_cws89 (List.mem_of_getElem? sm_cw89)
theorem sm_cws91 : ∀ a, a < 91 → Cond.code (sm_P a).1 (sm_P a).2.1 (sm_P a).2.2.1 (sm_P a).2.2.2.1 ∈ lw_tbl := lt_s sm_cws90 (List.mem_of_getElem? sm_cw90)
theorem sm_cws92 : ∀ a, a < 92 → Cond.code (sm_P a).1 (sm_P a).2.1 (sm_P a).2.2.1 (sm_P a).2.2.2.1 ∈ lw_tbl := lt_s sm_cws91 (List.mem_of_getElem? sm_cw91)
theorem sm_cws93 : ∀ a, a < 93 → Cond.code (sm_P a).1 (sm_P a).2.1 (sm_P a).2.2.1 (sm_P a).2.2.2.1 ∈ lw_tbl := lt_s sm_cws92 (List.mem_of_getElem? sm_cw92)
theorem sm_cws94 : ∀ a, a < 94 → Cond.code (sm_P a).1 (sm_P a).2.1 (sm_P a).2.2.1 (sm_P a).2.2.2.1 ∈ lw_tbl := lt_s sm_cws93 (List.mem_of_getElem? sm_cw93)
theorem sm_cws95 : ∀ a, a < 95 → Cond.code (sm_P a).1 (sm_P a).2.1 (sm_P a).2.2.1 (sm_P a).2.2.2.1 ∈ lw_tbl := lt_s sm_cws94 (List.mem_of_getElem? sm_cw94)
theorem sm_cws96 : ∀ a, a < 96 → Cond.code (sm_P a).1 (sm_P a).2.1 (sm_P a).2.2.1 (sm_P a).2.2.2.1 ∈ lw_tbl := lt_s sm_cws95 (List.mem_of_getElem? sm_cw95)
theorem sm_cws97 : ∀ a, a < 97 → Cond.code (sm_P a).1 (sm_P a).2.1 (sm_P a).2.2.1 (sm_P a).2.2.2.1 ∈ lw_tbl := lt_s sm_cws96 (List.mem_of_getElem? sm_cw96)
theorem sm_cws98 : ∀ a, a < 98 → Cond.code (sm_P a).1 (sm_P a).2.1 (sm_P a).2.2.1 (sm_P a).2.2.2.1 ∈ lw_tbl := lt_s sm_cws97 (List.mem_of_getElem? sm_cw97)
theorem sm_cws99 : ∀ a, a < 99 → Cond.code (sm_P a).1 (sm_P a).2.1 (sm_P a).2.2.1 (sm_P a).2.2.2.1 ∈ lw_tbl := lt_s sm_cws98 (List.mem_of_getElem? sm_cw98)
theorem sm_cws100 : ∀ a, a < 100 → Cond.code (sm_P a).1 (sm_P a).2.1 (sm_P a).2.2.1 (sm_P a).2.2.2.1 ∈ lw_tbl := lt_s sm_cws99 (List.mem_of_getElem? sm_cw99)
theorem sm_cws101 : ∀ a, a < 101 → Cond.code (sm_P a).1 (sm_P a).2.1 (sm_P a).2.2.1 (sm_P a).2.2.2.1 ∈ lw_tbl := lt_s sm_cws100 (List.mem_of_getElem? sm_cw100)
theorem sm_cws102 : ∀ a, a < 102 → Cond.code (sm_P a).1 (sm_P a).2.1 (sm_P a).2.2.1 (sm_P a).2.2.2.1 ∈ lw_tbl := lt_s sm_cws101 (List.mem_of_getElem? sm_cw101)
theorem sm_cws103 : ∀ a, a < 103 → Cond.code (sm_P a).1 (sm_P a).2.1 (sm_P a).2.2.1 (sm_P a).2.2.2.1 ∈ lw_tbl := lt_s sm_cws102 (List.mem_of_getElem? sm_cw102)
theorem sm_cws104 : ∀ a, a < 104 → Cond.code (sm_P a).1 (sm_P a).2.1 (sm_P a).2.2.1 (sm_P a).2.2.2.1 ∈ lw_tbl := lt_s sm_cws103 (List.mem_of_getElem? sm_cw103)
theorem sm_cws105 : ∀ a, a < 105 → Cond.code (sm_P a).1 (sm_P a).2.1 (sm_P a).2.2.1 (sm_P a).2.2.2.1 ∈ lw_tbl := lt_s sm_cws104 (List.mem_of_getElem? sm_cw104)
theorem sm_cws106 : ∀ a, a < 106 → Cond.code (sm_P a).1 (sm_P a).2.1 (sm_P a).2.2.1 (sm_P a).2.2.2.1 ∈ lw_tbl := lt_s sm_cws105 (List.mem_of_getElem? sm_cw105)
theorem sm_cws107 : ∀ a, a < 107 → Cond.code (sm_P a).1 (sm_P a).2.1 (sm_P a).2.2.1 (sm_P a).2.2.2.1 ∈ lw_tbl := lt_s sm_cws106 (List.mem_of_getElem? sm_cw106)
theorem sm_cws108 : ∀ a, a < 108 → Cond.code (sm_P a).1 (sm_P a).2.1 (sm_P a).2.2.1 (sm_P a).2.2.2.1 ∈ lw_tbl := lt_s sm_cws107 (List.mem_of_getElem? sm_cw107)
theorem sm_cws109 : ∀ a, a < 109 → Cond.code (sm_P a).1 (sm_P a).2.1 (sm_P a).2.2.1 (sm_P a).2.2.2.1 ∈ lw_tbl := lt_s sm_cws108 (List.mem_of_getElem? sm_cw108)
theorem sm_cws110 : ∀ a, a < 110 → Cond.code (sm_P a).1 (sm_P a).2.1 (sm_P a).2.2.1 (sm_P a).2.2.2.1 ∈ lw_tbl := lt_s sm_cws109 (List.mem_of_getElem? sm_cw109)
theorem sm_cws111 : ∀ a, a < 111 → Cond.code (sm_P a).1 (sm_P a).2.1 (sm_P a).2.2.1 (sm_P a).2.2.2.1 ∈ lw_tbl := lt_s sm_cws110 (List.mem_of_getElem? sm_cw110)
theorem sm_cws112 : ∀ a, a < 112 → Cond.code (sm_P a).1 (sm_P a).2.1 (sm_P a).2.2.1 (sm_P a).2.2.2.1 ∈ lw_tbl := lt_s sm_cws111 (List.mem_of_getElem? sm_cw111)
theorem sm_cws113 : ∀ a, a < 113 → Cond.code (sm_P a).1 (sm_P a).2.1 (sm_P a).2.2.1 (sm_P a).2.2.2.1 ∈ lw_tbl := lt_s sm_cws112 (List.mem_of_getElem? sm_cw112)
theorem sm_cws114 : ∀ a, a < 114 → Cond.code (sm_P a).1 (sm_P a).2.1 (sm_P a).2.2.1 (sm_P a).2.2.2.1 ∈ lw_tbl := lt_s sm_cws113 (List.mem_of_getElem? sm_cw113)
theorem sm_cws115 : ∀ a, a < 115 → Cond.code (sm_P a).1 (sm_P a).2.1 (sm_P a).2.2.1 (sm_P a).2.2.2.1 ∈ lw_tbl := lt_s sm_cws114 (List.mem_of_getElem? sm_cw114)
theorem sm_cws116 : ∀ a, a < 116 → Cond.code (sm_P a).1 (sm_P a).2.1 (sm_P a).2.2.1 (sm_P a).2.2.2.1 ∈ lw_tbl := lt_s sm_cws115 (List.mem_of_getElem? sm_cw115)
theorem sm_cws117 : ∀ a, a < 117 → Cond.code (sm_P a).1 (sm_P a).2.1 (sm_P a).2.2.1 (sm_P a).2.2.2.1 ∈ lw_tbl := lt_s sm_cws116 (List.mem_of_getElem? sm_cw116)
theorem sm_cws118 : ∀ a, a < 118 → Cond.code (sm_P a).1 (sm_P a).2.1 (sm_P a).2.2.1 (sm_P a).2.2.2.1 ∈ lw_tbl := lt_s sm_cws117 (List.mem_of_getElem? sm_cw117)
theorem sm_cws119 : ∀ a, a < 119 → Cond.code (sm_P a).1 (sm_P a).2.1 (sm_P a).2.2.1 (sm_P a).2.2.2.1 ∈ lw_tbl := lt_s sm_cws118 (List.mem_of_getElem? sm_cw118)
theorem sm_cws120 : ∀ a, a < 120 → Cond.code (sm_P a).1 (sm_P a).2.1 (sm_P a).2.2.1 (sm_P a).2.2.2.1 ∈ lw_tbl := lt_s sm_cws119 (List.mem_of_getElem? sm_cw119)
theorem sm_cws121 : ∀ a, a < 121 → Cond.code (sm_P a).1 (sm_P a).2.1 (sm_P a).2.2.1 (sm_P a).2.2.2.1 ∈ lw_tbl := lt_s sm_cws120 (List.mem_of_getElem? sm_cw120)
theorem sm_cws122 : ∀ a, a < 122 → Cond.code (sm_P a).1 (sm_P a).2.1 (sm_P a).2.2.1 (sm_P a).2.2.2.1 ∈ lw_tbl := lt_s sm_cws121 (List.mem_of_getElem? sm_cw121)
theorem sm_cws123 : ∀ a, a < 123 → Cond.code (sm_P a).1 (sm_P a).2.1 (sm_P a).2.2.1 (sm_P a).2.2.2.1 ∈ lw_tbl := lt_s sm_cws122 (List.mem_of_getElem? sm_cw122)
theorem sm_cws124 : ∀ a, a < 124 → Cond.code (sm_P a).1 (sm_P a).2.1 (sm_P a).2.2.1 (sm_P a).2.2.2.1 ∈ lw_tbl := lt_s sm_cws123 (List.mem_of_getElem? sm_cw123)
theorem sm_cws125 : ∀ a, a < 125 → Cond.code (sm_P a).1 (sm_P a).2.1 (sm_P a).2.2.1 (sm_P a).2.2.2.1 ∈ lw_tbl := lt_s sm_cws124 (List.mem_of_getElem? sm_cw124)
theorem sm_cws126 : ∀ a, a < 126 → Cond.code (sm_P a).1 (sm_P a).2.1 (sm_P a).2.2.1 (sm_P a).2.2.2.1 ∈ lw_tbl := lt_s sm_cws125 (List.mem_of_getElem? sm_cw125)
theorem sm_cws127 : ∀ a, a < 127 → Cond.code (sm_P a).1 (sm_P a).2.1 (sm_P a).2.2.1 (sm_P a).2.2.2.1 ∈ lw_tbl := lt_s sm_cws126 (List.mem_of_getElem? sm_cw126)
theorem sm_cws128 : ∀ a, a < 128 → Cond.code (sm_P a).1 (sm_P a).2.1 (sm_P a).2.2.1 (sm_P a).2.2.2.1 ∈ lw_tbl := lt_s sm_cws127 (List.mem_of_getElem? sm_cw127)
theorem sm_cws129 : ∀ a, a < 129 → Cond.code (sm_P a).1 (sm_P a).2.1 (sm_P a).2.2.1 (sm_P a).2.2.2.1 ∈ lw_tbl := lt_s sm_cws128 (List.mem_of_getElem? sm_cw128)
theorem sm_cws130 : ∀ a, a < 130 → Cond.code (sm_P a).1 (sm_P a).2.1 (sm_P a).2.2.1 (sm_P a).2.2.2.1 ∈ lw_tbl := lt_s sm_cws129 (List.mem_of_getElem? sm_cw129)
theorem sm_cws131 : ∀ a, a < 131 → Cond.code (sm_P a).1 (sm_P a).2.1 (sm_P a).2.2.1 (sm_P a).2.2.2.1 ∈ lw_tbl := lt_s sm_cws130 (List.mem_of_getElem? sm_cw130)
theorem sm_cws132 : ∀ a, a < 132 → Cond.code (sm_P a).1 (sm_P a).2.1 (sm_P a).2.2.1 (sm_P a).2.2.2.1 ∈ lw_tbl := lt_s sm_cws131 (List.mem_of_getElem? sm_cw131)
theorem sm_cws133 : ∀ a, a < 133 → Cond.code (sm_P a).1 (sm_P a).2.1 (sm_P a).2.2.1 (sm_P a).2.2.2.1 ∈ lw_tbl := lt_s sm_cws132 (List.mem_of_getElem? sm_cw132)
theorem sm_cws134 : ∀ a, a < 134 → Cond.code (sm_P a).1 (sm_P a).2.1 (sm_P a).2.2.1 (sm_P a).2.2.2.1 ∈ lw_tbl := lt_s sm_cws133 (List.mem_of_getElem? sm_cw133)
theorem sm_cws135 : ∀ a, a < 135 → Cond.code (sm_P a).1 (sm_P a).2.1 (sm_P a).2.2.1 (sm_P a).2.2.2.1 ∈ lw_tbl := lt_s sm_cws134 (List.mem_of_getElem? sm_cw134)
theorem sm_cws136 : ∀ a, a < 136 → Cond.code (sm_P a).1 (sm_P a).2.1 (sm_P a).2.2.1 (sm_P a).2.2.2.1 ∈ lw_tbl := lt_s sm_cws135 (List.mem_of_getElem? sm_cw135)
theorem sm_cws137 : ∀ a, a < 137 → Cond.code (sm_P a).1 (sm_P a).2.1 (sm_P a).2.2.1 (sm_P a).2.2.2.1 ∈ lw_tbl := lt_s sm_cws136 (List.mem_of_getElem? sm_cw136)
theorem sm_cws138 : ∀ a, a < 138 → Cond.code (sm_P a).1 (sm_P a).2.1 (sm_P a).2.2.1 (sm_P a).2.2.2.1 ∈ lw_tbl := lt_s sm_cws137 (List.mem_of_getElem? sm_cw137)
theorem sm_cws139 : ∀ a, a < 139 → Cond.code (sm_P a).1 (sm_P a).2.1 (sm_P a).2.2.1 (sm_P a).2.2.2.1 ∈ lw_tbl := lt_s sm_cws138 (List.mem_of_getElem? sm_cw138)
theorem sm_cws140 : ∀ a, a < 140 → Cond.code (sm_P a).1 (sm_P a).2.1 (sm_P a).2.2.1 (sm_P a).2.2.2.1 ∈ lw_tbl := lt_s sm_cws139 (List.mem_of_getElem? sm_cw139)
theorem sm_cws141 : ∀ a, a < 141 → Cond.code (sm_P a).1 (sm_P a).2.1 (sm_P a).2.2.1 (sm_P a).2.2.2.1 ∈ lw_tbl := lt_s sm_cws140 (List.mem_of_getElem? sm_cw140)
theorem sm_cws142 : ∀ a, a < 142 → Cond.code (sm_P a).1 (sm_P a).2.1 (sm_P a).2.2.1 (sm_P a).2.2.2.1 ∈ lw_tbl := lt_s sm_cws141 (List.mem_of_getElem? sm_cw141)
theorem sm_cws143 : ∀ a, a < 143 → Cond.code (sm_P a).1 (sm_P a).2.1 (sm_P a).2.2.1 (sm_P a).2.2.2.1 ∈ lw_tbl := lt_s sm_cws142 (List.mem_of_getElem? sm_cw142)
theorem sm_cws144 : ∀ a, a < 144 → Cond.code (sm_P a).1 (sm_P a).2.1 (sm_P a).2.2.1 (sm_P a).2.2.2.1 ∈ lw_tbl := lt_s sm_cws143 (List.mem_of_getElem? sm_cw143)
theorem sm_cws145 : ∀ a, a < 145 → Cond.code (sm_P a).1 (sm_P a).2.1 (sm_P a).2.2.1 (sm_P a).2.2.2.1 ∈ lw_tbl := lt_s sm_cws144 (List.mem_of_getElem? sm_cw144)
theorem sm_cws146 : ∀ a, a < 146 → Cond.code (sm_P a).1 (sm_P a).2.1 (sm_P a).2.2.1 (sm_P a).2.2.2.1 ∈ lw_tbl := lt_s sm_cws145 (List.mem_of_getElem? sm_cw145)
theorem sm_cws147 : ∀ a, a < 147 → Cond.code (sm_P a).1 (sm_P a).2.1 (sm_P a).2.2.1 (sm_P a).2.2.2.1 ∈ lw_tbl := lt_s sm_cws146 (List.mem_of_getElem? sm_cw146)
theorem sm_cws148 : ∀ a, a < 148 → Cond.code (sm_P a).1 (sm_P a).2.1 (sm_P a).2.2.1 (sm_P a).2.2.2.1 ∈ lw_tbl := lt_s sm_cws147 (List.mem_of_getElem? sm_cw147)
theorem sm_cws149 : ∀ a, a < 149 → Cond.code (sm_P a).1 (sm_P a).2.1 (sm_P a).2.2.1 (sm_P a).2.2.2.1 ∈ lw_tbl := lt_s sm_cws148 (List.mem_of_getElem? sm_cw148)
theorem sm_cws150 : ∀ a, a < 150 → Cond.code (sm_P a).1 (sm_P a).2.1 (sm_P a).2.2.1 (sm_P a).2.2.2.1 ∈ lw_tbl := lt_s sm_cws149 (List.mem_of_getElem? sm_cw149)
theorem sm_cws151 : ∀ a, a < 151 → Cond.code (sm_P a).1 (sm_P a).2.1 (sm_P a).2.2.1 (sm_P a).2.2.2.1 ∈ lw_tbl := lt_s sm_cws150 (List.mem_of_getElem? sm_cw150)
theorem sm_cws152 : ∀ a, a < 152 → Cond.code (sm_P a).1 (sm_P a).2.1 (sm_P a).2.2.1 (sm_P a).2.2.2.1 ∈ lw_tbl := lt_s sm_cws151 (List.mem_of_getElem? sm_cw151)
theorem sm_cws153 : ∀ a, a < 153 → Cond.code (sm_P a).1 (sm_P a).2.1 (sm_P a).2.2.1 (sm_P a).2.2.2.1 ∈ lw_tbl := lt_s sm_cws152 (List.mem_of_getElem? sm_cw152)
theorem sm_cws154 : ∀ a, a < 154 → Cond.code (sm_P a).1 (sm_P a).2.1 (sm_P a).2.2.1 (sm_P a).2.2.2.1 ∈ lw_tbl := lt_s sm_cws153 (List.mem_of_getElem? sm_cw153)
theorem sm_cws155 : ∀ a, a < 155 → Cond.code (sm_P a).1 (sm_P a).2.1 (sm_P a).2.2.1 (sm_P a).2.2.2.1 ∈ lw_tbl := lt_s sm_cws154 (List.mem_of_getElem? sm_cw154)
theorem sm_cws156 : ∀ a, a < 156 → Cond.code (sm_P a).1 (sm_P a).2.1 (sm_P a).2.2.1 (sm_P a).2.2.2.1 ∈ lw_tbl := lt_s sm_cws155 (List.mem_of_getElem? sm_cw155)
theorem sm_cws157 : ∀ a, a < 157 → Cond.code (sm_P a).1 (sm_P a).2.1 (sm_P a).2.2.1 (sm_P a).2.2.2.1 ∈ lw_tbl := lt_s sm_cws156 (List.mem_of_getElem? sm_cw156)
theorem sm_cws158 : ∀ a, a < 158 → Cond.code (sm_P a).1 (sm_P a).2.1 (sm_P a).2.2.1 (sm_P a).2.2.2.1 ∈ lw_tbl := lt_s sm_cws157 (List.mem_of_getElem? sm_cw157)
theorem sm_cws159 : ∀ a, a < 159 → Cond.code (sm_P a).1 (sm_P a).2.1 (sm_P a).2.2.1 (sm_P a).2.2.2.1 ∈ lw_tbl := lt_s sm_cws158 (List.mem_of_getElem? sm_cw158)
theorem sm_cws160 : ∀ a, a < 160 → Cond.code (sm_P a).1 (sm_P a).2.1 (sm_P a).2.2.1 (sm_P a).2.2.2.1 ∈ lw_tbl := lt_s sm_cws159 (List.mem_of_getElem? sm_cw159)
theorem sm_cws161 : ∀ a, a < 161 → Cond.code (sm_P a).1 (sm_P a).2.1 (sm_P a).2.2.1 (sm_P a).2.2.2.1 ∈ lw_tbl := lt_s sm_cws160 (List.mem_of_getElem? sm_cw160)
theorem sm_cws162 : ∀ a, a < 162 → Cond.code (sm_P a).1 (sm_P a).2.1 (sm_P a).2.2.1 (sm_P a).2.2.2.1 ∈ lw_tbl := lt_s sm_cws161 (List.mem_of_getElem? sm_cw161)
theorem sm_cws163 : ∀ a, a < 163 → Cond.code (sm_P a).1 (sm_P a).2.1 (sm_P a).2.2.1 (sm_P a).2.2.2.1 ∈ lw_tbl := lt_s sm_cws162 (List.mem_of_getElem? sm_cw162)
theorem sm_cws164 : ∀ a, a < 164 → Cond.code (sm_P a).1 (sm_P a).2.1 (sm_P a).2.2.1 (sm_P a).2.2.2.1 ∈ lw_tbl := lt_s sm_cws163 (List.mem_of_getElem? sm_cw163)
theorem sm_cws165 : ∀ a, a < 165 → Cond.code (sm_P a).1 (sm_P a).2.1 (sm_P a).2.2.1 (sm_P a).2.2.2.1 ∈ lw_tbl := lt_s sm_cws164 (List.mem_of_getElem? sm_cw164)
theorem sm_meth {mi : Nat} (hmi : mi < 165) : Cond.code (sm_P mi).1 (sm_P mi).2.1 (sm_P mi).2.2.1 (sm_P mi).2.2.2.1 ∈ sm_GT ∧ plainFor (sm_P mi).1 = true ∧ Cond.initialized (sm_P mi).1.cls ∈ sm_GT ∧ ((sm_P mi).1.cls ≠ "java/lang/invoke/MethodHandle" ∧ (sm_P mi).1.cls ≠ "java/lang/invoke/VarHandle" ∧ (parseMethodDescriptor (sm_P mi).1.desc).map (fun d => d.parameters.length) = some (sm_P mi).2.2.2.2.2.2.2) ∧ ((sm_P mi).2.2.2.2.2.2.1 = true → Cond.static (sm_P mi).1 ∈ sm_GT) ∧ ((sm_P mi).2.2.2.2.2.2.1 = false → Cond.instanceMethod (sm_P mi).1 ∈ sm_GT ∧ ((sm_P mi).1.name = "<init>" ∨ Cond.selects (sm_P mi).1.cls (sm_P mi).1 (sm_P mi).1 ∈ sm_GT)) := by
  have hlen : sm_mw.length = 165 := rfl
  have hz : ((List.range 165).zip sm_mw)[mi]? = some (mi, sm_mw[mi]'(by omega)) := by
    rw [List.getElem?_zip_eq_some]
    exact ⟨List.getElem?_range hmi, List.getElem?_eq_getElem (by omega)⟩
  have h := List.all_eq_true.mp sm_mws _ (List.mem_of_getElem? hz)
  dsimp only at h
  generalize sm_mw[mi]'(by omega) = q at h
  unfold sm_mB at h
  simp only [Bool.and_eq_true, decide_eq_true_eq] at h
  obtain ⟨h1, h2, h3, h4⟩ := h
  refine ⟨List.mem_filter.mpr ⟨sm_cws165 mi hmi, rfl⟩, h1, List.mem_filter.mpr ⟨List.mem_of_getElem? h2, rfl⟩, h3, fun hs => ?_, fun hs => ?_⟩
  · rw [hs] at h4
    have h4 : decide (lw_tbl[q.2.2.1]? = some (Cond.static (sm_P mi).1)) = true := h4
    exact List.mem_filter.mpr ⟨List.mem_of_getElem? (of_decide_eq_true h4), rfl⟩
  · rw [hs] at h4
    have h4 : (decide (lw_tbl[q.2.2.1]? = some (Cond.instanceMethod (sm_P mi).1)) && (decide ((sm_P mi).1.name = "<init>") || decide (lw_tbl[q.2.2.2]? = some (Cond.selects (sm_P mi).1.cls (sm_P mi).1 (sm_P mi).1)))) = true := h4
    simp only [Bool.and_eq_true, Bool.or_eq_true, decide_eq_true_eq] at h4
    exact ⟨List.mem_filter.mpr ⟨List.mem_of_getElem? h4.1, rfl⟩, h4.2.imp id (fun z => List.mem_filter.mpr ⟨List.mem_of_getElem? z, rfl⟩)⟩
theorem sm_GI {Ts ws : List Cond} (hG : ∀ w ∈ sm_GT, w ∈ Ts) (h : ∀ w ∈ ws, w ∈ sm_GT) : GoodIn Ts ws := fun w hw => ⟨hG w (h w hw), good_of_word (List.mem_filter.mp (h w hw)).2⟩
theorem sm_ws_in {mi : Nat} (hmi : mi < 165) : ∀ w ∈ sm_ws (sm_P mi), w ∈ sm_GT := fun w hw => by
  rcases List.mem_cons.mp hw with rfl | hw
  · exact (sm_meth hmi).1
  · exact hw
theorem sm_pop : ∀ (n : Nat) (st acc as r : List Value), am_pop n st acc = some (as, r) → ∃ q, q.length = n ∧ st = q ++ r ∧ as = q.reverse ++ acc
  | 0, st, acc, as, r, h => by cases h; exact ⟨[], rfl, rfl, rfl⟩
  | n + 1, [], acc, as, r, h => by cases h
  | n + 1, v :: st, acc, as, r, h => by
    obtain ⟨q, h1, h2, h3⟩ := sm_pop n st (v :: acc) as r h
    exact ⟨v :: q, by simp [h1], by rw [h2]; rfl, by rw [h3]; simp⟩
theorem sm_w8 (μ : Nat → Nat) (r : List Value) : ((r.map (sm_v μ)).map fun v => v.category).sum = am_w8 r := by
  unfold am_w8
  rw [List.map_map]
  congr 2
  funext v
  exact sm_cat μ v
theorem sm_NT_same {u U : State} (hv : u.vm = U.vm) (h : ∀ w ∈ sm_NT, va_Nw w u) : ∀ w ∈ sm_NT, va_Nw w U := by
  intro w hw
  have h1 := (List.mem_filter.mp hw).2
  have h2 := h w hw
  unfold sm_isN at h1
  split at h1
  · exact va_Nw.same rfl hv h2
  · cases h1
theorem sm_B.blind {D : va_G} {dA : Nat → ClassId} {base b L : Nat} {xs : Nat → Int32} {μ : Nat → Nat} {h : AH} {as : List Value} : FrameBlind (va_Pc as (sm_B D dA base b L xs μ h)) := by
  intro a U g mk hq
  obtain ⟨q0, q1, q2, q3, q4, q5, q6, q7⟩ := hq
  exact ⟨q0, q1, q2, sm_NT_same (u := U) (U := U.calling g mk a) rfl q3, va_AO.moved (u := U) (U := U.calling g mk a) (Vm.Alike.refl U.vm) q4, va_K.moved (u := U) (U := U.calling g mk a) (Vm.Alike.refl U.vm) q5, va_X.moved (u := U) (U := U.calling g mk a) (Vm.Alike.refl U.vm) q6, q7⟩
theorem sm_NT_warm {s U : State} (hW : s.WarmedH U.vm) (h : ∀ w ∈ sm_NT, va_Nw w s) : ∀ w ∈ sm_NT, va_Nw w U := by
  intro w hw
  have h1 := (List.mem_filter.mp hw).2
  have h2 := h w hw
  unfold sm_isN at h1
  split at h1
  · exact va_Nw.warmM hW h2
  · cases h1
theorem sm_rB_0 {r : Option FieldType} (h : sm_rB 0 r = true) : r = none := by
  unfold sm_rB at h
  split at h <;> first | rfl | (rename_i z; cases z) | cases h
section calls
variable {p : Program} {l : Launch} {e : Env} {R : Room} {s : State} {m : MethodId} {args : Array Value} {below : List Frame} {meth : Method} {c : Code} {Q : State → Prop}
variable {P : SP} {Ts : List Cond} {D : va_G} {dA : Nat → ClassId} {base b L : Nat} {xs : Nat → Int32} {μ0 : Nat → Nat} {n0 cE sE : Nat} {F : AH}
variable {CL : Nat → Nat → Nat → List Value → Nat → List Value → List Value → AH → Prop} {RT : Option Value → AH → Prop} {rk : Nat} {ts : List Nat} {cv : Int32} {cj : Int64} {ls st : List Value} {h : AH} {pc : Nat}
/-- behind a call -/
theorem sm_after  {mc ms : Nat} {a : Array Value} {v : Option Value} {h1 : AH} {rest st0 : List Value} {μ : Nat → Nat} {H : Heap} {locs : List Loc} {cells slots : Nat} {A : Array Slot}
    (hle : h.1.length ≤ h1.1.length) (hlz : sm_sz h ≤ sm_sz h1) (hvo : sm_vo v) (hmc : mc = h1.1.length - h.1.length) (hms : ms = sm_sz h1 - sm_sz h)
    (hr : va_Run p l e R s m args below meth c H locs cells slots mc ms (F0 m pc A st0) (rest.map (sm_v μ)) (sm_Q D dA base b L xs μ h.1.length v h1 a) (fun q => base ≤ q))
    (hn : n0 ≤ h.1.length) (hL : sm_L μ h.1.length P.2.2.1 ls A) (hw : ∀ v ∈ rest, sm_wv h.1.length v) (hS : va_S (fun q => base ≤ q) s.heap H locs) (hm : ∀ a, a < n0 → μ a = μ0 a) (hc : cells + F.1.length = cE + h.1.length) (hs : slots + sm_sz F = sE + sm_sz h)
    (kk : sm_nx p l e R s m args below meth c Q P D dA base b L xs μ0 n0 cE sE F (pc + 3) ls (v.toList ++ rest) h1) : W p l e R s m args below meth c H locs cells slots Q (F0 m pc A st0) := by
  have kl := kk.1
  have ks := kk.2.1
  have go : (∀ w, v = some w → sm_wv h1.1.length w) → ∀ (μ' : Nat → Nat) (t : State) (H1 : Heap) (locs1 : List Loc), t.heap = H1 → (∀ a, a < h.1.length → μ' a = μ a) → sm_R D dA base b L xs μ' h1 t.heap → va_S (fun q => base ≤ q) s.heap H1 locs1 → W p l e R s m args below meth c H1 locs1 (cells + mc) (slots + ms) Q (F0 m (pc + 3) A ((v.toList ++ rest).map (sm_v μ'))) := by
    intro hwv μ' t H1 locs1 ht hag hB hS1
    rw [ht] at hB
    refine kk.2.2 (by omega) μ' H1 locs1 (cells + mc) (slots + ms) A hB (hL.mono hle hag) (fun w hw2 => ?_) hS1 (fun a ha => (hag a (by omega)).trans (hm a ha)) (by omega) (by omega)
    rcases List.mem_append.mp hw2 with z | z
    · cases v with
      | none => cases z
      | some u =>
        rcases List.mem_cons.mp z with rfl | z
        · exact hwv _ rfl
        · cases z
    · exact sm_wm hle hw w z
  rcases hvo with rfl | ⟨x, rfl⟩ | ⟨x, rfl⟩ | ⟨x, rfl⟩
  · refine va_callv (a := a) hr hS (fun _ _ z => z) (fun _ z => z) (fun u t H1 locs1 ht hvm hp hB hz hk1 hS1 => ?_)
    have := go (fun w z => by cases z) u t H1 locs1 ht hp hB hS1
    rw [List.map_append, sm_map_ext hp hw] at this
    exact this
  · refine va_calli (a := a) hr hS (fun _ _ z => z) (fun _ z => z) (fun r u t H1 locs1 ht hvm hp hB hz hk1 hS1 => ?_)
    obtain ⟨rfl, hp⟩ := hp
    have := go (fun w z => by cases z; exact sm_wv_i) u t H1 locs1 ht hp hB hS1
    rw [List.map_append, sm_map_ext hp hw] at this
    exact this
  · refine va_calll (a := a) hr hS (fun _ _ z => z) (fun _ z => z) (fun r u t H1 locs1 ht hvm hp hB hz hk1 hS1 => ?_)
    obtain ⟨rfl, hp⟩ := hp
    have := go (fun w z => by cases z; exact sm_wv_l) u t H1 locs1 ht hp hB hS1
    rw [List.map_append, sm_map_ext hp hw] at this
    exact this
  · refine va_callr (a := a) hr hS (fun _ _ z => z) (fun _ z => z) (fun u ra t H1 locs1 ht hvm hp hB hz hk1 hS1 => ?_)
    obtain ⟨rfl, hdl, hB⟩ := hB
    have := go (fun w z => by cases z; exact sm_wv_r hdl) u t H1 locs1 ht hp hB hS1
    rw [List.map_append, sm_map_ext hp hw] at this
    exact this
theorem sm_pre {μ : Nat → Nat} {H : Heap} {locs : List Loc} (C : sm_cx p R s m args meth c P Ts D dA base b L xs cE sE) (hR : sm_R D dA base b L xs μ h H) (hS : va_S (fun q => base ≤ q) s.heap H locs) : ∀ U : State, U.heap = H → s.WarmedH U.vm → sm_B D dA base b L xs μ h U := by
  obtain ⟨hx, hb, hml, hown, hts, hG, hNT, hAO, hK, hX, hbb, hbs, hin, hfr, hlo, hcE, hsE⟩ := C
  intro U hU hW
  subst hU
  refine ⟨Nat.le_trans hbs hS.1, hbb, sm_NT_warm hW hNT, va_AO.moved hW.alike hAO, va_K.moved hW.alike hK, va_X.moved hW.alike (hX.kept (hS.2.1 b (by omega) (by omega))), hR⟩
/-- the numbers of a call, as words -/
theorem sm_cB_P {own : String} {fr lo idx mi na rk' nL q : Nat} (h : sm_cB own fr lo idx mi na rk' nL q = true) : mi < 165 ∧ (Cond.methodLink own idx (sm_P mi).1 ∈ sm_GT ∨ Cond.methodLinkNest own idx (sm_P mi).1 "ObedientDice" ∈ sm_NT) ∧ (sm_P mi).2.2.2.2.2.2.2 = na ∧ sm_rB rk' (sm_P mi).2.2.2.1 = true ∧ (sm_P mi).2.2.1 = nL ∧ (sm_P mi).2.2.2.2.1 + 1 ≤ fr ∧ 8 + ((sm_P mi).2.2.1 + 11) + (sm_P mi).2.2.2.2.2.1 ≤ lo := by
  unfold sm_cB sm_lB at h
  simp only [Bool.and_eq_true, Bool.or_eq_true, decide_eq_true_eq] at h
  obtain ⟨h1, h2, h3, h4, h5, h6, h7⟩ := h
  exact ⟨h1, h2.imp (fun z => List.mem_filter.mpr ⟨List.mem_of_getElem? z, rfl⟩) (fun z => List.mem_filter.mpr ⟨List.mem_of_getElem? z, rfl⟩), h3, h4, h5, h6, by rw [h5]; exact h7⟩
theorem sm_x_static (C : sm_cx p R s m args meth c P Ts D dA base b L xs cE sE) {idx mi na rk' nL q : Nat} (hcB : sm_cB P.1.cls P.2.2.2.2.1 P.2.2.2.2.2.1 idx mi na rk' nL q = true) (hst : (sm_P mi).2.2.2.2.2.2.1 = true) (hd : decode P.2.1 pc = .ok (.invokestatic idx, 3)) (h1 : am_inv (sm_nx p l e R s m args below meth c Q P D dA base b L xs μ0 n0 cE sE F) (fun mi rk' nL as pc ls st h => ∃ v h1, (mi < 165 → (sm_P mi).2.2.1 = nL → sm_call l D dA base b L xs mi as h v h1) ∧ sm_nx p l e R s m args below meth c Q P D dA base b L xs μ0 n0 cE sE F pc ls (v.toList ++ st) h1) False (pc + 3) [mi, na, 1, rk', nL] ls st h) : sm_nx p l e R s m args below meth c Q P D dA base b L xs μ0 n0 cE sE F pc ls st h := by
  have C0 := C
  obtain ⟨hx, hb, hml, hown, hts, hG, hNT, hAO, hK, hX, hbb, hbs, hin, hfr, hlo, hcE, hsE⟩ := C
  have h1 : match am_pop na st [] with
    | some (as, r) => if am_w8 r ≤ 8 ∧ (am_pad as).length ≤ nL then ∃ v h1, (mi < 165 → (sm_P mi).2.2.1 = nL → sm_call l D dA base b L xs mi as h v h1) ∧ sm_nx p l e R s m args below meth c Q P D dA base b L xs μ0 n0 cE sE F (pc + 3) ls (v.toList ++ r) h1 else False
    | none => False := h1
  cases hp : am_pop na st [] with
  | none => rw [hp] at h1; exact h1.elim
  | some w =>
    obtain ⟨as, r⟩ := w
    rw [hp] at h1
    obtain ⟨pq, hq1, hq2, hq3⟩ := sm_pop na st [] as r hp
    rw [List.append_nil] at hq3
    dsimp only at h1
    by_cases h8 : am_w8 r ≤ 8 ∧ (am_pad as).length ≤ nL
    rotate_left
    · rw [if_neg h8] at h1; exact h1.elim
    rw [if_pos h8] at h1
    obtain ⟨v, h1', cc, kk⟩ := h1
    have kl := kk.1
    have ks := kk.2.1
    obtain ⟨hmi, hlk, hna, hrb, hnL, hfr1, hlo1⟩ := sm_cB_P hcB
    obtain ⟨wC, wPl, wIn, wD, wS, wI⟩ := sm_meth hmi
    obtain ⟨c1, c2, c4, c5⟩ := cc hmi hnL
    have hRr : (sm_rm (sm_P mi) h h1').frames + 1 ≤ R.frames ∧ 8 + ((sm_P mi).2.2.1 + 11) + (sm_rm (sm_P mi) h h1').locals ≤ R.locals := ⟨Nat.le_trans hfr1 hfr, Nat.le_trans hlo1 hlo⟩
    have hsr : st = as.reverse ++ r := by rw [hq3, List.reverse_reverse]; exact hq2
    have hal : as.length = (sm_P mi).2.2.2.2.2.2.2 := by rw [hq3, List.length_reverse, hq1, hna]
    refine ⟨by omega, by omega, fun hn μ H locs cells slots A hR hL hw hS hm hc hs => ?_⟩
    have hwas : ∀ w ∈ as, sm_wv h.1.length w := fun w hw2 => hw w (by rw [hsr]; exact List.mem_append_left _ (List.mem_reverse.mpr hw2))
    have hwr : ∀ w ∈ r, sm_wv h.1.length w := fun w hw2 => hw w (by rw [hsr]; exact List.mem_append_right _ hw2)
    have hstk : st.map (sm_v μ) = (as.map (sm_v μ)).reverse ++ r.map (sm_v μ) := by rw [hsr, List.map_append, List.map_reverse]
    have hps : PreS s H (va_Pc (as.map (sm_v μ)) (sm_B D dA base b L xs μ h)) (as.map (sm_v μ)) := ⟨sm_B.blind, fun U hU hW => ⟨rfl, sm_pre C0 hR hS U hU hW⟩⟩
    refine sm_after (a := (as.map (sm_v μ)).toArray) c1 c2 c4 rfl rfl ?_ hn hL hwr hS hm hc hs kk
    rcases hlk with hlk | hlk
    · exact va_runS ⟨hx, hb, hml, hown, hts⟩ (c5 hwas (hnL ▸ h8.2) μ) (va_cwS (sm_P mi).2.2.2.2.2.2.2 hts (sm_GI hG (fun w hw2 => by
        rcases List.mem_append.mp hw2 with z | z
        · simp only [List.mem_cons, List.not_mem_nil, or_false] at z
          rcases z with rfl | rfl | rfl
          · exact hlk
          · exact wS hst
          · exact wIn
        · exact sm_ws_in hmi w z)) rfl rfl rfl wD hRr) hps rfl (by rw [List.length_map]; exact hal) hL.1 hstk (lv_room (by rw [sm_w8]; exact h8.1)) hd ⟨by show cells + (h1'.1.length - h.1.length) ≤ R.cells; omega, by show slots + (sm_sz h1' - sm_sz h) ≤ R.slots; omega⟩
    · exact va_runSN ⟨hx, hb, hml, hown, hts⟩ (c5 hwas (hnL ▸ h8.2) μ) ⟨va_cnB (sm_P mi).2.2.2.2.2.2.2 hts (sm_GI hG (sm_ws_in hmi)) rfl rfl rfl (hNT _ hlk) (hts _ (hG _ wIn)) wD hRr, hts _ (hG _ (wS hst)), trivial⟩ hps rfl (by rw [List.length_map]; exact hal) hL.1 hstk (lv_room (by rw [sm_w8]; exact h8.1)) hd ⟨by show cells + (h1'.1.length - h.1.length) ≤ R.cells; omega, by show slots + (sm_sz h1' - sm_sz h) ≤ R.slots; omega⟩
theorem sm_x_virtual (C : sm_cx p R s m args meth c P Ts D dA base b L xs cE sE) {idx mi na rk' nL rc q : Nat} (hcB : sm_cB P.1.cls P.2.2.2.2.1 P.2.2.2.2.2.1 idx mi na rk' nL q = true) (hrc : (sm_P mi).1.cls = sm_cn rc ∧ rc < 4) (hni : (sm_P mi).1.name ≠ "<init>") (hst : (sm_P mi).2.2.2.2.2.2.1 = false) (hd : decode P.2.1 pc = .ok (.invokevirtual idx, 3)) (h1 : am_inv (sm_nx p l e R s m args below meth c Q P D dA base b L xs μ0 n0 cE sE F) (fun mi rk' nL as pc ls st h => ∃ v h1, (mi < 165 → (sm_P mi).2.2.1 = nL → sm_call l D dA base b L xs mi as h v h1) ∧ sm_nx p l e R s m args below meth c Q P D dA base b L xs μ0 n0 cE sE F pc ls (v.toList ++ st) h1) False (pc + 3) [mi, na, 0, rk', nL, rc] ls st h) : sm_nx p l e R s m args below meth c Q P D dA base b L xs μ0 n0 cE sE F pc ls st h := by
  have C0 := C
  obtain ⟨hx, hb, hml, hown, hts, hG, hNT, hAO, hK, hX, hbb, hbs, hin, hfr, hlo, hcE, hsE⟩ := C
  have h1 : match am_pop na st [] with
    | some (as, .ref d :: r) => if am_kd h d = rc then (if am_w8 r ≤ 8 ∧ (am_pad (.ref d :: as)).length ≤ nL then ∃ v h1, (mi < 165 → (sm_P mi).2.2.1 = nL → sm_call l D dA base b L xs mi (.ref d :: as) h v h1) ∧ sm_nx p l e R s m args below meth c Q P D dA base b L xs μ0 n0 cE sE F (pc + 3) ls (v.toList ++ r) h1 else False) else False
    | _ => False := h1
  split at h1
  rotate_left
  · exact h1.elim
  · rename_i as d r hp
    obtain ⟨pq, hq1, hq2, hq3⟩ := sm_pop na st [] as _ hp
    rw [List.append_nil] at hq3
    by_cases hkd : am_kd h d = rc
    rotate_left
    · rw [if_neg hkd] at h1; exact h1.elim
    rw [if_pos hkd] at h1
    by_cases h8 : am_w8 r ≤ 8 ∧ (am_pad (.ref d :: as)).length ≤ nL
    rotate_left
    · rw [if_neg h8] at h1; exact h1.elim
    rw [if_pos h8] at h1
    obtain ⟨v, h1', cc, kk⟩ := h1
    have kl := kk.1
    have ks := kk.2.1
    obtain ⟨hmi, hlk, hna, hrb, hnL, hfr1, hlo1⟩ := sm_cB_P hcB
    obtain ⟨wC, wPl, wIn, wD, wS, wI⟩ := sm_meth hmi
    obtain ⟨c1, c2, c4, c5⟩ := cc hmi hnL
    have hRr : (sm_rm (sm_P mi) h h1').frames + 1 ≤ R.frames ∧ 8 + ((sm_P mi).2.2.1 + 11) + (sm_rm (sm_P mi) h h1').locals ≤ R.locals := ⟨Nat.le_trans hfr1 hfr, Nat.le_trans hlo1 hlo⟩
    have hsr : st = as.reverse ++ .ref d :: r := by rw [hq3, List.reverse_reverse]; exact hq2
    have hal : as.length = (sm_P mi).2.2.2.2.2.2.2 := by rw [hq3, List.length_reverse, hq1, hna]
    refine ⟨by omega, by omega, fun hn μ H locs cells slots A hR hL hw hS hm hc hs => ?_⟩
    have hwd : sm_wv h.1.length (.ref d) := hw _ (by rw [hsr]; exact List.mem_append_right _ List.mem_cons_self)
    have hwas : ∀ w ∈ Value.ref d :: as, sm_wv h.1.length w := sm_wc hwd fun w hw2 => hw w (by rw [hsr]; exact List.mem_append_left _ (List.mem_reverse.mpr hw2))
    have hwr : ∀ w ∈ r, sm_wv h.1.length w := fun w hw2 => hw w (by rw [hsr]; exact List.mem_append_right _ (List.mem_cons_of_mem _ hw2))
    have hstk : st.map (sm_v μ) = (as.map (sm_v μ)).reverse ++ .ref (μ d) :: r.map (sm_v μ) := by rw [hsr, List.map_append, List.map_reverse]; rfl
    have hfc : cells + (h1'.1.length - h.1.length) ≤ R.cells ∧ slots + (sm_sz h1' - sm_sz h) ≤ R.slots := ⟨by omega, by omega⟩
    refine sm_after (a := (Value.ref (μ d) :: as.map (sm_v μ)).toArray) c1 c2 c4 rfl rfl ?_ hn hL hwr hS hm hc hs kk
    obtain ⟨wI1, wI2⟩ := wI hst
    have wSel := wI2.resolve_left hni
    obtain ⟨⟨d0, d1⟩, hed⟩ := sm_wl_obj (dA := dA) (μ := μ) hR.2.2.2 hkd (Nat.lt_succ_of_lt hrc.2)
    obtain ⟨rr, hrr⟩ : ∃ rr, vwCl[rc]? = some rr := ⟨_, List.getElem?_eq_getElem (by show rc < 4; exact hrc.2)⟩
    obtain ⟨cellB, g1, g2, g3⟩ := va_recv hK hR.1 hrr hed
    have hnm : rr.1 = (sm_P mi).1.cls := (sm_cls hrr).2.1.trans hrc.1.symm
    rw [hnm] at g3
    have hpv : PreV s H (sm_P mi).1.cls (μ d) (va_Pc ((Value.ref d :: as).map (sm_v μ)) (sm_B D dA base b L xs μ h)) (as.map (sm_v μ)) := ⟨sm_B.blind, ⟨cellB, g1, g2, g3⟩, fun U hU hW => ⟨rfl, sm_pre C0 hR hS U hU hW⟩⟩
    rcases hlk with hlk | hlk
    · exact va_runV ⟨hx, hb, hml, hown, hts⟩ (c5 hwas (hnL ▸ h8.2) μ) (cwV (sm_P mi).2.2.2.2.2.2.2 hts (sm_GI hG (fun w hw2 => by
        rcases List.mem_append.mp hw2 with z | z
        · simp only [List.mem_cons, List.not_mem_nil, or_false] at z
          rcases z with rfl | rfl | rfl | rfl
          · exact hlk
          · exact wI1
          · exact wSel
          · exact wIn
        · exact sm_ws_in hmi w z)) rfl rfl rfl ⟨rfl, wD⟩ hRr) hpv rfl (by rw [List.length_map]; exact hal) hL.1 hstk (lv_room (by rw [sm_w8]; exact h8.1)) hd hfc
    · exact va_runVN ⟨hx, hb, hml, hown, hts⟩ (c5 hwas (hnL ▸ h8.2) μ) ⟨va_cnB (sm_P mi).2.2.2.2.2.2.2 hts (sm_GI hG (sm_ws_in hmi)) rfl rfl rfl (hNT _ hlk) (hts _ (hG _ wIn)) wD hRr, hts _ (hG _ wI1), hts _ (hG _ wSel)⟩ hpv rfl (by rw [List.length_map]; exact hal) hL.1 hstk (lv_room (by rw [sm_w8]; exact h8.1)) hd hfc
theorem sm_x_special (C : sm_cx p R s m args meth c P Ts D dA base b L xs cE sE) {idx mi na rk' nL rc q : Nat} (hcB : sm_cB P.1.cls P.2.2.2.2.1 P.2.2.2.2.2.1 idx mi na rk' nL q = true) (hrk : rk' = 0) (hni : (sm_P mi).1.name = "<init>") (hst : (sm_P mi).2.2.2.2.2.2.1 = false) (hd : decode P.2.1 pc = .ok (.invokespecial idx, 3)) (h1 : am_inv (sm_nx p l e R s m args below meth c Q P D dA base b L xs μ0 n0 cE sE F) (fun mi rk' nL as pc ls st h => ∃ v h1, (mi < 165 → (sm_P mi).2.2.1 = nL → sm_call l D dA base b L xs mi as h v h1) ∧ sm_nx p l e R s m args below meth c Q P D dA base b L xs μ0 n0 cE sE F pc ls (v.toList ++ st) h1) False (pc + 3) [mi, na, 0, rk', nL, rc] ls st h) : sm_nx p l e R s m args below meth c Q P D dA base b L xs μ0 n0 cE sE F pc ls st h := by
  have C0 := C
  obtain ⟨hx, hb, hml, hown, hts, hG, hNT, hAO, hK, hX, hbb, hbs, hin, hfr, hlo, hcE, hsE⟩ := C
  have h1 : match am_pop na st [] with
    | some (as, .ref d :: r) => if am_kd h d = rc then (if am_w8 r ≤ 8 ∧ (am_pad (.ref d :: as)).length ≤ nL then ∃ v h1, (mi < 165 → (sm_P mi).2.2.1 = nL → sm_call l D dA base b L xs mi (.ref d :: as) h v h1) ∧ sm_nx p l e R s m args below meth c Q P D dA base b L xs μ0 n0 cE sE F (pc + 3) ls (v.toList ++ r) h1 else False) else False
    | _ => False := h1
  split at h1
  rotate_left
  · exact h1.elim
  · rename_i as d r hp
    obtain ⟨pq, hq1, hq2, hq3⟩ := sm_pop na st [] as _ hp
    rw [List.append_nil] at hq3
    by_cases hkd : am_kd h d = rc
    rotate_left
    · rw [if_neg hkd] at h1; exact h1.elim
    rw [if_pos hkd] at h1
    by_cases h8 : am_w8 r ≤ 8 ∧ (am_pad (.ref d :: as)).length ≤ nL
    rotate_left
    · rw [if_neg h8] at h1; exact h1.elim
    rw [if_pos h8] at h1
    obtain ⟨v, h1', cc, kk⟩ := h1
    have kl := kk.1
    have ks := kk.2.1
    obtain ⟨hmi, hlk, hna, hrb, hnL, hfr1, hlo1⟩ := sm_cB_P hcB
    obtain ⟨wC, wPl, wIn, wD, wS, wI⟩ := sm_meth hmi
    obtain ⟨c1, c2, c4, c5⟩ := cc hmi hnL
    have hRr : (sm_rm (sm_P mi) h h1').frames + 1 ≤ R.frames ∧ 8 + ((sm_P mi).2.2.1 + 11) + (sm_rm (sm_P mi) h h1').locals ≤ R.locals := ⟨Nat.le_trans hfr1 hfr, Nat.le_trans hlo1 hlo⟩
    have hsr : st = as.reverse ++ .ref d :: r := by rw [hq3, List.reverse_reverse]; exact hq2
    have hal : as.length = (sm_P mi).2.2.2.2.2.2.2 := by rw [hq3, List.length_reverse, hq1, hna]
    refine ⟨by omega, by omega, fun hn μ H locs cells slots A hR hL hw hS hm hc hs => ?_⟩
    have hwd : sm_wv h.1.length (.ref d) := hw _ (by rw [hsr]; exact List.mem_append_right _ List.mem_cons_self)
    have hwas : ∀ w ∈ Value.ref d :: as, sm_wv h.1.length w := sm_wc hwd fun w hw2 => hw w (by rw [hsr]; exact List.mem_append_left _ (List.mem_reverse.mpr hw2))
    have hwr : ∀ w ∈ r, sm_wv h.1.length w := fun w hw2 => hw w (by rw [hsr]; exact List.mem_append_right _ (List.mem_cons_of_mem _ hw2))
    have hstk : st.map (sm_v μ) = (as.map (sm_v μ)).reverse ++ .ref (μ d) :: r.map (sm_v μ) := by rw [hsr, List.map_append, List.map_reverse]; rfl
    have hfc : cells + (h1'.1.length - h.1.length) ≤ R.cells ∧ slots + (sm_sz h1' - sm_sz h) ≤ R.slots := ⟨by omega, by omega⟩
    refine sm_after (a := (Value.ref (μ d) :: as.map (sm_v μ)).toArray) c1 c2 c4 rfl rfl ?_ hn hL hwr hS hm hc hs kk
    obtain ⟨wI1, -⟩ := wI hst
    subst hrk
    have hret : (sm_P mi).2.2.2.1 = none := sm_rB_0 hrb
    have hps : PreS s H (va_Pc ((Value.ref d :: as).map (sm_v μ)) (sm_B D dA base b L xs μ h)) (.ref (μ d) :: as.map (sm_v μ)) := ⟨sm_B.blind, fun U hU hW => ⟨rfl, sm_pre C0 hR hS U hU hW⟩⟩
    have hwsn : sm_ws (sm_P mi) = Cond.code (sm_P mi).1 (sm_P mi).2.1 (sm_P mi).2.2.1 none :: sm_GT := by unfold sm_ws; rw [hret]
    rcases hlk with hlk | hlk
    · exact va_runI ⟨hx, hb, hml, hown, hts⟩ (c5 hwas (hnL ▸ h8.2) μ) (cwI (sm_P mi).2.2.2.2.2.2.2 hts (sm_GI hG (sm_ws_in hmi)) hwsn rfl rfl (hts _ (hG _ wIn)) (hts _ (hG _ hlk)) (hts _ (hG _ wI1)) hni wD hRr) hps rfl (by rw [List.length_map]; exact hal) hL.1 hstk (lv_room (by rw [sm_w8]; exact h8.1)) hd hfc
    · exact va_runIN ⟨hx, hb, hml, hown, hts⟩ (c5 hwas (hnL ▸ h8.2) μ) ⟨va_cnB (sm_P mi).2.2.2.2.2.2.2 hts (sm_GI hG (sm_ws_in hmi)) hwsn rfl rfl (hNT _ hlk) (hts _ (hG _ wIn)) wD hRr, hni, hts _ (hG _ wI1)⟩ hps rfl (by rw [List.length_map]; exact hal) hL.1 hstk (lv_room (by rw [sm_w8]; exact h8.1)) hd hfc
end calls
end
section
/-! ===== the rest of the rows, and one step of all ===== -/
theorem sm_oiC : Cond.code objectInit ⟨#[0xb1]⟩ 1 none ∈ sm_GT := List.mem_filter.mpr ⟨List.mem_of_getElem? (i := 37) rfl, rfl⟩
theorem sm_oiI : Cond.instanceMethod objectInit ∈ sm_GT := List.mem_filter.mpr ⟨List.mem_of_getElem? (i := 36) (by decide +kernel), rfl⟩
theorem sm_acN : Cond.native arraycopyName ∈ sm_GT := List.mem_filter.mpr ⟨List.mem_of_getElem? (i := 194) (by decide +kernel), rfl⟩
theorem sm_acS : Cond.static arraycopyName ∈ sm_GT := List.mem_filter.mpr ⟨List.mem_of_getElem? (i := 193) (by decide +kernel), rfl⟩
theorem sm_acI : Cond.initialized "java/lang/System" ∈ sm_GT := List.mem_filter.mpr ⟨List.mem_of_getElem? (i := 28) (by decide +kernel), rfl⟩
def sm_ri (rk : Nat) (i : Instr) (v : Option Value) : Prop := (v = none ∧ i = .return_ ∧ rk = 0) ∨ (∃ x, v = some (.int x) ∧ i = .ireturn ∧ (rk = 1 ∨ rk = 2 ∧ (x = 0 ∨ x = 1))) ∨ (∃ x, v = some (.long x) ∧ i = .lreturn ∧ rk = 3) ∨ ∃ a, v = some (.ref a) ∧ i = .areturn ∧ rk = 4
def sm_rt (p : Program) (l : Launch) (e : Env) (R : Room) (s : State) (m : MethodId) (args : Array Value) (below : List Frame) (meth : Method) (c : Code) (Q : State → Prop) (P : SP) (D : va_G) (dA : Nat → ClassId) (base b L : Nat) (xs : Nat → Int32) (μ0 : Nat → Nat) (n0 cE sE : Nat) (F : AH) (rk : Nat) (v : Option Value) : Prop :=
  ∀ (i : Instr) (pc : Nat) (μ : Nat → Nat) (H : Heap) (locs : List Loc) (A : Array Slot), decode P.2.1 pc = .ok (i, 1) → sm_ri rk i v → n0 ≤ F.1.length → sm_R D dA base b L xs μ F H → va_S (fun q => base ≤ q) s.heap H locs → (∀ a, a < n0 → μ a = μ0 a) → (∀ w, v = some w → sm_wv F.1.length w) → W p l e R s m args below meth c H locs cE sE Q (F0 m pc A (v.toList.map (sm_v μ)))
section rest
variable {p : Program} {l : Launch} {e : Env} {R : Room} {s : State} {m : MethodId} {args : Array Value} {below : List Frame} {meth : Method} {c : Code} {Q : State → Prop}
variable {P : SP} {Ts : List Cond} {D : va_G} {dA : Nat → ClassId} {base b L : Nat} {xs : Nat → Int32} {μ0 : Nat → Nat} {n0 cE sE : Nat} {F : AH}
variable {CL : Nat → Nat → Nat → List Value → Nat → List Value → List Value → AH → Prop} {RT : Option Value → AH → Prop} {rk : Nat} {ts : List Nat} {cv : Int32} {cj : Int64} {ls st : List Value} {h : AH} {pc : Nat}
theorem sm_x_objinit (C : sm_cx p R s m args meth c P Ts D dA base b L xs cE sE) {idx q : Nat} (hlk : lw_tbl[q]? = some (Cond.methodLink P.1.cls idx objectInit)) (hfr1 : 1 ≤ P.2.2.2.2.1) (hlo1 : 20 ≤ P.2.2.2.2.2.1) (hd : decode P.2.1 pc = .ok (.invokespecial idx, 3)) (h1 : am_inv (sm_nx p l e R s m args below meth c Q P D dA base b L xs μ0 n0 cE sE F) CL False (pc + 3) [2] ls st h) : sm_nx p l e R s m args below meth c Q P D dA base b L xs μ0 n0 cE sE F pc ls st h := by
  obtain ⟨hx, hb, hml, hown, hts, hG, hNT, hAO, hK, hX, hbb, hbs, hin, hfr, hlo, hcE, hsE⟩ := C
  replace h1 : match (generalizing := false) st with
    | .ref _ :: r => if am_w8 r ≤ 8 then sm_nx p l e R s m args below meth c Q P D dA base b L xs μ0 n0 cE sE F (pc + 3) ls r h else False
    | _ => False := h1
  split at h1
  · rename_i d r
    by_cases h8 : am_w8 r ≤ 8
    · rw [if_pos h8] at h1
      refine ⟨h1.1, h1.2.1, fun hn μ H locs cells slots A hR hL hw hS hm hc hs => ?_⟩
      have hg : Cond.methodLink P.1.cls idx objectInit ∈ sm_GT := List.mem_filter.mpr ⟨List.mem_of_getElem? hlk, rfl⟩
      refine W.objInit hx hb hown (hts _ (hG _ hg)) (hts _ (hG _ sm_oiI)) (hts _ (hG _ sm_oiC)) rfl (by rw [hml]; exact hL.1) rfl hd (by omega) ?_ ?_
      · show 2 * 0 + ((r.map (sm_v μ)).map fun v => v.category).sum + 12 ≤ _
        rw [sm_w8]
        omega
      · exact W.eq (g2 := F0 m (pc + 3) A (r.map (sm_v μ))) rfl (h1.2.2 hn μ H locs cells slots A hR hL (sm_wt hw) hS hm hc hs)
    · rw [if_neg h8] at h1
      exact h1.elim
  · exact h1.elim
theorem sm_x_arraycopy (C : sm_cx p R s m args meth c P Ts D dA base b L xs cE sE) {idx q z : Nat} (hlk : lw_tbl[q]? = some (Cond.methodLink P.1.cls idx arraycopyName)) (hfr1 : 1 ≤ P.2.2.2.2.1) (hlo1 : 26 ≤ P.2.2.2.2.2.1) (hd : decode P.2.1 pc = .ok (.invokestatic idx, 3)) (h1 : am_inv (sm_nx p l e R s m args below meth c Q P D dA base b L xs μ0 n0 cE sE F) CL False (pc + 3) [3, z] ls st h) : sm_nx p l e R s m args below meth c Q P D dA base b L xs μ0 n0 cE sE F pc ls st h := by
  obtain ⟨hx, hb, hml, hown, hts, hG, hNT, hAO, hK, hX, hbb, hbs, hin, hfr, hlo, hcE, hsE⟩ := C
  replace h1 : match (generalizing := false) st with
    | .int cn :: .int dp :: .ref d :: .int sp :: .ref sa :: r => if am_kd h sa = 5 ∧ am_kd h d = 5 ∧ ¬ sp < 0 ∧ ¬ dp < 0 ∧ ¬ cn < 0 ∧ sp.toNatClampNeg + cn.toNatClampNeg ≤ am_ln h sa ∧ dp.toNatClampNeg + cn.toNatClampNeg ≤ am_ln h d ∧ am_w8 r ≤ 8 then sm_nx p l e R s m args below meth c Q P D dA base b L xs μ0 n0 cE sE F (pc + 3) ls r (am_rI h d (am_cpy (am_I h sa) (am_I h d) sp.toNatClampNeg dp.toNatClampNeg cn.toNatClampNeg)) else False
    | _ => False := h1
  split at h1
  · rename_i cn dp d sp a r
    by_cases hk : am_kd h a = 5 ∧ am_kd h d = 5 ∧ ¬ sp < 0 ∧ ¬ dp < 0 ∧ ¬ cn < 0 ∧ sp.toNatClampNeg + cn.toNatClampNeg ≤ am_ln h a ∧ dp.toNatClampNeg + cn.toNatClampNeg ≤ am_ln h d ∧ am_w8 r ≤ 8
    · rw [if_pos hk] at h1
      obtain ⟨k1, k2, k3, k4, k5, k6, k7, k8⟩ := hk
      refine ⟨h1.1, h1.2.1, fun hn μ H locs cells slots A hR hL hw hS hm hc hs => ?_⟩
      have hg : Cond.methodLink P.1.cls idx arraycopyName ∈ sm_GT := List.mem_filter.mpr ⟨List.mem_of_getElem? hlk, rfl⟩
      obtain ⟨⟨a0, a1⟩, hea⟩ := sm_wl_arr (dA := dA) (μ := μ) hR.2.2.2 k1 (by omega) (by omega)
      obtain ⟨⟨d0, d1⟩, hed⟩ := sm_wl_arr (dA := dA) (μ := μ) hR.2.2.2 k2 (by omega) (by omega)
      refine va_copyi hx hb (by rw [hml]; exact hL.1.symm) hown (hts _ (hG _ hg)) (hts _ (hG _ sm_acN)) (hts _ (hG _ sm_acS)) (hts _ (hG _ sm_acI)) hK hR.1 hR.2.1 hS (a - 1) (d - 1) 0 0 hea hed rfl rfl rfl k3 k4 k5 k6 k7 (fun _ _ => rfl) (by omega) ?_ hd (fun H1 locs1 hP1 hD1 hS1 => ?_)
      · rw [sm_w8]
        show _ + (7 + 11) ≤ _
        omega
      · have e3 := sm_wl_arrset (dA := dA) (μ := μ) (h' := am_rI h d (am_cpy (am_I h a) (am_I h d) sp.toNatClampNeg dp.toNatClampNeg cn.toNatClampNeg)) hR.2.2.2 k2 (by omega) (by omega) rfl sm_sI_other
        rw [show am_I (am_rI h d (am_cpy (am_I h a) (am_I h d) sp.toNatClampNeg dp.toNatClampNeg cn.toNatClampNeg)) d = va_cpy (am_I h a) (am_I h d) sp.toNatClampNeg dp.toNatClampNeg cn.toNatClampNeg from am_ud_eq] at e3
        have hP1 : va_P D vwCl ((sm_wl dA μ h).set (d - 1) (μ d, .inl (dA 5, am_ln h d, .inl (va_cpy (am_I h a) (am_I h d) sp.toNatClampNeg dp.toNatClampNeg cn.toNatClampNeg)))) H1 := hP1
        have hD1 : va_D (fun q => base ≤ q) ((sm_wl dA μ h).set (d - 1) (μ d, .inl (dA 5, am_ln h d, .inl (va_cpy (am_I h a) (am_I h d) sp.toNatClampNeg dp.toNatClampNeg cn.toNatClampNeg)))) := hD1
        rw [show (sm_wl dA μ h).set (d - 1) (μ d, .inl (dA 5, am_ln h d, .inl (va_cpy (am_I h a) (am_I h d) sp.toNatClampNeg dp.toNatClampNeg cn.toNatClampNeg))) = sm_wl dA μ (am_rI h d (am_cpy (am_I h a) (am_I h d) sp.toNatClampNeg dp.toNatClampNeg cn.toNatClampNeg)) from e3] at hP1 hD1
        exact h1.2.2 hn μ H1 locs1 cells slots A ⟨hP1, hD1, hR.2.2.1, hR.2.2.2.rI d0⟩ hL (sm_wt (sm_wt (sm_wt (sm_wt (sm_wt hw))))) hS1 hm hc hs
    · rw [if_neg hk] at h1
      exact h1.elim
  · exact h1.elim
theorem am_sw_ex {f : Nat → Prop} {x : Int32} {d : Nat} : ∀ (r : List Nat) (k : Nat), am_sw f x d k r → (∃ j t, r[j]? = some t ∧ x = nI (k + j) ∧ f t) ∨ ((∀ j, j < r.length → x ≠ nI (k + j)) ∧ f d)
  | [], k, h => Or.inr ⟨fun j hj => by simp at hj, h⟩
  | t :: r, k, h => by
    unfold am_sw at h
    by_cases hx : x = nI k
    · rw [if_pos hx] at h
      exact Or.inl ⟨0, t, rfl, hx, h⟩
    · rw [if_neg hx] at h
      rcases am_sw_ex r (k + 1) h with ⟨j, t2, e1, e2, e3⟩ | ⟨e1, e2⟩
      · exact Or.inl ⟨j + 1, t2, e1, by rw [e2]; congr 1; omega, e3⟩
      · refine Or.inr ⟨fun j hj => ?_, e2⟩
        cases j with
        | zero => exact hx
        | succ j =>
          have := e1 j (by simpa using hj)
          rw [show k + (j + 1) = k + 1 + j by omega]
          exact this
theorem sm_x_tableswitch (hx : p.tables.exec = Jvm.exec) (hb : c.code = P.2.1) {d lo hi : Int} {offs : Array Int} {len : Nat} {k df : Nat} {r0 : List Nat} {n : Nat} (h2 : lo = (k : Int)) (h3 : (pc : Int) + d = (df : Int)) (h4 : offs.toList.map (fun o => (pc : Int) + o) = r0.map (fun (t : Nat) => (t : Int))) (h5 : hi = (k : Int) + (r0.length : Int) - 1) (h6 : k + r0.length < 1000) (hd : decode P.2.1 pc = .ok (.tableswitch d lo hi offs, len)) (h1 : am_x_tableswitch (sm_nx p l e R s m args below meth c Q P D dA base b L xs μ0 n0 cE sE F) CL RT False rk n (k :: df :: r0) cv cj ls st h) : sm_nx p l e R s m args below meth c Q P D dA base b L xs μ0 n0 cE sE F pc ls st h := by
  unfold am_x_tableswitch at h1
  obtain ⟨x, r, rfl, kk⟩ := am_i1_ex h1
  rcases am_sw_ex r0 k kk with ⟨j, t, e1, e2, e3⟩ | ⟨e1, e3⟩
  · have hj : j < r0.length := (List.getElem?_eq_some_iff.mp e1).1
    have hx' : x.toInt = ((k + j : Nat) : Int) := by rw [e2]; exact nI_toInt (by omega)
    have ho : ∃ off, offs[(x.toInt - lo).toNat]? = some off ∧ (pc : Int) + off = (t : Int) := by
      have hz : (x.toInt - lo).toNat = j := by rw [hx', h2]; omega
      have h7 := congrArg (fun q : List Int => q[j]?) h4
      simp only [List.getElem?_map, e1] at h7
      rw [hz]
      cases ho : offs[j]? with
      | none =>
        rw [← Array.getElem?_toList] at ho
        rw [ho] at h7
        cases h7
      | some off =>
        refine ⟨off, rfl, ?_⟩
        rw [← Array.getElem?_toList] at ho
        rw [ho] at h7
        exact Option.some.inj h7
    obtain ⟨off, ho1, ho2⟩ := ho
    exact ⟨e3.1, e3.2.1, fun hn μ H locs cells slots A hR hL hw hS hm hc hs => lv_tableIn (tgt := t) hx hb hd (by rw [hx', h2]; omega) (by rw [hx', h5]; omega) ho1 ho2 (e3.2.2 hn μ H locs cells slots A hR hL (sm_wt hw) hS hm hc hs)⟩
  · refine ⟨e3.1, e3.2.1, fun hn μ H locs cells slots A hR hL hw hS hm hc hs => lv_tableOut (tgt := df) hx hb hd ?_ h3 (e3.2.2 hn μ H locs cells slots A hR hL (sm_wt hw) hS hm hc hs)⟩
    rcases Int.lt_or_le x.toInt lo with z | z
    · exact Or.inl z
    · refine Or.inr (Int.not_le.mp fun z2 => ?_)
      refine e1 (x.toInt - lo).toNat (by omega) ?_
      apply Int32.toInt_inj.mp
      rw [nI_toInt (by omega)]
      omega
theorem sm_ret {i : Instr} {v : Option Value} (hd : decode P.2.1 pc = .ok (i, 1)) (hi : sm_ri rk i v) (hst : st = v.toList) (hF : h = F) (hrt : sm_rt p l e R s m args below meth c Q P D dA base b L xs μ0 n0 cE sE F rk v) : sm_nx p l e R s m args below meth c Q P D dA base b L xs μ0 n0 cE sE F pc ls st h := by
  subst hst
  subst hF
  refine ⟨Nat.le_refl _, Nat.le_refl _, fun hn μ H locs cells slots A hR hL hw hS hm hc hs => ?_⟩
  have hcc : cells = cE := by omega
  have hss : slots = sE := by omega
  subst hcc
  subst hss
  exact hrt i pc μ H locs A hd hi hn hR hS hm (fun w hw2 => hw w (by rw [hw2]; exact List.mem_cons_self))
theorem sm_x_ireturn (hd : decode P.2.1 pc = .ok (.ireturn, 1)) {n : Nat} (h1 : am_x_ireturn (sm_nx p l e R s m args below meth c Q P D dA base b L xs μ0 n0 cE sE F) CL (fun v h' => h' = F ∧ sm_rt p l e R s m args below meth c Q P D dA base b L xs μ0 n0 cE sE F rk v) False rk n ts cv cj ls st h) : sm_nx p l e R s m args below meth c Q P D dA base b L xs μ0 n0 cE sE F pc ls st h := by
  unfold am_x_ireturn at h1
  split at h1
  · split at h1
    · exact sm_ret hd (Or.inr (Or.inl ⟨_, rfl, rfl, Or.inl rfl⟩)) rfl h1.1 h1.2
    · split at h1
      · rename_i hx
        exact sm_ret hd (Or.inr (Or.inl ⟨_, rfl, rfl, Or.inr ⟨rfl, hx⟩⟩)) rfl h1.1 h1.2
      · exact h1.elim
    · exact h1.elim
  · exact h1.elim
theorem sm_x_lreturn (hd : decode P.2.1 pc = .ok (.lreturn, 1)) {n : Nat} (h1 : am_x_lreturn (sm_nx p l e R s m args below meth c Q P D dA base b L xs μ0 n0 cE sE F) CL (fun v h' => h' = F ∧ sm_rt p l e R s m args below meth c Q P D dA base b L xs μ0 n0 cE sE F rk v) False rk n ts cv cj ls st h) : sm_nx p l e R s m args below meth c Q P D dA base b L xs μ0 n0 cE sE F pc ls st h := by
  unfold am_x_lreturn at h1
  split at h1
  · split at h1
    · exact sm_ret hd (Or.inr (Or.inr (Or.inl ⟨_, rfl, rfl, rfl⟩))) rfl h1.1 h1.2
    · exact h1.elim
  · exact h1.elim
theorem sm_x_areturn (hd : decode P.2.1 pc = .ok (.areturn, 1)) {n : Nat} (h1 : am_x_areturn (sm_nx p l e R s m args below meth c Q P D dA base b L xs μ0 n0 cE sE F) CL (fun v h' => h' = F ∧ sm_rt p l e R s m args below meth c Q P D dA base b L xs μ0 n0 cE sE F rk v) False rk n ts cv cj ls st h) : sm_nx p l e R s m args below meth c Q P D dA base b L xs μ0 n0 cE sE F pc ls st h := by
  unfold am_x_areturn at h1
  split at h1
  · split at h1
    · exact sm_ret hd (Or.inr (Or.inr (Or.inr ⟨_, rfl, rfl, rfl⟩))) rfl h1.1 h1.2
    · exact h1.elim
  · exact h1.elim
theorem sm_x_return (hd : decode P.2.1 pc = .ok (.return_, 1)) {n : Nat} (h1 : am_x_return_ (sm_nx p l e R s m args below meth c Q P D dA base b L xs μ0 n0 cE sE F) CL (fun v h' => h' = F ∧ sm_rt p l e R s m args below meth c Q P D dA base b L xs μ0 n0 cE sE F rk v) False rk n ts cv cj ls st h) : sm_nx p l e R s m args below meth c Q P D dA base b L xs μ0 n0 cE sE F pc ls st h := by
  unfold am_x_return_ at h1
  split at h1
  · split at h1
    · exact sm_ret hd (Or.inl ⟨rfl, rfl, rfl⟩) rfl h1.1 h1.2
    · exact h1.elim
  · exact h1.elim
theorem sm_x_null (hx : p.tables.exec = Jvm.exec) (hb : c.code = P.2.1) (hd : decode P.2.1 pc = .ok (.aconst_null, 1)) (h1 : am_x_aconst_null (sm_nx p l e R s m args below meth c Q P D dA base b L xs μ0 n0 cE sE F) CL RT False rk (pc + 1) ts cv cj ls st h) : sm_nx p l e R s m args below meth c Q P D dA base b L xs μ0 n0 cE sE F pc ls st h := by
  unfold am_x_aconst_null at h1
  exact ⟨h1.1, h1.2.1, fun hn μ H locs cells slots A hR hL hw hS hm hc hs => lv_null hx hb hd (h1.2.2 hn μ H locs cells slots A hR hL (sm_wc sm_wv_n hw) hS hm hc hs)⟩
theorem sm_len_of {i : Instr} {l0 k : Nat} (hk : sm_len i = k) (k0 : k ≠ 0) (h : sm_len i = 0 ∨ sm_len i = l0) : l0 = k := by omega
set_option maxHeartbeats 4000000 in
theorem sm_step (C : sm_cx p R s m args meth c P Ts D dA base b L xs cE sE) {i : Instr} {n q : Nat} {l0 : Nat} (hd : decode P.2.1 pc = .ok (i, l0)) (hnl : n = pc + l0) (hlen : sm_len i = 0 ∨ sm_len i = l0) (hop : sm_opB P.1.cls (decide (P.1.name = "<init>")) P.2.2.2.2.1 P.2.2.2.2.2.1 pc i ts cv cj q = true) (h1 : am_exe (sm_nx p l e R s m args below meth c Q P D dA base b L xs μ0 n0 cE sE F) (fun mi rk' nL as pc ls st h => ∃ v h1, (mi < 165 → (sm_P mi).2.2.1 = nL → sm_call l D dA base b L xs mi as h v h1) ∧ sm_nx p l e R s m args below meth c Q P D dA base b L xs μ0 n0 cE sE F pc ls (v.toList ++ st) h1) (fun v h' => h' = F ∧ sm_rt p l e R s m args below meth c Q P D dA base b L xs μ0 n0 cE sE F rk v) False rk i n ts cv cj ls st h) : sm_nx p l e R s m args below meth c Q P D dA base b L xs μ0 n0 cE sE F pc ls st h := by
  subst hnl
  obtain ⟨hx, hb, hml, hown, hts, hG, hNT, hAO, hK, hX, hbb, hbs, hin, hfr, hlo, hcE, hsE⟩ := id C
  unfold am_exe at h1
  cases i with
  | iadd =>
    obtain rfl : l0 = 1 := sm_len_of rfl (by decide) hlen
    dsimp only [am_sel] at h1
    exact sm_x_iadd hx hb hd h1
  | isub =>
    obtain rfl : l0 = 1 := sm_len_of rfl (by decide) hlen
    dsimp only [am_sel] at h1
    exact sm_x_isub hx hb hd h1
  | imul =>
    obtain rfl : l0 = 1 := sm_len_of rfl (by decide) hlen
    dsimp only [am_sel] at h1
    exact sm_x_imul hx hb hd h1
  | iand =>
    obtain rfl : l0 = 1 := sm_len_of rfl (by decide) hlen
    dsimp only [am_sel] at h1
    exact sm_x_iand hx hb hd h1
  | ior =>
    obtain rfl : l0 = 1 := sm_len_of rfl (by decide) hlen
    dsimp only [am_sel] at h1
    exact sm_x_ior hx hb hd h1
  | ixor =>
    obtain rfl : l0 = 1 := sm_len_of rfl (by decide) hlen
    dsimp only [am_sel] at h1
    exact sm_x_ixor hx hb hd h1
  | ishl =>
    obtain rfl : l0 = 1 := sm_len_of rfl (by decide) hlen
    dsimp only [am_sel] at h1
    exact sm_x_ishl hx hb hd h1
  | ishr =>
    obtain rfl : l0 = 1 := sm_len_of rfl (by decide) hlen
    dsimp only [am_sel] at h1
    exact sm_x_ishr hx hb hd h1
  | idiv =>
    obtain rfl : l0 = 1 := sm_len_of rfl (by decide) hlen
    dsimp only [am_sel] at h1
    exact sm_x_idiv hx hb hd h1
  | irem =>
    obtain rfl : l0 = 1 := sm_len_of rfl (by decide) hlen
    dsimp only [am_sel] at h1
    exact sm_x_irem hx hb hd h1
  | ladd =>
    obtain rfl : l0 = 1 := sm_len_of rfl (by decide) hlen
    dsimp only [am_sel] at h1
    exact sm_x_ladd hx hb hd h1
  | lsub =>
    obtain rfl : l0 = 1 := sm_len_of rfl (by decide) hlen
    dsimp only [am_sel] at h1
    exact sm_x_lsub hx hb hd h1
  | lmul =>
    obtain rfl : l0 = 1 := sm_len_of rfl (by decide) hlen
    dsimp only [am_sel] at h1
    exact sm_x_lmul hx hb hd h1
  | land =>
    obtain rfl : l0 = 1 := sm_len_of rfl (by decide) hlen
    dsimp only [am_sel] at h1
    exact sm_x_land hx hb hd h1
  | lor =>
    obtain rfl : l0 = 1 := sm_len_of rfl (by decide) hlen
    dsimp only [am_sel] at h1
    exact sm_x_lor hx hb hd h1
  | lxor =>
    obtain rfl : l0 = 1 := sm_len_of rfl (by decide) hlen
    dsimp only [am_sel] at h1
    exact sm_x_lxor hx hb hd h1
  | ldiv =>
    obtain rfl : l0 = 1 := sm_len_of rfl (by decide) hlen
    dsimp only [am_sel] at h1
    exact sm_x_ldiv hx hb hd h1
  | lrem =>
    obtain rfl : l0 = 1 := sm_len_of rfl (by decide) hlen
    dsimp only [am_sel] at h1
    exact sm_x_lrem hx hb hd h1
  | lneg =>
    obtain rfl : l0 = 1 := sm_len_of rfl (by decide) hlen
    dsimp only [am_sel] at h1
    exact sm_x_lneg hx hb hd h1
  | lshl =>
    obtain rfl : l0 = 1 := sm_len_of rfl (by decide) hlen
    dsimp only [am_sel] at h1
    exact sm_x_lshl hx hb hd h1
  | lushr =>
    obtain rfl : l0 = 1 := sm_len_of rfl (by decide) hlen
    dsimp only [am_sel] at h1
    exact sm_x_lushr hx hb hd h1
  | lcmp =>
    obtain rfl : l0 = 1 := sm_len_of rfl (by decide) hlen
    dsimp only [am_sel] at h1
    exact sm_x_lcmp hx hb hd h1
  | i2l =>
    obtain rfl : l0 = 1 := sm_len_of rfl (by decide) hlen
    dsimp only [am_sel] at h1
    exact sm_x_i2l hx hb hd h1
  | l2i =>
    obtain rfl : l0 = 1 := sm_len_of rfl (by decide) hlen
    dsimp only [am_sel] at h1
    exact sm_x_l2i hx hb hd h1
  | i2c =>
    obtain rfl : l0 = 1 := sm_len_of rfl (by decide) hlen
    dsimp only [am_sel] at h1
    exact sm_x_i2c hx hb hd h1
  | dup =>
    obtain rfl : l0 = 1 := sm_len_of rfl (by decide) hlen
    dsimp only [am_sel] at h1
    exact sm_x_dup hx hb hd h1
  | dup2 =>
    obtain rfl : l0 = 1 := sm_len_of rfl (by decide) hlen
    dsimp only [am_sel] at h1
    exact sm_x_dup2 hx hb hd h1
  | iload k =>
    obtain rfl : l0 = 2 := sm_len_of rfl (by decide) hlen
    dsimp only [am_sel] at h1
    exact sm_x_iload hx hb hd h1
  | iload_n k =>
    obtain rfl : l0 = 1 := sm_len_of rfl (by decide) hlen
    dsimp only [am_sel] at h1
    exact sm_x_iload_n hx hb hd h1
  | lload k =>
    obtain rfl : l0 = 2 := sm_len_of rfl (by decide) hlen
    dsimp only [am_sel] at h1
    exact sm_x_lload hx hb hd h1
  | lload_n k =>
    obtain rfl : l0 = 1 := sm_len_of rfl (by decide) hlen
    dsimp only [am_sel] at h1
    exact sm_x_lload_n hx hb hd h1
  | aload k =>
    obtain rfl : l0 = 2 := sm_len_of rfl (by decide) hlen
    dsimp only [am_sel] at h1
    exact sm_x_aload hx hb hd h1
  | aload_n k =>
    obtain rfl : l0 = 1 := sm_len_of rfl (by decide) hlen
    dsimp only [am_sel] at h1
    exact sm_x_aload_n hx hb hd h1
  | istore k =>
    obtain rfl : l0 = 2 := sm_len_of rfl (by decide) hlen
    dsimp only [am_sel] at h1
    exact sm_x_istore hx hb hd h1
  | istore_n k =>
    obtain rfl : l0 = 1 := sm_len_of rfl (by decide) hlen
    dsimp only [am_sel] at h1
    exact sm_x_istore_n hx hb hd h1
  | lstore k =>
    obtain rfl : l0 = 2 := sm_len_of rfl (by decide) hlen
    dsimp only [am_sel] at h1
    exact sm_x_lstore hx hb hd h1
  | lstore_n k =>
    obtain rfl : l0 = 1 := sm_len_of rfl (by decide) hlen
    dsimp only [am_sel] at h1
    exact sm_x_lstore_n hx hb hd h1
  | astore k =>
    obtain rfl : l0 = 2 := sm_len_of rfl (by decide) hlen
    dsimp only [am_sel] at h1
    exact sm_x_astore hx hb hd h1
  | astore_n k =>
    obtain rfl : l0 = 1 := sm_len_of rfl (by decide) hlen
    dsimp only [am_sel] at h1
    exact sm_x_astore_n hx hb hd h1
  | iconst k =>
    obtain rfl : l0 = 1 := sm_len_of rfl (by decide) hlen
    dsimp only [am_sel] at h1
    exact sm_x_iconst hx hb (of_decide_eq_true hop) hd h1
  | bipush k =>
    obtain rfl : l0 = 2 := sm_len_of rfl (by decide) hlen
    dsimp only [am_sel] at h1
    exact sm_x_bipush hx hb (of_decide_eq_true hop) hd h1
  | sipush k =>
    obtain rfl : l0 = 3 := sm_len_of rfl (by decide) hlen
    dsimp only [am_sel] at h1
    exact sm_x_sipush hx hb (of_decide_eq_true hop) hd h1
  | lconst k =>
    obtain rfl : l0 = 1 := sm_len_of rfl (by decide) hlen
    dsimp only [am_sel] at h1
    exact sm_x_lconst hx hb (of_decide_eq_true hop) hd h1
  | ldc k =>
    obtain rfl : l0 = 2 := sm_len_of rfl (by decide) hlen
    dsimp only [am_sel] at h1
    exact sm_x_ldc hx hb hown (hts _ (hG _ (List.mem_filter.mpr ⟨List.mem_of_getElem? (of_decide_eq_true hop), rfl⟩))) hd h1
  | ldc2_w k =>
    obtain rfl : l0 = 3 := sm_len_of rfl (by decide) hlen
    dsimp only [am_sel] at h1
    exact sm_x_ldc2 hx hb hown (hts _ (hG _ (List.mem_filter.mpr ⟨List.mem_of_getElem? (of_decide_eq_true hop), rfl⟩))) hd h1
  | iinc k z =>
    obtain rfl : l0 = 3 := sm_len_of rfl (by decide) hlen
    dsimp only [am_sel] at h1
    exact sm_x_iinc hx hb (of_decide_eq_true hop) hd h1
  | goto off =>
    obtain rfl : l0 = 3 := sm_len_of rfl (by decide) hlen
    dsimp only [am_sel] at h1
    have hj : sm_jB pc off ts = true := hop
    clear hop
    unfold sm_jB at hj
    split at hj
    rotate_left
    · cases hj
    have hj2 := of_decide_eq_true hj
    exact sm_x_goto hx hb hj2 hd h1
  | ifnonnull off =>
    obtain rfl : l0 = 3 := sm_len_of rfl (by decide) hlen
    dsimp only [am_sel] at h1
    have hj : sm_jB pc off ts = true := hop
    clear hop
    unfold sm_jB at hj
    split at hj
    rotate_left
    · cases hj
    have hj2 := of_decide_eq_true hj
    exact sm_x_ifnonnull hx hb hj2 hd h1
  | ifCond cc off =>
    obtain rfl : l0 = 3 := sm_len_of rfl (by decide) hlen
    have hj : sm_jB pc off ts = true := hop
    clear hop
    unfold sm_jB at hj
    split at hj
    rotate_left
    · cases hj
    have hj2 := of_decide_eq_true hj
    cases cc <;> dsimp only [am_sel] at h1
    · exact sm_x_ifCond_eq hx hb hj2 hd h1
    · exact sm_x_ifCond_ne hx hb hj2 hd h1
    · exact sm_x_ifCond_lt hx hb hj2 hd h1
    · exact sm_x_ifCond_ge hx hb hj2 hd h1
    · exact sm_x_ifCond_gt hx hb hj2 hd h1
    · exact sm_x_ifCond_le hx hb hj2 hd h1
  | if_icmp cc off =>
    obtain rfl : l0 = 3 := sm_len_of rfl (by decide) hlen
    have hj : sm_jB pc off ts = true := hop
    clear hop
    unfold sm_jB at hj
    split at hj
    rotate_left
    · cases hj
    have hj2 := of_decide_eq_true hj
    cases cc <;> dsimp only [am_sel] at h1
    · exact sm_x_if_icmp_eq hx hb hj2 hd h1
    · exact sm_x_if_icmp_ne hx hb hj2 hd h1
    · exact sm_x_if_icmp_lt hx hb hj2 hd h1
    · exact sm_x_if_icmp_ge hx hb hj2 hd h1
    · exact sm_x_if_icmp_gt hx hb hj2 hd h1
    · exact sm_x_if_icmp_le hx hb hj2 hd h1
  | tableswitch d lo hi offs =>
    dsimp only [am_sel] at h1
    unfold sm_opB at hop
    dsimp only at hop
    split at hop
    · simp only [Bool.and_eq_true, decide_eq_true_eq] at hop
      exact sm_x_tableswitch hx hb hop.1 hop.2.1 hop.2.2.1 hop.2.2.2.1 hop.2.2.2.2 hd h1
    · cases hop
  | getfield idx =>
    obtain rfl : l0 = 3 := sm_len_of rfl (by decide) hlen
    dsimp only [am_sel] at h1
    unfold sm_opB at hop
    dsimp only at hop
    split at hop
    · exact sm_x_getfield C (sm_fB_P hop) hd h1
    · cases hop
  | putfield idx =>
    obtain rfl : l0 = 3 := sm_len_of rfl (by decide) hlen
    dsimp only [am_sel] at h1
    unfold sm_opB at hop
    dsimp only at hop
    split at hop
    · rw [Bool.and_eq_true] at hop
      exact sm_x_putfield C (sm_fB_P hop.1) (sm_wB_P hop.2) hd h1
    · cases hop
  | new idx =>
    obtain rfl : l0 = 3 := sm_len_of rfl (by decide) hlen
    dsimp only [am_sel] at h1
    unfold sm_opB at hop
    dsimp only at hop
    split at hop
    · split at hop
      · rename_i r hr
        simp only [Bool.and_eq_true, decide_eq_true_eq] at hop
        exact sm_x_new C hr hop.1 (List.mem_filter.mpr ⟨List.mem_of_getElem? hop.2, rfl⟩) hd h1
      · cases hop
    · cases hop
  | newarray t =>
    obtain rfl : l0 = 2 := sm_len_of rfl (by decide) hlen
    dsimp only [am_sel] at h1
    unfold sm_opB at hop
    dsimp only at hop
    split at hop
    · exact sm_x_newarrI C (of_decide_eq_true hop) hd h1
    · exact sm_x_newarrJ C (of_decide_eq_true hop) hd h1
    · exact sm_x_newarrC C (of_decide_eq_true hop) hd h1
    · cases hop
  | anewarray idx =>
    obtain rfl : l0 = 3 := sm_len_of rfl (by decide) hlen
    dsimp only [am_sel] at h1
    exact sm_x_anewarray C (List.mem_filter.mpr ⟨List.mem_of_getElem? (of_decide_eq_true hop), rfl⟩) hd h1
  | arraylength =>
    obtain rfl : l0 = 1 := sm_len_of rfl (by decide) hlen
    dsimp only [am_sel] at h1
    exact sm_x_arraylength C hd h1
  | iaload =>
    obtain rfl : l0 = 1 := sm_len_of rfl (by decide) hlen
    dsimp only [am_sel] at h1
    exact sm_x_iaload C hd h1
  | laload =>
    obtain rfl : l0 = 1 := sm_len_of rfl (by decide) hlen
    dsimp only [am_sel] at h1
    exact sm_x_laload C hd h1
  | caload =>
    obtain rfl : l0 = 1 := sm_len_of rfl (by decide) hlen
    dsimp only [am_sel] at h1
    exact sm_x_caload C hd h1
  | aaload =>
    obtain rfl : l0 = 1 := sm_len_of rfl (by decide) hlen
    dsimp only [am_sel] at h1
    exact sm_x_aaload C hd h1
  | iastore =>
    obtain rfl : l0 = 1 := sm_len_of rfl (by decide) hlen
    dsimp only [am_sel] at h1
    exact sm_x_iastore C hd h1
  | lastore =>
    obtain rfl : l0 = 1 := sm_len_of rfl (by decide) hlen
    dsimp only [am_sel] at h1
    exact sm_x_lastore C hd h1
  | castore =>
    obtain rfl : l0 = 1 := sm_len_of rfl (by decide) hlen
    dsimp only [am_sel] at h1
    exact sm_x_castore C hd h1
  | aastore =>
    obtain rfl : l0 = 1 := sm_len_of rfl (by decide) hlen
    dsimp only [am_sel] at h1
    exact sm_x_aastore C hd h1
  | ireturn =>
    obtain rfl : l0 = 1 := sm_len_of rfl (by decide) hlen
    dsimp only [am_sel] at h1
    exact sm_x_ireturn hd h1
  | lreturn =>
    obtain rfl : l0 = 1 := sm_len_of rfl (by decide) hlen
    dsimp only [am_sel] at h1
    exact sm_x_lreturn hd h1
  | areturn =>
    obtain rfl : l0 = 1 := sm_len_of rfl (by decide) hlen
    dsimp only [am_sel] at h1
    exact sm_x_areturn hd h1
  | return_ =>
    obtain rfl : l0 = 1 := sm_len_of rfl (by decide) hlen
    dsimp only [am_sel] at h1
    exact sm_x_return hd h1
  | invokevirtual idx =>
    obtain rfl : l0 = 3 := sm_len_of rfl (by decide) hlen
    dsimp only [am_sel] at h1
    unfold sm_opB at hop
    dsimp only at hop
    split at hop
    · simp only [Bool.and_eq_true, decide_eq_true_eq, Bool.not_eq_true'] at hop
      exact sm_x_virtual C hop.1 hop.2.1 hop.2.2.2 hop.2.2.1 hd h1
    · cases hop
  | invokespecial idx =>
    obtain rfl : l0 = 3 := sm_len_of rfl (by decide) hlen
    dsimp only [am_sel] at h1
    unfold sm_opB at hop
    dsimp only at hop
    split at hop
    · simp only [Bool.and_eq_true, decide_eq_true_eq, Bool.not_eq_true'] at hop
      exact sm_x_special C hop.1 hop.2.1 hop.2.2.2 hop.2.2.1 hd h1
    · simp only [Bool.and_eq_true, decide_eq_true_eq] at hop
      exact sm_x_objinit C hop.1 hop.2.1 hop.2.2 hd h1
    · cases hop
  | invokestatic idx =>
    obtain rfl : l0 = 3 := sm_len_of rfl (by decide) hlen
    dsimp only [am_sel] at h1
    unfold sm_opB at hop
    dsimp only at hop
    split at hop
    · rw [Bool.and_eq_true] at hop
      exact sm_x_static C hop.1 hop.2 hd h1
    · simp only [Bool.and_eq_true, decide_eq_true_eq] at hop
      exact sm_x_arraycopy C hop.1 hop.2.1 hop.2.2 hd h1
    · cases hop
  | aconst_null =>
    obtain rfl : l0 = 1 := sm_len_of rfl (by decide) hlen
    dsimp only [am_sel] at h1
    exact sm_x_null hx hb hd h1
  | _ => exact h1.elim
end rest
end
section
/-! ===== the memory only grows ===== -/
theorem am_exe_imp {nx nx' : Nat → List Value → List Value → AH → Prop} {cl cl' : Nat → Nat → Nat → List Value → Nat → List Value → List Value → AH → Prop} {rt rt' : Option Value → AH → Prop} (hn : ∀ a b c d, nx a b c d → nx' a b c d) (hc : ∀ a b c d e g i j, cl a b c d e g i j → cl' a b c d e g i j) (hr : ∀ v h, rt v h → rt' v h) {rk : Nat} {i : Instr} {n : Nat} {ts : List Nat} {cv : Int32} {cj : Int64} {ls st : List Value} {h : AH} (h1 : am_exe nx cl rt False rk i n ts cv cj ls st h) : am_exe nx' cl' rt' False rk i n ts cv cj ls st h := by
  have e1 := am_exe_nat (fun p : Prop × Prop => p.1) (fun a b c d => (nx a b c d, nx' a b c d)) (fun a b c d e g i j => (cl a b c d e g i j, cl' a b c d e g i j)) (fun v h => (rt v h, rt' v h)) (False, False) rk i n ts cv cj ls st h
  have e2 := am_exe_nat (fun p : Prop × Prop => p.2) (fun a b c d => (nx a b c d, nx' a b c d)) (fun a b c d e g i j => (cl a b c d e g i j, cl' a b c d e g i j)) (fun v h => (rt v h, rt' v h)) (False, False) rk i n ts cv cj ls st h
  dsimp only at e1 e2
  rw [← e1] at h1
  rw [← e2]
  have key : ∀ (p : Prop × Prop), (∃ q : {p : Prop × Prop // p.1 → p.2}, q.1 = p) → p.1 → p.2 := fun p ⟨q, h⟩ => h ▸ q.2
  refine key _ ⟨am_exe (fun a b c d => ⟨(nx a b c d, nx' a b c d), hn a b c d⟩) (fun a b c d e g i j => ⟨(cl a b c d e g i j, cl' a b c d e g i j), hc a b c d e g i j⟩) (fun v h => ⟨(rt v h, rt' v h), hr v h⟩) ⟨(False, False), fun z => z⟩ rk i n ts cv cj ls st h, ?_⟩ h1
  exact am_exe_nat (fun q : {p : Prop × Prop // p.1 → p.2} => q.1) _ _ _ _ rk i n ts cv cj ls st h
section len
variable {B : AH → Prop} {rk n : Nat} {ts : List Nat} {cv : Int32} {cj : Int64} {ls st : List Value} {h : AH}
theorem am_len_cI (hI : ∀ h a f, B (am_rI h a f) → B h) (hJ : ∀ h a f, B (am_rJ h a f) → B h) (hR : ∀ h a f, B (am_rR h a f) → B h) (hN : ∀ h k n, B (am_nw h k n) → B h) (h1 : am_x_cI (fun _ _ _ h' => B h') (fun _ _ _ _ _ _ _ h' => B h') (fun _ h' => B h') False rk n ts cv cj ls st h) : B h := by
  unfold am_x_cI at h1
  have k := h1
  (repeat' split at k) <;> first | exact k | exact k.elim | exact hI _ _ _ k | exact hJ _ _ _ k | exact hR _ _ _ k | exact hN _ _ _ k
theorem am_len_cJ (hI : ∀ h a f, B (am_rI h a f) → B h) (hJ : ∀ h a f, B (am_rJ h a f) → B h) (hR : ∀ h a f, B (am_rR h a f) → B h) (hN : ∀ h k n, B (am_nw h k n) → B h) (h1 : am_x_cJ (fun _ _ _ h' => B h') (fun _ _ _ _ _ _ _ h' => B h') (fun _ h' => B h') False rk n ts cv cj ls st h) : B h := by
  unfold am_x_cJ at h1
  have k := h1
  (repeat' split at k) <;> first | exact k | exact k.elim | exact hI _ _ _ k | exact hJ _ _ _ k | exact hR _ _ _ k | exact hN _ _ _ k
theorem am_len_aconst_null (hI : ∀ h a f, B (am_rI h a f) → B h) (hJ : ∀ h a f, B (am_rJ h a f) → B h) (hR : ∀ h a f, B (am_rR h a f) → B h) (hN : ∀ h k n, B (am_nw h k n) → B h) (h1 : am_x_aconst_null (fun _ _ _ h' => B h') (fun _ _ _ _ _ _ _ h' => B h') (fun _ h' => B h') False rk n ts cv cj ls st h) : B h := by
  unfold am_x_aconst_null at h1
  have k := h1
  (repeat' split at k) <;> first | exact k | exact k.elim | exact hI _ _ _ k | exact hJ _ _ _ k | exact hR _ _ _ k | exact hN _ _ _ k
theorem am_len_iload {k0 : Nat} (hI : ∀ h a f, B (am_rI h a f) → B h) (hJ : ∀ h a f, B (am_rJ h a f) → B h) (hR : ∀ h a f, B (am_rR h a f) → B h) (hN : ∀ h k n, B (am_nw h k n) → B h) (h1 : am_x_iload k0 (fun _ _ _ h' => B h') (fun _ _ _ _ _ _ _ h' => B h') (fun _ h' => B h') False rk n ts cv cj ls st h) : B h := by
  unfold am_x_iload at h1
  obtain ⟨x, e, k⟩ := am_ldI_ex h1
  (try unfold am_oe at k)
  (repeat' split at k) <;> first | exact k | exact k.elim | exact hI _ _ _ k | exact hJ _ _ _ k | exact hR _ _ _ k | exact hN _ _ _ k
theorem am_len_lload {k0 : Nat} (hI : ∀ h a f, B (am_rI h a f) → B h) (hJ : ∀ h a f, B (am_rJ h a f) → B h) (hR : ∀ h a f, B (am_rR h a f) → B h) (hN : ∀ h k n, B (am_nw h k n) → B h) (h1 : am_x_lload k0 (fun _ _ _ h' => B h') (fun _ _ _ _ _ _ _ h' => B h') (fun _ h' => B h') False rk n ts cv cj ls st h) : B h := by
  unfold am_x_lload at h1
  obtain ⟨x, e, k⟩ := am_ldJ_ex h1
  (try unfold am_oe at k)
  (repeat' split at k) <;> first | exact k | exact k.elim | exact hI _ _ _ k | exact hJ _ _ _ k | exact hR _ _ _ k | exact hN _ _ _ k
theorem am_len_aload {k0 : Nat} (hI : ∀ h a f, B (am_rI h a f) → B h) (hJ : ∀ h a f, B (am_rJ h a f) → B h) (hR : ∀ h a f, B (am_rR h a f) → B h) (hN : ∀ h k n, B (am_nw h k n) → B h) (h1 : am_x_aload k0 (fun _ _ _ h' => B h') (fun _ _ _ _ _ _ _ h' => B h') (fun _ h' => B h') False rk n ts cv cj ls st h) : B h := by
  unfold am_x_aload at h1
  obtain ⟨x, e, k⟩ := am_ldA_ex h1
  (try unfold am_oe at k)
  (repeat' split at k) <;> first | exact k | exact k.elim | exact hI _ _ _ k | exact hJ _ _ _ k | exact hR _ _ _ k | exact hN _ _ _ k
theorem am_len_istore {k0 : Nat} (hI : ∀ h a f, B (am_rI h a f) → B h) (hJ : ∀ h a f, B (am_rJ h a f) → B h) (hR : ∀ h a f, B (am_rR h a f) → B h) (hN : ∀ h k n, B (am_nw h k n) → B h) (h1 : am_x_istore k0 (fun _ _ _ h' => B h') (fun _ _ _ _ _ _ _ h' => B h') (fun _ h' => B h') False rk n ts cv cj ls st h) : B h := by
  unfold am_x_istore at h1
  obtain ⟨x, r, e, k⟩ := am_i1_ex h1
  (try unfold am_oe at k)
  (repeat' split at k) <;> first | exact k | exact k.elim | exact hI _ _ _ k | exact hJ _ _ _ k | exact hR _ _ _ k | exact hN _ _ _ k
theorem am_len_lstore {k0 : Nat} (hI : ∀ h a f, B (am_rI h a f) → B h) (hJ : ∀ h a f, B (am_rJ h a f) → B h) (hR : ∀ h a f, B (am_rR h a f) → B h) (hN : ∀ h k n, B (am_nw h k n) → B h) (h1 : am_x_lstore k0 (fun _ _ _ h' => B h') (fun _ _ _ _ _ _ _ h' => B h') (fun _ h' => B h') False rk n ts cv cj ls st h) : B h := by
  unfold am_x_lstore at h1
  obtain ⟨x, r, e, k⟩ := am_l1_ex h1
  (try unfold am_oe at k)
  (repeat' split at k) <;> first | exact k | exact k.elim | exact hI _ _ _ k | exact hJ _ _ _ k | exact hR _ _ _ k | exact hN _ _ _ k
theorem am_len_astore {k0 : Nat} (hI : ∀ h a f, B (am_rI h a f) → B h) (hJ : ∀ h a f, B (am_rJ h a f) → B h) (hR : ∀ h a f, B (am_rR h a f) → B h) (hN : ∀ h k n, B (am_nw h k n) → B h) (h1 : am_x_astore k0 (fun _ _ _ h' => B h') (fun _ _ _ _ _ _ _ h' => B h') (fun _ h' => B h') False rk n ts cv cj ls st h) : B h := by
  unfold am_x_astore at h1
  obtain ⟨x, r, e, k⟩ := am_o1_ex h1
  (try unfold am_oe at k)
  (repeat' split at k) <;> first | exact k | exact k.elim | exact hI _ _ _ k | exact hJ _ _ _ k | exact hR _ _ _ k | exact hN _ _ _ k
theorem am_len_iinc {k0 : Nat} (hI : ∀ h a f, B (am_rI h a f) → B h) (hJ : ∀ h a f, B (am_rJ h a f) → B h) (hR : ∀ h a f, B (am_rR h a f) → B h) (hN : ∀ h k n, B (am_nw h k n) → B h) (h1 : am_x_iinc k0 (fun _ _ _ h' => B h') (fun _ _ _ _ _ _ _ h' => B h') (fun _ h' => B h') False rk n ts cv cj ls st h) : B h := by
  unfold am_x_iinc at h1
  obtain ⟨x, e, k⟩ := am_ldI_ex h1
  (try unfold am_oe at k)
  (repeat' split at k) <;> first | exact k | exact k.elim | exact hI _ _ _ k | exact hJ _ _ _ k | exact hR _ _ _ k | exact hN _ _ _ k
theorem am_len_iadd (hI : ∀ h a f, B (am_rI h a f) → B h) (hJ : ∀ h a f, B (am_rJ h a f) → B h) (hR : ∀ h a f, B (am_rR h a f) → B h) (hN : ∀ h k n, B (am_nw h k n) → B h) (h1 : am_x_iadd (fun _ _ _ h' => B h') (fun _ _ _ _ _ _ _ h' => B h') (fun _ h' => B h') False rk n ts cv cj ls st h) : B h := by
  unfold am_x_iadd at h1
  obtain ⟨x, y, r, e, k⟩ := am_i2_ex h1
  (try unfold am_oe at k)
  (repeat' split at k) <;> first | exact k | exact k.elim | exact hI _ _ _ k | exact hJ _ _ _ k | exact hR _ _ _ k | exact hN _ _ _ k
theorem am_len_isub (hI : ∀ h a f, B (am_rI h a f) → B h) (hJ : ∀ h a f, B (am_rJ h a f) → B h) (hR : ∀ h a f, B (am_rR h a f) → B h) (hN : ∀ h k n, B (am_nw h k n) → B h) (h1 : am_x_isub (fun _ _ _ h' => B h') (fun _ _ _ _ _ _ _ h' => B h') (fun _ h' => B h') False rk n ts cv cj ls st h) : B h := by
  unfold am_x_isub at h1
  obtain ⟨x, y, r, e, k⟩ := am_i2_ex h1
  (try unfold am_oe at k)
  (repeat' split at k) <;> first | exact k | exact k.elim | exact hI _ _ _ k | exact hJ _ _ _ k | exact hR _ _ _ k | exact hN _ _ _ k
theorem am_len_imul (hI : ∀ h a f, B (am_rI h a f) → B h) (hJ : ∀ h a f, B (am_rJ h a f) → B h) (hR : ∀ h a f, B (am_rR h a f) → B h) (hN : ∀ h k n, B (am_nw h k n) → B h) (h1 : am_x_imul (fun _ _ _ h' => B h') (fun _ _ _ _ _ _ _ h' => B h') (fun _ h' => B h') False rk n ts cv cj ls st h) : B h := by
  unfold am_x_imul at h1
  obtain ⟨x, y, r, e, k⟩ := am_i2_ex h1
  (try unfold am_oe at k)
  (repeat' split at k) <;> first | exact k | exact k.elim | exact hI _ _ _ k | exact hJ _ _ _ k | exact hR _ _ _ k | exact hN _ _ _ k
theorem am_len_iand (hI : ∀ h a f, B (am_rI h a f) → B h) (hJ : ∀ h a f, B (am_rJ h a f) → B h) (hR : ∀ h a f, B (am_rR h a f) → B h) (hN : ∀ h k n, B (am_nw h k n) → B h) (h1 : am_x_iand (fun _ _ _ h' => B h') (fun _ _ _ _ _ _ _ h' => B h') (fun _ h' => B h') False rk n ts cv cj ls st h) : B h := by
  unfold am_x_iand at h1
  obtain ⟨x, y, r, e, k⟩ := am_i2_ex h1
  (try unfold am_oe at k)
  (repeat' split at k) <;> first | exact k | exact k.elim | exact hI _ _ _ k | exact hJ _ _ _ k | exact hR _ _ _ k | exact hN _ _ _ k
theorem am_len_ior (hI : ∀ h a f, B (am_rI h a f) → B h) (hJ : ∀ h a f, B (am_rJ h a f) → B h) (hR : ∀ h a f, B (am_rR h a f) → B h) (hN : ∀ h k n, B (am_nw h k n) → B h) (h1 : am_x_ior (fun _ _ _ h' => B h') (fun _ _ _ _ _ _ _ h' => B h') (fun _ h' => B h') False rk n ts cv cj ls st h) : B h := by
  unfold am_x_ior at h1
  obtain ⟨x, y, r, e, k⟩ := am_i2_ex h1
  (try unfold am_oe at k)
  (repeat' split at k) <;> first | exact k | exact k.elim | exact hI _ _ _ k | exact hJ _ _ _ k | exact hR _ _ _ k | exact hN _ _ _ k
theorem am_len_ixor (hI : ∀ h a f, B (am_rI h a f) → B h) (hJ : ∀ h a f, B (am_rJ h a f) → B h) (hR : ∀ h a f, B (am_rR h a f) → B h) (hN : ∀ h k n, B (am_nw h k n) → B h) (h1 : am_x_ixor (fun _ _ _ h' => B h') (fun _ _ _ _ _ _ _ h' => B h') (fun _ h' => B h') False rk n ts cv cj ls st h) : B h := by
  unfold am_x_ixor at h1
  obtain ⟨x, y, r, e, k⟩ := am_i2_ex h1
  (try unfold am_oe at k)
  (repeat' split at k) <;> first | exact k | exact k.elim | exact hI _ _ _ k | exact hJ _ _ _ k | exact hR _ _ _ k | exact hN _ _ _ k
theorem am_len_idiv (hI : ∀ h a f, B (am_rI h a f) → B h) (hJ : ∀ h a f, B (am_rJ h a f) → B h) (hR : ∀ h a f, B (am_rR h a f) → B h) (hN : ∀ h k n, B (am_nw h k n) → B h) (h1 : am_x_idiv (fun _ _ _ h' => B h') (fun _ _ _ _ _ _ _ h' => B h') (fun _ h' => B h') False rk n ts cv cj ls st h) : B h := by
  unfold am_x_idiv at h1
  obtain ⟨x, y, r, e, k⟩ := am_i2_ex h1
  (try unfold am_oe at k)
  (repeat' split at k) <;> first | exact k | exact k.elim | exact hI _ _ _ k | exact hJ _ _ _ k | exact hR _ _ _ k | exact hN _ _ _ k
theorem am_len_irem (hI : ∀ h a f, B (am_rI h a f) → B h) (hJ : ∀ h a f, B (am_rJ h a f) → B h) (hR : ∀ h a f, B (am_rR h a f) → B h) (hN : ∀ h k n, B (am_nw h k n) → B h) (h1 : am_x_irem (fun _ _ _ h' => B h') (fun _ _ _ _ _ _ _ h' => B h') (fun _ h' => B h') False rk n ts cv cj ls st h) : B h := by
  unfold am_x_irem at h1
  obtain ⟨x, y, r, e, k⟩ := am_i2_ex h1
  (try unfold am_oe at k)
  (repeat' split at k) <;> first | exact k | exact k.elim | exact hI _ _ _ k | exact hJ _ _ _ k | exact hR _ _ _ k | exact hN _ _ _ k
theorem am_len_ishl (hI : ∀ h a f, B (am_rI h a f) → B h) (hJ : ∀ h a f, B (am_rJ h a f) → B h) (hR : ∀ h a f, B (am_rR h a f) → B h) (hN : ∀ h k n, B (am_nw h k n) → B h) (h1 : am_x_ishl (fun _ _ _ h' => B h') (fun _ _ _ _ _ _ _ h' => B h') (fun _ h' => B h') False rk n ts cv cj ls st h) : B h := by
  unfold am_x_ishl at h1
  obtain ⟨x, y, r, e, k⟩ := am_i2_ex h1
  (try unfold am_oe at k)
  (repeat' split at k) <;> first | exact k | exact k.elim | exact hI _ _ _ k | exact hJ _ _ _ k | exact hR _ _ _ k | exact hN _ _ _ k
theorem am_len_ishr (hI : ∀ h a f, B (am_rI h a f) → B h) (hJ : ∀ h a f, B (am_rJ h a f) → B h) (hR : ∀ h a f, B (am_rR h a f) → B h) (hN : ∀ h k n, B (am_nw h k n) → B h) (h1 : am_x_ishr (fun _ _ _ h' => B h') (fun _ _ _ _ _ _ _ h' => B h') (fun _ h' => B h') False rk n ts cv cj ls st h) : B h := by
  unfold am_x_ishr at h1
  obtain ⟨x, y, r, e, k⟩ := am_i2_ex h1
  (try unfold am_oe at k)
  (repeat' split at k) <;> first | exact k | exact k.elim | exact hI _ _ _ k | exact hJ _ _ _ k | exact hR _ _ _ k | exact hN _ _ _ k
theorem am_len_ladd (hI : ∀ h a f, B (am_rI h a f) → B h) (hJ : ∀ h a f, B (am_rJ h a f) → B h) (hR : ∀ h a f, B (am_rR h a f) → B h) (hN : ∀ h k n, B (am_nw h k n) → B h) (h1 : am_x_ladd (fun _ _ _ h' => B h') (fun _ _ _ _ _ _ _ h' => B h') (fun _ h' => B h') False rk n ts cv cj ls st h) : B h := by
  unfold am_x_ladd at h1
  obtain ⟨x, y, r, e, k⟩ := am_l2_ex h1
  (try unfold am_oe at k)
  (repeat' split at k) <;> first | exact k | exact k.elim | exact hI _ _ _ k | exact hJ _ _ _ k | exact hR _ _ _ k | exact hN _ _ _ k
theorem am_len_lsub (hI : ∀ h a f, B (am_rI h a f) → B h) (hJ : ∀ h a f, B (am_rJ h a f) → B h) (hR : ∀ h a f, B (am_rR h a f) → B h) (hN : ∀ h k n, B (am_nw h k n) → B h) (h1 : am_x_lsub (fun _ _ _ h' => B h') (fun _ _ _ _ _ _ _ h' => B h') (fun _ h' => B h') False rk n ts cv cj ls st h) : B h := by
  unfold am_x_lsub at h1
  obtain ⟨x, y, r, e, k⟩ := am_l2_ex h1
  (try unfold am_oe at k)
  (repeat' split at k) <;> first | exact k | exact k.elim | exact hI _ _ _ k | exact hJ _ _ _ k | exact hR _ _ _ k | exact hN _ _ _ k
theorem am_len_lmul (hI : ∀ h a f, B (am_rI h a f) → B h) (hJ : ∀ h a f, B (am_rJ h a f) → B h) (hR : ∀ h a f, B (am_rR h a f) → B h) (hN : ∀ h k n, B (am_nw h k n) → B h) (h1 : am_x_lmul (fun _ _ _ h' => B h') (fun _ _ _ _ _ _ _ h' => B h') (fun _ h' => B h') False rk n ts cv cj ls st h) : B h := by
  unfold am_x_lmul at h1
  obtain ⟨x, y, r, e, k⟩ := am_l2_ex h1
  (try unfold am_oe at k)
  (repeat' split at k) <;> first | exact k | exact k.elim | exact hI _ _ _ k | exact hJ _ _ _ k | exact hR _ _ _ k | exact hN _ _ _ k
theorem am_len_land (hI : ∀ h a f, B (am_rI h a f) → B h) (hJ : ∀ h a f, B (am_rJ h a f) → B h) (hR : ∀ h a f, B (am_rR h a f) → B h) (hN : ∀ h k n, B (am_nw h k n) → B h) (h1 : am_x_land (fun _ _ _ h' => B h') (fun _ _ _ _ _ _ _ h' => B h') (fun _ h' => B h') False rk n ts cv cj ls st h) : B h := by
  unfold am_x_land at h1
  obtain ⟨x, y, r, e, k⟩ := am_l2_ex h1
  (try unfold am_oe at k)
  (repeat' split at k) <;> first | exact k | exact k.elim | exact hI _ _ _ k | exact hJ _ _ _ k | exact hR _ _ _ k | exact hN _ _ _ k
theorem am_len_lor (hI : ∀ h a f, B (am_rI h a f) → B h) (hJ : ∀ h a f, B (am_rJ h a f) → B h) (hR : ∀ h a f, B (am_rR h a f) → B h) (hN : ∀ h k n, B (am_nw h k n) → B h) (h1 : am_x_lor (fun _ _ _ h' => B h') (fun _ _ _ _ _ _ _ h' => B h') (fun _ h' => B h') False rk n ts cv cj ls st h) : B h := by
  unfold am_x_lor at h1
  obtain ⟨x, y, r, e, k⟩ := am_l2_ex h1
  (try unfold am_oe at k)
  (repeat' split at k) <;> first | exact k | exact k.elim | exact hI _ _ _ k | exact hJ _ _ _ k | exact hR _ _ _ k | exact hN _ _ _ k
theorem am_len_lxor (hI : ∀ h a f, B (am_rI h a f) → B h) (hJ : ∀ h a f, B (am_rJ h a f) → B h) (hR : ∀ h a f, B (am_rR h a f) → B h) (hN : ∀ h k n, B (am_nw h k n) → B h) (h1 : am_x_lxor (fun _ _ _ h' => B h') (fun _ _ _ _ _ _ _ h' => B h') (fun _ h' => B h') False rk n ts cv cj ls st h) : B h := by
  unfold am_x_lxor at h1
  obtain ⟨x, y, r, e, k⟩ := am_l2_ex h1
  (try unfold am_oe at k)
  (repeat' split at k) <;> first | exact k | exact k.elim | exact hI _ _ _ k | exact hJ _ _ _ k | exact hR _ _ _ k | exact hN _ _ _ k
theorem am_len_ldiv (hI : ∀ h a f, B (am_rI h a f) → B h) (hJ : ∀ h a f, B (am_rJ h a f) → B h) (hR : ∀ h a f, B (am_rR h a f) → B h) (hN : ∀ h k n, B (am_nw h k n) → B h) (h1 : am_x_ldiv (fun _ _ _ h' => B h') (fun _ _ _ _ _ _ _ h' => B h') (fun _ h' => B h') False rk n ts cv cj ls st h) : B h := by
  unfold am_x_ldiv at h1
  obtain ⟨x, y, r, e, k⟩ := am_l2_ex h1
  (try unfold am_oe at k)
  (repeat' split at k) <;> first | exact k | exact k.elim | exact hI _ _ _ k | exact hJ _ _ _ k | exact hR _ _ _ k | exact hN _ _ _ k
theorem am_len_lrem (hI : ∀ h a f, B (am_rI h a f) → B h) (hJ : ∀ h a f, B (am_rJ h a f) → B h) (hR : ∀ h a f, B (am_rR h a f) → B h) (hN : ∀ h k n, B (am_nw h k n) → B h) (h1 : am_x_lrem (fun _ _ _ h' => B h') (fun _ _ _ _ _ _ _ h' => B h') (fun _ h' => B h') False rk n ts cv cj ls st h) : B h := by
  unfold am_x_lrem at h1
  obtain ⟨x, y, r, e, k⟩ := am_l2_ex h1
  (try unfold am_oe at k)
  (repeat' split at k) <;> first | exact k | exact k.elim | exact hI _ _ _ k | exact hJ _ _ _ k | exact hR _ _ _ k | exact hN _ _ _ k
theorem am_len_lneg (hI : ∀ h a f, B (am_rI h a f) → B h) (hJ : ∀ h a f, B (am_rJ h a f) → B h) (hR : ∀ h a f, B (am_rR h a f) → B h) (hN : ∀ h k n, B (am_nw h k n) → B h) (h1 : am_x_lneg (fun _ _ _ h' => B h') (fun _ _ _ _ _ _ _ h' => B h') (fun _ h' => B h') False rk n ts cv cj ls st h) : B h := by
  unfold am_x_lneg at h1
  obtain ⟨x, r, e, k⟩ := am_l1_ex h1
  (try unfold am_oe at k)
  (repeat' split at k) <;> first | exact k | exact k.elim | exact hI _ _ _ k | exact hJ _ _ _ k | exact hR _ _ _ k | exact hN _ _ _ k
theorem am_len_lshl (hI : ∀ h a f, B (am_rI h a f) → B h) (hJ : ∀ h a f, B (am_rJ h a f) → B h) (hR : ∀ h a f, B (am_rR h a f) → B h) (hN : ∀ h k n, B (am_nw h k n) → B h) (h1 : am_x_lshl (fun _ _ _ h' => B h') (fun _ _ _ _ _ _ _ h' => B h') (fun _ h' => B h') False rk n ts cv cj ls st h) : B h := by
  unfold am_x_lshl at h1
  obtain ⟨x, y, r, e, k⟩ := am_li_ex h1
  (try unfold am_oe at k)
  (repeat' split at k) <;> first | exact k | exact k.elim | exact hI _ _ _ k | exact hJ _ _ _ k | exact hR _ _ _ k | exact hN _ _ _ k
theorem am_len_lushr (hI : ∀ h a f, B (am_rI h a f) → B h) (hJ : ∀ h a f, B (am_rJ h a f) → B h) (hR : ∀ h a f, B (am_rR h a f) → B h) (hN : ∀ h k n, B (am_nw h k n) → B h) (h1 : am_x_lushr (fun _ _ _ h' => B h') (fun _ _ _ _ _ _ _ h' => B h') (fun _ h' => B h') False rk n ts cv cj ls st h) : B h := by
  unfold am_x_lushr at h1
  obtain ⟨x, y, r, e, k⟩ := am_li_ex h1
  (try unfold am_oe at k)
  (repeat' split at k) <;> first | exact k | exact k.elim | exact hI _ _ _ k | exact hJ _ _ _ k | exact hR _ _ _ k | exact hN _ _ _ k
theorem am_len_lcmp (hI : ∀ h a f, B (am_rI h a f) → B h) (hJ : ∀ h a f, B (am_rJ h a f) → B h) (hR : ∀ h a f, B (am_rR h a f) → B h) (hN : ∀ h k n, B (am_nw h k n) → B h) (h1 : am_x_lcmp (fun _ _ _ h' => B h') (fun _ _ _ _ _ _ _ h' => B h') (fun _ h' => B h') False rk n ts cv cj ls st h) : B h := by
  unfold am_x_lcmp at h1
  obtain ⟨x, y, r, e, k⟩ := am_l2_ex h1
  (try unfold am_oe at k)
  (repeat' split at k) <;> first | exact k | exact k.elim | exact hI _ _ _ k | exact hJ _ _ _ k | exact hR _ _ _ k | exact hN _ _ _ k
theorem am_len_i2l (hI : ∀ h a f, B (am_rI h a f) → B h) (hJ : ∀ h a f, B (am_rJ h a f) → B h) (hR : ∀ h a f, B (am_rR h a f) → B h) (hN : ∀ h k n, B (am_nw h k n) → B h) (h1 : am_x_i2l (fun _ _ _ h' => B h') (fun _ _ _ _ _ _ _ h' => B h') (fun _ h' => B h') False rk n ts cv cj ls st h) : B h := by
  unfold am_x_i2l at h1
  obtain ⟨x, r, e, k⟩ := am_i1_ex h1
  (try unfold am_oe at k)
  (repeat' split at k) <;> first | exact k | exact k.elim | exact hI _ _ _ k | exact hJ _ _ _ k | exact hR _ _ _ k | exact hN _ _ _ k
theorem am_len_l2i (hI : ∀ h a f, B (am_rI h a f) → B h) (hJ : ∀ h a f, B (am_rJ h a f) → B h) (hR : ∀ h a f, B (am_rR h a f) → B h) (hN : ∀ h k n, B (am_nw h k n) → B h) (h1 : am_x_l2i (fun _ _ _ h' => B h') (fun _ _ _ _ _ _ _ h' => B h') (fun _ h' => B h') False rk n ts cv cj ls st h) : B h := by
  unfold am_x_l2i at h1
  obtain ⟨x, r, e, k⟩ := am_l1_ex h1
  (try unfold am_oe at k)
  (repeat' split at k) <;> first | exact k | exact k.elim | exact hI _ _ _ k | exact hJ _ _ _ k | exact hR _ _ _ k | exact hN _ _ _ k
theorem am_len_i2c (hI : ∀ h a f, B (am_rI h a f) → B h) (hJ : ∀ h a f, B (am_rJ h a f) → B h) (hR : ∀ h a f, B (am_rR h a f) → B h) (hN : ∀ h k n, B (am_nw h k n) → B h) (h1 : am_x_i2c (fun _ _ _ h' => B h') (fun _ _ _ _ _ _ _ h' => B h') (fun _ h' => B h') False rk n ts cv cj ls st h) : B h := by
  unfold am_x_i2c at h1
  obtain ⟨x, r, e, k⟩ := am_i1_ex h1
  (try unfold am_oe at k)
  (repeat' split at k) <;> first | exact k | exact k.elim | exact hI _ _ _ k | exact hJ _ _ _ k | exact hR _ _ _ k | exact hN _ _ _ k
theorem am_len_dup (hI : ∀ h a f, B (am_rI h a f) → B h) (hJ : ∀ h a f, B (am_rJ h a f) → B h) (hR : ∀ h a f, B (am_rR h a f) → B h) (hN : ∀ h k n, B (am_nw h k n) → B h) (h1 : am_x_dup (fun _ _ _ h' => B h') (fun _ _ _ _ _ _ _ h' => B h') (fun _ h' => B h') False rk n ts cv cj ls st h) : B h := by
  unfold am_x_dup at h1
  obtain ⟨v, r, e, hv, k⟩ := am_v1_ex h1
  (try unfold am_oe at k)
  (repeat' split at k) <;> first | exact k | exact k.elim | exact hI _ _ _ k | exact hJ _ _ _ k | exact hR _ _ _ k | exact hN _ _ _ k
theorem am_len_dup2 (hI : ∀ h a f, B (am_rI h a f) → B h) (hJ : ∀ h a f, B (am_rJ h a f) → B h) (hR : ∀ h a f, B (am_rR h a f) → B h) (hN : ∀ h k n, B (am_nw h k n) → B h) (h1 : am_x_dup2 (fun _ _ _ h' => B h') (fun _ _ _ _ _ _ _ h' => B h') (fun _ h' => B h') False rk n ts cv cj ls st h) : B h := by
  unfold am_x_dup2 at h1
  obtain ⟨v, w, r, e, hv, k⟩ := am_v2_ex h1
  (try unfold am_oe at k)
  (repeat' split at k) <;> first | exact k | exact k.elim | exact hI _ _ _ k | exact hJ _ _ _ k | exact hR _ _ _ k | exact hN _ _ _ k
theorem am_len_ifCond_eq (hI : ∀ h a f, B (am_rI h a f) → B h) (hJ : ∀ h a f, B (am_rJ h a f) → B h) (hR : ∀ h a f, B (am_rR h a f) → B h) (hN : ∀ h k n, B (am_nw h k n) → B h) (h1 : am_x_ifCond_eq (fun _ _ _ h' => B h') (fun _ _ _ _ _ _ _ h' => B h') (fun _ h' => B h') False rk n ts cv cj ls st h) : B h := by
  unfold am_x_ifCond_eq at h1
  split at h1 <;> first
    | exact h1.elim
    | (obtain ⟨x, r, e, k⟩ := am_i1_ex h1; (try unfold am_oe at k); (repeat' split at k) <;> first | exact k | exact k.elim | exact hI _ _ _ k | exact hJ _ _ _ k | exact hR _ _ _ k | exact hN _ _ _ k)
theorem am_len_ifCond_ne (hI : ∀ h a f, B (am_rI h a f) → B h) (hJ : ∀ h a f, B (am_rJ h a f) → B h) (hR : ∀ h a f, B (am_rR h a f) → B h) (hN : ∀ h k n, B (am_nw h k n) → B h) (h1 : am_x_ifCond_ne (fun _ _ _ h' => B h') (fun _ _ _ _ _ _ _ h' => B h') (fun _ h' => B h') False rk n ts cv cj ls st h) : B h := by
  unfold am_x_ifCond_ne at h1
  split at h1 <;> first
    | exact h1.elim
    | (obtain ⟨x, r, e, k⟩ := am_i1_ex h1; (try unfold am_oe at k); (repeat' split at k) <;> first | exact k | exact k.elim | exact hI _ _ _ k | exact hJ _ _ _ k | exact hR _ _ _ k | exact hN _ _ _ k)
theorem am_len_ifCond_lt (hI : ∀ h a f, B (am_rI h a f) → B h) (hJ : ∀ h a f, B (am_rJ h a f) → B h) (hR : ∀ h a f, B (am_rR h a f) → B h) (hN : ∀ h k n, B (am_nw h k n) → B h) (h1 : am_x_ifCond_lt (fun _ _ _ h' => B h') (fun _ _ _ _ _ _ _ h' => B h') (fun _ h' => B h') False rk n ts cv cj ls st h) : B h := by
  unfold am_x_ifCond_lt at h1
  split at h1 <;> first
    | exact h1.elim
    | (obtain ⟨x, r, e, k⟩ := am_i1_ex h1; (try unfold am_oe at k); (repeat' split at k) <;> first | exact k | exact k.elim | exact hI _ _ _ k | exact hJ _ _ _ k | exact hR _ _ _ k | exact hN _ _ _ k)
theorem am_len_ifCond_ge (hI : ∀ h a f, B (am_rI h a f) → B h) (hJ : ∀ h a f, B (am_rJ h a f) → B h) (hR : ∀ h a f, B (am_rR h a f) → B h) (hN : ∀ h k n, B (am_nw h k n) → B h) (h1 : am_x_ifCond_ge (fun _ _ _ h' => B h') (fun _ _ _ _ _ _ _ h' => B h') (fun _ h' => B h') False rk n ts cv cj ls st h) : B h := by
  unfold am_x_ifCond_ge at h1
  split at h1 <;> first
    | exact h1.elim
    | (obtain ⟨x, r, e, k⟩ := am_i1_ex h1; (try unfold am_oe at k); (repeat' split at k) <;> first | exact k | exact k.elim | exact hI _ _ _ k | exact hJ _ _ _ k | exact hR _ _ _ k | exact hN _ _ _ k)
theorem am_len_ifCond_gt (hI : ∀ h a f, B (am_rI h a f) → B h) (hJ : ∀ h a f, B (am_rJ h a f) → B h) (hR : ∀ h a f, B (am_rR h a f) → B h) (hN : ∀ h k n, B (am_nw h k n) → B h) (h1 : am_x_ifCond_gt (fun _ _ _ h' => B h') (fun _ _ _ _ _ _ _ h' => B h') (fun _ h' => B h') False rk n ts cv cj ls st h) : B h := by
  unfold am_x_ifCond_gt at h1
  split at h1 <;> first
    | exact h1.elim
    | (obtain ⟨x, r, e, k⟩ := am_i1_ex h1; (try unfold am_oe at k); (repeat' split at k) <;> first | exact k | exact k.elim | exact hI _ _ _ k | exact hJ _ _ _ k | exact hR _ _ _ k | exact hN _ _ _ k)
theorem am_len_ifCond_le (hI : ∀ h a f, B (am_rI h a f) → B h) (hJ : ∀ h a f, B (am_rJ h a f) → B h) (hR : ∀ h a f, B (am_rR h a f) → B h) (hN : ∀ h k n, B (am_nw h k n) → B h) (h1 : am_x_ifCond_le (fun _ _ _ h' => B h') (fun _ _ _ _ _ _ _ h' => B h') (fun _ h' => B h') False rk n ts cv cj ls st h) : B h := by
  unfold am_x_ifCond_le at h1
  split at h1 <;> first
    | exact h1.elim
    | (obtain ⟨x, r, e, k⟩ := am_i1_ex h1; (try unfold am_oe at k); (repeat' split at k) <;> first | exact k | exact k.elim | exact hI _ _ _ k | exact hJ _ _ _ k | exact hR _ _ _ k | exact hN _ _ _ k)
theorem am_len_if_icmp_eq (hI : ∀ h a f, B (am_rI h a f) → B h) (hJ : ∀ h a f, B (am_rJ h a f) → B h) (hR : ∀ h a f, B (am_rR h a f) → B h) (hN : ∀ h k n, B (am_nw h k n) → B h) (h1 : am_x_if_icmp_eq (fun _ _ _ h' => B h') (fun _ _ _ _ _ _ _ h' => B h') (fun _ h' => B h') False rk n ts cv cj ls st h) : B h := by
  unfold am_x_if_icmp_eq at h1
  split at h1 <;> first
    | exact h1.elim
    | (obtain ⟨x, y, r, e, k⟩ := am_i2_ex h1; (try unfold am_oe at k); (repeat' split at k) <;> first | exact k | exact k.elim | exact hI _ _ _ k | exact hJ _ _ _ k | exact hR _ _ _ k | exact hN _ _ _ k)
theorem am_len_if_icmp_ne (hI : ∀ h a f, B (am_rI h a f) → B h) (hJ : ∀ h a f, B (am_rJ h a f) → B h) (hR : ∀ h a f, B (am_rR h a f) → B h) (hN : ∀ h k n, B (am_nw h k n) → B h) (h1 : am_x_if_icmp_ne (fun _ _ _ h' => B h') (fun _ _ _ _ _ _ _ h' => B h') (fun _ h' => B h') False rk n ts cv cj ls st h) : B h := by
  unfold am_x_if_icmp_ne at h1
  split at h1 <;> first
    | exact h1.elim
    | (obtain ⟨x, y, r, e, k⟩ := am_i2_ex h1; (try unfold am_oe at k); (repeat' split at k) <;> first | exact k | exact k.elim | exact hI _ _ _ k | exact hJ _ _ _ k | exact hR _ _ _ k | exact hN _ _ _ k)
theorem am_len_if_icmp_lt (hI : ∀ h a f, B (am_rI h a f) → B h) (hJ : ∀ h a f, B (am_rJ h a f) → B h) (hR : ∀ h a f, B (am_rR h a f) → B h) (hN : ∀ h k n, B (am_nw h k n) → B h) (h1 : am_x_if_icmp_lt (fun _ _ _ h' => B h') (fun _ _ _ _ _ _ _ h' => B h') (fun _ h' => B h') False rk n ts cv cj ls st h) : B h := by
  unfold am_x_if_icmp_lt at h1
  split at h1 <;> first
    | exact h1.elim
    | (obtain ⟨x, y, r, e, k⟩ := am_i2_ex h1; (try unfold am_oe at k); (repeat' split at k) <;> first | exact k | exact k.elim | exact hI _ _ _ k | exact hJ _ _ _ k | exact hR _ _ _ k | exact hN _ _ _ k)
theorem am_len_if_icmp_ge (hI : ∀ h a f, B (am_rI h a f) → B h) (hJ : ∀ h a f, B (am_rJ h a f) → B h) (hR : ∀ h a f, B (am_rR h a f) → B h) (hN : ∀ h k n, B (am_nw h k n) → B h) (h1 : am_x_if_icmp_ge (fun _ _ _ h' => B h') (fun _ _ _ _ _ _ _ h' => B h') (fun _ h' => B h') False rk n ts cv cj ls st h) : B h := by
  unfold am_x_if_icmp_ge at h1
  split at h1 <;> first
    | exact h1.elim
    | (obtain ⟨x, y, r, e, k⟩ := am_i2_ex h1; (try unfold am_oe at k); (repeat' split at k) <;> first | exact k | exact k.elim | exact hI _ _ _ k | exact hJ _ _ _ k | exact hR _ _ _ k | exact hN _ _ _ k)
theorem am_len_if_icmp_gt (hI : ∀ h a f, B (am_rI h a f) → B h) (hJ : ∀ h a f, B (am_rJ h a f) → B h) (hR : ∀ h a f, B (am_rR h a f) → B h) (hN : ∀ h k n, B (am_nw h k n) → B h) (h1 : am_x_if_icmp_gt (fun _ _ _ h' => B h') (fun _ _ _ _ _ _ _ h' => B h') (fun _ h' => B h') False rk n ts cv cj ls st h) : B h := by
  unfold am_x_if_icmp_gt at h1
  split at h1 <;> first
    | exact h1.elim
    | (obtain ⟨x, y, r, e, k⟩ := am_i2_ex h1; (try unfold am_oe at k); (repeat' split at k) <;> first | exact k | exact k.elim | exact hI _ _ _ k | exact hJ _ _ _ k | exact hR _ _ _ k | exact hN _ _ _ k)
theorem am_len_if_icmp_le (hI : ∀ h a f, B (am_rI h a f) → B h) (hJ : ∀ h a f, B (am_rJ h a f) → B h) (hR : ∀ h a f, B (am_rR h a f) → B h) (hN : ∀ h k n, B (am_nw h k n) → B h) (h1 : am_x_if_icmp_le (fun _ _ _ h' => B h') (fun _ _ _ _ _ _ _ h' => B h') (fun _ h' => B h') False rk n ts cv cj ls st h) : B h := by
  unfold am_x_if_icmp_le at h1
  split at h1 <;> first
    | exact h1.elim
    | (obtain ⟨x, y, r, e, k⟩ := am_i2_ex h1; (try unfold am_oe at k); (repeat' split at k) <;> first | exact k | exact k.elim | exact hI _ _ _ k | exact hJ _ _ _ k | exact hR _ _ _ k | exact hN _ _ _ k)
theorem am_len_ifnonnull (hI : ∀ h a f, B (am_rI h a f) → B h) (hJ : ∀ h a f, B (am_rJ h a f) → B h) (hR : ∀ h a f, B (am_rR h a f) → B h) (hN : ∀ h k n, B (am_nw h k n) → B h) (h1 : am_x_ifnonnull (fun _ _ _ h' => B h') (fun _ _ _ _ _ _ _ h' => B h') (fun _ h' => B h') False rk n ts cv cj ls st h) : B h := by
  unfold am_x_ifnonnull at h1
  split at h1 <;> first
    | exact h1.elim
    | (obtain ⟨x, r, e, k⟩ := am_o1_ex h1; (try unfold am_oe at k); (repeat' split at k) <;> first | exact k | exact k.elim | exact hI _ _ _ k | exact hJ _ _ _ k | exact hR _ _ _ k | exact hN _ _ _ k)
theorem am_len_goto (hI : ∀ h a f, B (am_rI h a f) → B h) (hJ : ∀ h a f, B (am_rJ h a f) → B h) (hR : ∀ h a f, B (am_rR h a f) → B h) (hN : ∀ h k n, B (am_nw h k n) → B h) (h1 : am_x_goto (fun _ _ _ h' => B h') (fun _ _ _ _ _ _ _ h' => B h') (fun _ h' => B h') False rk n ts cv cj ls st h) : B h := by
  unfold am_x_goto at h1
  have k := h1
  (repeat' split at k) <;> first | exact k | exact k.elim | exact hI _ _ _ k | exact hJ _ _ _ k | exact hR _ _ _ k | exact hN _ _ _ k
theorem am_len_tableswitch (hI : ∀ h a f, B (am_rI h a f) → B h) (hJ : ∀ h a f, B (am_rJ h a f) → B h) (hR : ∀ h a f, B (am_rR h a f) → B h) (hN : ∀ h k n, B (am_nw h k n) → B h) (h1 : am_x_tableswitch (fun _ _ _ h' => B h') (fun _ _ _ _ _ _ _ h' => B h') (fun _ h' => B h') False rk n ts cv cj ls st h) : B h := by
  unfold am_x_tableswitch at h1
  split at h1
  · obtain ⟨x, r, e, k⟩ := am_i1_ex h1
    rcases am_sw_ex _ _ k with ⟨_, _, _, _, z⟩ | ⟨_, z⟩ <;> exact z
  · exact h1.elim
theorem am_len_getfield (hI : ∀ h a f, B (am_rI h a f) → B h) (hJ : ∀ h a f, B (am_rJ h a f) → B h) (hR : ∀ h a f, B (am_rR h a f) → B h) (hN : ∀ h k n, B (am_nw h k n) → B h) (h1 : am_x_getfield (fun _ _ _ h' => B h') (fun _ _ _ _ _ _ _ h' => B h') (fun _ h' => B h') False rk n ts cv cj ls st h) : B h := by
  unfold am_x_getfield at h1
  split at h1 <;> first
    | exact h1.elim
    | (obtain ⟨a, r, e, k⟩ := am_r1_ex h1; (try unfold am_oe at k); (repeat' split at k) <;> first | exact k | exact k.elim | exact hI _ _ _ k | exact hJ _ _ _ k | exact hR _ _ _ k | exact hN _ _ _ k)
theorem am_len_putfield (hI : ∀ h a f, B (am_rI h a f) → B h) (hJ : ∀ h a f, B (am_rJ h a f) → B h) (hR : ∀ h a f, B (am_rR h a f) → B h) (hN : ∀ h k n, B (am_nw h k n) → B h) (h1 : am_x_putfield (fun _ _ _ h' => B h') (fun _ _ _ _ _ _ _ h' => B h') (fun _ h' => B h') False rk n ts cv cj ls st h) : B h := by
  unfold am_x_putfield at h1
  split at h1
  · obtain ⟨a, x, r, e, k⟩ := am_rr_ex h1
    split at k
    · exact hR _ _ _ k
    · exact k.elim
  · obtain ⟨a, x, r, e, k⟩ := am_ri_ex h1
    split at k
    · split at k
      · exact hI _ _ _ k
      · exact k.elim
    · exact k.elim
  · obtain ⟨a, x, r, e, k⟩ := am_ri_ex h1
    split at k
    · exact hI _ _ _ k
    · exact k.elim
  · exact h1.elim
theorem am_len_new (hI : ∀ h a f, B (am_rI h a f) → B h) (hJ : ∀ h a f, B (am_rJ h a f) → B h) (hR : ∀ h a f, B (am_rR h a f) → B h) (hN : ∀ h k n, B (am_nw h k n) → B h) (h1 : am_x_new (fun _ _ _ h' => B h') (fun _ _ _ _ _ _ _ h' => B h') (fun _ h' => B h') False rk n ts cv cj ls st h) : B h := by
  unfold am_x_new at h1
  have k := h1
  (repeat' split at k) <;> first | exact k | exact k.elim | exact hI _ _ _ k | exact hJ _ _ _ k | exact hR _ _ _ k | exact hN _ _ _ k
theorem am_len_newarray (hI : ∀ h a f, B (am_rI h a f) → B h) (hJ : ∀ h a f, B (am_rJ h a f) → B h) (hR : ∀ h a f, B (am_rR h a f) → B h) (hN : ∀ h k n, B (am_nw h k n) → B h) (h1 : am_x_newarray (fun _ _ _ h' => B h') (fun _ _ _ _ _ _ _ h' => B h') (fun _ h' => B h') False rk n ts cv cj ls st h) : B h := by
  unfold am_x_newarray at h1
  split at h1 <;> first
    | exact h1.elim
    | (obtain ⟨x, r, e, k⟩ := am_i1_ex h1; (try unfold am_oe at k); (repeat' split at k) <;> first | exact k | exact k.elim | exact hI _ _ _ k | exact hJ _ _ _ k | exact hR _ _ _ k | exact hN _ _ _ k)
theorem am_len_anewarray (hI : ∀ h a f, B (am_rI h a f) → B h) (hJ : ∀ h a f, B (am_rJ h a f) → B h) (hR : ∀ h a f, B (am_rR h a f) → B h) (hN : ∀ h k n, B (am_nw h k n) → B h) (h1 : am_x_anewarray (fun _ _ _ h' => B h') (fun _ _ _ _ _ _ _ h' => B h') (fun _ h' => B h') False rk n ts cv cj ls st h) : B h := by
  unfold am_x_anewarray at h1
  obtain ⟨x, r, e, k⟩ := am_i1_ex h1
  (try unfold am_oe at k)
  (repeat' split at k) <;> first | exact k | exact k.elim | exact hI _ _ _ k | exact hJ _ _ _ k | exact hR _ _ _ k | exact hN _ _ _ k
theorem am_len_arraylength (hI : ∀ h a f, B (am_rI h a f) → B h) (hJ : ∀ h a f, B (am_rJ h a f) → B h) (hR : ∀ h a f, B (am_rR h a f) → B h) (hN : ∀ h k n, B (am_nw h k n) → B h) (h1 : am_x_arraylength (fun _ _ _ h' => B h') (fun _ _ _ _ _ _ _ h' => B h') (fun _ h' => B h') False rk n ts cv cj ls st h) : B h := by
  unfold am_x_arraylength at h1
  obtain ⟨a, r, e, k⟩ := am_r1_ex h1
  (try unfold am_oe at k)
  (repeat' split at k) <;> first | exact k | exact k.elim | exact hI _ _ _ k | exact hJ _ _ _ k | exact hR _ _ _ k | exact hN _ _ _ k
theorem am_len_iaload (hI : ∀ h a f, B (am_rI h a f) → B h) (hJ : ∀ h a f, B (am_rJ h a f) → B h) (hR : ∀ h a f, B (am_rR h a f) → B h) (hN : ∀ h k n, B (am_nw h k n) → B h) (h1 : am_x_iaload (fun _ _ _ h' => B h') (fun _ _ _ _ _ _ _ h' => B h') (fun _ h' => B h') False rk n ts cv cj ls st h) : B h := by
  unfold am_x_iaload at h1
  obtain ⟨a, x, r, e, k⟩ := am_ai_ex h1
  (try unfold am_oe at k)
  (repeat' split at k) <;> first | exact k | exact k.elim | exact hI _ _ _ k | exact hJ _ _ _ k | exact hR _ _ _ k | exact hN _ _ _ k
theorem am_len_laload (hI : ∀ h a f, B (am_rI h a f) → B h) (hJ : ∀ h a f, B (am_rJ h a f) → B h) (hR : ∀ h a f, B (am_rR h a f) → B h) (hN : ∀ h k n, B (am_nw h k n) → B h) (h1 : am_x_laload (fun _ _ _ h' => B h') (fun _ _ _ _ _ _ _ h' => B h') (fun _ h' => B h') False rk n ts cv cj ls st h) : B h := by
  unfold am_x_laload at h1
  obtain ⟨a, x, r, e, k⟩ := am_ai_ex h1
  (try unfold am_oe at k)
  (repeat' split at k) <;> first | exact k | exact k.elim | exact hI _ _ _ k | exact hJ _ _ _ k | exact hR _ _ _ k | exact hN _ _ _ k
theorem am_len_caload (hI : ∀ h a f, B (am_rI h a f) → B h) (hJ : ∀ h a f, B (am_rJ h a f) → B h) (hR : ∀ h a f, B (am_rR h a f) → B h) (hN : ∀ h k n, B (am_nw h k n) → B h) (h1 : am_x_caload (fun _ _ _ h' => B h') (fun _ _ _ _ _ _ _ h' => B h') (fun _ h' => B h') False rk n ts cv cj ls st h) : B h := by
  unfold am_x_caload at h1
  obtain ⟨a, x, r, e, k⟩ := am_ai_ex h1
  (try unfold am_oe at k)
  (repeat' split at k) <;> first | exact k | exact k.elim | exact hI _ _ _ k | exact hJ _ _ _ k | exact hR _ _ _ k | exact hN _ _ _ k
theorem am_len_aaload (hI : ∀ h a f, B (am_rI h a f) → B h) (hJ : ∀ h a f, B (am_rJ h a f) → B h) (hR : ∀ h a f, B (am_rR h a f) → B h) (hN : ∀ h k n, B (am_nw h k n) → B h) (h1 : am_x_aaload (fun _ _ _ h' => B h') (fun _ _ _ _ _ _ _ h' => B h') (fun _ h' => B h') False rk n ts cv cj ls st h) : B h := by
  unfold am_x_aaload at h1
  obtain ⟨a, x, r, e, k⟩ := am_ai_ex h1
  (try unfold am_oe at k)
  (repeat' split at k) <;> first | exact k | exact k.elim | exact hI _ _ _ k | exact hJ _ _ _ k | exact hR _ _ _ k | exact hN _ _ _ k
theorem am_len_iastore (hI : ∀ h a f, B (am_rI h a f) → B h) (hJ : ∀ h a f, B (am_rJ h a f) → B h) (hR : ∀ h a f, B (am_rR h a f) → B h) (hN : ∀ h k n, B (am_nw h k n) → B h) (h1 : am_x_iastore (fun _ _ _ h' => B h') (fun _ _ _ _ _ _ _ h' => B h') (fun _ h' => B h') False rk n ts cv cj ls st h) : B h := by
  unfold am_x_iastore at h1
  obtain ⟨a, x, v, r, e, k⟩ := am_aii_ex h1
  (try unfold am_oe at k)
  (repeat' split at k) <;> first | exact k | exact k.elim | exact hI _ _ _ k | exact hJ _ _ _ k | exact hR _ _ _ k | exact hN _ _ _ k
theorem am_len_lastore (hI : ∀ h a f, B (am_rI h a f) → B h) (hJ : ∀ h a f, B (am_rJ h a f) → B h) (hR : ∀ h a f, B (am_rR h a f) → B h) (hN : ∀ h k n, B (am_nw h k n) → B h) (h1 : am_x_lastore (fun _ _ _ h' => B h') (fun _ _ _ _ _ _ _ h' => B h') (fun _ h' => B h') False rk n ts cv cj ls st h) : B h := by
  unfold am_x_lastore at h1
  obtain ⟨a, x, v, r, e, k⟩ := am_ail_ex h1
  (try unfold am_oe at k)
  (repeat' split at k) <;> first | exact k | exact k.elim | exact hI _ _ _ k | exact hJ _ _ _ k | exact hR _ _ _ k | exact hN _ _ _ k
theorem am_len_castore (hI : ∀ h a f, B (am_rI h a f) → B h) (hJ : ∀ h a f, B (am_rJ h a f) → B h) (hR : ∀ h a f, B (am_rR h a f) → B h) (hN : ∀ h k n, B (am_nw h k n) → B h) (h1 : am_x_castore (fun _ _ _ h' => B h') (fun _ _ _ _ _ _ _ h' => B h') (fun _ h' => B h') False rk n ts cv cj ls st h) : B h := by
  unfold am_x_castore at h1
  obtain ⟨a, x, v, r, e, k⟩ := am_aii_ex h1
  (try unfold am_oe at k)
  (repeat' split at k) <;> first | exact k | exact k.elim | exact hI _ _ _ k | exact hJ _ _ _ k | exact hR _ _ _ k | exact hN _ _ _ k
theorem am_len_aastore (hI : ∀ h a f, B (am_rI h a f) → B h) (hJ : ∀ h a f, B (am_rJ h a f) → B h) (hR : ∀ h a f, B (am_rR h a f) → B h) (hN : ∀ h k n, B (am_nw h k n) → B h) (h1 : am_x_aastore (fun _ _ _ h' => B h') (fun _ _ _ _ _ _ _ h' => B h') (fun _ h' => B h') False rk n ts cv cj ls st h) : B h := by
  unfold am_x_aastore at h1
  obtain ⟨a, x, v, r, e, k⟩ := am_air_ex h1
  (try unfold am_oe at k)
  (repeat' split at k) <;> first | exact k | exact k.elim | exact hI _ _ _ k | exact hJ _ _ _ k | exact hR _ _ _ k | exact hN _ _ _ k
theorem am_len_inv (hI : ∀ h a f, B (am_rI h a f) → B h) (hJ : ∀ h a f, B (am_rJ h a f) → B h) (hR : ∀ h a f, B (am_rR h a f) → B h) (hN : ∀ h k n, B (am_nw h k n) → B h) (h1 : am_x_inv (fun _ _ _ h' => B h') (fun _ _ _ _ _ _ _ h' => B h') (fun _ h' => B h') False rk n ts cv cj ls st h) : B h := by
  unfold am_x_inv at h1
  unfold am_inv at h1
  have k := h1
  (repeat' split at k) <;> first | exact k | exact k.elim | exact hI _ _ _ k | exact hJ _ _ _ k | exact hR _ _ _ k | exact hN _ _ _ k
theorem am_len_ireturn (hI : ∀ h a f, B (am_rI h a f) → B h) (hJ : ∀ h a f, B (am_rJ h a f) → B h) (hR : ∀ h a f, B (am_rR h a f) → B h) (hN : ∀ h k n, B (am_nw h k n) → B h) (h1 : am_x_ireturn (fun _ _ _ h' => B h') (fun _ _ _ _ _ _ _ h' => B h') (fun _ h' => B h') False rk n ts cv cj ls st h) : B h := by
  unfold am_x_ireturn at h1
  have k := h1
  (repeat' split at k) <;> first | exact k | exact k.elim | exact hI _ _ _ k | exact hJ _ _ _ k | exact hR _ _ _ k | exact hN _ _ _ k
theorem am_len_lreturn (hI : ∀ h a f, B (am_rI h a f) → B h) (hJ : ∀ h a f, B (am_rJ h a f) → B h) (hR : ∀ h a f, B (am_rR h a f) → B h) (hN : ∀ h k n, B (am_nw h k n) → B h) (h1 : am_x_lreturn (fun _ _ _ h' => B h') (fun _ _ _ _ _ _ _ h' => B h') (fun _ h' => B h') False rk n ts cv cj ls st h) : B h := by
  unfold am_x_lreturn at h1
  have k := h1
  (repeat' split at k) <;> first | exact k | exact k.elim | exact hI _ _ _ k | exact hJ _ _ _ k | exact hR _ _ _ k | exact hN _ _ _ k
theorem am_len_areturn (hI : ∀ h a f, B (am_rI h a f) → B h) (hJ : ∀ h a f, B (am_rJ h a f) → B h) (hR : ∀ h a f, B (am_rR h a f) → B h) (hN : ∀ h k n, B (am_nw h k n) → B h) (h1 : am_x_areturn (fun _ _ _ h' => B h') (fun _ _ _ _ _ _ _ h' => B h') (fun _ h' => B h') False rk n ts cv cj ls st h) : B h := by
  unfold am_x_areturn at h1
  have k := h1
  (repeat' split at k) <;> first | exact k | exact k.elim | exact hI _ _ _ k | exact hJ _ _ _ k | exact hR _ _ _ k | exact hN _ _ _ k
theorem am_len_return_ (hI : ∀ h a f, B (am_rI h a f) → B h) (hJ : ∀ h a f, B (am_rJ h a f) → B h) (hR : ∀ h a f, B (am_rR h a f) → B h) (hN : ∀ h k n, B (am_nw h k n) → B h) (h1 : am_x_return_ (fun _ _ _ h' => B h') (fun _ _ _ _ _ _ _ h' => B h') (fun _ h' => B h') False rk n ts cv cj ls st h) : B h := by
  unfold am_x_return_ at h1
  have k := h1
  (repeat' split at k) <;> first | exact k | exact k.elim | exact hI _ _ _ k | exact hJ _ _ _ k | exact hR _ _ _ k | exact hN _ _ _ k
theorem am_len_no (hI : ∀ h a f, B (am_rI h a f) → B h) (hJ : ∀ h a f, B (am_rJ h a f) → B h) (hR : ∀ h a f, B (am_rR h a f) → B h) (hN : ∀ h k n, B (am_nw h k n) → B h) (h1 : am_x_no (fun _ _ _ h' => B h') (fun _ _ _ _ _ _ _ h' => B h') (fun _ h' => B h') False rk n ts cv cj ls st h) : B h := by
  unfold am_x_no at h1
  have k := h1
  (repeat' split at k) <;> first | exact k | exact k.elim | exact hI _ _ _ k | exact hJ _ _ _ k | exact hR _ _ _ k | exact hN _ _ _ k
set_option maxHeartbeats 4000000 in
theorem am_len (hI : ∀ h a f, B (am_rI h a f) → B h) (hJ : ∀ h a f, B (am_rJ h a f) → B h) (hR : ∀ h a f, B (am_rR h a f) → B h) (hN : ∀ h k n, B (am_nw h k n) → B h) {i : Instr} (h1 : am_exe (fun _ _ _ h' => B h') (fun _ _ _ _ _ _ _ h' => B h') (fun _ h' => B h') False rk i n ts cv cj ls st h) : B h := by
  unfold am_exe at h1
  cases i with
  | iconst k0 =>
    dsimp only [am_sel] at h1
    exact am_len_cI hI hJ hR hN h1
  | bipush k0 =>
    dsimp only [am_sel] at h1
    exact am_len_cI hI hJ hR hN h1
  | sipush k0 =>
    dsimp only [am_sel] at h1
    exact am_len_cI hI hJ hR hN h1
  | ldc k0 =>
    dsimp only [am_sel] at h1
    exact am_len_cI hI hJ hR hN h1
  | ldc2_w k0 =>
    dsimp only [am_sel] at h1
    exact am_len_cJ hI hJ hR hN h1
  | lconst k0 =>
    dsimp only [am_sel] at h1
    exact am_len_cJ hI hJ hR hN h1
  | aconst_null =>
    dsimp only [am_sel] at h1
    exact am_len_aconst_null hI hJ hR hN h1
  | iload k0 =>
    dsimp only [am_sel] at h1
    exact am_len_iload hI hJ hR hN h1
  | iload_n k0 =>
    dsimp only [am_sel] at h1
    exact am_len_iload hI hJ hR hN h1
  | lload k0 =>
    dsimp only [am_sel] at h1
    exact am_len_lload hI hJ hR hN h1
  | lload_n k0 =>
    dsimp only [am_sel] at h1
    exact am_len_lload hI hJ hR hN h1
  | aload k0 =>
    dsimp only [am_sel] at h1
    exact am_len_aload hI hJ hR hN h1
  | aload_n k0 =>
    dsimp only [am_sel] at h1
    exact am_len_aload hI hJ hR hN h1
  | istore k0 =>
    dsimp only [am_sel] at h1
    exact am_len_istore hI hJ hR hN h1
  | istore_n k0 =>
    dsimp only [am_sel] at h1
    exact am_len_istore hI hJ hR hN h1
  | lstore k0 =>
    dsimp only [am_sel] at h1
    exact am_len_lstore hI hJ hR hN h1
  | lstore_n k0 =>
    dsimp only [am_sel] at h1
    exact am_len_lstore hI hJ hR hN h1
  | astore k0 =>
    dsimp only [am_sel] at h1
    exact am_len_astore hI hJ hR hN h1
  | astore_n k0 =>
    dsimp only [am_sel] at h1
    exact am_len_astore hI hJ hR hN h1
  | iinc k0 z =>
    dsimp only [am_sel] at h1
    exact am_len_iinc hI hJ hR hN h1
  | iadd =>
    dsimp only [am_sel] at h1
    exact am_len_iadd hI hJ hR hN h1
  | isub =>
    dsimp only [am_sel] at h1
    exact am_len_isub hI hJ hR hN h1
  | imul =>
    dsimp only [am_sel] at h1
    exact am_len_imul hI hJ hR hN h1
  | iand =>
    dsimp only [am_sel] at h1
    exact am_len_iand hI hJ hR hN h1
  | ior =>
    dsimp only [am_sel] at h1
    exact am_len_ior hI hJ hR hN h1
  | ixor =>
    dsimp only [am_sel] at h1
    exact am_len_ixor hI hJ hR hN h1
  | idiv =>
    dsimp only [am_sel] at h1
    exact am_len_idiv hI hJ hR hN h1
  | irem =>
    dsimp only [am_sel] at h1
    exact am_len_irem hI hJ hR hN h1
  | ishl =>
    dsimp only [am_sel] at h1
    exact am_len_ishl hI hJ hR hN h1
  | ishr =>
    dsimp only [am_sel] at h1
    exact am_len_ishr hI hJ hR hN h1
  | ladd =>
    dsimp only [am_sel] at h1
    exact am_len_ladd hI hJ hR hN h1
  | lsub =>
    dsimp only [am_sel] at h1
    exact am_len_lsub hI hJ hR hN h1
  | lmul =>
    dsimp only [am_sel] at h1
    exact am_len_lmul hI hJ hR hN h1
  | land =>
    dsimp only [am_sel] at h1
    exact am_len_land hI hJ hR hN h1
  | lor =>
    dsimp only [am_sel] at h1
    exact am_len_lor hI hJ hR hN h1
  | lxor =>
    dsimp only [am_sel] at h1
    exact am_len_lxor hI hJ hR hN h1
  | ldiv =>
    dsimp only [am_sel] at h1
    exact am_len_ldiv hI hJ hR hN h1
  | lrem =>
    dsimp only [am_sel] at h1
    exact am_len_lrem hI hJ hR hN h1
  | lneg =>
    dsimp only [am_sel] at h1
    exact am_len_lneg hI hJ hR hN h1
  | lshl =>
    dsimp only [am_sel] at h1
    exact am_len_lshl hI hJ hR hN h1
  | lushr =>
    dsimp only [am_sel] at h1
    exact am_len_lushr hI hJ hR hN h1
  | lcmp =>
    dsimp only [am_sel] at h1
    exact am_len_lcmp hI hJ hR hN h1
  | i2l =>
    dsimp only [am_sel] at h1
    exact am_len_i2l hI hJ hR hN h1
  | l2i =>
    dsimp only [am_sel] at h1
    exact am_len_l2i hI hJ hR hN h1
  | i2c =>
    dsimp only [am_sel] at h1
    exact am_len_i2c hI hJ hR hN h1
  | dup =>
    dsimp only [am_sel] at h1
    exact am_len_dup hI hJ hR hN h1
  | dup2 =>
    dsimp only [am_sel] at h1
    exact am_len_dup2 hI hJ hR hN h1
  | ifnonnull k0 =>
    dsimp only [am_sel] at h1
    exact am_len_ifnonnull hI hJ hR hN h1
  | goto k0 =>
    dsimp only [am_sel] at h1
    exact am_len_goto hI hJ hR hN h1
  | tableswitch d lo hi offs =>
    dsimp only [am_sel] at h1
    exact am_len_tableswitch hI hJ hR hN h1
  | getfield k0 =>
    dsimp only [am_sel] at h1
    exact am_len_getfield hI hJ hR hN h1
  | putfield k0 =>
    dsimp only [am_sel] at h1
    exact am_len_putfield hI hJ hR hN h1
  | new k0 =>
    dsimp only [am_sel] at h1
    exact am_len_new hI hJ hR hN h1
  | newarray k0 =>
    dsimp only [am_sel] at h1
    exact am_len_newarray hI hJ hR hN h1
  | anewarray k0 =>
    dsimp only [am_sel] at h1
    exact am_len_anewarray hI hJ hR hN h1
  | arraylength =>
    dsimp only [am_sel] at h1
    exact am_len_arraylength hI hJ hR hN h1
  | iaload =>
    dsimp only [am_sel] at h1
    exact am_len_iaload hI hJ hR hN h1
  | laload =>
    dsimp only [am_sel] at h1
    exact am_len_laload hI hJ hR hN h1
  | caload =>
    dsimp only [am_sel] at h1
    exact am_len_caload hI hJ hR hN h1
  | aaload =>
    dsimp only [am_sel] at h1
    exact am_len_aaload hI hJ hR hN h1
  | iastore =>
    dsimp only [am_sel] at h1
    exact am_len_iastore hI hJ hR hN h1
  | lastore =>
    dsimp only [am_sel] at h1
    exact am_len_lastore hI hJ hR hN h1
  | castore =>
    dsimp only [am_sel] at h1
    exact am_len_castore hI hJ hR hN h1
  | aastore =>
    dsimp only [am_sel] at h1
    exact am_len_aastore hI hJ hR hN h1
  | invokevirtual k0 =>
    dsimp only [am_sel] at h1
    exact am_len_inv hI hJ hR hN h1
  | invokespecial k0 =>
    dsimp only [am_sel] at h1
    exact am_len_inv hI hJ hR hN h1
  | invokestatic k0 =>
    dsimp only [am_sel] at h1
    exact am_len_inv hI hJ hR hN h1
  | ireturn =>
    dsimp only [am_sel] at h1
    exact am_len_ireturn hI hJ hR hN h1
  | lreturn =>
    dsimp only [am_sel] at h1
    exact am_len_lreturn hI hJ hR hN h1
  | areturn =>
    dsimp only [am_sel] at h1
    exact am_len_areturn hI hJ hR hN h1
  | return_ =>
    dsimp only [am_sel] at h1
    exact am_len_return_ hI hJ hR hN h1
  | ifCond cc off =>
    cases cc <;> dsimp only [am_sel] at h1
    · exact am_len_ifCond_eq hI hJ hR hN h1
    · exact am_len_ifCond_ne hI hJ hR hN h1
    · exact am_len_ifCond_lt hI hJ hR hN h1
    · exact am_len_ifCond_ge hI hJ hR hN h1
    · exact am_len_ifCond_gt hI hJ hR hN h1
    · exact am_len_ifCond_le hI hJ hR hN h1
  | if_icmp cc off =>
    cases cc <;> dsimp only [am_sel] at h1
    · exact am_len_if_icmp_eq hI hJ hR hN h1
    · exact am_len_if_icmp_ne hI hJ hR hN h1
    · exact am_len_if_icmp_lt hI hJ hR hN h1
    · exact am_len_if_icmp_ge hI hJ hR hN h1
    · exact am_len_if_icmp_gt hI hJ hR hN h1
    · exact am_len_if_icmp_le hI hJ hR hN h1
  | _ => exact h1.elim
end len
def am_gr (h h' : AH) : Prop := h.1.length ≤ h'.1.length ∧ sm_sz h ≤ sm_sz h'
theorem am_run_gr {M : Nat → AMe} : ∀ (n mi pc : Nat) (ls st : List Value) (h : AH) (r : Option Value × AH), am_runP M n mi pc ls st h = some r → am_gr h r.2
  | 0, _, _, _, _, _, _, hr => by cases hr
  | n + 1, mi, pc, ls, st, h, r, hr => by
    unfold am_runP at hr
    split at hr
    · cases hr
    · rename_i q hq
      have e := am_exe_nat (fun x : AR => x = some r) (fun pc ls st h => am_runP M n mi pc (am_fg (M mi).2.2.2 pc ls) st h) (fun mi' rk nL as pc ls st h => am_bd rk (am_runP M n mi' 0 (am_entry nL as) [] h) fun vs h => am_runP M n mi pc (am_fg (M mi).2.2.2 pc ls) (vs ++ st) h) (fun v h => some (v, h)) none (M mi).2.2.1 q.2.1 q.2.2.1 q.2.2.2.1 q.2.2.2.2.1 q.2.2.2.2.2 ls st h
      rw [hr] at e
      have h1 := e.mp rfl
      have hz : ((none : AR) = some r) = False := eq_false (fun z => by cases z)
      rw [hz] at h1
      have h2 : am_exe (fun _ _ _ h' => am_gr h' r.2) (fun _ _ _ _ _ _ _ h' => am_gr h' r.2) (fun _ h' => am_gr h' r.2) False (M mi).2.2.1 q.2.1 q.2.2.1 q.2.2.2.1 q.2.2.2.2.1 q.2.2.2.2.2 ls st h := by
        refine am_exe_imp ?_ ?_ ?_ h1
        · exact fun a b c d z => am_run_gr n mi a _ c d r z
        · intro a b c d e' g i j z
          obtain ⟨x, ha, z2, -⟩ := am_bd_some z
          have g1 := am_run_gr (M := M) n a 0 (am_entry c d) [] j x ha
          have g2 := am_run_gr (M := M) n mi e' (am_fg (M mi).2.2.2 e' g) (x.1.toList ++ i) x.2 r z2
          exact ⟨Nat.le_trans g1.1 g2.1, Nat.le_trans g1.2 g2.2⟩
        · intro v h' z
          cases z
          exact ⟨Nat.le_refl _, Nat.le_refl _⟩
      exact am_len (B := fun h' => am_gr h' r.2) (fun h a f z => z) (fun h a f z => z) (fun h a f z => z) (fun h k n z => ⟨by have := z.1; rw [sm_ln_nw] at this; omega, by have := z.2; rw [sm_sz_nw] at this; omega⟩) h2
end
section
/-! ===== A RUN OF THE SMALL MACHINE IS A RUN OF THE MACHINE ===== -/
theorem sm_clr_get : ∀ (ks : List Nat) (ls : List Value) (i : Nat) (v : Value), (am_clr ks ls)[i]? = some v → v ≠ am_ph → ls[i]? = some v
  | [], ls, i, v, h, _ => h
  | k :: r, ls, i, v, h, hp => by
    have h2 := sm_clr_get r (ls.set k am_ph) i v h hp
    rw [List.getElem?_set] at h2
    split at h2
    · split at h2
      · exact absurd (Option.some.inj h2).symm hp
      · cases h2
    · exact h2
theorem sm_clr_len : ∀ (ks : List Nat) (ls : List Value), (am_clr ks ls).length = ls.length
  | [], ls => rfl
  | k :: r, ls => by
    show (am_clr r (ls.set k am_ph)).length = _
    rw [sm_clr_len r]
    simp
theorem sm_fg_get : ∀ (fg : List (Nat × List Nat)) (pc : Nat) (ls : List Value) (i : Nat) (v : Value), (am_fg fg pc ls)[i]? = some v → v ≠ am_ph → ls[i]? = some v
  | [], _, _, _, _, h, _ => h
  | q :: r, pc, ls, i, v, h, hp => by
    unfold am_fg at h
    cases hq : Nat.beq q.1 pc with
    | true => rw [hq] at h; exact sm_clr_get q.2 ls i v h hp
    | false => rw [hq] at h; exact sm_fg_get r pc ls i v h hp
theorem sm_fg_len : ∀ (fg : List (Nat × List Nat)) (pc : Nat) (ls : List Value), (am_fg fg pc ls).length = ls.length
  | [], _, _ => rfl
  | q :: r, pc, ls => by
    unfold am_fg
    cases Nat.beq q.1 pc with
    | true => exact sm_clr_len _ _
    | false => exact sm_fg_len r pc ls
theorem sm_L.fg {μ : Nat → Nat} {n nL : Nat} {ls : List Value} {A : Array Slot} (h : sm_L μ n nL ls A) (fg : List (Nat × List Nat)) (pc : Nat) : sm_L μ n nL (am_fg fg pc ls) A := by
  refine ⟨h.1, h.2.1, by rw [sm_fg_len]; exact h.2.2.1, fun i v hv hp => h.2.2.2.1 i v (sm_fg_get fg pc ls i v hv hp) hp, fun v hv => ?_⟩
  by_cases hp : v = am_ph
  · subst hp
    exact sm_wv_ph
  · obtain ⟨i, hi⟩ := List.getElem?_of_mem hv
    exact h.2.2.2.2 v (List.mem_of_getElem? (sm_fg_get fg pc ls i v hi hp))
/-- an entry that is found is right -/
theorem sm_zB_mem {P : SP} : ∀ (cd : List AE) (ps : List Nat), sm_zB P cd ps = true → ∀ (pc : Nat) (q : AE), am_fetch cd pc = some q → q.1 = pc ∧ ∃ z, sm_eB P q z = true
  | [], _, _, pc, q, h => by cases h
  | q0 :: r, [], h, _, _, _ => by cases h
  | q0 :: r, p0 :: ps, h, pc, q, hf => by
    unfold sm_zB at h
    rw [Bool.and_eq_true] at h
    unfold am_fetch at hf
    cases hq : Nat.beq q0.1 pc with
    | true =>
      rw [hq] at hf
      cases hf
      exact ⟨Nat.eq_of_beq_eq_true hq, p0, h.1⟩
    | false =>
      rw [hq] at hf
      exact sm_zB_mem r ps h.2 pc q hf
theorem sm_iB_all {mi : Nat} (h : mi < 166) : sm_iB mi = true := by
  have key : ∀ (k n : Nat), (List.range' k n).all sm_iB = true → ∀ i, k ≤ i → i < k + n → sm_iB i = true := fun k n hh i h1 h2 => List.all_eq_true.mp hh i (List.mem_range'_1.mpr ⟨h1, h2⟩)
  rcases (show (0 ≤ mi ∧ mi < 12) ∨ (12 ≤ mi ∧ mi < 24) ∨ (24 ≤ mi ∧ mi < 36) ∨ (36 ≤ mi ∧ mi < 48) ∨ (48 ≤ mi ∧ mi < 60) ∨ (60 ≤ mi ∧ mi < 72) ∨ (72 ≤ mi ∧ mi < 84) ∨ (84 ≤ mi ∧ mi < 96) ∨ (96 ≤ mi ∧ mi < 108) ∨ (108 ≤ mi ∧ mi < 120) ∨ (120 ≤ mi ∧ mi < 132) ∨ (132 ≤ mi ∧ mi < 144) ∨ (144 ≤ mi ∧ mi < 156) ∨ (156 ≤ mi ∧ mi < 166) by omega) with h0 | h1 | h2 | h3 | h4 | h5 | h6 | h7 | h8 | h9 | h10 | h11 | h12 | h13
  · exact key 0 12 sm_i0 mi h0.1 (by omega)
  · exact key 12 12 sm_i1 mi h1.1 (by omega)
  · exact key 24 12 sm_i2 mi h2.1 (by omega)
  · exact key 36 12 sm_i3 mi h3.1 (by omega)
  · exact key 48 12 sm_i4 mi h4.1 (by omega)
  · exact key 60 12 sm_i5 mi h5.1 (by omega)
  · exact key 72 12 sm_i6 mi h6.1 (by omega)
  · exact key 84 12 sm_i7 mi h7.1 (by omega)
  · exact key 96 12 sm_i8 mi h8.1 (by omega)
  · exact key 108 12 sm_i9 mi h9.1 (by omega)
  · exact key 120 12 sm_i10 mi h10.1 (by omega)
  · exact key 132 12 sm_i11 mi h11.1 (by omega)
  · exact key 144 12 sm_i12 mi h12.1 (by omega)
  · exact key 156 10 sm_i13 mi h13.1 (by omega)
/-- the machine's own method, entered plainly (java.lang.Math's too) -/
theorem sm_ofW {l : Launch} {y : MethodName} {ws ws' : List Cond} {rm : Room} {Pc : Array Value → State → Prop} {Qc : Array Value → State → Outcome → State → Prop} {mc ms : Nat} {free : Addr → Prop} {cc : ByteArray} {maxL : Nat} {ret : Option FieldType}
    (hy : plainFor y = true) (hw : ws = Cond.code y cc maxL ret :: ws')
    (body : ∀ p e s m args below meth c s₁, BodyLoose p l y (headSpec ws rm) cc maxL ret e s m args below meth c s₁ → c.maxLocals = maxL → Pc args s →
      W p l e (headSpec ws rm).room s m args below meth c s.heap [] 0 0 (MQ below Qc args s mc ms free) (entryFrame m args maxL)) : Met l y ws rm Pc Qc mc ms free := by
  refine MetFree.of_bodySF (code := cc) (maxLocals := maxL) (ret := ret) hy ?_ ?_
  · intro args s m h hn
    obtain ⟨meth, c, h1, h2, h3, h4, h5, h6, -, -⟩ := Cond.code_spec hn (atoms_spec (ws := ws) h _ (by rw [hw]; exact List.mem_cons_self))
    exact ⟨meth, c, h1, h2, h3, h4, h5, h6⟩
  · intro p e s m args below meth c s₁ B hml hP _
    have hh0 : s₁.heap = s.heap := by rw [B.state]; rfl
    obtain ⟨t, a1, o, b1, b2, b3⟩ := body p e s m args below meth c s₁ B hml hP s₁ hh0 (Stand.of_body B)
    exact ⟨t, o, a1, b1, b2, ⟨b3.1, b3.2⟩⟩
/-! a method's arguments as its first locals -/
theorem sm_pad_get (μ : Nat → Nat) : ∀ (as : List Value) (k i : Nat) (v : Value), (∀ w ∈ as, ∀ d, w ≠ .double d) → (am_pad as)[i]? = some v → v ≠ am_ph → (k + i, sm_v μ v) ∈ lv_args k (as.map (sm_v μ))
  | [], k, i, v, _, h, _ => by simp [am_pad] at h
  | a :: r, k, i, v, hd, h, hp => by
    have hd2 : ∀ w ∈ r, ∀ d, w ≠ .double d := fun w hw => hd w (List.mem_cons_of_mem _ hw)
    show (k + i, sm_v μ v) ∈ (k, sm_v μ a) :: lv_args (if (sm_v μ a).category = 2 then k + 2 else k + 1) (r.map (sm_v μ))
    rw [sm_cat]
    by_cases hl : ∃ x, a = .long x
    · obtain ⟨x, rfl⟩ := hl
      rw [if_pos (show (Value.long x).category = 2 from rfl)]
      match i, h with
      | 0, h => cases h; exact List.mem_cons_self
      | 1, h => cases h; exact absurd rfl hp
      | i + 2, h =>
        have := sm_pad_get μ r (k + 2) i v hd2 h hp
        rw [show k + (i + 2) = k + 2 + i by omega]
        exact List.mem_cons_of_mem _ this
    · have hpad : am_pad (a :: r) = a :: am_pad r := by
        cases a <;> first | rfl | exact absurd ⟨_, rfl⟩ hl
      rw [hpad] at h
      cases i with
      | zero => cases h; exact List.mem_cons_self
      | succ i =>
        have := sm_pad_get μ r (k + 1) i v hd2 h hp
        by_cases h2 : a.category = 2
        · exact absurd h2 (by cases a <;> first | (intro z; cases z; done) | exact absurd ⟨_, rfl⟩ hl | exact absurd rfl (hd _ List.mem_cons_self _))
        · rw [if_neg h2, show k + (i + 1) = k + 1 + i by omega]
          exact List.mem_cons_of_mem _ this
theorem sm_rB_1 {r : Option FieldType} (h : sm_rB 1 r = true) : r = some .int := by
  cases r with
  | none => simp [sm_rB] at h
  | some t => cases t <;> first | rfl | (simp [sm_rB] at h; done)
theorem sm_rB_2 {r : Option FieldType} (h : sm_rB 2 r = true) : r = some .boolean := by
  cases r with
  | none => simp [sm_rB] at h
  | some t => cases t <;> first | rfl | (simp [sm_rB] at h; done)
theorem sm_rB_3 {r : Option FieldType} (h : sm_rB 3 r = true) : r = some .long := by
  cases r with
  | none => simp [sm_rB] at h
  | some t => cases t <;> first | rfl | (simp [sm_rB] at h; done)
theorem sm_rB_4 {r : Option FieldType} (h : sm_rB 4 r = true) : ∃ nm, r = some (.object nm) := by
  cases r with
  | none => simp [sm_rB] at h
  | some t => cases t <;> first | exact ⟨_, rfl⟩ | (simp [sm_rB] at h; done)
theorem sm_pad_len (μ : Nat → Nat) : ∀ (as : List Value), (∀ w ∈ as, ∀ d, w ≠ .double d) → (lg_sl (as.map (sm_v μ))).length = (am_pad as).length
  | [], _ => rfl
  | a :: r, hd => by
    have ih := sm_pad_len μ r (fun w hw => hd w (List.mem_cons_of_mem _ hw))
    have e : lg_sl ((a :: r).map (sm_v μ)) = (if (sm_v μ a).category = 2 then [.val (sm_v μ a), .second] else [.val (sm_v μ a)]) ++ lg_sl (r.map (sm_v μ)) := rfl
    rw [e, List.length_append, ih, sm_cat]
    cases a <;> first | (simp [am_pad, Value.category]; done) | (simp [am_pad, Value.category]; omega) | exact absurd rfl (hd _ List.mem_cons_self _)
theorem sm_nodbl {n : Nat} {as : List Value} (h : ∀ w ∈ as, sm_wv n w) : ∀ w ∈ as, ∀ d, w ≠ .double d := by
  intro w hw d e
  exact absurd (h w hw n (Or.inr ⟨d, e⟩)) (Nat.lt_irrefl _)
theorem sm_entry {μ : Nat → Nat} {n nL : Nat} {as : List Value} (hw : ∀ w ∈ as, sm_wv n w) (hl : (am_pad as).length ≤ nL) : sm_L μ n nL (am_entry nL as) ((lg_sl (as.map (sm_v μ)) ++ List.replicate (nL - (lg_sl (as.map (sm_v μ))).length) Slot.unset).toArray) := by
  have hd := sm_nodbl hw
  have hpl := sm_pad_len μ as hd
  have hen := lv_entry (as.map (sm_v μ)) (n := nL) (by rw [hpl]; exact hl)
  have hmem : ∀ (i : Nat) (v : Value), (am_entry nL as)[i]? = some v → v ≠ am_ph → (am_pad as)[i]? = some v := by
    intro i v hv hp
    unfold am_entry at hv
    by_cases hi : i < (am_pad as).length
    · rw [List.getElem?_append_left hi] at hv
      exact hv
    · rw [List.getElem?_append_right (by omega)] at hv
      have := List.mem_of_getElem? hv
      exact absurd (List.eq_of_mem_replicate this) hp
  have hpm : ∀ (q : List Value) (v : Value), v ∈ am_pad q → v ∈ q ∨ v = am_ph := by
    intro q
    induction q with
    | nil => intro v hv; cases hv
    | cons a r ih =>
      intro v hv
      cases a <;> (simp only [am_pad, List.mem_cons] at hv ⊢; rcases hv with hv | hv <;> first | exact Or.inl (Or.inl hv) | (rcases hv with hv | hv <;> first | exact Or.inr hv | exact (ih v hv).imp Or.inr id) | exact (ih v hv).imp Or.inr id)
  refine ⟨hen.1, hen.2.1, ?_, fun i v hv hp => ?_, fun v hv => ?_⟩
  · unfold am_entry
    rw [List.length_append, List.length_replicate]
    omega
  · have h1 := sm_pad_get μ as 0 i v hd (hmem i v hv hp) hp
    rw [Nat.zero_add] at h1
    exact hen.2.2 _ h1
  · by_cases hp : v = am_ph
    · subst hp
      exact sm_wv_ph
    · obtain ⟨i, hi⟩ := List.getElem?_of_mem hv
      rcases hpm as v (List.mem_of_getElem? (hmem i v hi hp)) with z | z
      · exact hw v z
      · exact absurd z hp
section runs
variable {p : Program} {l : Launch} {e : Env} {R : Room} {s : State} {m : MethodId} {args : Array Value} {below : List Frame} {meth : Method} {c : Code} {Q : State → Prop}
variable {P : SP} {Ts : List Cond} {D : va_G} {dA : Nat → ClassId} {base b L : Nat} {xs : Nat → Int32} {μ0 : Nat → Nat} {n0 cE sE : Nat} {F : AH}
variable {CL : Nat → Nat → Nat → List Value → Nat → List Value → List Value → AH → Prop} {RT : Option Value → AH → Prop} {rk : Nat} {ts : List Nat} {cv : Int32} {cj : Int64} {ls st : List Value} {h : AH} {pc : Nat}
/-- a frame's own return, as the kit has it: the method's contract holds -/
theorem sm_met_rt (C : sm_cx p R s m args meth c P Ts D dA base b L xs cE sE) {mc ms : Nat} (hr : meth.sig.returnType = P.2.2.2.1) (hrb : sm_rB rk P.2.2.2.1 = true) (hlocks : meth.locks = false) (v : Option Value) (a0 : Array Value) : sm_rt p l e R s m args below meth c (MQ below (sm_Q D dA base b L xs μ0 n0 v F) args s cE sE (fun q => base ≤ q)) P D dA base b L xs μ0 n0 cE sE F rk v := by
  obtain ⟨hx, hb, hml, hown, hts, hG, hNT, hAO, hK, hX, hbb, hbs, hin, hfr, hlo, hcE, hsE⟩ := C
  intro i pc μ H locs A hd hi hn hR hS hm hw
  rcases hi with ⟨rfl, rfl, rfl⟩ | ⟨x, rfl, rfl, hrk⟩ | ⟨x, rfl, rfl, rfl⟩ | ⟨x, rfl, rfl, rfl⟩
  · refine W.vret hx hb (hr.trans (sm_rB_0 hrb)) (fun t ht hW => ⟨⟨μ, rfl, hm, by show sm_R D dA base b L xs μ F t.heap; rw [ht]; exact hR⟩, hS.F ht⟩) hS.2.2 hd hlocks
  · rcases hrk with rfl | ⟨rfl, hx01⟩
    · have hret : P.2.2.2.1 = some .int := sm_rB_1 hrb
      exact W.iret hx hb (hr.trans hret) (fun t ht hW => ⟨⟨x, μ, rfl, ⟨rfl, hm⟩, by show sm_R D dA base b L xs μ F t.heap; rw [ht]; exact hR⟩, hS.F ht⟩) hS.2.2 hd hlocks
    · have hret : P.2.2.2.1 = some .boolean := sm_rB_2 hrb
      refine W.zret hx hb (hr.trans hret) ?_ (fun t ht hW => ⟨⟨x, μ, rfl, ⟨rfl, hm⟩, by show sm_R D dA base b L xs μ F t.heap; rw [ht]; exact hR⟩, hS.F ht⟩) hS.2.2 hd hlocks
      rcases hx01 with rfl | rfl <;> decide
  · have hret : P.2.2.2.1 = some .long := sm_rB_3 hrb
    exact W.lret hx hb (hr.trans hret) (fun t ht hW => ⟨⟨x, μ, rfl, ⟨rfl, hm⟩, by show sm_R D dA base b L xs μ F t.heap; rw [ht]; exact hR⟩, hS.F ht⟩) hS.2.2 hd hlocks
  · have hret : ∃ nm, P.2.2.2.1 = some (.object nm) := sm_rB_4 hrb
    obtain ⟨nm, hret⟩ := hret
    exact W.aret hx hb (hr.trans hret) (Or.inl ⟨nm, rfl⟩) (Or.inr ⟨_, rfl⟩) (fun t ht hW => ⟨⟨μ, μ x, rfl, hm, rfl, hw _ rfl x (Or.inl rfl), by show sm_R D dA base b L xs μ F t.heap; rw [ht]; exact hR⟩, hS.F ht⟩) hS.2.2 hd hlocks
end runs
theorem sm_vo_bd {rk' : Nat} {x : Option Value × AH} {f : List Value → AH → AR} {r : Option Value × AH} (h : am_bd rk' (some x) f = some r) : sm_vo x.1 := by
  obtain ⟨v, h1⟩ := x
  unfold am_bd at h
  split at h
  · unfold am_bV at h
    split at h
    · rename_i z; cases z; exact Or.inl rfl
    · cases h
  · unfold am_bI at h
    split at h
    · rename_i z; cases z; exact Or.inr (Or.inl ⟨_, rfl⟩)
    · cases h
  · unfold am_bI at h
    split at h
    · rename_i z; cases z; exact Or.inr (Or.inl ⟨_, rfl⟩)
    · cases h
  · unfold am_bJ at h
    split at h
    · rename_i z; cases z; exact Or.inr (Or.inr (Or.inl ⟨_, rfl⟩))
    · cases h
  · unfold am_bA at h
    split at h
    · rename_i z; cases z; exact Or.inr (Or.inr (Or.inr ⟨_, rfl⟩))
    · cases h
  · cases h
theorem sm_nx_fg {p : Program} {l : Launch} {e : Env} {R : Room} {s : State} {m : MethodId} {args : Array Value} {below : List Frame} {meth : Method} {c : Code} {Q : State → Prop} {P : SP} {D : va_G} {dA : Nat → ClassId} {base b L : Nat} {xs : Nat → Int32} {μ0 : Nat → Nat} {n0 cE sE : Nat} {F : AH} {fg : List (Nat × List Nat)} {pc : Nat} {ls st : List Value} {h : AH} (k : sm_nx p l e R s m args below meth c Q P D dA base b L xs μ0 n0 cE sE F pc (am_fg fg pc ls) st h) : sm_nx p l e R s m args below meth c Q P D dA base b L xs μ0 n0 cE sE F pc ls st h :=
  ⟨k.1, k.2.1, fun hn μ H locs cells slots A hR hL hw hS hm hc hs => k.2.2 hn μ H locs cells slots A hR (hL.fg fg pc) hw hS hm hc hs⟩
/-- what n steps of the small machine do, the machine does: in any frame of the method -/
def sm_IH (l : Launch) (D : va_G) (dA : Nat → ClassId) (base b L : Nat) (xs : Nat → Int32) (n : Nat) : Prop := ∀ (mi pc : Nat) (ls st : List Value) (h : AH) (r : Option Value × AH), am_runP am_M n mi pc ls st h = some r → mi < 166 → ∀ (p : Program) (e : Env) (R : Room) (s : State) (m : MethodId) (args : Array Value) (below : List Frame) (meth : Method) (c : Code) (Q : State → Prop) (Ts : List Cond) (μ0 : Nat → Nat) (n0 cE sE : Nat), sm_cx p R s m args meth c (sm_P mi) Ts D dA base b L xs cE sE → sm_rt p l e R s m args below meth c Q (sm_P mi) D dA base b L xs μ0 n0 cE sE r.2 (am_M mi).2.2.1 r.1 → sm_nx p l e R s m args below meth c Q (sm_P mi) D dA base b L xs μ0 n0 cE sE r.2 pc ls st h
theorem sm_row {mi : Nat} (hmi : mi < 166) : sm_zB (sm_P mi) (am_M mi).1 (sm_ps mi) = true ∧ (am_M mi).2.1 = (sm_P mi).2.2.1 ∧ sm_rB (am_M mi).2.2.1 (sm_P mi).2.2.2.1 = true := by
  have hi := sm_iB_all hmi
  unfold sm_iB at hi
  simp only [Bool.and_eq_true, decide_eq_true_eq] at hi
  exact hi
theorem sm_met {l : Launch} {D : va_G} {dA : Nat → ClassId} {base b L : Nat} {xs : Nat → Int32} {n mi : Nat} (hmi : mi < 165) (ih : sm_IH l D dA base b L xs n) {as : List Value} {h : AH} {x : Option Value × AH} (hr : am_runP am_M n mi 0 (am_entry (sm_P mi).2.2.1 as) [] h = some x) (hvo : sm_vo x.1) : sm_call l D dA base b L xs mi as h x.1 x.2 := by
  have hg := am_run_gr n mi 0 _ _ _ _ hr
  refine ⟨hg.1, hg.2, hvo, fun hwas hpl μ => ?_⟩
  obtain ⟨wC, wPl, wIn, wD, wS, wI⟩ := sm_meth hmi
  refine sm_ofW (cc := (sm_P mi).2.1) (maxL := (sm_P mi).2.2.1) (ret := (sm_P mi).2.2.2.1) wPl rfl ?_
  intro p e s m args below meth c s₁ B hml hv
  obtain ⟨rfl, q0, q1, q2, q3, q4, q5, q6⟩ := hv
  have hts := atoms_spec (ws := sm_ws (sm_P mi)) B.pre
  have hown : s.vm.findClass (sm_P mi).1.cls = some m.cls := findClass_of_methodNamed B.named
  have C : sm_cx p (headSpec (sm_ws (sm_P mi)) (sm_rm (sm_P mi) h x.2)).room s m ((as.map (sm_v μ)).toArray) meth c (sm_P mi) (sm_ws (sm_P mi)) D dA base b L xs (x.2.1.length - h.1.length) (sm_sz x.2 - sm_sz h) :=
    ⟨B.exec, B.bytes, hml, hown, hts, fun w hw => List.mem_cons_of_mem _ hw, q2, q3, q4, q5, q1, q0, fun hi => (name_of_methodNamed B.named B.method).1.trans hi, Nat.le_refl _, Nat.le_refl _, Nat.le_refl _, Nat.le_refl _⟩
  have hrt := sm_met_rt (l := l) (e := e) (below := below) (μ0 := μ) (n0 := h.1.length) (F := x.2) (rk := (am_M mi).2.2.1) (mc := 0) (ms := 0) C B.returns (sm_row (by omega)).2.2 B.notSynchronized x.1 #[]
  have k := ih mi 0 _ _ _ _ hr (by omega) p e _ s m _ below meth c _ _ μ h.1.length _ _ C hrt
  rw [lg_entry_eq]
  exact k.2.2 (Nat.le_refl _) μ s.heap [] 0 0 _ q6 (sm_entry hwas hpl) (fun v hv => by cases hv) va_S.rf (fun _ _ => rfl) (by have := hg.1; omega) (by have := hg.2; omega)
theorem sm_run {l : Launch} {D : va_G} {dA : Nat → ClassId} {base b L : Nat} {xs : Nat → Int32} : ∀ n, sm_IH l D dA base b L xs n
  | 0 => fun _ _ _ _ _ _ hr => by cases hr
  | n + 1 => by
    have ih : sm_IH l D dA base b L xs n := sm_run n
    intro mi pc ls st h r hr hmi p e R s m args below meth c Q Ts μ0 n0 cE sE C hrt
    unfold am_runP at hr
    split at hr
    · cases hr
    · rename_i q hq
      obtain ⟨hpc, z, hz⟩ := sm_zB_mem _ _ (sm_row hmi).1 pc q hq
      subst hpc
      unfold sm_eB at hz
      rw [Bool.and_eq_true] at hz
      obtain ⟨hz1, hop⟩ := hz
      split at hz1
      · rename_i i l0 hd
        simp only [Bool.and_eq_true, decide_eq_true_eq] at hz1
        obtain ⟨rfl, hnl, hlen⟩ := hz1
        have e1 := am_exe_nat (fun x : AR => x = some r) (fun pc ls st h => am_runP am_M n mi pc (am_fg (am_M mi).2.2.2 pc ls) st h) (fun mi' rk nL as pc ls st h => am_bd rk (am_runP am_M n mi' 0 (am_entry nL as) [] h) fun vs h => am_runP am_M n mi pc (am_fg (am_M mi).2.2.2 pc ls) (vs ++ st) h) (fun v h => some (v, h)) none (am_M mi).2.2.1 q.2.1 q.2.2.1 q.2.2.2.1 q.2.2.2.2.1 q.2.2.2.2.2 ls st h
        rw [hr] at e1
        have h1 := e1.mp rfl
        have hzz : ((none : AR) = some r) = False := eq_false (fun z => by cases z)
        rw [hzz] at h1
        refine sm_step (l := l) (e := e) (below := below) (Q := Q) (F := r.2) (rk := (am_M mi).2.2.1) C hd hnl.symm hlen hop ?_
        refine am_exe_imp ?_ ?_ ?_ h1
        · intro a b c d z
          exact sm_nx_fg (ih mi a _ c d r z hmi p e R s m args below meth _ Q Ts μ0 n0 cE sE C hrt)
        · intro a b c d e' g i j z
          obtain ⟨x, ha, z2, hk⟩ := am_bd_some z
          have hvo : sm_vo x.1 := by
            rw [ha] at z
            exact sm_vo_bd z
          refine ⟨x.1, x.2, fun hm165 hnL => ?_, sm_nx_fg (ih mi e' _ _ _ r z2 hmi p e R s m args below meth _ Q Ts μ0 n0 cE sE C hrt)⟩
          subst hnL
          exact sm_met hm165 ih ha hvo
        · intro v h' z
          cases z
          exact ⟨rfl, hrt⟩
      · cases hz1
end
section
/-! THE CLAIM OUT OF ONE WALK OF THE LAW'S BODY. Your part is whole_start (and what it stands on); all else here is the same for every law, but numbers. -/
def R_law : String := "ObedientDiceLaw"
def lw_P (b : Addr) (xs : List Int32) (args : Array Value) (s : State) : Prop := args = #[.ref b] ∧ s.IntsAt b xs ∧ xs.length ≤ 260 ∧ (Jvm.Cond.and given_1 narrow_1).before args s = true
def lw_Q (_ : Array Value) (s : State) (o : Outcome) (t : State) : Prop := o = .returned (some (.int 1)) ∧ Framed s o t [] 600000 7302250
def lw_Z (below : List Frame) (a : Array Value) (s : State) : State → Prop := fun t => ∃ o, t.status = .running ∧ Ended t below o ∧ lw_Q a s o t
/-- the law's own end, with 1 on the stack, nothing written that was there before, its room as the claim has it -/
theorem lw_ret {p : Program} {l : Launch} {e : Env} {s : State} {m : MethodId} {below : List Frame} {meth : Method} {c : Code} {b : Nat} (hx : p.tables.exec = Jvm.exec) (hb : c.code = code) (hr : meth.sig.returnType = ret) (hlocks : meth.locks = false) {pc : Nat} {H : Heap} {ls : Array Slot} (hdg : decode code pc = .ok (.ireturn, 1)) : W p l e room_1 s m #[Value.ref b] below meth c H [] 600000 7302250 (lw_Z below #[Value.ref b] s) (F0 m pc ls [.int 1]) := by
  intro T hT X
  obtain ⟨fs, hret, hrun, hended, hW, hframe⟩ := X.leave (v := some (.int 1)) (hlocks := hlocks) (fun h => by rw [hr] at h; cases h)
  have hmeth' : T.vm.method? m = some meth := X.method'
  refine ⟨T.setFrames fs, ?_, .returned (some (.int 1)), hrun, hended, rfl, ⟨_, rfl⟩, hW, hframe⟩
  jvm_step X.here [X.here.top, hx, hb, hdg, hmeth', hr, ret, narrow_b1]
  (try refine ⟨rfl, ?_⟩); (try refine ⟨rfl, ?_⟩)
  first | (intro acts; rw [hret _ acts rfl rfl rfl]) | rw [hret _ _ rfl rfl rfl]
  exact Steps.refl _
/-- what holds at the law's entry: the machine, the code, the tables' words (any of lw_tbl by 'hts w (by decide +kernel)'), the script of L ints xs at the cell b, what the Statement gives of the start (any of its parts by flat_of_before) -/
def lw_At (p : Program) (s : State) (m : MethodId) (meth : Method) (c : Code) (b L : Nat) (xs : Nat → Int32) : Prop :=
  p.tables.exec = Jvm.exec ∧ c.code = code ∧ meth.sig.returnType = ret ∧ c.maxLocals = 7 ∧ s.vm.findClass R_law = some m.cls ∧ (∀ w ∈ lw_tbl, w.before #[Value.ref b] s = true) ∧ va_X b L xs s s.heap ∧ b < s.heap.size ∧ meth.locks = false ∧ (Jvm.Cond.and given_1 narrow_1).before #[Value.ref b] s = true
/-- the law's start in the small machine: the script alone -/
def am_h0 (L : Nat) (xs : Nat → Int32) : AH := ([(9, L)], fun a j => if a = 0 then xs j else 0, fun _ _ => 0, fun _ _ => none)
/-- THE LAW OVER THE SMALL MACHINE: on every script of at most 260 ints it comes to 1, within the room -/
def am_Law : Prop := ∀ (L : Nat) (xs : Nat → Int32), L ≤ 260 → ∃ F : AH, am_ev 165 0 [.ref 0, am_ph, am_ph, am_ph, am_ph, am_ph, am_ph] [] (am_h0 L xs) = some (some (.int 1), F) ∧ F.1.length ≤ 600001 ∧ sm_sz F ≤ 7302250 + L
set_option maxHeartbeats 4000000 in
set_option maxRecDepth 100000 in
theorem whole_start_of (hlaw : am_Law) {p : Program} {e : Env} {s : State} {m : MethodId} {below : List Frame} {meth : Method} {c : Code} (l : Launch) {b L : Nat} {xs : Nat → Int32} (hL : L ≤ 260) (C0 : lw_At p s m meth c b L xs) : W p l e room_1 s m #[Value.ref b] below meth c s.heap [] 0 0 (lw_Z below #[Value.ref b] s) (entryFrame m ([Value.ref b] : List Value).toArray 7) := by
  obtain ⟨hx, hb, hr, hml, hown, hts, hX, hbl, hlocks, hgv⟩ := id C0
  obtain ⟨F, hrun, hF1, hF2⟩ := hlaw L xs hL
  obtain ⟨n, hn⟩ := am_ev_iff.mp hrun
  have hgr := am_run_gr n _ _ _ _ _ _ hn
  have hz0 : sm_sz (am_h0 L xs) = L := by simp [sm_sz, am_h0]
  have hg1 : 1 ≤ F.1.length := hgr.1
  have hg2 : L ≤ sm_sz F := by have := hgr.2; rw [hz0] at this; exact this
  obtain ⟨c0, i0, k0⟩ := u_known (C := RX0) (T := TX0) (N := 11) (n := 11) hts inX0 (hts (.instantiable RX0 11) (List.mem_of_getElem? (i := 79) (by decide +kernel)))
  obtain ⟨c1, i1, k1⟩ := u_known (C := RX1) (T := TX1) (N := 9) (n := 9) hts inX1 (hts (.instantiable RX1 9) (List.mem_of_getElem? (i := 121) (by decide +kernel)))
  obtain ⟨c2, i2, k2⟩ := u_known (C := RX2) (T := TX2) (N := 5) (n := 5) hts inX2 (hts (.instantiable RX2 5) (List.mem_of_getElem? (i := 39) (by decide +kernel)))
  obtain ⟨c3, i3, k3⟩ := u_known (C := RX3) (T := TX3) (N := 6) (n := 6) hts inX3 (hts (.instantiable RX3 6) (List.mem_of_getElem? (i := 31) (by decide +kernel)))
  obtain ⟨aI, kI, mI, xI, yI, zI⟩ := Cond.arrayClass_spec (hts (.arrayClass .int) (List.mem_filter.mp sm_arrI).1)
  obtain ⟨aJ, kJ, mJ, xJ, yJ, zJ⟩ := Cond.arrayClass_spec (hts (.arrayClass .long) (List.mem_filter.mp sm_arrJ).1)
  obtain ⟨aC, kC, mC, xC, yC, zC⟩ := Cond.arrayClass_spec (hts (.arrayClass .char) (List.mem_filter.mp sm_arrC).1)
  have hao : (Cond.arrayOver (.object RX2)).before #[Value.ref b] s = true := hts (.arrayOver (.object RX2)) (List.mem_of_getElem? (i := 156) (by decide +kernel))
  obtain ⟨mS, aS, kS, s1, s2, s3, s4, s5⟩ := Cond.arrayOver_spec hao
  let D : va_G := (fun k => match k with | 0 => c0 | 1 => c1 | 2 => c2 | _ => c3, fun k => match k with | 0 => i0 | 1 => i1 | 2 => i2 | _ => i3)
  let dA : Nat → ClassId := fun k => match k with | 5 => aI | 6 => aJ | 7 => aC | _ => aS
  have hK : va_K D vwCl (sm_TY dA) s := by
    refine ⟨fun k q hq => ?_, fun k q hq => ?_⟩
    · match k, hq with
      | 0, hq => cases hq; exact k0
      | 1, hq => cases hq; exact k1
      | 2, hq => cases hq; exact k2
      | 3, hq => cases hq; exact k3
      | k + 4, hq => simp [vwCl] at hq
    · match k, hq with
      | 0, hq => cases hq; exact ⟨fun n z => ⟨fun k h => (by cases h), kI, yI, mI, zI⟩, xI⟩
      | 1, hq => cases hq; exact ⟨fun n z => ⟨fun k h => (by cases h), kJ, yJ, mJ, zJ⟩, xJ⟩
      | 2, hq => cases hq; exact ⟨fun n z => ⟨fun k h => (by cases h), kC, yC, mC, zC⟩, xC⟩
      | 3, hq => cases hq; exact ⟨fun n z => ⟨fun k h => (by cases h), kS, s3, mS, s4⟩, kS, mS, s3, s4, s1, s5⟩
      | k + 4, hq => simp [sm_TY] at hq
  have hNT : ∀ w ∈ sm_NT, va_Nw w s := by
    intro w hw
    have h1 := (List.mem_filter.mp hw).2
    have h2 := hts w (List.mem_filter.mp hw).1
    unfold sm_isN at h1
    split at h1
    · exact va_Nw.of rfl h2
    · cases h1
  have C : sm_cx p room_1 s m #[Value.ref b] meth c (sm_P 165) lw_tbl D dA s.heap.size b L xs (F.1.length - 1) (sm_sz F - L) :=
    ⟨hx, hb, hml, hown, hts, fun w hw => (List.mem_filter.mp hw).1, hNT, va_AO.of hao, hK, hX, hbl, Nat.le_refl _, fun hi => absurd hi (by decide), Nat.le_of_ble_eq_true rfl, Nat.le_of_ble_eq_true rfl, (by show F.1.length - 1 ≤ 600000; omega), (by show sm_sz F - L ≤ 7302250; omega)⟩
  have hrt : sm_rt p l e room_1 s m #[Value.ref b] below meth c (lw_Z below #[Value.ref b] s) (sm_P 165) D dA s.heap.size b L xs (fun _ => b) 1 (F.1.length - 1) (sm_sz F - L) F (am_M 165).2.2.1 (some (.int 1)) := by
    intro i pc μ H locs A hd hi hn1 hR hS hm hw
    rcases hi with ⟨z, -⟩ | ⟨x, z, rfl, -⟩ | ⟨x, z, -⟩ | ⟨x, z, -⟩
    · cases z
    · cases z
      refine W.widen (k := 600000) (n := 7302250) (by omega) (by omega) ?_
      exact va_forget hS.2.2 (lw_ret hx hb hr hlocks hd)
    · cases z
    · cases z
  have k := sm_run (l := l) (D := D) (dA := dA) (base := s.heap.size) (b := b) (L := L) (xs := xs) n 165 0 _ _ _ _ hn (by omega) p e room_1 s m #[Value.ref b] below meth c (lw_Z below #[Value.ref b] s) lw_tbl (fun _ => b) 1 _ _ C hrt
  rw [lg_entry_eq]
  have hwas : ∀ w ∈ [Value.ref 0], sm_wv (am_h0 L xs).1.length w := fun w hw => by
    rcases List.mem_cons.mp hw with rfl | hw
    · exact sm_wv_r (by show 0 < 1; omega)
    · cases hw
  refine k.2.2 (Nat.le_refl 1) (fun _ => b) s.heap [] 0 0 _ ⟨fun k q h => ?_, ⟨fun i j p q h => ?_, fun k q h => ?_⟩, rfl, ⟨rfl, fun j => rfl, fun a ha hl => ?_, fun a j c hc => ?_⟩⟩ (sm_entry (μ := fun _ => b) (n := 1) (nL := 7) (as := [.ref 0]) hwas (by decide)) (fun v hv => by cases hv) va_S.rf (fun _ _ => rfl) ?_ ?_
  · simp [sm_wl, am_h0] at h
  · simp [sm_wl, am_h0] at h
  · simp [sm_wl, am_h0] at h
  · simp [am_h0] at hl; omega
  · cases hc
  · show 0 + F.1.length = (F.1.length - 1) + 1
    omega
  · show 0 + sm_sz F = (sm_sz F - L) + sm_sz (am_h0 L xs)
    rw [hz0]
    omega
end
section
/-! ===== THE SMALL MACHINE IN ANOTHER PLACE: what runs over a memory h runs alike over a memory H that holds h's cells at the places μ; what else H holds stays as it was ===== -/
def rv (μ : Nat → Nat) : Value → Value
  | .ref a => .ref (μ a)
  | v => v
def rok (n : Nat) (v : Value) : Prop := ∀ a, v = .ref a → a < n
def rl (n : Nat) (l : List Value) : Prop := ∀ v ∈ l, rok n v
/-- h's cells lie in H at μ; cells of kind 9 are read alone and may lie at one place -/
def rH (μ : Nat → Nat) (h H : AH) : Prop :=
  (∀ i, μ (h.1.length + i) = H.1.length + i) ∧ (∀ a, a < h.1.length → μ a < H.1.length) ∧
  (∀ a b, a < h.1.length → b < h.1.length → μ a = μ b → a = b ∨ am_kd h a = 9) ∧
  (∀ a, a < h.1.length → H.1.getD (μ a) (99, 0) = h.1.getD a (99, 0)) ∧
  (∀ a, a < h.1.length → am_I H (μ a) = am_I h a ∧ am_J H (μ a) = am_J h a ∧ am_R H (μ a) = fun k => (am_R h a k).map μ) ∧
  (∀ a k b, a < h.1.length → am_R h a k = some b → b < h.1.length)
/-- since h0, H0: h and H have grown alike, and nothing of H0 has changed but h0's cells -/
def rS (μ : Nat → Nat) (h0 H0 h H : AH) : Prop := rH μ h H ∧ (∃ l, h.1 = h0.1 ++ l ∧ H.1 = H0.1 ++ l) ∧ ∀ b, b < H0.1.length → (∀ a, a < h0.1.length → b ≠ μ a) → am_I H b = am_I H0 b ∧ am_J H b = am_J H0 b ∧ am_R H b = am_R H0 b
section rel
variable {μ : Nat → Nat} {h H h0 H0 : AH}
theorem rH.kd (r : rH μ h H) (a : Nat) : am_kd H (μ a) = am_kd h a := by
  unfold am_kd
  by_cases ha : a < h.1.length
  · rw [r.2.2.2.1 a ha]
  · have := r.1 (a - h.1.length)
    rw [show h.1.length + (a - h.1.length) = a by omega] at this
    rw [this, List.getD_eq_default _ _ (by omega), List.getD_eq_default _ _ (by omega)]
theorem rH.ln (r : rH μ h H) (a : Nat) : am_ln H (μ a) = am_ln h a := by
  unfold am_ln
  by_cases ha : a < h.1.length
  · rw [r.2.2.2.1 a ha]
  · have := r.1 (a - h.1.length)
    rw [show h.1.length + (a - h.1.length) = a by omega] at this
    rw [this, List.getD_eq_default _ _ (by omega), List.getD_eq_default _ _ (by omega)]
theorem rH.end_ (r : rH μ h H) : μ h.1.length = H.1.length := r.1 0
theorem rH.ne (r : rH μ h H) {a b : Nat} (ha : a < h.1.length) (hb : b < h.1.length) (h9 : am_kd h a ≠ 9) (e : b ≠ a) : μ b ≠ μ a := fun z => by
  rcases r.2.2.1 a b ha hb z.symm with z | z
  · exact e z.symm
  · exact h9 z
theorem rH.rI (r : rH μ h H) {a : Nat} (ha : a < h.1.length) (h9 : am_kd h a ≠ 9) (f : Nat → Int32) : rH μ (am_rI h a f) (am_rI H (μ a) f) := by
  refine ⟨r.1, r.2.1, r.2.2.1, r.2.2.2.1, fun b hb => ⟨?_, (r.2.2.2.2.1 b hb).2⟩, r.2.2.2.2.2⟩
  show am_ud (am_I H) (μ a) f (μ b) = am_ud (am_I h) a f b
  unfold am_ud
  by_cases e : b = a
  · rw [if_pos (by rw [e]), if_pos e]
  · rw [if_neg (r.ne ha hb h9 e), if_neg e]
    exact (r.2.2.2.2.1 b hb).1
theorem rH.rJ (r : rH μ h H) {a : Nat} (ha : a < h.1.length) (h9 : am_kd h a ≠ 9) (f : Nat → Int64) : rH μ (am_rJ h a f) (am_rJ H (μ a) f) := by
  refine ⟨r.1, r.2.1, r.2.2.1, r.2.2.2.1, fun b hb => ⟨(r.2.2.2.2.1 b hb).1, ?_, (r.2.2.2.2.1 b hb).2.2⟩, r.2.2.2.2.2⟩
  show am_ud (am_J H) (μ a) f (μ b) = am_ud (am_J h) a f b
  unfold am_ud
  by_cases e : b = a
  · rw [if_pos (by rw [e]), if_pos e]
  · rw [if_neg (r.ne ha hb h9 e), if_neg e]
    exact (r.2.2.2.2.1 b hb).2.1
theorem rH.sI (r : rH μ h H) {a : Nat} (ha : a < h.1.length) (h9 : am_kd h a ≠ 9) (k : Nat) (v : Int32) : rH μ (am_sI h a k v) (am_sI H (μ a) k v) := by
  unfold am_sI
  rw [(r.2.2.2.2.1 a ha).1]
  exact r.rI ha h9 _
theorem rH.sJ (r : rH μ h H) {a : Nat} (ha : a < h.1.length) (h9 : am_kd h a ≠ 9) (k : Nat) (v : Int64) : rH μ (am_sJ h a k v) (am_sJ H (μ a) k v) := by
  unfold am_sJ
  rw [(r.2.2.2.2.1 a ha).2.1]
  exact r.rJ ha h9 _
theorem rH.sR (r : rH μ h H) {a : Nat} (ha : a < h.1.length) (h9 : am_kd h a ≠ 9) (k : Nat) (v : Option Nat) (hv : ∀ b, v = some b → b < h.1.length) : rH μ (am_sR h a k v) (am_sR H (μ a) k (v.map μ)) := by
  refine ⟨r.1, r.2.1, r.2.2.1, r.2.2.2.1, fun b hb => ⟨(r.2.2.2.2.1 b hb).1, (r.2.2.2.2.1 b hb).2.1, ?_⟩, fun b j c hb e => ?_⟩
  · show am_ud (am_R H) (μ a) (am_ud (am_R H (μ a)) k (v.map μ)) (μ b) = fun j => (am_ud (am_R h) a (am_ud (am_R h a) k v) b j).map μ
    unfold am_ud
    by_cases e : b = a
    · rw [if_pos (by rw [e])]
      funext j
      rw [if_pos e, (r.2.2.2.2.1 a ha).2.2]
      by_cases ej : j = k
      · rw [if_pos ej, if_pos ej]
      · rw [if_neg ej, if_neg ej]
    · rw [if_neg (r.ne ha hb h9 e), (r.2.2.2.2.1 b hb).2.2]
      funext j
      rw [if_neg e]
  · have e : am_ud (am_R h) a (am_ud (am_R h a) k v) b j = some c := e
    unfold am_ud at e
    by_cases ea : b = a
    · rw [if_pos ea] at e
      by_cases ej : j = k
      · rw [if_pos ej] at e; exact hv c e
      · rw [if_neg ej] at e; exact r.2.2.2.2.2 a j c ha e
    · rw [if_neg ea] at e; exact r.2.2.2.2.2 b j c hb e
theorem rH.nw (r : rH μ h H) (k n : Nat) : rH μ (am_nw h k n) (am_nw H k n) := by
  have hl : (am_nw h k n).1.length = h.1.length + 1 := by show (h.1 ++ [(k, n)]).length = _; simp
  have hL : (am_nw H k n).1.length = H.1.length + 1 := by show (H.1 ++ [(k, n)]).length = _; simp
  have gl : ∀ a, a < h.1.length → (am_nw h k n).1.getD a (99, 0) = h.1.getD a (99, 0) := fun a ha => by
    show (h.1 ++ [(k, n)]).getD a (99, 0) = _
    rw [List.getD_eq_getElem?_getD, List.getElem?_append_left ha, List.getD_eq_getElem?_getD]
  have gL : ∀ a, a < H.1.length → (am_nw H k n).1.getD a (99, 0) = H.1.getD a (99, 0) := fun a ha => by
    show (H.1 ++ [(k, n)]).getD a (99, 0) = _
    rw [List.getD_eq_getElem?_getD, List.getElem?_append_left ha, List.getD_eq_getElem?_getD]
  have gm : (am_nw h k n).1.getD h.1.length (99, 0) = (k, n) := by
    show (h.1 ++ [(k, n)]).getD h.1.length (99, 0) = _
    rw [List.getD_eq_getElem?_getD, List.getElem?_append_right (Nat.le_refl _)]
    simp
  have gM : (am_nw H k n).1.getD H.1.length (99, 0) = (k, n) := by
    show (H.1 ++ [(k, n)]).getD H.1.length (99, 0) = _
    rw [List.getD_eq_getElem?_getD, List.getElem?_append_right (Nat.le_refl _)]
    simp
  refine ⟨fun i => ?_, fun a ha => ?_, fun a b ha hb e => ?_, fun a ha => ?_, fun a ha => ?_, fun a j b ha e => ?_⟩
  · rw [hl, hL, show h.1.length + 1 + i = h.1.length + (1 + i) by omega, r.1]; omega
  · rw [hl] at ha
    rw [hL]
    by_cases e : a = h.1.length
    · rw [e, r.end_]; omega
    · have := r.2.1 a (by omega); omega
  · rw [hl] at ha hb
    by_cases ea : a = h.1.length
    · by_cases eb : b = h.1.length
      · left; omega
      · rw [ea, r.end_] at e; have := r.2.1 b (by omega); omega
    · by_cases eb : b = h.1.length
      · rw [eb, r.end_] at e; have := r.2.1 a (by omega); omega
      · rcases r.2.2.1 a b (by omega) (by omega) e with z | z
        · exact Or.inl z
        · right
          unfold am_kd
          rw [gl a (by omega)]
          exact z
  · rw [hl] at ha
    by_cases e : a = h.1.length
    · rw [e, r.end_, gm, gM]
    · rw [gl a (by omega), gL _ (r.2.1 a (by omega)), r.2.2.2.1 a (by omega)]
  · rw [hl] at ha
    show am_ud (am_I H) H.1.length (fun _ => 0) (μ a) = am_ud (am_I h) h.1.length (fun _ => 0) a ∧ am_ud (am_J H) H.1.length (fun _ => 0) (μ a) = am_ud (am_J h) h.1.length (fun _ => 0) a ∧ am_ud (am_R H) H.1.length (fun _ => none) (μ a) = fun j => (am_ud (am_R h) h.1.length (fun _ => none) a j).map μ
    unfold am_ud
    by_cases e : a = h.1.length
    · rw [e, r.end_, if_pos rfl, if_pos rfl, if_pos rfl, if_pos rfl, if_pos rfl, if_pos rfl]
      exact ⟨rfl, rfl, rfl⟩
    · have := r.2.1 a (by omega)
      rw [if_neg (by omega), if_neg (by omega), if_neg (by omega), if_neg (by omega), if_neg (by omega), if_neg (by omega)]
      exact r.2.2.2.2.1 a (by omega)
  · rw [hl] at ha ⊢
    have e : am_ud (am_R h) h.1.length (fun _ => none) a j = some b := e
    unfold am_ud at e
    by_cases ea : a = h.1.length
    · rw [if_pos ea] at e; cases e
    · rw [if_neg ea] at e
      have := r.2.2.2.2.2 a j b (by omega) e
      omega
/-- where a cell that is written lies -/
theorem rS.out (q : ∀ i, μ (h0.1.length + i) = H0.1.length + i) (s : rS μ h0 H0 h H) {a b : Nat} (hb : b < H0.1.length) (hn : ∀ a, a < h0.1.length → b ≠ μ a) : b ≠ μ a := by
  by_cases ha : a < h0.1.length
  · exact hn a ha
  · have := q (a - h0.1.length)
    rw [show h0.1.length + (a - h0.1.length) = a by omega] at this
    omega
theorem rS.mk (q : ∀ i, μ (h0.1.length + i) = H0.1.length + i) (s : rS μ h0 H0 h H) {h1 H1 : AH} (r : rH μ h1 H1) (e1 : h1.1 = h.1) (e2 : H1.1 = H.1) {a : Nat} (f : ∀ b, b ≠ μ a → am_I H1 b = am_I H b ∧ am_J H1 b = am_J H b ∧ am_R H1 b = am_R H b) : rS μ h0 H0 h1 H1 := by
  refine ⟨r, by rw [e1, e2]; exact s.2.1, fun b hb hn => ?_⟩
  have k := f b (s.out q hb hn)
  have k2 := s.2.2 b hb hn
  exact ⟨k.1.trans k2.1, k.2.1.trans k2.2.1, k.2.2.trans k2.2.2⟩
theorem rS.sI (q : ∀ i, μ (h0.1.length + i) = H0.1.length + i) (s : rS μ h0 H0 h H) {a : Nat} (ha : a < h.1.length) (h9 : am_kd h a ≠ 9) (k : Nat) (v : Int32) : rS μ h0 H0 (am_sI h a k v) (am_sI H (μ a) k v) :=
  s.mk q (s.1.sI ha h9 k v) rfl rfl (a := a) (fun b hb => ⟨by show am_ud (am_I H) (μ a) _ b = _; unfold am_ud; rw [if_neg hb], rfl, rfl⟩)
theorem rS.rI (q : ∀ i, μ (h0.1.length + i) = H0.1.length + i) (s : rS μ h0 H0 h H) {a : Nat} (ha : a < h.1.length) (h9 : am_kd h a ≠ 9) (f : Nat → Int32) : rS μ h0 H0 (am_rI h a f) (am_rI H (μ a) f) :=
  s.mk q (s.1.rI ha h9 f) rfl rfl (a := a) (fun b hb => ⟨by show am_ud (am_I H) (μ a) _ b = _; unfold am_ud; rw [if_neg hb], rfl, rfl⟩)
theorem rS.sJ (q : ∀ i, μ (h0.1.length + i) = H0.1.length + i) (s : rS μ h0 H0 h H) {a : Nat} (ha : a < h.1.length) (h9 : am_kd h a ≠ 9) (k : Nat) (v : Int64) : rS μ h0 H0 (am_sJ h a k v) (am_sJ H (μ a) k v) :=
  s.mk q (s.1.sJ ha h9 k v) rfl rfl (a := a) (fun b hb => ⟨rfl, by show am_ud (am_J H) (μ a) _ b = _; unfold am_ud; rw [if_neg hb], rfl⟩)
theorem rS.sR (q : ∀ i, μ (h0.1.length + i) = H0.1.length + i) (s : rS μ h0 H0 h H) {a : Nat} (ha : a < h.1.length) (h9 : am_kd h a ≠ 9) (k : Nat) (v : Option Nat) (hv : ∀ b, v = some b → b < h.1.length) : rS μ h0 H0 (am_sR h a k v) (am_sR H (μ a) k (v.map μ)) :=
  s.mk q (s.1.sR ha h9 k v hv) rfl rfl (a := a) (fun b hb => ⟨rfl, rfl, by show am_ud (am_R H) (μ a) _ b = _; unfold am_ud; rw [if_neg hb]⟩)
theorem rS.nw (s : rS μ h0 H0 h H) (k n : Nat) : rS μ h0 H0 (am_nw h k n) (am_nw H k n) := by
  obtain ⟨r, ⟨l, e1, e2⟩, f⟩ := s
  refine ⟨r.nw k n, ⟨l ++ [(k, n)], ?_, ?_⟩, fun b hb hn => ?_⟩
  · show h.1 ++ _ = _; rw [e1, List.append_assoc]
  · show H.1 ++ _ = _; rw [e2, List.append_assoc]
  · have hl : b < H.1.length := by rw [e2, List.length_append]; omega
    have k2 := f b hb hn
    refine ⟨Eq.trans ?_ k2.1, Eq.trans ?_ k2.2.1, Eq.trans ?_ k2.2.2⟩
    · show am_ud (am_I H) H.1.length _ b = _; unfold am_ud; rw [if_neg (by omega)]
    · show am_ud (am_J H) H.1.length _ b = _; unfold am_ud; rw [if_neg (by omega)]
    · show am_ud (am_R H) H.1.length _ b = _; unfold am_ud; rw [if_neg (by omega)]
end rel
section vals
variable {μ : Nat → Nat} {n : Nat} {st ls : List Value}
theorem rok_i {x : Int32} : rok n (.int x) := fun a e => by cases e
theorem rok_l {x : Int64} : rok n (.long x) := fun a e => by cases e
theorem rok_n : rok n .null := fun a e => by cases e
theorem rok_p : rok n am_ph := fun a e => by cases e
theorem rok_r {a : Nat} (h : a < n) : rok n (.ref a) := fun b e => by cases e; exact h
theorem rok_o {v : Option Nat} (h : ∀ b, v = some b → b < n) : rok n (am_ob v) := by
  cases v with
  | none => exact rok_n
  | some b => exact rok_r (h b rfl)
theorem rok.m {m : Nat} {v : Value} (h : rok n v) (hm : n ≤ m) : rok m v := fun a e => Nat.lt_of_lt_of_le (h a e) hm
theorem rl_nil : rl n [] := fun v h => by cases h
theorem rl_cons {v : Value} (h : rok n v) (t : rl n st) : rl n (v :: st) := fun w hw => by
  rcases List.mem_cons.mp hw with rfl | hw
  · exact h
  · exact t w hw
theorem rl.hd {v : Value} (h : rl n (v :: st)) : rok n v := h v List.mem_cons_self
theorem rl.tl {v : Value} (h : rl n (v :: st)) : rl n st := fun w hw => h w (List.mem_cons_of_mem _ hw)
theorem rl.m {m : Nat} (h : rl n st) (hm : n ≤ m) : rl m st := fun v hv => (h v hv).m hm
theorem rl.app {t : List Value} (h : rl n st) (k : rl n t) : rl n (st ++ t) := fun v hv => (List.mem_append.mp hv).elim (h v) (k v)
theorem rv_cat (v : Value) : (rv μ v).category = v.category := by cases v <;> rfl
theorem rv_half (v : Value) : rv μ (am_half v) = am_half (rv μ v) := by cases v <;> rfl
theorem rok_half {v : Value} (h : rok n v) : rok n (am_half v) := by
  cases v <;> first | exact h | exact rok_p
theorem rv_ob (v : Option Nat) : rv μ (am_ob v) = am_ob (v.map μ) := by cases v <;> rfl
theorem rv_set1 : ∀ (ls : List Value) (k : Nat) (v : Value), (am_set1 ls k v).map (rv μ) = am_set1 (ls.map (rv μ)) k (rv μ v)
  | [], _, _ => rfl
  | _ :: r, 0, v => rfl
  | a :: r, 1, v => by
    show rv μ (am_half a) :: (am_set1 r 0 v).map (rv μ) = am_half (rv μ a) :: am_set1 (r.map (rv μ)) 0 (rv μ v)
    rw [rv_half, rv_set1]
  | a :: r, k + 2, v => by
    show rv μ a :: (am_set1 r (k + 1) v).map (rv μ) = rv μ a :: am_set1 (r.map (rv μ)) (k + 1) (rv μ v)
    rw [rv_set1]
theorem rv_set2 : ∀ (ls : List Value) (k : Nat) (v : Value), (am_set2 ls k v).map (rv μ) = am_set2 (ls.map (rv μ)) k (rv μ v)
  | [], _, _ => rfl
  | _ :: r, 0, v => by
    show rv μ v :: (am_set1 r 0 am_ph).map (rv μ) = rv μ v :: am_set1 (r.map (rv μ)) 0 am_ph
    rw [rv_set1]
    rfl
  | a :: r, 1, v => by
    show rv μ (am_half a) :: (am_set2 r 0 v).map (rv μ) = am_half (rv μ a) :: am_set2 (r.map (rv μ)) 0 (rv μ v)
    rw [rv_half, rv_set2]
  | a :: r, k + 2, v => by
    show rv μ a :: (am_set2 r (k + 1) v).map (rv μ) = rv μ a :: am_set2 (r.map (rv μ)) (k + 1) (rv μ v)
    rw [rv_set2]
theorem rl_set1 : ∀ (ls : List Value) (k : Nat) (v : Value), rl n ls → rok n v → rl n (am_set1 ls k v)
  | [], _, _, h, _ => h
  | _ :: r, 0, v, h, hv => rl_cons hv h.tl
  | a :: r, 1, v, h, hv => rl_cons (rok_half h.hd) (rl_set1 r 0 v h.tl hv)
  | a :: r, k + 2, v, h, hv => rl_cons h.hd (rl_set1 r (k + 1) v h.tl hv)
theorem rl_set2 : ∀ (ls : List Value) (k : Nat) (v : Value), rl n ls → rok n v → rl n (am_set2 ls k v)
  | [], _, _, h, _ => h
  | _ :: r, 0, v, h, hv => rl_cons hv (rl_set1 r 0 am_ph h.tl rok_p)
  | a :: r, 1, v, h, hv => rl_cons (rok_half h.hd) (rl_set2 r 0 v h.tl hv)
  | a :: r, k + 2, v, h, hv => rl_cons h.hd (rl_set2 r (k + 1) v h.tl hv)
theorem rv_pad : ∀ l : List Value, am_pad (l.map (rv μ)) = (am_pad l).map (rv μ)
  | [] => rfl
  | v :: r => by
    cases v with
    | long x => show .long x :: am_ph :: am_pad (r.map (rv μ)) = .long x :: am_ph :: (am_pad r).map (rv μ); rw [rv_pad r]
    | ref a => show .ref (μ a) :: am_pad (r.map (rv μ)) = .ref (μ a) :: (am_pad r).map (rv μ); rw [rv_pad r]
    | _ => simp only [List.map_cons, rv, am_pad, rv_pad r]
theorem rl_pad : ∀ l : List Value, rl n l → rl n (am_pad l)
  | [], h => h
  | v :: r, h => by
    cases v with
    | long x => exact rl_cons rok_l (rl_cons rok_p (rl_pad r h.tl))
    | _ => exact rl_cons h.hd (rl_pad r h.tl)
theorem rv_entry (nL : Nat) (as : List Value) : am_entry nL (as.map (rv μ)) = (am_entry nL as).map (rv μ) := by
  unfold am_entry
  rw [rv_pad, List.map_append, List.length_map, List.map_replicate]
  rfl
theorem rl_entry {nL : Nat} {as : List Value} (h : rl n as) : rl n (am_entry nL as) := (rl_pad as h).app (fun v hv => by
  rw [(List.mem_replicate.mp hv).2]
  exact rok_p)
theorem rv_clr : ∀ (ks : List Nat) (ls : List Value), am_clr ks (ls.map (rv μ)) = (am_clr ks ls).map (rv μ)
  | [], _ => rfl
  | k :: r, ls => by
    show am_clr r ((ls.map (rv μ)).set k am_ph) = (am_clr r (ls.set k am_ph)).map (rv μ)
    rw [← rv_clr r, List.map_set]
    rfl
theorem rl_clr : ∀ (ks : List Nat) (ls : List Value), rl n ls → rl n (am_clr ks ls)
  | [], _, h => h
  | k :: r, ls, h => rl_clr r _ (fun v hv => by
    rcases List.mem_or_eq_of_mem_set hv with z | z
    · exact h v z
    · rw [z]; exact rok_p)
theorem rv_fg : ∀ (l : List (Nat × List Nat)) (pc : Nat) (ls : List Value), am_fg l pc (ls.map (rv μ)) = (am_fg l pc ls).map (rv μ)
  | [], _, _ => rfl
  | q :: r, pc, ls => by
    unfold am_fg
    cases Nat.beq q.1 pc
    · exact rv_fg r pc ls
    · exact rv_clr q.2 ls
theorem rl_fg : ∀ (l : List (Nat × List Nat)) (pc : Nat) (ls : List Value), rl n ls → rl n (am_fg l pc ls)
  | [], _, _, h => h
  | q :: r, pc, ls, h => by
    unfold am_fg
    cases Nat.beq q.1 pc
    · exact rl_fg r pc ls h
    · exact rl_clr q.2 ls h
theorem rv_pop : ∀ (k : Nat) (st acc : List Value), am_pop k (st.map (rv μ)) (acc.map (rv μ)) = (am_pop k st acc).map (fun p => (p.1.map (rv μ), p.2.map (rv μ)))
  | 0, _, _ => rfl
  | k + 1, v :: st, acc => rv_pop k st (v :: acc)
  | _ + 1, [], _ => rfl
theorem rl_pop : ∀ (k : Nat) (st acc : List Value) (p : List Value × List Value), am_pop k st acc = some p → rl n st → rl n acc → rl n p.1 ∧ rl n p.2
  | 0, st, acc, p, e, h, k => by cases e; exact ⟨k, h⟩
  | k + 1, v :: st, acc, p, e, h, h2 => rl_pop k st (v :: acc) p e h.tl (rl_cons h.hd h2)
  | _ + 1, [], _, p, e, _, _ => by cases e
theorem rv_w8 (l : List Value) : am_w8 (l.map (rv μ)) = am_w8 l := by
  unfold am_w8
  rw [List.map_map]
  congr 1
  exact List.map_congr_left (fun v _ => rv_cat v)
theorem rl_lk {k : Nat} {v : Value} (h : rl n ls) (e : ls[k]? = some v) : rok n v := h v (List.mem_of_getElem? e)
end vals
section conts
variable {α β : Type} {μ : Nat → Nat} {n : Nat} {Q : AR → AR → Prop} {no' : AR} {st ls : List Value}

theorem r_i1 {f f' : Int32 → List Value → AR} (h0 : ∀ b, Q none b) (hs : rl n st) (hf : ∀ (x : Int32) (r : List Value), rl n r → Q (f x r) (f' x (r.map (rv μ)))) : Q (am_i1 none f st) (am_i1 none f' (st.map (rv μ))) := by
  unfold am_i1
  split
  · exact hf _ _ hs.tl
  · exact h0 _
theorem r_i2 {f f' : Int32 → Int32 → List Value → AR} (h0 : ∀ b, Q none b) (hs : rl n st) (hf : ∀ (x y : Int32) (r : List Value), rl n r → Q (f x y r) (f' x y (r.map (rv μ)))) : Q (am_i2 none f st) (am_i2 none f' (st.map (rv μ))) := by
  unfold am_i2
  split
  · exact hf _ _ _ hs.tl.tl
  · exact h0 _
theorem r_l1 {f f' : Int64 → List Value → AR} (h0 : ∀ b, Q none b) (hs : rl n st) (hf : ∀ (x : Int64) (r : List Value), rl n r → Q (f x r) (f' x (r.map (rv μ)))) : Q (am_l1 none f st) (am_l1 none f' (st.map (rv μ))) := by
  unfold am_l1
  split
  · exact hf _ _ hs.tl
  · exact h0 _
theorem r_l2 {f f' : Int64 → Int64 → List Value → AR} (h0 : ∀ b, Q none b) (hs : rl n st) (hf : ∀ (x y : Int64) (r : List Value), rl n r → Q (f x y r) (f' x y (r.map (rv μ)))) : Q (am_l2 none f st) (am_l2 none f' (st.map (rv μ))) := by
  unfold am_l2
  split
  · exact hf _ _ _ hs.tl.tl
  · exact h0 _
theorem r_li {f f' : Int64 → Int32 → List Value → AR} (h0 : ∀ b, Q none b) (hs : rl n st) (hf : ∀ (x : Int64) (y : Int32) (r : List Value), rl n r → Q (f x y r) (f' x y (r.map (rv μ)))) : Q (am_li none f st) (am_li none f' (st.map (rv μ))) := by
  unfold am_li
  split
  · exact hf _ _ _ hs.tl.tl
  · exact h0 _
theorem r_r1 {f f' : Nat → List Value → AR} (h0 : ∀ b, Q none b) (hs : rl n st) (hf : ∀ (a : Nat) (r : List Value), a < n → rl n r → Q (f a r) (f' (μ a) (r.map (rv μ)))) : Q (am_r1 none f st) (am_r1 none f' (st.map (rv μ))) := by
  unfold am_r1
  split
  · exact hf _ _ (hs.hd _ rfl) hs.tl
  · exact h0 _
theorem r_ai {f f' : Nat → Int32 → List Value → AR} (h0 : ∀ b, Q none b) (hs : rl n st) (hf : ∀ (a : Nat) (i : Int32) (r : List Value), a < n → rl n r → Q (f a i r) (f' (μ a) i (r.map (rv μ)))) : Q (am_ai none f st) (am_ai none f' (st.map (rv μ))) := by
  unfold am_ai
  split
  · exact hf _ _ _ (hs.tl.hd _ rfl) hs.tl.tl
  · exact h0 _
theorem r_aii {f f' : Nat → Int32 → Int32 → List Value → AR} (h0 : ∀ b, Q none b) (hs : rl n st) (hf : ∀ (a : Nat) (i x : Int32) (r : List Value), a < n → rl n r → Q (f a i x r) (f' (μ a) i x (r.map (rv μ)))) : Q (am_aii none f st) (am_aii none f' (st.map (rv μ))) := by
  unfold am_aii
  split
  · exact hf _ _ _ _ (hs.tl.tl.hd _ rfl) hs.tl.tl.tl
  · exact h0 _
theorem r_ail {f f' : Nat → Int32 → Int64 → List Value → AR} (h0 : ∀ b, Q none b) (hs : rl n st) (hf : ∀ (a : Nat) (i : Int32) (x : Int64) (r : List Value), a < n → rl n r → Q (f a i x r) (f' (μ a) i x (r.map (rv μ)))) : Q (am_ail none f st) (am_ail none f' (st.map (rv μ))) := by
  unfold am_ail
  split
  · exact hf _ _ _ _ (hs.tl.tl.hd _ rfl) hs.tl.tl.tl
  · exact h0 _
theorem r_ri {f f' : Nat → Int32 → List Value → AR} (h0 : ∀ b, Q none b) (hs : rl n st) (hf : ∀ (a : Nat) (x : Int32) (r : List Value), a < n → rl n r → Q (f a x r) (f' (μ a) x (r.map (rv μ)))) : Q (am_ri none f st) (am_ri none f' (st.map (rv μ))) := by
  unfold am_ri
  split
  · exact hf _ _ _ (hs.tl.hd _ rfl) hs.tl.tl
  · exact h0 _
theorem r_o1 {f f' : Option Nat → List Value → AR} (h0 : ∀ b, Q none b) (hs : rl n st) (hf : ∀ (v : Option Nat) (r : List Value), (∀ b, v = some b → b < n) → rl n r → Q (f v r) (f' (v.map μ) (r.map (rv μ)))) : Q (am_o1 none f st) (am_o1 none f' (st.map (rv μ))) := by
  unfold am_o1
  split
  · exact hf (some _) _ (fun b e => by cases e; exact hs.hd _ rfl) hs.tl
  · exact hf none _ (fun b e => by cases e) hs.tl
  · exact h0 _
theorem r_air {f f' : Nat → Int32 → Option Nat → List Value → AR} (h0 : ∀ b, Q none b) (hs : rl n st) (hf : ∀ (a : Nat) (i : Int32) (v : Option Nat) (r : List Value), a < n → (∀ b, v = some b → b < n) → rl n r → Q (f a i v r) (f' (μ a) i (v.map μ) (r.map (rv μ)))) : Q (am_air none f st) (am_air none f' (st.map (rv μ))) := by
  unfold am_air
  split
  · exact hf _ _ (some _) _ (hs.tl.tl.hd _ rfl) (fun b e => by cases e; exact hs.hd _ rfl) hs.tl.tl.tl
  · exact hf _ _ none _ (hs.tl.tl.hd _ rfl) (fun b e => by cases e) hs.tl.tl.tl
  · exact h0 _
theorem r_rr {f f' : Nat → Option Nat → List Value → AR} (h0 : ∀ b, Q none b) (hs : rl n st) (hf : ∀ (a : Nat) (v : Option Nat) (r : List Value), a < n → (∀ b, v = some b → b < n) → rl n r → Q (f a v r) (f' (μ a) (v.map μ) (r.map (rv μ)))) : Q (am_rr none f st) (am_rr none f' (st.map (rv μ))) := by
  unfold am_rr
  split
  · exact hf _ (some _) _ (hs.tl.hd _ rfl) (fun b e => by cases e; exact hs.hd _ rfl) hs.tl.tl
  · exact hf _ none _ (hs.tl.hd _ rfl) (fun b e => by cases e) hs.tl.tl
  · exact h0 _
theorem r_v1 {f f' : Value → List Value → AR} (h0 : ∀ b, Q none b) (hs : rl n st) (hf : ∀ (v : Value) (r : List Value), rok n v → rl n r → Q (f v r) (f' (rv μ v) (r.map (rv μ)))) : Q (am_v1 none f st) (am_v1 none f' (st.map (rv μ))) := by
  unfold am_v1
  split
  · rename_i v r
    show Q (if v.category = 1 then f v r else none) (if (rv μ v).category = 1 then f' (rv μ v) (r.map (rv μ)) else none)
    rw [rv_cat]
    split
    · exact hf v r hs.hd hs.tl
    · exact h0 _
  · exact h0 _
theorem r_v2 {f f' : Value → Value → List Value → AR} (h0 : ∀ b, Q none b) (hs : rl n st) (hf : ∀ (v w : Value) (r : List Value), rok n v → rok n w → rl n r → Q (f v w r) (f' (rv μ v) (rv μ w) (r.map (rv μ)))) : Q (am_v2 none f st) (am_v2 none f' (st.map (rv μ))) := by
  unfold am_v2
  split
  · rename_i v w r
    show Q (if v.category = 1 ∧ w.category = 1 then f v w r else none) (if (rv μ v).category = 1 ∧ (rv μ w).category = 1 then f' (rv μ v) (rv μ w) (r.map (rv μ)) else none)
    rw [rv_cat, rv_cat]
    split
    · exact hf v w r hs.hd hs.tl.hd hs.tl.tl
    · exact h0 _
  · exact h0 _
theorem r_ldI {f f' : Int32 → AR} {k : Nat} (h0 : ∀ b, Q none b) (hf : ∀ x, Q (f x) (f' x)) : Q (am_ldI none f ls[k]?) (am_ldI none f' (ls.map (rv μ))[k]?) := by
  rw [List.getElem?_map]
  unfold am_ldI
  split
  · rename_i x e
    rw [e]
    exact hf x
  · exact h0 _
theorem r_ldJ {f f' : Int64 → AR} {k : Nat} (h0 : ∀ b, Q none b) (hf : ∀ x, Q (f x) (f' x)) : Q (am_ldJ none f ls[k]?) (am_ldJ none f' (ls.map (rv μ))[k]?) := by
  rw [List.getElem?_map]
  unfold am_ldJ
  split
  · rename_i x e
    rw [e]
    exact hf x
  · exact h0 _
theorem r_ldA {f f' : Option Nat → AR} {k : Nat} (h0 : ∀ b, Q none b) (hl : rl n ls) (hf : ∀ v : Option Nat, (∀ b, v = some b → b < n) → Q (f v) (f' (v.map μ))) : Q (am_ldA none f ls[k]?) (am_ldA none f' (ls.map (rv μ))[k]?) := by
  rw [List.getElem?_map]
  unfold am_ldA
  split
  · rename_i x e
    rw [e]
    exact hf (some _) (fun b z => by cases z; exact rl_lk hl e _ rfl)
  · rename_i e
    rw [e]
    exact hf none (fun b z => by cases z)
  · exact h0 _
theorem r_oe {v : Option Nat} {x x' : AR} {f f' : Nat → AR} (hn : v = none → Q x x') (hf : ∀ b, v = some b → Q (f b) (f' (μ b))) : Q (am_oe v x f) (am_oe (v.map μ) x' f') := by
  cases v with
  | none => exact hn rfl
  | some b => exact hf b rfl
theorem r_sw {f f' : Nat → AR} {x : Int32} {d : Nat} (hf : ∀ p, Q (f p) (f' p)) : ∀ (l : List Nat) (k : Nat), Q (am_sw f x d k l) (am_sw f' x d k l)
  | [], _ => hf _
  | t :: r, k => by
    unfold am_sw
    split
    · exact hf _
    · exact r_sw hf r (k + 1)
theorem r_if {P P' : Prop} [Decidable P] [Decidable P'] {x y x' y' : AR} (hp : P' ↔ P) (h1 : P → Q x x') (h2 : ¬ P → Q y y') : Q (if P then x else y) (if P' then x' else y') := by
  by_cases h : P
  · rw [if_pos h, if_pos (hp.2 h)]; exact h1 h
  · rw [if_neg h, if_neg (fun z => h (hp.1 z))]; exact h2 h
end conts
section ops
variable {μ : Nat → Nat} {h H h0 H0 : AH} {Q : AR → AR → Prop} {no' : AR} {st ls : List Value}
variable {nx nx' : Nat → List Value → List Value → AH → AR} {cl cl' : Nat → Nat → Nat → List Value → Nat → List Value → List Value → AH → AR} {rt rt' : Option Value → AH → AR} {rk n : Nat} {ts : List Nat} {cv : Int32} {cj : Int64}
/-- what goes on goes on alike -/
def rC (μ : Nat → Nat) (h0 H0 : AH) (Q : AR → AR → Prop) (nx nx' : Nat → List Value → List Value → AH → AR) (cl cl' : Nat → Nat → Nat → List Value → Nat → List Value → List Value → AH → AR) (rt rt' : Option Value → AH → AR) : Prop :=
  (∀ b, Q none b) ∧ (∀ pc ls st h H, rS μ h0 H0 h H → rl h.1.length ls → rl h.1.length st → Q (nx pc ls st h) (nx' pc (ls.map (rv μ)) (st.map (rv μ)) H)) ∧
  (∀ mi rk nL as pc ls st h H, rS μ h0 H0 h H → rl h.1.length as → rl h.1.length ls → rl h.1.length st → Q (cl mi rk nL as pc ls st h) (cl' mi rk nL (as.map (rv μ)) pc (ls.map (rv μ)) (st.map (rv μ)) H)) ∧
  (∀ v h H, rS μ h0 H0 h H → (∀ w, v = some w → rok h.1.length w) → Q (rt v h) (rt' (v.map (rv μ)) H)) ∧ ∀ i, μ (h0.1.length + i) = H0.1.length + i

theorem r_x_cI (C : rC μ h0 H0 Q nx nx' cl cl' rt rt') (s : rS μ h0 H0 h H) (hl : rl h.1.length ls) (hs : rl h.1.length st) : Q (am_x_cI nx cl rt none rk n ts cv cj ls st h) (am_x_cI nx' cl' rt' none rk n ts cv cj (ls.map (rv μ)) (st.map (rv μ)) H) := by
  unfold am_x_cI
  exact C.2.1 _ _ _ _ _ s hl (rl_cons rok_i hs)
theorem r_x_cJ (C : rC μ h0 H0 Q nx nx' cl cl' rt rt') (s : rS μ h0 H0 h H) (hl : rl h.1.length ls) (hs : rl h.1.length st) : Q (am_x_cJ nx cl rt none rk n ts cv cj ls st h) (am_x_cJ nx' cl' rt' none rk n ts cv cj (ls.map (rv μ)) (st.map (rv μ)) H) := by
  unfold am_x_cJ
  exact C.2.1 _ _ _ _ _ s hl (rl_cons rok_l hs)
theorem r_x_aconst_null (C : rC μ h0 H0 Q nx nx' cl cl' rt rt') (s : rS μ h0 H0 h H) (hl : rl h.1.length ls) (hs : rl h.1.length st) : Q (am_x_aconst_null nx cl rt none rk n ts cv cj ls st h) (am_x_aconst_null nx' cl' rt' none rk n ts cv cj (ls.map (rv μ)) (st.map (rv μ)) H) := by
  unfold am_x_aconst_null
  exact C.2.1 _ _ _ _ _ s hl (rl_cons rok_n hs)
theorem r_x_iload {k0 : Nat} (C : rC μ h0 H0 Q nx nx' cl cl' rt rt') (s : rS μ h0 H0 h H) (hl : rl h.1.length ls) (hs : rl h.1.length st) : Q (am_x_iload k0 nx cl rt none rk n ts cv cj ls st h) (am_x_iload k0 nx' cl' rt' none rk n ts cv cj (ls.map (rv μ)) (st.map (rv μ)) H) := by
  unfold am_x_iload
  exact r_ldI C.1 (fun x => C.2.1 _ _ _ _ _ s hl (rl_cons rok_i hs))
theorem r_x_lload {k0 : Nat} (C : rC μ h0 H0 Q nx nx' cl cl' rt rt') (s : rS μ h0 H0 h H) (hl : rl h.1.length ls) (hs : rl h.1.length st) : Q (am_x_lload k0 nx cl rt none rk n ts cv cj ls st h) (am_x_lload k0 nx' cl' rt' none rk n ts cv cj (ls.map (rv μ)) (st.map (rv μ)) H) := by
  unfold am_x_lload
  exact r_ldJ C.1 (fun x => C.2.1 _ _ _ _ _ s hl (rl_cons rok_l hs))
theorem r_x_aload {k0 : Nat} (C : rC μ h0 H0 Q nx nx' cl cl' rt rt') (s : rS μ h0 H0 h H) (hl : rl h.1.length ls) (hs : rl h.1.length st) : Q (am_x_aload k0 nx cl rt none rk n ts cv cj ls st h) (am_x_aload k0 nx' cl' rt' none rk n ts cv cj (ls.map (rv μ)) (st.map (rv μ)) H) := by
  unfold am_x_aload
  refine r_ldA C.1 hl (fun v hv => ?_)
  rw [← rv_ob]
  exact C.2.1 _ _ _ _ _ s hl (rl_cons (rok_o hv) hs)
theorem r_x_istore {k0 : Nat} (C : rC μ h0 H0 Q nx nx' cl cl' rt rt') (s : rS μ h0 H0 h H) (hl : rl h.1.length ls) (hs : rl h.1.length st) : Q (am_x_istore k0 nx cl rt none rk n ts cv cj ls st h) (am_x_istore k0 nx' cl' rt' none rk n ts cv cj (ls.map (rv μ)) (st.map (rv μ)) H) := by
  unfold am_x_istore
  refine r_i1 C.1 hs (fun x r hr => ?_)
  refine r_if (by rw [List.length_map]) (fun _ => ?_) (fun _ => C.1 _)
  have k := C.2.1 n _ _ _ _ s (rl_set1 ls k0 (.int x) hl rok_i) hr
  rw [rv_set1] at k
  exact k
theorem r_x_lstore {k0 : Nat} (C : rC μ h0 H0 Q nx nx' cl cl' rt rt') (s : rS μ h0 H0 h H) (hl : rl h.1.length ls) (hs : rl h.1.length st) : Q (am_x_lstore k0 nx cl rt none rk n ts cv cj ls st h) (am_x_lstore k0 nx' cl' rt' none rk n ts cv cj (ls.map (rv μ)) (st.map (rv μ)) H) := by
  unfold am_x_lstore
  refine r_l1 C.1 hs (fun x r hr => ?_)
  refine r_if (by rw [List.length_map]) (fun _ => ?_) (fun _ => C.1 _)
  have k := C.2.1 n _ _ _ _ s (rl_set2 ls k0 (.long x) hl rok_l) hr
  rw [rv_set2] at k
  exact k
theorem r_x_astore {k0 : Nat} (C : rC μ h0 H0 Q nx nx' cl cl' rt rt') (s : rS μ h0 H0 h H) (hl : rl h.1.length ls) (hs : rl h.1.length st) : Q (am_x_astore k0 nx cl rt none rk n ts cv cj ls st h) (am_x_astore k0 nx' cl' rt' none rk n ts cv cj (ls.map (rv μ)) (st.map (rv μ)) H) := by
  unfold am_x_astore
  refine r_o1 C.1 hs (fun v r hv hr => ?_)
  refine r_if (by rw [List.length_map]) (fun _ => ?_) (fun _ => C.1 _)
  have k := C.2.1 n _ _ _ _ s (rl_set1 ls k0 (am_ob v) hl (rok_o hv)) hr
  rw [rv_set1, rv_ob] at k
  exact k
theorem r_x_iinc {k0 : Nat} (C : rC μ h0 H0 Q nx nx' cl cl' rt rt') (s : rS μ h0 H0 h H) (hl : rl h.1.length ls) (hs : rl h.1.length st) : Q (am_x_iinc k0 nx cl rt none rk n ts cv cj ls st h) (am_x_iinc k0 nx' cl' rt' none rk n ts cv cj (ls.map (rv μ)) (st.map (rv μ)) H) := by
  unfold am_x_iinc
  refine r_ldI C.1 (fun x => ?_)
  refine r_if (by rw [List.length_map]) (fun _ => ?_) (fun _ => C.1 _)
  have k := C.2.1 n _ _ _ _ s (rl_set1 ls k0 (.int (x + cv)) hl rok_i) hs
  rw [rv_set1] at k
  exact k
theorem r_x_iadd (C : rC μ h0 H0 Q nx nx' cl cl' rt rt') (s : rS μ h0 H0 h H) (hl : rl h.1.length ls) (hs : rl h.1.length st) : Q (am_x_iadd nx cl rt none rk n ts cv cj ls st h) (am_x_iadd nx' cl' rt' none rk n ts cv cj (ls.map (rv μ)) (st.map (rv μ)) H) := by
  unfold am_x_iadd
  exact r_i2 C.1 hs (fun x y r hr => C.2.1 _ _ _ _ _ s hl (rl_cons rok_i hr))
theorem r_x_isub (C : rC μ h0 H0 Q nx nx' cl cl' rt rt') (s : rS μ h0 H0 h H) (hl : rl h.1.length ls) (hs : rl h.1.length st) : Q (am_x_isub nx cl rt none rk n ts cv cj ls st h) (am_x_isub nx' cl' rt' none rk n ts cv cj (ls.map (rv μ)) (st.map (rv μ)) H) := by
  unfold am_x_isub
  exact r_i2 C.1 hs (fun x y r hr => C.2.1 _ _ _ _ _ s hl (rl_cons rok_i hr))
theorem r_x_imul (C : rC μ h0 H0 Q nx nx' cl cl' rt rt') (s : rS μ h0 H0 h H) (hl : rl h.1.length ls) (hs : rl h.1.length st) : Q (am_x_imul nx cl rt none rk n ts cv cj ls st h) (am_x_imul nx' cl' rt' none rk n ts cv cj (ls.map (rv μ)) (st.map (rv μ)) H) := by
  unfold am_x_imul
  exact r_i2 C.1 hs (fun x y r hr => C.2.1 _ _ _ _ _ s hl (rl_cons rok_i hr))
theorem r_x_iand (C : rC μ h0 H0 Q nx nx' cl cl' rt rt') (s : rS μ h0 H0 h H) (hl : rl h.1.length ls) (hs : rl h.1.length st) : Q (am_x_iand nx cl rt none rk n ts cv cj ls st h) (am_x_iand nx' cl' rt' none rk n ts cv cj (ls.map (rv μ)) (st.map (rv μ)) H) := by
  unfold am_x_iand
  exact r_i2 C.1 hs (fun x y r hr => C.2.1 _ _ _ _ _ s hl (rl_cons rok_i hr))
theorem r_x_ior (C : rC μ h0 H0 Q nx nx' cl cl' rt rt') (s : rS μ h0 H0 h H) (hl : rl h.1.length ls) (hs : rl h.1.length st) : Q (am_x_ior nx cl rt none rk n ts cv cj ls st h) (am_x_ior nx' cl' rt' none rk n ts cv cj (ls.map (rv μ)) (st.map (rv μ)) H) := by
  unfold am_x_ior
  exact r_i2 C.1 hs (fun x y r hr => C.2.1 _ _ _ _ _ s hl (rl_cons rok_i hr))
theorem r_x_ixor (C : rC μ h0 H0 Q nx nx' cl cl' rt rt') (s : rS μ h0 H0 h H) (hl : rl h.1.length ls) (hs : rl h.1.length st) : Q (am_x_ixor nx cl rt none rk n ts cv cj ls st h) (am_x_ixor nx' cl' rt' none rk n ts cv cj (ls.map (rv μ)) (st.map (rv μ)) H) := by
  unfold am_x_ixor
  exact r_i2 C.1 hs (fun x y r hr => C.2.1 _ _ _ _ _ s hl (rl_cons rok_i hr))
theorem r_x_idiv (C : rC μ h0 H0 Q nx nx' cl cl' rt rt') (s : rS μ h0 H0 h H) (hl : rl h.1.length ls) (hs : rl h.1.length st) : Q (am_x_idiv nx cl rt none rk n ts cv cj ls st h) (am_x_idiv nx' cl' rt' none rk n ts cv cj (ls.map (rv μ)) (st.map (rv μ)) H) := by
  unfold am_x_idiv
  exact r_i2 C.1 hs (fun x y r hr => r_if Iff.rfl (fun _ => C.1 _) (fun _ => C.2.1 _ _ _ _ _ s hl (rl_cons rok_i hr)))
theorem r_x_irem (C : rC μ h0 H0 Q nx nx' cl cl' rt rt') (s : rS μ h0 H0 h H) (hl : rl h.1.length ls) (hs : rl h.1.length st) : Q (am_x_irem nx cl rt none rk n ts cv cj ls st h) (am_x_irem nx' cl' rt' none rk n ts cv cj (ls.map (rv μ)) (st.map (rv μ)) H) := by
  unfold am_x_irem
  exact r_i2 C.1 hs (fun x y r hr => r_if Iff.rfl (fun _ => C.1 _) (fun _ => C.2.1 _ _ _ _ _ s hl (rl_cons rok_i hr)))
theorem r_x_ishl (C : rC μ h0 H0 Q nx nx' cl cl' rt rt') (s : rS μ h0 H0 h H) (hl : rl h.1.length ls) (hs : rl h.1.length st) : Q (am_x_ishl nx cl rt none rk n ts cv cj ls st h) (am_x_ishl nx' cl' rt' none rk n ts cv cj (ls.map (rv μ)) (st.map (rv μ)) H) := by
  unfold am_x_ishl
  exact r_i2 C.1 hs (fun x y r hr => C.2.1 _ _ _ _ _ s hl (rl_cons rok_i hr))
theorem r_x_ishr (C : rC μ h0 H0 Q nx nx' cl cl' rt rt') (s : rS μ h0 H0 h H) (hl : rl h.1.length ls) (hs : rl h.1.length st) : Q (am_x_ishr nx cl rt none rk n ts cv cj ls st h) (am_x_ishr nx' cl' rt' none rk n ts cv cj (ls.map (rv μ)) (st.map (rv μ)) H) := by
  unfold am_x_ishr
  exact r_i2 C.1 hs (fun x y r hr => C.2.1 _ _ _ _ _ s hl (rl_cons rok_i hr))
theorem r_x_ladd (C : rC μ h0 H0 Q nx nx' cl cl' rt rt') (s : rS μ h0 H0 h H) (hl : rl h.1.length ls) (hs : rl h.1.length st) : Q (am_x_ladd nx cl rt none rk n ts cv cj ls st h) (am_x_ladd nx' cl' rt' none rk n ts cv cj (ls.map (rv μ)) (st.map (rv μ)) H) := by
  unfold am_x_ladd
  exact r_l2 C.1 hs (fun x y r hr => C.2.1 _ _ _ _ _ s hl (rl_cons rok_l hr))
theorem r_x_lsub (C : rC μ h0 H0 Q nx nx' cl cl' rt rt') (s : rS μ h0 H0 h H) (hl : rl h.1.length ls) (hs : rl h.1.length st) : Q (am_x_lsub nx cl rt none rk n ts cv cj ls st h) (am_x_lsub nx' cl' rt' none rk n ts cv cj (ls.map (rv μ)) (st.map (rv μ)) H) := by
  unfold am_x_lsub
  exact r_l2 C.1 hs (fun x y r hr => C.2.1 _ _ _ _ _ s hl (rl_cons rok_l hr))
theorem r_x_lmul (C : rC μ h0 H0 Q nx nx' cl cl' rt rt') (s : rS μ h0 H0 h H) (hl : rl h.1.length ls) (hs : rl h.1.length st) : Q (am_x_lmul nx cl rt none rk n ts cv cj ls st h) (am_x_lmul nx' cl' rt' none rk n ts cv cj (ls.map (rv μ)) (st.map (rv μ)) H) := by
  unfold am_x_lmul
  exact r_l2 C.1 hs (fun x y r hr => C.2.1 _ _ _ _ _ s hl (rl_cons rok_l hr))
theorem r_x_land (C : rC μ h0 H0 Q nx nx' cl cl' rt rt') (s : rS μ h0 H0 h H) (hl : rl h.1.length ls) (hs : rl h.1.length st) : Q (am_x_land nx cl rt none rk n ts cv cj ls st h) (am_x_land nx' cl' rt' none rk n ts cv cj (ls.map (rv μ)) (st.map (rv μ)) H) := by
  unfold am_x_land
  exact r_l2 C.1 hs (fun x y r hr => C.2.1 _ _ _ _ _ s hl (rl_cons rok_l hr))
theorem r_x_lor (C : rC μ h0 H0 Q nx nx' cl cl' rt rt') (s : rS μ h0 H0 h H) (hl : rl h.1.length ls) (hs : rl h.1.length st) : Q (am_x_lor nx cl rt none rk n ts cv cj ls st h) (am_x_lor nx' cl' rt' none rk n ts cv cj (ls.map (rv μ)) (st.map (rv μ)) H) := by
  unfold am_x_lor
  exact r_l2 C.1 hs (fun x y r hr => C.2.1 _ _ _ _ _ s hl (rl_cons rok_l hr))
theorem r_x_lxor (C : rC μ h0 H0 Q nx nx' cl cl' rt rt') (s : rS μ h0 H0 h H) (hl : rl h.1.length ls) (hs : rl h.1.length st) : Q (am_x_lxor nx cl rt none rk n ts cv cj ls st h) (am_x_lxor nx' cl' rt' none rk n ts cv cj (ls.map (rv μ)) (st.map (rv μ)) H) := by
  unfold am_x_lxor
  exact r_l2 C.1 hs (fun x y r hr => C.2.1 _ _ _ _ _ s hl (rl_cons rok_l hr))
theorem r_x_ldiv (C : rC μ h0 H0 Q nx nx' cl cl' rt rt') (s : rS μ h0 H0 h H) (hl : rl h.1.length ls) (hs : rl h.1.length st) : Q (am_x_ldiv nx cl rt none rk n ts cv cj ls st h) (am_x_ldiv nx' cl' rt' none rk n ts cv cj (ls.map (rv μ)) (st.map (rv μ)) H) := by
  unfold am_x_ldiv
  exact r_l2 C.1 hs (fun x y r hr => r_if Iff.rfl (fun _ => C.1 _) (fun _ => C.2.1 _ _ _ _ _ s hl (rl_cons rok_l hr)))
theorem r_x_lrem (C : rC μ h0 H0 Q nx nx' cl cl' rt rt') (s : rS μ h0 H0 h H) (hl : rl h.1.length ls) (hs : rl h.1.length st) : Q (am_x_lrem nx cl rt none rk n ts cv cj ls st h) (am_x_lrem nx' cl' rt' none rk n ts cv cj (ls.map (rv μ)) (st.map (rv μ)) H) := by
  unfold am_x_lrem
  exact r_l2 C.1 hs (fun x y r hr => r_if Iff.rfl (fun _ => C.1 _) (fun _ => C.2.1 _ _ _ _ _ s hl (rl_cons rok_l hr)))
theorem r_x_lneg (C : rC μ h0 H0 Q nx nx' cl cl' rt rt') (s : rS μ h0 H0 h H) (hl : rl h.1.length ls) (hs : rl h.1.length st) : Q (am_x_lneg nx cl rt none rk n ts cv cj ls st h) (am_x_lneg nx' cl' rt' none rk n ts cv cj (ls.map (rv μ)) (st.map (rv μ)) H) := by
  unfold am_x_lneg
  exact r_l1 C.1 hs (fun x r hr => C.2.1 _ _ _ _ _ s hl (rl_cons rok_l hr))
theorem r_x_lshl (C : rC μ h0 H0 Q nx nx' cl cl' rt rt') (s : rS μ h0 H0 h H) (hl : rl h.1.length ls) (hs : rl h.1.length st) : Q (am_x_lshl nx cl rt none rk n ts cv cj ls st h) (am_x_lshl nx' cl' rt' none rk n ts cv cj (ls.map (rv μ)) (st.map (rv μ)) H) := by
  unfold am_x_lshl
  exact r_li C.1 hs (fun x y r hr => C.2.1 _ _ _ _ _ s hl (rl_cons rok_l hr))
theorem r_x_lushr (C : rC μ h0 H0 Q nx nx' cl cl' rt rt') (s : rS μ h0 H0 h H) (hl : rl h.1.length ls) (hs : rl h.1.length st) : Q (am_x_lushr nx cl rt none rk n ts cv cj ls st h) (am_x_lushr nx' cl' rt' none rk n ts cv cj (ls.map (rv μ)) (st.map (rv μ)) H) := by
  unfold am_x_lushr
  exact r_li C.1 hs (fun x y r hr => C.2.1 _ _ _ _ _ s hl (rl_cons rok_l hr))
theorem r_x_lcmp (C : rC μ h0 H0 Q nx nx' cl cl' rt rt') (s : rS μ h0 H0 h H) (hl : rl h.1.length ls) (hs : rl h.1.length st) : Q (am_x_lcmp nx cl rt none rk n ts cv cj ls st h) (am_x_lcmp nx' cl' rt' none rk n ts cv cj (ls.map (rv μ)) (st.map (rv μ)) H) := by
  unfold am_x_lcmp
  exact r_l2 C.1 hs (fun x y r hr => C.2.1 _ _ _ _ _ s hl (rl_cons rok_i hr))
theorem r_x_i2l (C : rC μ h0 H0 Q nx nx' cl cl' rt rt') (s : rS μ h0 H0 h H) (hl : rl h.1.length ls) (hs : rl h.1.length st) : Q (am_x_i2l nx cl rt none rk n ts cv cj ls st h) (am_x_i2l nx' cl' rt' none rk n ts cv cj (ls.map (rv μ)) (st.map (rv μ)) H) := by
  unfold am_x_i2l
  exact r_i1 C.1 hs (fun x r hr => C.2.1 _ _ _ _ _ s hl (rl_cons rok_l hr))
theorem r_x_l2i (C : rC μ h0 H0 Q nx nx' cl cl' rt rt') (s : rS μ h0 H0 h H) (hl : rl h.1.length ls) (hs : rl h.1.length st) : Q (am_x_l2i nx cl rt none rk n ts cv cj ls st h) (am_x_l2i nx' cl' rt' none rk n ts cv cj (ls.map (rv μ)) (st.map (rv μ)) H) := by
  unfold am_x_l2i
  exact r_l1 C.1 hs (fun x r hr => C.2.1 _ _ _ _ _ s hl (rl_cons rok_i hr))
theorem r_x_i2c (C : rC μ h0 H0 Q nx nx' cl cl' rt rt') (s : rS μ h0 H0 h H) (hl : rl h.1.length ls) (hs : rl h.1.length st) : Q (am_x_i2c nx cl rt none rk n ts cv cj ls st h) (am_x_i2c nx' cl' rt' none rk n ts cv cj (ls.map (rv μ)) (st.map (rv μ)) H) := by
  unfold am_x_i2c
  exact r_i1 C.1 hs (fun x r hr => C.2.1 _ _ _ _ _ s hl (rl_cons rok_i hr))
theorem r_x_dup (C : rC μ h0 H0 Q nx nx' cl cl' rt rt') (s : rS μ h0 H0 h H) (hl : rl h.1.length ls) (hs : rl h.1.length st) : Q (am_x_dup nx cl rt none rk n ts cv cj ls st h) (am_x_dup nx' cl' rt' none rk n ts cv cj (ls.map (rv μ)) (st.map (rv μ)) H) := by
  unfold am_x_dup
  exact r_v1 C.1 hs (fun v r hv hr => C.2.1 _ _ _ _ _ s hl (rl_cons hv (rl_cons hv hr)))
theorem r_x_dup2 (C : rC μ h0 H0 Q nx nx' cl cl' rt rt') (s : rS μ h0 H0 h H) (hl : rl h.1.length ls) (hs : rl h.1.length st) : Q (am_x_dup2 nx cl rt none rk n ts cv cj ls st h) (am_x_dup2 nx' cl' rt' none rk n ts cv cj (ls.map (rv μ)) (st.map (rv μ)) H) := by
  unfold am_x_dup2
  exact r_v2 C.1 hs (fun v w r hv hw hr => C.2.1 _ _ _ _ _ s hl (rl_cons hv (rl_cons hw (rl_cons hv (rl_cons hw hr)))))
theorem r_x_ifCond_eq (C : rC μ h0 H0 Q nx nx' cl cl' rt rt') (s : rS μ h0 H0 h H) (hl : rl h.1.length ls) (hs : rl h.1.length st) : Q (am_x_ifCond_eq nx cl rt none rk n ts cv cj ls st h) (am_x_ifCond_eq nx' cl' rt' none rk n ts cv cj (ls.map (rv μ)) (st.map (rv μ)) H) := by
  unfold am_x_ifCond_eq
  split
  · exact r_i1 C.1 hs (fun x r hr => r_if Iff.rfl (fun _ => C.2.1 _ _ _ _ _ s hl hr) (fun _ => C.2.1 _ _ _ _ _ s hl hr))
  · exact C.1 _
theorem r_x_ifCond_ne (C : rC μ h0 H0 Q nx nx' cl cl' rt rt') (s : rS μ h0 H0 h H) (hl : rl h.1.length ls) (hs : rl h.1.length st) : Q (am_x_ifCond_ne nx cl rt none rk n ts cv cj ls st h) (am_x_ifCond_ne nx' cl' rt' none rk n ts cv cj (ls.map (rv μ)) (st.map (rv μ)) H) := by
  unfold am_x_ifCond_ne
  split
  · exact r_i1 C.1 hs (fun x r hr => r_if Iff.rfl (fun _ => C.2.1 _ _ _ _ _ s hl hr) (fun _ => C.2.1 _ _ _ _ _ s hl hr))
  · exact C.1 _
theorem r_x_ifCond_lt (C : rC μ h0 H0 Q nx nx' cl cl' rt rt') (s : rS μ h0 H0 h H) (hl : rl h.1.length ls) (hs : rl h.1.length st) : Q (am_x_ifCond_lt nx cl rt none rk n ts cv cj ls st h) (am_x_ifCond_lt nx' cl' rt' none rk n ts cv cj (ls.map (rv μ)) (st.map (rv μ)) H) := by
  unfold am_x_ifCond_lt
  split
  · exact r_i1 C.1 hs (fun x r hr => r_if Iff.rfl (fun _ => C.2.1 _ _ _ _ _ s hl hr) (fun _ => C.2.1 _ _ _ _ _ s hl hr))
  · exact C.1 _
theorem r_x_ifCond_ge (C : rC μ h0 H0 Q nx nx' cl cl' rt rt') (s : rS μ h0 H0 h H) (hl : rl h.1.length ls) (hs : rl h.1.length st) : Q (am_x_ifCond_ge nx cl rt none rk n ts cv cj ls st h) (am_x_ifCond_ge nx' cl' rt' none rk n ts cv cj (ls.map (rv μ)) (st.map (rv μ)) H) := by
  unfold am_x_ifCond_ge
  split
  · exact r_i1 C.1 hs (fun x r hr => r_if Iff.rfl (fun _ => C.2.1 _ _ _ _ _ s hl hr) (fun _ => C.2.1 _ _ _ _ _ s hl hr))
  · exact C.1 _
theorem r_x_ifCond_gt (C : rC μ h0 H0 Q nx nx' cl cl' rt rt') (s : rS μ h0 H0 h H) (hl : rl h.1.length ls) (hs : rl h.1.length st) : Q (am_x_ifCond_gt nx cl rt none rk n ts cv cj ls st h) (am_x_ifCond_gt nx' cl' rt' none rk n ts cv cj (ls.map (rv μ)) (st.map (rv μ)) H) := by
  unfold am_x_ifCond_gt
  split
  · exact r_i1 C.1 hs (fun x r hr => r_if Iff.rfl (fun _ => C.2.1 _ _ _ _ _ s hl hr) (fun _ => C.2.1 _ _ _ _ _ s hl hr))
  · exact C.1 _
theorem r_x_ifCond_le (C : rC μ h0 H0 Q nx nx' cl cl' rt rt') (s : rS μ h0 H0 h H) (hl : rl h.1.length ls) (hs : rl h.1.length st) : Q (am_x_ifCond_le nx cl rt none rk n ts cv cj ls st h) (am_x_ifCond_le nx' cl' rt' none rk n ts cv cj (ls.map (rv μ)) (st.map (rv μ)) H) := by
  unfold am_x_ifCond_le
  split
  · exact r_i1 C.1 hs (fun x r hr => r_if Iff.rfl (fun _ => C.2.1 _ _ _ _ _ s hl hr) (fun _ => C.2.1 _ _ _ _ _ s hl hr))
  · exact C.1 _
theorem r_x_if_icmp_eq (C : rC μ h0 H0 Q nx nx' cl cl' rt rt') (s : rS μ h0 H0 h H) (hl : rl h.1.length ls) (hs : rl h.1.length st) : Q (am_x_if_icmp_eq nx cl rt none rk n ts cv cj ls st h) (am_x_if_icmp_eq nx' cl' rt' none rk n ts cv cj (ls.map (rv μ)) (st.map (rv μ)) H) := by
  unfold am_x_if_icmp_eq
  split
  · exact r_i2 C.1 hs (fun x y r hr => r_if Iff.rfl (fun _ => C.2.1 _ _ _ _ _ s hl hr) (fun _ => C.2.1 _ _ _ _ _ s hl hr))
  · exact C.1 _
theorem r_x_if_icmp_ne (C : rC μ h0 H0 Q nx nx' cl cl' rt rt') (s : rS μ h0 H0 h H) (hl : rl h.1.length ls) (hs : rl h.1.length st) : Q (am_x_if_icmp_ne nx cl rt none rk n ts cv cj ls st h) (am_x_if_icmp_ne nx' cl' rt' none rk n ts cv cj (ls.map (rv μ)) (st.map (rv μ)) H) := by
  unfold am_x_if_icmp_ne
  split
  · exact r_i2 C.1 hs (fun x y r hr => r_if Iff.rfl (fun _ => C.2.1 _ _ _ _ _ s hl hr) (fun _ => C.2.1 _ _ _ _ _ s hl hr))
  · exact C.1 _
theorem r_x_if_icmp_lt (C : rC μ h0 H0 Q nx nx' cl cl' rt rt') (s : rS μ h0 H0 h H) (hl : rl h.1.length ls) (hs : rl h.1.length st) : Q (am_x_if_icmp_lt nx cl rt none rk n ts cv cj ls st h) (am_x_if_icmp_lt nx' cl' rt' none rk n ts cv cj (ls.map (rv μ)) (st.map (rv μ)) H) := by
  unfold am_x_if_icmp_lt
  split
  · exact r_i2 C.1 hs (fun x y r hr => r_if Iff.rfl (fun _ => C.2.1 _ _ _ _ _ s hl hr) (fun _ => C.2.1 _ _ _ _ _ s hl hr))
  · exact C.1 _
theorem r_x_if_icmp_ge (C : rC μ h0 H0 Q nx nx' cl cl' rt rt') (s : rS μ h0 H0 h H) (hl : rl h.1.length ls) (hs : rl h.1.length st) : Q (am_x_if_icmp_ge nx cl rt none rk n ts cv cj ls st h) (am_x_if_icmp_ge nx' cl' rt' none rk n ts cv cj (ls.map (rv μ)) (st.map (rv μ)) H) := by
  unfold am_x_if_icmp_ge
  split
  · exact r_i2 C.1 hs (fun x y r hr => r_if Iff.rfl (fun _ => C.2.1 _ _ _ _ _ s hl hr) (fun _ => C.2.1 _ _ _ _ _ s hl hr))
  · exact C.1 _
theorem r_x_if_icmp_gt (C : rC μ h0 H0 Q nx nx' cl cl' rt rt') (s : rS μ h0 H0 h H) (hl : rl h.1.length ls) (hs : rl h.1.length st) : Q (am_x_if_icmp_gt nx cl rt none rk n ts cv cj ls st h) (am_x_if_icmp_gt nx' cl' rt' none rk n ts cv cj (ls.map (rv μ)) (st.map (rv μ)) H) := by
  unfold am_x_if_icmp_gt
  split
  · exact r_i2 C.1 hs (fun x y r hr => r_if Iff.rfl (fun _ => C.2.1 _ _ _ _ _ s hl hr) (fun _ => C.2.1 _ _ _ _ _ s hl hr))
  · exact C.1 _
theorem r_x_if_icmp_le (C : rC μ h0 H0 Q nx nx' cl cl' rt rt') (s : rS μ h0 H0 h H) (hl : rl h.1.length ls) (hs : rl h.1.length st) : Q (am_x_if_icmp_le nx cl rt none rk n ts cv cj ls st h) (am_x_if_icmp_le nx' cl' rt' none rk n ts cv cj (ls.map (rv μ)) (st.map (rv μ)) H) := by
  unfold am_x_if_icmp_le
  split
  · exact r_i2 C.1 hs (fun x y r hr => r_if Iff.rfl (fun _ => C.2.1 _ _ _ _ _ s hl hr) (fun _ => C.2.1 _ _ _ _ _ s hl hr))
  · exact C.1 _
theorem r_x_ifnonnull (C : rC μ h0 H0 Q nx nx' cl cl' rt rt') (s : rS μ h0 H0 h H) (hl : rl h.1.length ls) (hs : rl h.1.length st) : Q (am_x_ifnonnull nx cl rt none rk n ts cv cj ls st h) (am_x_ifnonnull nx' cl' rt' none rk n ts cv cj (ls.map (rv μ)) (st.map (rv μ)) H) := by
  unfold am_x_ifnonnull
  split
  · exact r_o1 C.1 hs (fun v r hv hr => r_oe (fun _ => C.2.1 _ _ _ _ _ s hl hr) (fun b _ => C.2.1 _ _ _ _ _ s hl hr))
  · exact C.1 _
theorem r_x_goto (C : rC μ h0 H0 Q nx nx' cl cl' rt rt') (s : rS μ h0 H0 h H) (hl : rl h.1.length ls) (hs : rl h.1.length st) : Q (am_x_goto nx cl rt none rk n ts cv cj ls st h) (am_x_goto nx' cl' rt' none rk n ts cv cj (ls.map (rv μ)) (st.map (rv μ)) H) := by
  unfold am_x_goto
  split
  · exact C.2.1 _ _ _ _ _ s hl hs
  · exact C.1 _
theorem r_x_tableswitch (C : rC μ h0 H0 Q nx nx' cl cl' rt rt') (s : rS μ h0 H0 h H) (hl : rl h.1.length ls) (hs : rl h.1.length st) : Q (am_x_tableswitch nx cl rt none rk n ts cv cj ls st h) (am_x_tableswitch nx' cl' rt' none rk n ts cv cj (ls.map (rv μ)) (st.map (rv μ)) H) := by
  unfold am_x_tableswitch
  split
  · exact r_i1 C.1 hs (fun x r hr => r_sw (fun p => C.2.1 _ _ _ _ _ s hl hr) _ _)
  · exact C.1 _
theorem r_x_getfield (C : rC μ h0 H0 Q nx nx' cl cl' rt rt') (s : rS μ h0 H0 h H) (hl : rl h.1.length ls) (hs : rl h.1.length st) : Q (am_x_getfield nx cl rt none rk n ts cv cj ls st h) (am_x_getfield nx' cl' rt' none rk n ts cv cj (ls.map (rv μ)) (st.map (rv μ)) H) := by
  unfold am_x_getfield
  split
  · refine r_r1 C.1 hs (fun a r ha hr => r_if (by rw [s.1.kd]) (fun _ => ?_) (fun _ => C.1 _))
    rw [(s.1.2.2.2.2.1 a ha).2.2]
    exact r_oe (fun _ => C.2.1 _ _ _ _ _ s hl (rl_cons rok_n hr)) (fun b e => C.2.1 _ _ _ _ _ s hl (rl_cons (rok_r (s.1.2.2.2.2.2 a _ b ha e)) hr))
  · refine r_r1 C.1 hs (fun a r ha hr => r_if (by rw [s.1.kd]) (fun _ => ?_) (fun _ => C.1 _))
    rw [(s.1.2.2.2.2.1 a ha).1]
    exact C.2.1 _ _ _ _ _ s hl (rl_cons rok_i hr)
  · exact C.1 _
theorem r_x_putfield (C : rC μ h0 H0 Q nx nx' cl cl' rt rt') (s : rS μ h0 H0 h H) (hl : rl h.1.length ls) (hs : rl h.1.length st) (h9 : ts.head? ≠ some 9) : Q (am_x_putfield nx cl rt none rk n ts cv cj ls st h) (am_x_putfield nx' cl' rt' none rk n ts cv cj (ls.map (rv μ)) (st.map (rv μ)) H) := by
  unfold am_x_putfield
  split
  · refine r_rr C.1 hs (fun a v r ha hv hr => r_if (by rw [s.1.kd]) (fun hc => ?_) (fun _ => C.1 _))
    exact C.2.1 _ _ _ _ _ (s.sR C.2.2.2.2 ha (fun z => h9 (by show some _ = some 9; rw [← hc, z])) _ v hv) hl hr
  · refine r_ri C.1 hs (fun a x r ha hr => r_if (by rw [s.1.kd]) (fun hc => r_if Iff.rfl (fun _ => ?_) (fun _ => C.1 _)) (fun _ => C.1 _))
    exact C.2.1 _ _ _ _ _ (s.sI C.2.2.2.2 ha (fun z => h9 (by show some _ = some 9; rw [← hc, z])) _ _) hl hr
  · refine r_ri C.1 hs (fun a x r ha hr => r_if (by rw [s.1.kd]) (fun hc => ?_) (fun _ => C.1 _))
    exact C.2.1 _ _ _ _ _ (s.sI C.2.2.2.2 ha (fun z => h9 (by show some _ = some 9; rw [← hc, z])) _ _) hl hr
  · exact C.1 _
theorem r_x_new (C : rC μ h0 H0 Q nx nx' cl cl' rt rt') (s : rS μ h0 H0 h H) (hl : rl h.1.length ls) (hs : rl h.1.length st) : Q (am_x_new nx cl rt none rk n ts cv cj ls st h) (am_x_new nx' cl' rt' none rk n ts cv cj (ls.map (rv μ)) (st.map (rv μ)) H) := by
  unfold am_x_new
  split
  · rename_i ci nf
    have e : (am_nw h ci nf).1.length = h.1.length + 1 := by show (h.1 ++ [(ci, nf)]).length = _; simp
    have k := C.2.1 n ls (.ref h.1.length :: st) _ _ (s.nw ci nf) (hl.m (by rw [e]; omega)) (rl_cons (rok_r (by rw [e]; omega)) (hs.m (by rw [e]; omega)))
    rw [List.map_cons, show rv μ (.ref h.1.length) = .ref H.1.length by show Value.ref (μ h.1.length) = _; rw [s.1.end_]] at k
    exact k
  · exact C.1 _
theorem r_x_newarray (C : rC μ h0 H0 Q nx nx' cl cl' rt rt') (s : rS μ h0 H0 h H) (hl : rl h.1.length ls) (hs : rl h.1.length st) : Q (am_x_newarray nx cl rt none rk n ts cv cj ls st h) (am_x_newarray nx' cl' rt' none rk n ts cv cj (ls.map (rv μ)) (st.map (rv μ)) H) := by
  unfold am_x_newarray
  split
  · rename_i ci
    refine r_i1 C.1 hs (fun x r hr => r_if Iff.rfl (fun _ => C.1 _) (fun _ => ?_))
    have e : (am_nw h ci x.toNatClampNeg).1.length = h.1.length + 1 := by show (h.1 ++ [(ci, x.toNatClampNeg)]).length = _; simp
    have k := C.2.1 n ls (.ref h.1.length :: r) _ _ (s.nw ci x.toNatClampNeg) (hl.m (by rw [e]; omega)) (rl_cons (rok_r (by rw [e]; omega)) (hr.m (by rw [e]; omega)))
    rw [List.map_cons, show rv μ (.ref h.1.length) = .ref H.1.length by show Value.ref (μ h.1.length) = _; rw [s.1.end_]] at k
    exact k
  · exact C.1 _
theorem r_x_anewarray (C : rC μ h0 H0 Q nx nx' cl cl' rt rt') (s : rS μ h0 H0 h H) (hl : rl h.1.length ls) (hs : rl h.1.length st) : Q (am_x_anewarray nx cl rt none rk n ts cv cj ls st h) (am_x_anewarray nx' cl' rt' none rk n ts cv cj (ls.map (rv μ)) (st.map (rv μ)) H) := by
  unfold am_x_anewarray
  · refine r_i1 C.1 hs (fun x r hr => r_if Iff.rfl (fun _ => C.1 _) (fun _ => ?_))
    have e : (am_nw h 8 x.toNatClampNeg).1.length = h.1.length + 1 := by show (h.1 ++ [(8, x.toNatClampNeg)]).length = _; simp
    have k := C.2.1 n ls (.ref h.1.length :: r) _ _ (s.nw 8 x.toNatClampNeg) (hl.m (by rw [e]; omega)) (rl_cons (rok_r (by rw [e]; omega)) (hr.m (by rw [e]; omega)))
    rw [List.map_cons, show rv μ (.ref h.1.length) = .ref H.1.length by show Value.ref (μ h.1.length) = _; rw [s.1.end_]] at k
    exact k
theorem r_x_arraylength (C : rC μ h0 H0 Q nx nx' cl cl' rt rt') (s : rS μ h0 H0 h H) (hl : rl h.1.length ls) (hs : rl h.1.length st) : Q (am_x_arraylength nx cl rt none rk n ts cv cj ls st h) (am_x_arraylength nx' cl' rt' none rk n ts cv cj (ls.map (rv μ)) (st.map (rv μ)) H) := by
  unfold am_x_arraylength
  refine r_r1 C.1 hs (fun a r ha hr => r_if (by rw [s.1.kd]) (fun _ => ?_) (fun _ => C.1 _))
  rw [s.1.ln]
  exact C.2.1 _ _ _ _ _ s hl (rl_cons rok_i hr)
theorem r_x_iaload (C : rC μ h0 H0 Q nx nx' cl cl' rt rt') (s : rS μ h0 H0 h H) (hl : rl h.1.length ls) (hs : rl h.1.length st) : Q (am_x_iaload nx cl rt none rk n ts cv cj ls st h) (am_x_iaload nx' cl' rt' none rk n ts cv cj (ls.map (rv μ)) (st.map (rv μ)) H) := by
  unfold am_x_iaload
  refine r_ai C.1 hs (fun a x r ha hr => r_if (by rw [s.1.kd, s.1.ln]) (fun _ => ?_) (fun _ => C.1 _))
  rw [(s.1.2.2.2.2.1 a ha).1]
  exact C.2.1 _ _ _ _ _ s hl (rl_cons rok_i hr)
theorem r_x_laload (C : rC μ h0 H0 Q nx nx' cl cl' rt rt') (s : rS μ h0 H0 h H) (hl : rl h.1.length ls) (hs : rl h.1.length st) : Q (am_x_laload nx cl rt none rk n ts cv cj ls st h) (am_x_laload nx' cl' rt' none rk n ts cv cj (ls.map (rv μ)) (st.map (rv μ)) H) := by
  unfold am_x_laload
  refine r_ai C.1 hs (fun a x r ha hr => r_if (by rw [s.1.kd, s.1.ln]) (fun _ => ?_) (fun _ => C.1 _))
  rw [(s.1.2.2.2.2.1 a ha).2.1]
  exact C.2.1 _ _ _ _ _ s hl (rl_cons rok_l hr)
theorem r_x_caload (C : rC μ h0 H0 Q nx nx' cl cl' rt rt') (s : rS μ h0 H0 h H) (hl : rl h.1.length ls) (hs : rl h.1.length st) : Q (am_x_caload nx cl rt none rk n ts cv cj ls st h) (am_x_caload nx' cl' rt' none rk n ts cv cj (ls.map (rv μ)) (st.map (rv μ)) H) := by
  unfold am_x_caload
  refine r_ai C.1 hs (fun a x r ha hr => r_if (by rw [s.1.kd, s.1.ln]) (fun _ => ?_) (fun _ => C.1 _))
  rw [(s.1.2.2.2.2.1 a ha).1]
  exact C.2.1 _ _ _ _ _ s hl (rl_cons rok_i hr)
theorem r_x_aaload (C : rC μ h0 H0 Q nx nx' cl cl' rt rt') (s : rS μ h0 H0 h H) (hl : rl h.1.length ls) (hs : rl h.1.length st) : Q (am_x_aaload nx cl rt none rk n ts cv cj ls st h) (am_x_aaload nx' cl' rt' none rk n ts cv cj (ls.map (rv μ)) (st.map (rv μ)) H) := by
  unfold am_x_aaload
  refine r_ai C.1 hs (fun a x r ha hr => r_if (by rw [s.1.kd, s.1.ln]) (fun _ => ?_) (fun _ => C.1 _))
  rw [(s.1.2.2.2.2.1 a ha).2.2]
  exact r_oe (fun _ => C.2.1 _ _ _ _ _ s hl (rl_cons rok_n hr)) (fun b e => C.2.1 _ _ _ _ _ s hl (rl_cons (rok_r (s.1.2.2.2.2.2 a _ b ha e)) hr))
theorem r_x_iastore (C : rC μ h0 H0 Q nx nx' cl cl' rt rt') (s : rS μ h0 H0 h H) (hl : rl h.1.length ls) (hs : rl h.1.length st) : Q (am_x_iastore nx cl rt none rk n ts cv cj ls st h) (am_x_iastore nx' cl' rt' none rk n ts cv cj (ls.map (rv μ)) (st.map (rv μ)) H) := by
  unfold am_x_iastore
  refine r_aii C.1 hs (fun a x v r ha hr => r_if (by rw [s.1.kd, s.1.ln]) (fun hc => ?_) (fun _ => C.1 _))
  exact C.2.1 _ _ _ _ _ (s.sI C.2.2.2.2 ha (by rw [hc.1]; decide) _ _) hl hr
theorem r_x_lastore (C : rC μ h0 H0 Q nx nx' cl cl' rt rt') (s : rS μ h0 H0 h H) (hl : rl h.1.length ls) (hs : rl h.1.length st) : Q (am_x_lastore nx cl rt none rk n ts cv cj ls st h) (am_x_lastore nx' cl' rt' none rk n ts cv cj (ls.map (rv μ)) (st.map (rv μ)) H) := by
  unfold am_x_lastore
  refine r_ail C.1 hs (fun a x v r ha hr => r_if (by rw [s.1.kd, s.1.ln]) (fun hc => ?_) (fun _ => C.1 _))
  exact C.2.1 _ _ _ _ _ (s.sJ C.2.2.2.2 ha (by rw [hc.1]; decide) _ _) hl hr
theorem r_x_castore (C : rC μ h0 H0 Q nx nx' cl cl' rt rt') (s : rS μ h0 H0 h H) (hl : rl h.1.length ls) (hs : rl h.1.length st) : Q (am_x_castore nx cl rt none rk n ts cv cj ls st h) (am_x_castore nx' cl' rt' none rk n ts cv cj (ls.map (rv μ)) (st.map (rv μ)) H) := by
  unfold am_x_castore
  refine r_aii C.1 hs (fun a x v r ha hr => r_if (by rw [s.1.kd, s.1.ln]) (fun hc => ?_) (fun _ => C.1 _))
  exact C.2.1 _ _ _ _ _ (s.sI C.2.2.2.2 ha (by rw [hc.1]; decide) _ _) hl hr
theorem r_x_aastore (C : rC μ h0 H0 Q nx nx' cl cl' rt rt') (s : rS μ h0 H0 h H) (hl : rl h.1.length ls) (hs : rl h.1.length st) : Q (am_x_aastore nx cl rt none rk n ts cv cj ls st h) (am_x_aastore nx' cl' rt' none rk n ts cv cj (ls.map (rv μ)) (st.map (rv μ)) H) := by
  unfold am_x_aastore
  refine r_air C.1 hs (fun a x v r ha hv hr => r_if (by rw [s.1.kd, s.1.ln]) (fun hc => ?_) (fun _ => C.1 _))
  have h9 : am_kd h a ≠ 9 := by rw [hc.1]; decide
  refine r_oe (fun _ => C.2.1 _ _ _ _ _ (s.sR C.2.2.2.2 ha h9 _ none (fun b e => by cases e)) hl hr) (fun b e => r_if (by rw [s.1.kd]) (fun _ => ?_) (fun _ => C.1 _))
  exact C.2.1 _ _ _ _ _ (s.sR C.2.2.2.2 ha h9 _ (some b) (fun b' e' => by cases e'; exact hv b e)) hl hr
theorem r_x_inv (C : rC μ h0 H0 Q nx nx' cl cl' rt rt') (s : rS μ h0 H0 h H) (hl : rl h.1.length ls) (hs : rl h.1.length st) : Q (am_x_inv nx cl rt none rk n ts cv cj ls st h) (am_x_inv nx' cl' rt' none rk n ts cv cj (ls.map (rv μ)) (st.map (rv μ)) H) := by
  unfold am_x_inv
  unfold am_inv
  split
  · rename_i mi na rk nL
    have e := rv_pop (μ := μ) na st []
    rw [List.map_nil] at e
    dsimp only
    rw [e]
    split
    · rename_i as r ep
      have w := rl_pop na st [] _ ep hs rl_nil
      rw [ep]
      refine r_if (by rw [rv_w8, rv_pad, List.length_map]) (fun _ => ?_) (fun _ => C.1 _)
      exact C.2.2.1 _ _ _ _ _ _ _ _ _ s w.1 hl w.2
    · exact C.1 _
  · rename_i mi na rk nL rc
    have e := rv_pop (μ := μ) na st []
    rw [List.map_nil] at e
    dsimp only
    rw [e]
    split
    · rename_i as b r ep
      have w := rl_pop na st [] _ ep hs rl_nil
      rw [ep]
      refine r_if (by rw [s.1.kd]) (fun _ => r_if (by rw [rv_w8, show (Value.ref (μ b) :: as.map (rv μ)) = (Value.ref b :: as).map (rv μ) from rfl, rv_pad, List.length_map]) (fun _ => ?_) (fun _ => C.1 _)) (fun _ => C.1 _)
      exact C.2.2.1 _ _ _ _ _ _ _ _ _ s (rl_cons w.2.hd w.1) hl w.2.tl
    · exact C.1 _
  · split
    · rename_i a r
      refine r_if (by rw [rv_w8]) (fun _ => ?_) (fun _ => C.1 _)
      exact C.2.1 _ _ _ _ _ s hl hs.tl
    · exact C.1 _
  · split
    · rename_i c dp d sp a r
      refine r_if (by rw [s.1.kd, s.1.kd, s.1.ln, s.1.ln, rv_w8]) (fun hc => ?_) (fun _ => C.1 _)
      have ha := hs.tl.tl.tl.tl.hd _ rfl
      have hd := hs.tl.tl.hd _ rfl
      rw [(s.1.2.2.2.2.1 a ha).1, (s.1.2.2.2.2.1 d hd).1]
      exact C.2.1 _ _ _ _ _ (s.rI C.2.2.2.2 hd (by rw [hc.2.1]; decide) _) hl hs.tl.tl.tl.tl.tl
    · exact C.1 _
  · exact C.1 _
theorem r_x_ireturn (C : rC μ h0 H0 Q nx nx' cl cl' rt rt') (s : rS μ h0 H0 h H) (hl : rl h.1.length ls) (hs : rl h.1.length st) : Q (am_x_ireturn nx cl rt none rk n ts cv cj ls st h) (am_x_ireturn nx' cl' rt' none rk n ts cv cj (ls.map (rv μ)) (st.map (rv μ)) H) := by
  unfold am_x_ireturn
  split
  · rename_i x
    split
    · exact C.2.2.2.1 (some (.int x)) _ _ s (fun w e => by cases e; exact rok_i)
    · exact r_if Iff.rfl (fun _ => C.2.2.2.1 (some (.int x)) _ _ s (fun w e => by cases e; exact rok_i)) (fun _ => C.1 _)
    · exact C.1 _
  · exact C.1 _
theorem r_x_lreturn (C : rC μ h0 H0 Q nx nx' cl cl' rt rt') (s : rS μ h0 H0 h H) (hl : rl h.1.length ls) (hs : rl h.1.length st) : Q (am_x_lreturn nx cl rt none rk n ts cv cj ls st h) (am_x_lreturn nx' cl' rt' none rk n ts cv cj (ls.map (rv μ)) (st.map (rv μ)) H) := by
  unfold am_x_lreturn
  split
  · rename_i x
    split
    · exact C.2.2.2.1 (some (.long x)) _ _ s (fun w e => by cases e; exact rok_l)
    · exact C.1 _
  · exact C.1 _
theorem r_x_areturn (C : rC μ h0 H0 Q nx nx' cl cl' rt rt') (s : rS μ h0 H0 h H) (hl : rl h.1.length ls) (hs : rl h.1.length st) : Q (am_x_areturn nx cl rt none rk n ts cv cj ls st h) (am_x_areturn nx' cl' rt' none rk n ts cv cj (ls.map (rv μ)) (st.map (rv μ)) H) := by
  unfold am_x_areturn
  split
  · rename_i a
    split
    · exact C.2.2.2.1 (some (.ref a)) _ _ s (fun w e => by cases e; exact hs.hd)
    · exact C.1 _
  · exact C.1 _
theorem r_x_return_ (C : rC μ h0 H0 Q nx nx' cl cl' rt rt') (s : rS μ h0 H0 h H) (hl : rl h.1.length ls) (hs : rl h.1.length st) : Q (am_x_return_ nx cl rt none rk n ts cv cj ls st h) (am_x_return_ nx' cl' rt' none rk n ts cv cj (ls.map (rv μ)) (st.map (rv μ)) H) := by
  unfold am_x_return_
  split
  · split
    · exact C.2.2.2.1 none _ _ s (fun w e => by cases e)
    · exact C.1 _
  · exact C.1 _
theorem r_x_no (C : rC μ h0 H0 Q nx nx' cl cl' rt rt') (s : rS μ h0 H0 h H) (hl : rl h.1.length ls) (hs : rl h.1.length st) : Q (am_x_no nx cl rt none rk n ts cv cj ls st h) (am_x_no nx' cl' rt' none rk n ts cv cj (ls.map (rv μ)) (st.map (rv μ)) H) := by
  unfold am_x_no
  exact C.1 _
set_option maxHeartbeats 4000000 in
theorem r_exe (C : rC μ h0 H0 Q nx nx' cl cl' rt rt') (s : rS μ h0 H0 h H) (hl : rl h.1.length ls) (hs : rl h.1.length st) {i : Instr} (h9 : (∃ k, i = .putfield k) → ts.head? ≠ some 9) : Q (am_exe nx cl rt none rk i n ts cv cj ls st h) (am_exe nx' cl' rt' none rk i n ts cv cj (ls.map (rv μ)) (st.map (rv μ)) H) := by
  unfold am_exe
  cases i with
  | iconst k0 => exact r_x_cI C s hl hs
  | bipush k0 => exact r_x_cI C s hl hs
  | sipush k0 => exact r_x_cI C s hl hs
  | ldc k0 => exact r_x_cI C s hl hs
  | ldc2_w k0 => exact r_x_cJ C s hl hs
  | lconst k0 => exact r_x_cJ C s hl hs
  | aconst_null => exact r_x_aconst_null C s hl hs
  | iload k0 => exact r_x_iload C s hl hs
  | iload_n k0 => exact r_x_iload C s hl hs
  | lload k0 => exact r_x_lload C s hl hs
  | lload_n k0 => exact r_x_lload C s hl hs
  | aload k0 => exact r_x_aload C s hl hs
  | aload_n k0 => exact r_x_aload C s hl hs
  | istore k0 => exact r_x_istore C s hl hs
  | istore_n k0 => exact r_x_istore C s hl hs
  | lstore k0 => exact r_x_lstore C s hl hs
  | lstore_n k0 => exact r_x_lstore C s hl hs
  | astore k0 => exact r_x_astore C s hl hs
  | astore_n k0 => exact r_x_astore C s hl hs
  | iinc k0 z => exact r_x_iinc C s hl hs
  | iadd => exact r_x_iadd C s hl hs
  | isub => exact r_x_isub C s hl hs
  | imul => exact r_x_imul C s hl hs
  | iand => exact r_x_iand C s hl hs
  | ior => exact r_x_ior C s hl hs
  | ixor => exact r_x_ixor C s hl hs
  | idiv => exact r_x_idiv C s hl hs
  | irem => exact r_x_irem C s hl hs
  | ishl => exact r_x_ishl C s hl hs
  | ishr => exact r_x_ishr C s hl hs
  | ladd => exact r_x_ladd C s hl hs
  | lsub => exact r_x_lsub C s hl hs
  | lmul => exact r_x_lmul C s hl hs
  | land => exact r_x_land C s hl hs
  | lor => exact r_x_lor C s hl hs
  | lxor => exact r_x_lxor C s hl hs
  | ldiv => exact r_x_ldiv C s hl hs
  | lrem => exact r_x_lrem C s hl hs
  | lneg => exact r_x_lneg C s hl hs
  | lshl => exact r_x_lshl C s hl hs
  | lushr => exact r_x_lushr C s hl hs
  | lcmp => exact r_x_lcmp C s hl hs
  | i2l => exact r_x_i2l C s hl hs
  | l2i => exact r_x_l2i C s hl hs
  | i2c => exact r_x_i2c C s hl hs
  | dup => exact r_x_dup C s hl hs
  | dup2 => exact r_x_dup2 C s hl hs
  | ifnonnull k0 => exact r_x_ifnonnull C s hl hs
  | goto k0 => exact r_x_goto C s hl hs
  | tableswitch d lo hi offs => exact r_x_tableswitch C s hl hs
  | getfield k0 => exact r_x_getfield C s hl hs
  | putfield k0 => exact r_x_putfield C s hl hs (fun z => h9 ⟨_, rfl⟩ z)
  | new k0 => exact r_x_new C s hl hs
  | newarray k0 => exact r_x_newarray C s hl hs
  | anewarray k0 => exact r_x_anewarray C s hl hs
  | arraylength => exact r_x_arraylength C s hl hs
  | iaload => exact r_x_iaload C s hl hs
  | laload => exact r_x_laload C s hl hs
  | caload => exact r_x_caload C s hl hs
  | aaload => exact r_x_aaload C s hl hs
  | iastore => exact r_x_iastore C s hl hs
  | lastore => exact r_x_lastore C s hl hs
  | castore => exact r_x_castore C s hl hs
  | aastore => exact r_x_aastore C s hl hs
  | invokevirtual k0 => exact r_x_inv C s hl hs
  | invokespecial k0 => exact r_x_inv C s hl hs
  | invokestatic k0 => exact r_x_inv C s hl hs
  | ireturn => exact r_x_ireturn C s hl hs
  | lreturn => exact r_x_lreturn C s hl hs
  | areturn => exact r_x_areturn C s hl hs
  | return_ => exact r_x_return_ C s hl hs
  | ifCond cc off =>
    cases cc
    · exact r_x_ifCond_eq C s hl hs
    · exact r_x_ifCond_ne C s hl hs
    · exact r_x_ifCond_lt C s hl hs
    · exact r_x_ifCond_ge C s hl hs
    · exact r_x_ifCond_gt C s hl hs
    · exact r_x_ifCond_le C s hl hs
  | if_icmp cc off =>
    cases cc
    · exact r_x_if_icmp_eq C s hl hs
    · exact r_x_if_icmp_ne C s hl hs
    · exact r_x_if_icmp_lt C s hl hs
    · exact r_x_if_icmp_ge C s hl hs
    · exact r_x_if_icmp_gt C s hl hs
    · exact r_x_if_icmp_le C s hl hs
  | _ => exact C.1 _
end ops
/-- the code lays no field into a script -/
def rq (q : AE) : Bool := match q.2.1 with
  | .putfield _ => decide (q.2.2.2.1.head? ≠ some 9)
  | _ => true
theorem rq_of {q : AE} (h : rq q = true) : (∃ k, q.2.1 = .putfield k) → q.2.2.2.1.head? ≠ some 9 := by
  rintro ⟨k, e⟩
  unfold rq at h
  rw [e] at h
  exact of_decide_eq_true h
theorem am_fetch_mem : ∀ (l : List AE) (pc : Nat) (q : AE), am_fetch l pc = some q → q ∈ l
  | [], _, _, e => by cases e
  | a :: r, pc, q, e => by
    unfold am_fetch at e
    cases hb : Nat.beq a.1 pc
    · rw [hb] at e
      exact List.mem_cons_of_mem _ (am_fetch_mem r pc q e)
    · rw [hb] at e
      cases e
      exact List.mem_cons_self
theorem rS.le {μ : Nat → Nat} {h0 H0 h H : AH} (s : rS μ h0 H0 h H) : h0.1.length ≤ h.1.length := by
  obtain ⟨l, e, -⟩ := s.2.1
  rw [e, List.length_append]
  omega
/-- what a run comes to, and what it comes to in the other place -/
def rQ (μ : Nat → Nat) (h0 H0 : AH) (m : Nat) (a b : AR) : Prop := ∀ r, a = some r → ∃ H1, b = some (r.1.map (rv μ), H1) ∧ rS μ h0 H0 r.2 H1 ∧ (∀ v, r.1 = some v → rok r.2.1.length v) ∧ m ≤ r.2.1.length
theorem r_run {M : Nat → AMe} (hM : ∀ mi q, q ∈ (M mi).1 → rq q = true) {μ : Nat → Nat} {h0 H0 : AH} (q0 : ∀ i, μ (h0.1.length + i) = H0.1.length + i) : ∀ (n mi pc : Nat) (ls st : List Value) (h H : AH), rS μ h0 H0 h H → rl h.1.length ls → rl h.1.length st → rQ μ h0 H0 h.1.length (am_runP M n mi pc ls st h) (am_runP M n mi pc (ls.map (rv μ)) (st.map (rv μ)) H)
  | 0, _, _, _, _, _, _, _, _, _ => fun r hr => by cases hr
  | n + 1, mi, pc, ls, st, h, H, s, hl, hs => by
    unfold am_runP
    split
    · exact fun r hr => by cases hr
    · rename_i q hq
      rw [hq]
      dsimp only
      have hmono : ∀ {x : AR} {y : AR} {a b : Nat}, a ≤ b → rQ μ h0 H0 b x y → rQ μ h0 H0 a x y := fun hab k r hr => by
        obtain ⟨H1, e1, e2, e3, e4⟩ := k r hr
        exact ⟨H1, e1, e2, e3, Nat.le_trans hab e4⟩
      have key := r_exe (μ := μ) (h := h) (H := H) (h0 := h0) (H0 := H0) (ls := ls) (st := st) (Q := rQ μ h0 H0 0)
        (nx := fun pc ls st h => am_runP M n mi pc (am_fg (M mi).2.2.2 pc ls) st h) (nx' := fun pc ls st h => am_runP M n mi pc (am_fg (M mi).2.2.2 pc ls) st h)
        (cl := fun mi' rk nL as pc ls st h => am_bd rk (am_runP M n mi' 0 (am_entry nL as) [] h) fun vs h => am_runP M n mi pc (am_fg (M mi).2.2.2 pc ls) (vs ++ st) h)
        (cl' := fun mi' rk nL as pc ls st h => am_bd rk (am_runP M n mi' 0 (am_entry nL as) [] h) fun vs h => am_runP M n mi pc (am_fg (M mi).2.2.2 pc ls) (vs ++ st) h)
        (rt := fun v h => some (v, h)) (rt' := fun v h => some (v, h)) (rk := (M mi).2.2.1) (n := q.2.2.1) (ts := q.2.2.2.1) (cv := q.2.2.2.2.1) (cj := q.2.2.2.2.2) (i := q.2.1)
        ⟨fun b r hr => by cases hr, fun pc ls st h H s hl hs => by
          dsimp only
          rw [rv_fg]
          exact hmono (Nat.zero_le _) (r_run hM q0 n mi pc _ st h H s (rl_fg _ _ _ hl) hs), fun mi' rk nL as pc ls st h H s ha hl hs => by
          intro r hr
          dsimp only at hr ⊢
          obtain ⟨x, e1, e2, e3⟩ := am_bd_some hr
          obtain ⟨H1, k1, k2, k3, k4⟩ := r_run hM q0 n mi' 0 (am_entry nL as) [] h H s (rl_entry ha) rl_nil x e1
          have hv : rl x.2.1.length x.1.toList := fun v hv => by
            cases hx : x.1 with
            | none => rw [hx] at hv; cases hv
            | some w =>
              rw [hx] at hv
              rcases List.mem_cons.mp hv with rfl | z
              · exact k3 _ hx
              · cases z
          obtain ⟨H2, l1, l2, l3, l4⟩ := r_run hM q0 n mi pc _ _ x.2 H1 k2 (rl_fg (M mi).2.2.2 pc ls (hl.m k4)) (hv.app (hs.m k4)) r e2
          refine ⟨H2, ?_, l2, l3, Nat.zero_le _⟩
          rw [rv_entry, show ([] : List Value) = ([] : List Value).map (rv μ) from rfl, k1]
          have e4 : ∀ f', am_bd rk (some (x.1.map (rv μ), H1)) f' = f' (x.1.map (rv μ)).toList H1 := fun f' => by
            have z := e3 f'
            unfold am_bd at z ⊢
            obtain ⟨xv, xh⟩ := x
            revert hr e1 e2 e3 z
            cases rk using Nat.casesAuxOn <;> sorry
          rw [e4, rv_fg, show (x.1.map (rv μ)).toList = x.1.toList.map (rv μ) by cases x.1 <;> rfl, ← List.map_append]
          exact l1, fun v h H s hv r hr => by
          cases hr
          exact ⟨H, rfl, s, hv, Nat.zero_le _⟩, q0⟩ s hl hs (rq_of (hM mi q (am_fetch_mem _ _ _ hq)))
      intro r hr
      obtain ⟨H1, e1, e2, e3, -⟩ := key r hr
      exact ⟨H1, e1, e2, e3, (am_run_gr (M := M) (n + 1) mi pc ls st h r (by unfold am_runP; rw [hq]; exact hr)).1⟩
end
section
/-! ===== the claim out of the law over the small machine ===== -/
theorem am_law : am_Law := sorry
theorem whole_start {p : Program} {e : Env} {s : State} {m : MethodId} {below : List Frame} {meth : Method} {c : Code} (l : Launch) (hflags : l.flags = flags0) {b L : Nat} {xs : Nat → Int32} (hL : L ≤ 260) (C0 : lw_At p s m meth c b L xs) : W p l e room_1 s m #[Value.ref b] below meth c s.heap [] 0 0 (lw_Z below #[Value.ref b] s) (entryFrame m ([Value.ref b] : List Value).toArray 7) := whole_start_of am_law l hL C0
set_option maxHeartbeats 4000000 in
theorem lw_walk (l : Launch) (hflags : l.flags = flags0) (b : Addr) (xs : List Int32) : MetFree l x (headSpec (Jvm.Cond.code x code maxLocals ret :: tables_1) room_1) (lw_P b xs) (fun _ _ _ _ _ => True) lw_Q := by
  refine MetFree.of_bodyS (code := code) (maxLocals := maxLocals) (ret := ret) (by decide) ?_ ?_
  · intro args s m h hn
    obtain ⟨meth, c, h1, h2, h3, h4, h5, h6, -, -⟩ := Cond.code_spec hn (atoms_spec (ws := Jvm.Cond.code x code maxLocals ret :: tables_1) h _ List.mem_cons_self)
    exact ⟨meth, c, h1, h2, h3, h4, h5, h6⟩
  · intro p e s m args below meth c s₁ B hml0 hP _
    obtain ⟨rfl, hx, hbd, hgv⟩ := hP
    obtain ⟨scr, harrAt, hlist, hof, hsmall⟩ := hx
    obtain ⟨hcb, hkn, -, -⟩ := State.arrayAt?_spec harrAt
    have hown : s.vm.findClass R_law = some m.cls := findClass_of_methodNamed B.named
    have hts0 : ∀ c ∈ (Jvm.Cond.code x code maxLocals ret :: tables_1), c.before #[Value.ref b] s = true := atoms_spec (ws := Jvm.Cond.code x code maxLocals ret :: tables_1) B.pre
    have hts : ∀ w ∈ lw_tbl, w.before #[Value.ref b] s = true := k2_hts_sels lw_privs (fun w hw => hts0 w (List.mem_cons_of_mem _ hw)) lw_privs_ok
    have hml : c.maxLocals = 7 := B.maxLocals_eq (hts0 _ List.mem_cons_self)
    have X₀ : Stand p l e room_1 s m #[Value.ref b] below meth c s₁ [] 0 0 := Stand.of_body B
    have hh0 : s₁.heap = s.heap := by rw [B.state]; rfl
    have hsz : scr.slots.size = xs.length := by rw [← Array.length_toList, hlist, List.length_map]
    have hval : ∀ j : Nat, j < xs.length → scr.slots[j]? = some (.int (xs.getD j 0)) := fun j hj => by
      rw [← Array.getElem?_toList, hlist]
      simp [hj]
    have hbl : b < s.heap.size := (Array.getElem?_eq_some_iff.mp hcb).1
    have hX : va_X b xs.length (fun j => xs.getD j 0) s s.heap := ⟨scr, hcb, hof, hkn, hsz, hval⟩
    have K : W p l e room_1 s m #[Value.ref b] below meth c s₁.heap [] 0 0 (lw_Z below #[Value.ref b] s) (entryFrame m ([Value.ref b] : List Value).toArray 7) := by
      rw [hh0]
      exact whole_start l hflags hbd ⟨B.exec, B.bytes, B.returns, hml, hown, hts, hX, hbl, B.notSynchronized, hgv⟩
    obtain ⟨t, a1, o, b1, b2, b3⟩ := K s₁ rfl X₀
    exact ⟨t, o, a1, b1, b2, b3⟩
theorem lw_pre_spec {args : Array Value} {s : State} (h : (Jvm.Cond.and given_1 narrow_1).before args s = true) (hr : rest_1_c.before args s = true) : ∃ (b : Addr) (xs : List Int32), lw_P b xs args s := by
  have hs := flat_of_before _ h
  have hq := flat_of_before _ hr
  have hc : (Cond.count 1).before args s = true := hs _ (by decide +kernel)
  have harr : (Cond.arrayOf (.arg 0) .int).before args s = true := hs _ (by decide +kernel)
  have hle : (Cond.le (.length (.arg 0)) (.int 260)).before args s = true := hs _ (by decide +kernel)
  have hlen : (Cond.isInt (.length (.arg 0))).before args s = true := hq _ (by decide +kernel)
  have hall : (Cond.all (.arg 0) (.isInt (.elem (.arg 0) (.index 0)))).before args s = true := hq _ (by decide +kernel)
  obtain ⟨b, xs, hb, hx⟩ := State.ints_of_pre rfl harr hlen hall
  have hsm : xs.length < 2 ^ 31 := hx.choose_spec.2.2.2
  have hev : (Term.length (.arg 0)).eval args s none [] s = some (.int xs.length.toInt32) := hx.length_eval hb
  have hv := Cond.le_ints hev (show (Term.int 260).eval args s none [] s = some (.int 260) from rfl)
  have hd : xs.length.toInt32 ≤ 260 := by
    simpa [Cond.before, Cond.holds, hv] using hle
  have hN : xs.length ≤ 260 := (Int32.ofNat_le_ofNat hsm (by decide)).mp (show Int32.ofNat xs.length ≤ Int32.ofNat 260 from hd)
  exact ⟨b, xs, Cond.one_arg hc (show args[0]? = some (.ref b) from hb), hx, hN, h⟩
theorem lw_comes (l : Launch) (hflags : l.flags = flags0) : Comes l x (Jvm.Cond.code x code maxLocals ret :: tables_1) room_1 (fun tb e args s => Calls_1 tb e args s ∧ rest_1 tb e args s ∧ Pre_1 tb e args s)
    (fun _ _ args s o t => lw_Q args s o t) := by
  intro p e ha hc hk s m args below hf hfit hheap happ hpre
  obtain ⟨b, xs, hP⟩ := lw_pre_spec hpre.2.2 hpre.2.1
  obtain ⟨k, o, h1, h2, h3, hQ⟩ := lw_walk l hflags b xs p e ha hc hk s m args below hf ((Spec.applies_iff_loose hf).mp happ).1 hP trivial
  exact ⟨k, o, h1, h2, h3, hQ⟩
theorem lw_frame {s t : State} {o : Outcome} {args : Array Value} (h : Framed s o t [] 600000 7302250) :
    Framed s o t (fieldLocs frame_1_writes args s ++ arrayLocs frame_1_arrays args s ++ staticLocs frame_1_statics s) 600000 7302250 := h
theorem lw_limb (L : Cond) (hL : ∀ (args : Array Value) (s t : State), L.after args s (.returned (some (.int 1))) t = true) :
    ArmFor flags0 classFile x code maxLocals ret World_1 tables_1 room_1 Calls_1 rest_1 Pre_1
      (fun tb e a s o t => postC L tb e a s o t ∧ Framed s o t (fieldLocs frame_1_writes a s ++ arrayLocs frame_1_arrays a s ++ staticLocs frame_1_statics s) 600000 7302250) := by
  intro l hflags _ _ p e ha hc hk s m args below hf hfit hheap happ hpre
  obtain ⟨k, o, h1, h2, h3, rfl, hF⟩ := lw_comes l hflags p e ha hc hk s m args below hf hfit hheap happ hpre
  exact ⟨k, _, h1, h2, h3, hL args s _, lw_frame hF⟩
theorem i_vc : Claimed_1_1 ∧ Claimed_1_2 := ⟨lw_limb limb_1_1 (fun args s t => by simp [limb_1_1, Cond.after, Cond.holds, Cond.value]), lw_limb limb_1_2 (fun args s t => Cond.after_iff.mpr (by
  first | (rw [show limb_1_2 = Cond.eq .result (.int 1) from rfl, Cond.eq_ints (x := 1) (y := 1) rfl rfl]; simp; done) | (simp [limb_1_2, Cond.value, Term.eval]; done)))⟩
end
