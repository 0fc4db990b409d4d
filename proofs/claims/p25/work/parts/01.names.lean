-- ===== PART A: goes FIRST, ahead of the names: the tables' words, and 'selects' of the private methods out of them =====
/-- a private method of a class that the tables say can be made, by its rows of tables_1 -/
def lw_okq (q : MethodName × Nat) : Prop := (q.1.cls ≠ "java/lang/invoke/MethodHandle" ∧ q.1.cls ≠ "java/lang/invoke/VarHandle") ∧ Cond.instantiable q.1.cls q.2 ∈ tables_1 ∧ Cond.privateMethod q.1 ∈ tables_1 ∧ Cond.instanceMethod q.1 ∈ tables_1
theorem lw_p0 : lw_okq (⟨"ObedientDice", "recordChange", "()V"⟩, 6) := ⟨⟨by decide +kernel, by decide +kernel⟩, List.mem_of_getElem? (i := 8) (by decide +kernel), List.mem_of_getElem? (i := 158) (by decide +kernel), List.mem_of_getElem? (i := 159) (by decide +kernel)⟩
theorem lw_p1 : lw_okq (⟨"ObedientDice", "dropOldestChange", "()V"⟩, 6) := ⟨⟨by decide +kernel, by decide +kernel⟩, List.mem_of_getElem? (i := 8) (by decide +kernel), List.mem_of_getElem? (i := 162) (by decide +kernel), List.mem_of_getElem? (i := 163) (by decide +kernel)⟩
theorem lw_p2 : lw_okq (⟨"ObedientDice$Extremes", "startWithSingleCells", "(I)V"⟩, 11) := ⟨⟨by decide +kernel, by decide +kernel⟩, List.mem_of_getElem? (i := 56) (by decide +kernel), List.mem_of_getElem? (i := 246) (by decide +kernel), List.mem_of_getElem? (i := 247) (by decide +kernel)⟩
theorem lw_p3 : lw_okq (⟨"ObedientDice$Extremes", "startOfNext", "()I"⟩, 11) := ⟨⟨by decide +kernel, by decide +kernel⟩, List.mem_of_getElem? (i := 56) (by decide +kernel), List.mem_of_getElem? (i := 250) (by decide +kernel), List.mem_of_getElem? (i := 251) (by decide +kernel)⟩
theorem lw_p4 : lw_okq (⟨"ObedientDice$Extremes", "setNext", "(IJ)V"⟩, 11) := ⟨⟨by decide +kernel, by decide +kernel⟩, List.mem_of_getElem? (i := 56) (by decide +kernel), List.mem_of_getElem? (i := 254) (by decide +kernel), List.mem_of_getElem? (i := 255) (by decide +kernel)⟩
theorem lw_p5 : lw_okq (⟨"ObedientDice$Extremes", "finishNext", "(I)V"⟩, 11) := ⟨⟨by decide +kernel, by decide +kernel⟩, List.mem_of_getElem? (i := 56) (by decide +kernel), List.mem_of_getElem? (i := 258) (by decide +kernel), List.mem_of_getElem? (i := 259) (by decide +kernel)⟩
theorem lw_p6 : lw_okq (⟨"ObedientDice$Extremes", "turnToNext", "()V"⟩, 11) := ⟨⟨by decide +kernel, by decide +kernel⟩, List.mem_of_getElem? (i := 56) (by decide +kernel), List.mem_of_getElem? (i := 262) (by decide +kernel), List.mem_of_getElem? (i := 263) (by decide +kernel)⟩
theorem lw_p7 : lw_okq (⟨"ObedientDice$Extremes", "cutWith", "(LObedientDice$State;I)V"⟩, 11) := ⟨⟨by decide +kernel, by decide +kernel⟩, List.mem_of_getElem? (i := 56) (by decide +kernel), List.mem_of_getElem? (i := 267) (by decide +kernel), List.mem_of_getElem? (i := 268) (by decide +kernel)⟩
theorem lw_p8 : lw_okq (⟨"ObedientDice$Extremes", "takeSlacks", "(LObedientDice$State;I)V"⟩, 11) := ⟨⟨by decide +kernel, by decide +kernel⟩, List.mem_of_getElem? (i := 56) (by decide +kernel), List.mem_of_getElem? (i := 271) (by decide +kernel), List.mem_of_getElem? (i := 272) (by decide +kernel)⟩
theorem lw_p9 : lw_okq (⟨"ObedientDice$Extremes", "slackOf", "(I)J"⟩, 11) := ⟨⟨by decide +kernel, by decide +kernel⟩, List.mem_of_getElem? (i := 56) (by decide +kernel), List.mem_of_getElem? (i := 284) (by decide +kernel), List.mem_of_getElem? (i := 285) (by decide +kernel)⟩
theorem lw_p10 : lw_okq (⟨"ObedientDice$Extremes", "keep", "(II)V"⟩, 11) := ⟨⟨by decide +kernel, by decide +kernel⟩, List.mem_of_getElem? (i := 56) (by decide +kernel), List.mem_of_getElem? (i := 288) (by decide +kernel), List.mem_of_getElem? (i := 289) (by decide +kernel)⟩
theorem lw_p11 : lw_okq (⟨"ObedientDice$Extremes", "tightOf", "(I)I"⟩, 11) := ⟨⟨by decide +kernel, by decide +kernel⟩, List.mem_of_getElem? (i := 56) (by decide +kernel), List.mem_of_getElem? (i := 292) (by decide +kernel), List.mem_of_getElem? (i := 293) (by decide +kernel)⟩
theorem lw_p12 : lw_okq (⟨"ObedientDice$Extremes", "addNeighboursBelow", "(II)V"⟩, 11) := ⟨⟨by decide +kernel, by decide +kernel⟩, List.mem_of_getElem? (i := 56) (by decide +kernel), List.mem_of_getElem? (i := 296) (by decide +kernel), List.mem_of_getElem? (i := 297) (by decide +kernel)⟩
theorem lw_p13 : lw_okq (⟨"ObedientDice$Extremes", "areNeighbours", "(II)Z"⟩, 11) := ⟨⟨by decide +kernel, by decide +kernel⟩, List.mem_of_getElem? (i := 56) (by decide +kernel), List.mem_of_getElem? (i := 300) (by decide +kernel), List.mem_of_getElem? (i := 301) (by decide +kernel)⟩
theorem lw_p14 : lw_okq (⟨"ObedientDice$Extremes", "addBetween", "(III)V"⟩, 11) := ⟨⟨by decide +kernel, by decide +kernel⟩, List.mem_of_getElem? (i := 56) (by decide +kernel), List.mem_of_getElem? (i := 304) (by decide +kernel), List.mem_of_getElem? (i := 305) (by decide +kernel)⟩
theorem lw_p15 : lw_okq (⟨"ObedientDice$Extremes", "mixedAtCut", "(III)J"⟩, 11) := ⟨⟨by decide +kernel, by decide +kernel⟩, List.mem_of_getElem? (i := 56) (by decide +kernel), List.mem_of_getElem? (i := 308) (by decide +kernel), List.mem_of_getElem? (i := 309) (by decide +kernel)⟩
def lw_privs_1 : List (MethodName × Nat) := [(⟨"ObedientDice", "recordChange", "()V"⟩, 6), (⟨"ObedientDice", "dropOldestChange", "()V"⟩, 6), (⟨"ObedientDice$Extremes", "startWithSingleCells", "(I)V"⟩, 11), (⟨"ObedientDice$Extremes", "startOfNext", "()I"⟩, 11), (⟨"ObedientDice$Extremes", "setNext", "(IJ)V"⟩, 11), (⟨"ObedientDice$Extremes", "finishNext", "(I)V"⟩, 11), (⟨"ObedientDice$Extremes", "turnToNext", "()V"⟩, 11), (⟨"ObedientDice$Extremes", "cutWith", "(LObedientDice$State;I)V"⟩, 11), (⟨"ObedientDice$Extremes", "takeSlacks", "(LObedientDice$State;I)V"⟩, 11), (⟨"ObedientDice$Extremes", "slackOf", "(I)J"⟩, 11), (⟨"ObedientDice$Extremes", "keep", "(II)V"⟩, 11), (⟨"ObedientDice$Extremes", "tightOf", "(I)I"⟩, 11), (⟨"ObedientDice$Extremes", "addNeighboursBelow", "(II)V"⟩, 11), (⟨"ObedientDice$Extremes", "areNeighbours", "(II)Z"⟩, 11), (⟨"ObedientDice$Extremes", "addBetween", "(III)V"⟩, 11), (⟨"ObedientDice$Extremes", "mixedAtCut", "(III)J"⟩, 11)]
theorem lw_r1 : ∀ q ∈ lw_privs_1, lw_okq q := List.forall_mem_cons.mpr ⟨lw_p0, List.forall_mem_cons.mpr ⟨lw_p1, List.forall_mem_cons.mpr ⟨lw_p2, List.forall_mem_cons.mpr ⟨lw_p3, List.forall_mem_cons.mpr ⟨lw_p4, List.forall_mem_cons.mpr ⟨lw_p5, List.forall_mem_cons.mpr ⟨lw_p6, List.forall_mem_cons.mpr ⟨lw_p7, List.forall_mem_cons.mpr ⟨lw_p8, List.forall_mem_cons.mpr ⟨lw_p9, List.forall_mem_cons.mpr ⟨lw_p10, List.forall_mem_cons.mpr ⟨lw_p11, List.forall_mem_cons.mpr ⟨lw_p12, List.forall_mem_cons.mpr ⟨lw_p13, List.forall_mem_cons.mpr ⟨lw_p14, List.forall_mem_cons.mpr ⟨lw_p15, fun _ h => absurd h List.not_mem_nil⟩⟩⟩⟩⟩⟩⟩⟩⟩⟩⟩⟩⟩⟩⟩⟩
theorem lw_p16 : lw_okq (⟨"ObedientDice$Extremes", "sumUp", "()V"⟩, 11) := ⟨⟨by decide +kernel, by decide +kernel⟩, List.mem_of_getElem? (i := 56) (by decide +kernel), List.mem_of_getElem? (i := 321) (by decide +kernel), List.mem_of_getElem? (i := 322) (by decide +kernel)⟩
theorem lw_p17 : lw_okq (⟨"ObedientDice$Extremes", "sort", "()V"⟩, 11) := ⟨⟨by decide +kernel, by decide +kernel⟩, List.mem_of_getElem? (i := 56) (by decide +kernel), List.mem_of_getElem? (i := 325) (by decide +kernel), List.mem_of_getElem? (i := 326) (by decide +kernel)⟩
theorem lw_p18 : lw_okq (⟨"ObedientDice$Extremes", "comesBefore", "(II)Z"⟩, 11) := ⟨⟨by decide +kernel, by decide +kernel⟩, List.mem_of_getElem? (i := 56) (by decide +kernel), List.mem_of_getElem? (i := 329) (by decide +kernel), List.mem_of_getElem? (i := 330) (by decide +kernel)⟩
theorem lw_p19 : lw_okq (⟨"ObedientDice$Extremes", "exchange", "(II)V"⟩, 11) := ⟨⟨by decide +kernel, by decide +kernel⟩, List.mem_of_getElem? (i := 56) (by decide +kernel), List.mem_of_getElem? (i := 337) (by decide +kernel), List.mem_of_getElem? (i := 338) (by decide +kernel)⟩
theorem lw_p20 : lw_okq (⟨"ObedientDice", "isCell", "(II)Z"⟩, 6) := ⟨⟨by decide +kernel, by decide +kernel⟩, List.mem_of_getElem? (i := 8) (by decide +kernel), List.mem_of_getElem? (i := 358) (by decide +kernel), List.mem_of_getElem? (i := 359) (by decide +kernel)⟩
theorem lw_p21 : lw_okq (⟨"ObedientDice", "mixWith", "(LObedientDice$Extremes;III)I"⟩, 6) := ⟨⟨by decide +kernel, by decide +kernel⟩, List.mem_of_getElem? (i := 8) (by decide +kernel), List.mem_of_getElem? (i := 455) (by decide +kernel), List.mem_of_getElem? (i := 456) (by decide +kernel)⟩
theorem lw_p22 : lw_okq (⟨"ObedientDice", "mixedWeight", "(LObedientDice$Extremes;IIII)J"⟩, 6) := ⟨⟨by decide +kernel, by decide +kernel⟩, List.mem_of_getElem? (i := 8) (by decide +kernel), List.mem_of_getElem? (i := 459) (by decide +kernel), List.mem_of_getElem? (i := 460) (by decide +kernel)⟩
def lw_privs_2 : List (MethodName × Nat) := [(⟨"ObedientDice$Extremes", "sumUp", "()V"⟩, 11), (⟨"ObedientDice$Extremes", "sort", "()V"⟩, 11), (⟨"ObedientDice$Extremes", "comesBefore", "(II)Z"⟩, 11), (⟨"ObedientDice$Extremes", "exchange", "(II)V"⟩, 11), (⟨"ObedientDice", "isCell", "(II)Z"⟩, 6), (⟨"ObedientDice", "mixWith", "(LObedientDice$Extremes;III)I"⟩, 6), (⟨"ObedientDice", "mixedWeight", "(LObedientDice$Extremes;IIII)J"⟩, 6)]
theorem lw_r2 : ∀ q ∈ lw_privs_2, lw_okq q := List.forall_mem_cons.mpr ⟨lw_p16, List.forall_mem_cons.mpr ⟨lw_p17, List.forall_mem_cons.mpr ⟨lw_p18, List.forall_mem_cons.mpr ⟨lw_p19, List.forall_mem_cons.mpr ⟨lw_p20, List.forall_mem_cons.mpr ⟨lw_p21, List.forall_mem_cons.mpr ⟨lw_p22, fun _ h => absurd h List.not_mem_nil⟩⟩⟩⟩⟩⟩⟩
def lw_privs : List (MethodName × Nat) := lw_privs_1 ++ (lw_privs_2)
def lw_tbl : List Cond := k2_sels lw_privs ++ tables_1
theorem lw_privs_ok : ∀ q ∈ lw_privs, lw_okq q := by
  show ∀ q ∈ lw_privs_1 ++ (lw_privs_2), lw_okq q
  exact List.forall_mem_append.mpr ⟨lw_r1, lw_r2⟩
-- ===== end of PART A; then your names; then what follows =====
/-! names, as printed for this claim (claim/NAMES.whole.lean.txt), what of them is used -/
def RX0 : String := "ObedientDice$Extremes"
def TX0 : u_T := fun k => match k with
  | 0 => ("ObedientDice$Extremes", "size", "I", false)
  | 1 => ("ObedientDice$Extremes", "nextSize", "I", false)
  | 2 => ("ObedientDice$Extremes", "weights", "[J", false)
  | 3 => ("ObedientDice$Extremes", "nextWeights", "[J", false)
  | 4 => ("ObedientDice$Extremes", "tight", "[I", false)
  | 5 => ("ObedientDice$Extremes", "nextTight", "[I", false)
  | 6 => ("ObedientDice$Extremes", "slacks", "[J", true)
  | 7 => ("ObedientDice$Extremes", "sums", "[J", true)
  | 8 => ("ObedientDice$Extremes", "losses", "[I", true)
  | 9 => ("ObedientDice$Extremes", "ofColumns", "I", false)
  | _ => ("ObedientDice$Extremes", "ofGains", "[I", true)
def tyX0 : Nat → FieldType := fun k => match k with
  | 0 => .int
  | 1 => .int
  | 2 => .array .long
  | 3 => .array .long
  | 4 => .array .int
  | 5 => .array .int
  | 6 => .array .long
  | 7 => .array .long
  | 8 => .array .int
  | 9 => .int
  | _ => .array .int
abbrev wsX00 : List Cond := u_ws RX0 TX0 11
theorem nmX0 : ∀ a, a < 11 → ∀ b, b < 11 → a ≠ b → (TX0 a).2.1 ≠ (TX0 b).2.1 := by decide +kernel
theorem tyX0_ok : ∀ k, k < 11 → parseFieldDescriptor (TX0 k).2.2.1 = some (tyX0 k) := by decide +kernel
abbrev cX0_init : ByteArray := prog_2_method_1_code
def yX0_init : MethodName := ⟨RX0, "<init>", "()V"⟩
abbrev cX0_workedOut : ByteArray := prog_2_method_2_code
def yX0_workedOut : MethodName := ⟨RX0, "workedOut", "(LObedientDice$State;)LObedientDice$Extremes;"⟩
abbrev cX0_has : ByteArray := prog_2_method_3_code
def yX0_has : MethodName := ⟨RX0, "has", "(I)Z"⟩
abbrev cX0_weight : ByteArray := prog_2_method_4_code
def yX0_weight : MethodName := ⟨RX0, "weight", "(II)J"⟩
abbrev cX0_weightSum : ByteArray := prog_2_method_5_code
def yX0_weightSum : MethodName := ⟨RX0, "weightSum", "(I)J"⟩
abbrev cX0_toldCells : ByteArray := prog_2_method_6_code
def yX0_toldCells : MethodName := ⟨RX0, "toldCells", "(I)I"⟩
abbrev cX0_tightInequalities : ByteArray := prog_2_method_7_code
def yX0_tightInequalities : MethodName := ⟨RX0, "tightInequalities", "(I)I"⟩
abbrev cX0_everTold : ByteArray := prog_2_method_8_code
def yX0_everTold : MethodName := ⟨RX0, "everTold", "()I"⟩
abbrev cX0_pointsBy : ByteArray := prog_2_method_9_code
def yX0_pointsBy : MethodName := ⟨RX0, "pointsBy", "(LObedientDice$State;II)J"⟩
abbrev cX0_bestFor : ByteArray := prog_2_method_10_code
def yX0_bestFor : MethodName := ⟨RX0, "bestFor", "(LObedientDice$State;I)I"⟩
abbrev cX0_tightOf : ByteArray := prog_2_method_11_code
def yX0_tightOf : MethodName := ⟨RX0, "tightOf", "(I)I"⟩
abbrev cX0_slackOf : ByteArray := prog_2_method_12_code
def yX0_slackOf : MethodName := ⟨RX0, "slackOf", "(I)J"⟩
abbrev cX0_startWithSingleCells : ByteArray := prog_2_method_13_code
def yX0_startWithSingleCells : MethodName := ⟨RX0, "startWithSingleCells", "(I)V"⟩
abbrev cX0_cutWith : ByteArray := prog_2_method_14_code
def yX0_cutWith : MethodName := ⟨RX0, "cutWith", "(LObedientDice$State;I)V"⟩
abbrev cX0_addNeighboursBelow : ByteArray := prog_2_method_15_code
def yX0_addNeighboursBelow : MethodName := ⟨RX0, "addNeighboursBelow", "(II)V"⟩
abbrev cX0_takeSlacks : ByteArray := prog_2_method_16_code
def yX0_takeSlacks : MethodName := ⟨RX0, "takeSlacks", "(LObedientDice$State;I)V"⟩
abbrev cX0_areNeighbours : ByteArray := prog_2_method_17_code
def yX0_areNeighbours : MethodName := ⟨RX0, "areNeighbours", "(II)Z"⟩
abbrev cX0_keep : ByteArray := prog_2_method_18_code
def yX0_keep : MethodName := ⟨RX0, "keep", "(II)V"⟩
abbrev cX0_addBetween : ByteArray := prog_2_method_19_code
def yX0_addBetween : MethodName := ⟨RX0, "addBetween", "(III)V"⟩
abbrev cX0_mixedAtCut : ByteArray := prog_2_method_20_code
def yX0_mixedAtCut : MethodName := ⟨RX0, "mixedAtCut", "(III)J"⟩
abbrev cX0_startOfNext : ByteArray := prog_2_method_21_code
def yX0_startOfNext : MethodName := ⟨RX0, "startOfNext", "()I"⟩
abbrev cX0_setNext : ByteArray := prog_2_method_22_code
def yX0_setNext : MethodName := ⟨RX0, "setNext", "(IJ)V"⟩
abbrev cX0_finishNext : ByteArray := prog_2_method_23_code
def yX0_finishNext : MethodName := ⟨RX0, "finishNext", "(I)V"⟩
abbrev cX0_turnToNext : ByteArray := prog_2_method_24_code
def yX0_turnToNext : MethodName := ⟨RX0, "turnToNext", "()V"⟩
abbrev cX0_sumUp : ByteArray := prog_2_method_25_code
def yX0_sumUp : MethodName := ⟨RX0, "sumUp", "()V"⟩
abbrev cX0_sort : ByteArray := prog_2_method_26_code
def yX0_sort : MethodName := ⟨RX0, "sort", "()V"⟩
abbrev cX0_comesBefore : ByteArray := prog_2_method_27_code
def yX0_comesBefore : MethodName := ⟨RX0, "comesBefore", "(II)Z"⟩
abbrev cX0_exchange : ByteArray := prog_2_method_28_code
def yX0_exchange : MethodName := ⟨RX0, "exchange", "(II)V"⟩
abbrev cX0_commonDivisor : ByteArray := prog_2_method_29_code
def yX0_commonDivisor : MethodName := ⟨RX0, "commonDivisor", "(JJ)J"⟩
def RX1 : String := "ObedientDice$Pad"
def TX1 : u_T := fun k => match k with
  | 0 => ("ObedientDice$Pad", "length", "I", false)
  | 1 => ("ObedientDice$Pad", "columns", "I", false)
  | 2 => ("ObedientDice$Pad", "text", "[C", true)
  | 3 => ("ObedientDice$Pad", "numbers", "[I", true)
  | 4 => ("ObedientDice$Pad", "due", "I", false)
  | 5 => ("ObedientDice$Pad", "row", "I", false)
  | 6 => ("ObedientDice$Pad", "cellsOfRow", "I", false)
  | 7 => ("ObedientDice$Pad", "player", "I", false)
  | _ => ("ObedientDice$Pad", "negative", "Z", false)
def tyX1 : Nat → FieldType := fun k => match k with
  | 0 => .int
  | 1 => .int
  | 2 => .array .char
  | 3 => .array .int
  | 4 => .int
  | 5 => .int
  | 6 => .int
  | 7 => .int
  | _ => .boolean
abbrev wsX10 : List Cond := u_ws RX1 TX1 9
theorem nmX1 : ∀ a, a < 9 → ∀ b, b < 9 → a ≠ b → (TX1 a).2.1 ≠ (TX1 b).2.1 := by decide +kernel
theorem tyX1_ok : ∀ k, k < 9 → parseFieldDescriptor (TX1 k).2.2.1 = some (tyX1 k) := by decide +kernel
abbrev cX1_init : ByteArray := prog_3_method_1_code
def yX1_init : MethodName := ⟨RX1, "<init>", "()V"⟩
def RX2 : String := "ObedientDice$State"
def TX2 : u_T := fun k => match k with
  | 0 => ("ObedientDice$State", "columns", "I", false)
  | 1 => ("ObedientDice$State", "thrower", "I", false)
  | 2 => ("ObedientDice$State", "gains", "[I", true)
  | 3 => ("ObedientDice$State", "weights", "[I", true)
  | _ => ("ObedientDice$State", "falls", "[I", true)
def tyX2 : Nat → FieldType := fun k => match k with
  | 0 => .int
  | 1 => .int
  | 2 => .array .int
  | 3 => .array .int
  | _ => .array .int
abbrev wsX20 : List Cond := u_ws RX2 TX2 5
theorem nmX2 : ∀ a, a < 5 → ∀ b, b < 5 → a ≠ b → (TX2 a).2.1 ≠ (TX2 b).2.1 := by decide +kernel
theorem tyX2_ok : ∀ k, k < 5 → parseFieldDescriptor (TX2 k).2.2.1 = some (tyX2 k) := by decide +kernel
abbrev cX2_init : ByteArray := prog_4_method_1_code
def yX2_init : MethodName := ⟨RX2, "<init>", "()V"⟩
abbrev cX2_startAnew : ByteArray := prog_4_method_2_code
def yX2_startAnew : MethodName := ⟨RX2, "startAnew", "(I)V"⟩
abbrev cX2_copyFrom : ByteArray := prog_4_method_3_code
def yX2_copyFrom : MethodName := ⟨RX2, "copyFrom", "(LObedientDice$State;)V"⟩
abbrev cX2_isSameGame : ByteArray := prog_4_method_4_code
def yX2_isSameGame : MethodName := ⟨RX2, "isSameGame", "(I[I)Z"⟩
abbrev cX2_cells : ByteArray := prog_4_method_5_code
def yX2_cells : MethodName := ⟨RX2, "cells", "()I"⟩
abbrev cX2_cellAt : ByteArray := prog_4_method_6_code
def yX2_cellAt : MethodName := ⟨RX2, "cellAt", "(II)I"⟩
abbrev cX2_moveIn : ByteArray := prog_4_method_7_code
def yX2_moveIn : MethodName := ⟨RX2, "moveIn", "(II)I"⟩
abbrev cX2_gain : ByteArray := prog_4_method_8_code
def yX2_gain : MethodName := ⟨RX2, "gain", "(II)I"⟩
abbrev cX2_setGain : ByteArray := prog_4_method_9_code
def yX2_setGain : MethodName := ⟨RX2, "setGain", "(III)V"⟩
abbrev cX2_gainForOneOrBoth : ByteArray := prog_4_method_10_code
def yX2_gainForOneOrBoth : MethodName := ⟨RX2, "gainForOneOrBoth", "(II)I"⟩
abbrev cX2_pointsBy : ByteArray := prog_4_method_11_code
def yX2_pointsBy : MethodName := ⟨RX2, "pointsBy", "([II)I"⟩
abbrev cX2_inequalities : ByteArray := prog_4_method_12_code
def yX2_inequalities : MethodName := ⟨RX2, "inequalities", "()I"⟩
abbrev cX2_playerOf : ByteArray := prog_4_method_13_code
def yX2_playerOf : MethodName := ⟨RX2, "playerOf", "(I)I"⟩
abbrev cX2_toldMove : ByteArray := prog_4_method_14_code
def yX2_toldMove : MethodName := ⟨RX2, "toldMove", "(I)I"⟩
abbrev cX2_otherMove : ByteArray := prog_4_method_15_code
def yX2_otherMove : MethodName := ⟨RX2, "otherMove", "(I)I"⟩
abbrev cX2_loss : ByteArray := prog_4_method_16_code
def yX2_loss : MethodName := ⟨RX2, "loss", "(II)I"⟩
abbrev cX2_leftSide : ByteArray := prog_4_method_17_code
def yX2_leftSide : MethodName := ⟨RX2, "leftSide", "(I[I)I"⟩
abbrev cX2_brokenInequalities : ByteArray := prog_4_method_18_code
def yX2_brokenInequalities : MethodName := ⟨RX2, "brokenInequalities", "()I"⟩
abbrev cX2_isSure : ByteArray := prog_4_method_19_code
def yX2_isSure : MethodName := ⟨RX2, "isSure", "(I)Z"⟩
abbrev cX2_throwDice : ByteArray := prog_4_method_20_code
def yX2_throwDice : MethodName := ⟨RX2, "throwDice", "()I"⟩
def RX3 : String := "ObedientDice"
def TX3 : u_T := fun k => match k with
  | 0 => ("ObedientDice", "now", "LObedientDice$State;", true)
  | 1 => ("ObedientDice", "found", "LObedientDice$Extremes;", true)
  | 2 => ("ObedientDice", "pad", "LObedientDice$Pad;", true)
  | 3 => ("ObedientDice", "history", "[LObedientDice$State;", true)
  | 4 => ("ObedientDice", "slots", "[LObedientDice$State;", true)
  | _ => ("ObedientDice", "changes", "I", false)
def tyX3 : Nat → FieldType := fun k => match k with
  | 0 => .object "ObedientDice$State"
  | 1 => .object "ObedientDice$Extremes"
  | 2 => .object "ObedientDice$Pad"
  | 3 => .array (.object "ObedientDice$State")
  | 4 => .array (.object "ObedientDice$State")
  | _ => .int
abbrev wsX30 : List Cond := u_ws RX3 TX3 6
theorem nmX3 : ∀ a, a < 6 → ∀ b, b < 6 → a ≠ b → (TX3 a).2.1 ≠ (TX3 b).2.1 := by decide +kernel
theorem tyX3_ok : ∀ k, k < 6 → parseFieldDescriptor (TX3 k).2.2.1 = some (tyX3 k) := by decide +kernel
abbrev cX3_init : ByteArray := prog_1_method_1_code
def yX3_init : MethodName := ⟨RX3, "<init>", "()V"⟩
abbrev cX3_begin : ByteArray := prog_1_method_2_code
def yX3_begin : MethodName := ⟨RX3, "begin", "(I)I"⟩
abbrev cX3_points : ByteArray := prog_1_method_3_code
def yX3_points : MethodName := ⟨RX3, "points", "(IIII)I"⟩
abbrev cX3_weigh : ByteArray := prog_1_method_4_code
def yX3_weigh : MethodName := ⟨RX3, "weigh", "(III)I"⟩
abbrev cX3_take : ByteArray := prog_1_method_5_code
def yX3_take : MethodName := ⟨RX3, "take", "(I)I"⟩
abbrev cX3_mix : ByteArray := prog_1_method_6_code
def yX3_mix : MethodName := ⟨RX3, "mix", "(III)I"⟩
abbrev cX3_roll : ByteArray := prog_1_method_7_code
def yX3_roll : MethodName := ⟨RX3, "roll", "(I)I"⟩
abbrev cX3_forget : ByteArray := prog_1_method_8_code
def yX3_forget : MethodName := ⟨RX3, "forget", "(I)I"⟩
abbrev cX3_cell : ByteArray := prog_1_method_10_code
def yX3_cell : MethodName := ⟨RX3, "cell", "(III)I"⟩
abbrev cX3_inequality : ByteArray := prog_1_method_11_code
def yX3_inequality : MethodName := ⟨RX3, "inequality", "(II)I"⟩
abbrev cX3_count : ByteArray := prog_1_method_12_code
def yX3_count : MethodName := ⟨RX3, "count", "(I)I"⟩
abbrev cX3_worth : ByteArray := prog_1_method_13_code
def yX3_worth : MethodName := ⟨RX3, "worth", "(I)I"⟩
abbrev cX3_extreme : ByteArray := prog_1_method_14_code
def yX3_extreme : MethodName := ⟨RX3, "extreme", "(II)I"⟩
abbrev cX3_best : ByteArray := prog_1_method_15_code
def yX3_best : MethodName := ⟨RX3, "best", "(II)I"⟩
abbrev cX3_neverTold : ByteArray := prog_1_method_16_code
def yX3_neverTold : MethodName := ⟨RX3, "neverTold", "(I)I"⟩
abbrev cX3_undo : ByteArray := prog_1_method_21_code
def yX3_undo : MethodName := ⟨RX3, "undo", "()I"⟩
abbrev cX3_isPlayer : ByteArray := prog_1_method_24_code
def yX3_isPlayer : MethodName := ⟨RX3, "isPlayer", "(I)Z"⟩
abbrev cX3_isPlayerOrBoth : ByteArray := prog_1_method_25_code
def yX3_isPlayerOrBoth : MethodName := ⟨RX3, "isPlayerOrBoth", "(I)Z"⟩
abbrev cX3_isCell : ByteArray := prog_1_method_26_code
def yX3_isCell : MethodName := ⟨RX3, "isCell", "(II)Z"⟩
abbrev cX3_mixWith : ByteArray := prog_1_method_27_code
def yX3_mixWith : MethodName := ⟨RX3, "mixWith", "(LObedientDice$Extremes;III)I"⟩
abbrev cX3_mixedWeight : ByteArray := prog_1_method_28_code
def yX3_mixedWeight : MethodName := ⟨RX3, "mixedWeight", "(LObedientDice$Extremes;IIII)J"⟩
abbrev cX3_thousandths : ByteArray := prog_1_method_29_code
def yX3_thousandths : MethodName := ⟨RX3, "thousandths", "(JJ)I"⟩
abbrev cX3_recordChange : ByteArray := prog_1_method_30_code
def yX3_recordChange : MethodName := ⟨RX3, "recordChange", "()V"⟩
abbrev cX3_dropOldestChange : ByteArray := prog_1_method_31_code
def yX3_dropOldestChange : MethodName := ⟨RX3, "dropOldestChange", "()V"⟩
abbrev cX3_amount : ByteArray := prog_1_method_32_code
def yX3_amount : MethodName := ⟨RX3, "amount", "([II)I"⟩
abbrev cX3_setAmount : ByteArray := prog_1_method_33_code
def yX3_setAmount : MethodName := ⟨RX3, "setAmount", "([III)V"⟩
abbrev cX3_fillAmounts : ByteArray := prog_1_method_34_code
def yX3_fillAmounts : MethodName := ⟨RX3, "fillAmounts", "([III)V"⟩
abbrev cX3_sumOf : ByteArray := prog_1_method_35_code
def yX3_sumOf : MethodName := ⟨RX3, "sumOf", "([I)I"⟩
def RX4 : String := "ObedientDiceModel"
def TX4 : u_T := fun k => match k with
  | _ => ("", "", "", false)
def tyX4 : Nat → FieldType := fun k => match k with
  | _ => .int
abbrev wsX40 : List Cond := u_ws RX4 TX4 0
theorem nmX4 : ∀ a, a < 0 → ∀ b, b < 0 → a ≠ b → (TX4 a).2.1 ≠ (TX4 b).2.1 := by decide +kernel
theorem tyX4_ok : ∀ k, k < 0 → parseFieldDescriptor (TX4 k).2.2.1 = some (tyX4 k) := by decide +kernel
def RJ9 : String := "java/lang/Math"
abbrev cJ9_floorDiv_f86c9 : ByteArray := prog_7_method_49_code
def yJ9_floorDiv_f86c9 : MethodName := ⟨RJ9, "floorDiv", "(JJ)J"⟩
abbrev cJ9_max_f86c9 : ByteArray := prog_7_method_66_code
def yJ9_max_f86c9 : MethodName := ⟨RJ9, "max", "(JJ)J"⟩
abbrev cJ9_min_f86c9 : ByteArray := prog_7_method_70_code
def yJ9_min_f86c9 : MethodName := ⟨RJ9, "min", "(JJ)J"⟩
def RL : String := "ObedientDiceLaw"
abbrev cL_cell : ByteArray := method_2_code
def yL_cell : MethodName := ⟨RL, "cell", "([II)I"⟩
abbrev cL_up : ByteArray := method_3_code
def yL_up : MethodName := ⟨RL, "up", "(II)I"⟩
abbrev cL_row : ByteArray := method_4_code
def yL_row : MethodName := ⟨RL, "row", "(II)I"⟩
abbrev cL_column : ByteArray := method_5_code
def yL_column : MethodName := ⟨RL, "column", "(III)I"⟩
abbrev cL_isStep : ByteArray := method_6_code
def yL_isStep : MethodName := ⟨RL, "isStep", "(LObedientDice;LObedientDice;II)Z"⟩
abbrev cL_areAlike : ByteArray := method_7_code
def yL_areAlike : MethodName := ⟨RL, "areAlike", "(LObedientDice;LObedientDice;II)Z"⟩
abbrev cL_isMixed : ByteArray := method_8_code
def yL_isMixed : MethodName := ⟨RL, "isMixed", "(LObedientDice;I)Z"⟩
abbrev cL_isThrown : ByteArray := method_9_code
def yL_isThrown : MethodName := ⟨RL, "isThrown", "(LObedientDice;I)Z"⟩
abbrev cL_law : ByteArray := code
def yL_law : MethodName := ⟨RL, "law", "([I)Z"⟩
abbrev vwCl : List vw_C := [(RX0, TX0, 11), (RX1, TX1, 9), (RX2, TX2, 5), (RX3, TX3, 6)]
theorem sm_inPos {big ws : List Cond} (ps : List Nat) (h : ws = ps.filterMap (fun i => big[i]?)) : ∀ w ∈ ws, w ∈ big := by
  intro w hw
  rw [h] at hw
  obtain ⟨i, -, hi⟩ := List.mem_filterMap.mp hw
  exact List.mem_of_getElem? hi
set_option maxRecDepth 20000 in
theorem inX0 : ∀ w ∈ wsX00, w ∈ lw_tbl := sm_inPos [96, 98, 100, 102, 104, 106, 108, 110, 112, 114, 116] (by decide +kernel)
set_option maxRecDepth 20000 in
theorem inX1 : ∀ w ∈ wsX10, w ∈ lw_tbl := sm_inPos [136, 138, 140, 142, 144, 146, 148, 150, 152] (by decide +kernel)
set_option maxRecDepth 20000 in
theorem inX2 : ∀ w ∈ wsX20, w ∈ lw_tbl := sm_inPos [66, 68, 70, 72, 74] (by decide +kernel)
set_option maxRecDepth 20000 in
theorem inX3 : ∀ w ∈ wsX30, w ∈ lw_tbl := sm_inPos [163, 165, 167, 169, 171, 173] (by decide +kernel)
