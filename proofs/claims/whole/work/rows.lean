section
-- ===== PART A: goes FIRST, ahead of the names: the tables' words, and 'selects' of the private methods out of them =====
/-- a private method of a class that the tables say can be made, by its rows of tables_1 -/
def lw_okq (q : MethodName × Nat) : Prop := (q.1.cls ≠ "java/lang/invoke/MethodHandle" ∧ q.1.cls ≠ "java/lang/invoke/VarHandle") ∧ Cond.instantiable q.1.cls q.2 ∈ tables_1 ∧ Cond.privateMethod q.1 ∈ tables_1 ∧ Cond.instanceMethod q.1 ∈ tables_1
theorem lw_p0 : lw_okq (⟨"ObedientDice", "recordChange", "()V"⟩, 6) := ⟨⟨by decide +kernel, by decide +kernel⟩, List.mem_of_getElem? (i := 9) (by decide +kernel), List.mem_of_getElem? (i := 160) (by decide +kernel), List.mem_of_getElem? (i := 161) (by decide +kernel)⟩
theorem lw_p1 : lw_okq (⟨"ObedientDice", "dropOldestChange", "()V"⟩, 6) := ⟨⟨by decide +kernel, by decide +kernel⟩, List.mem_of_getElem? (i := 9) (by decide +kernel), List.mem_of_getElem? (i := 164) (by decide +kernel), List.mem_of_getElem? (i := 165) (by decide +kernel)⟩
theorem lw_p2 : lw_okq (⟨"ObedientDice", "isCell", "(II)Z"⟩, 6) := ⟨⟨by decide +kernel, by decide +kernel⟩, List.mem_of_getElem? (i := 9) (by decide +kernel), List.mem_of_getElem? (i := 183) (by decide +kernel), List.mem_of_getElem? (i := 184) (by decide +kernel)⟩
theorem lw_p3 : lw_okq (⟨"ObedientDice$Extremes", "startWithSingleCells", "(I)V"⟩, 11) := ⟨⟨by decide +kernel, by decide +kernel⟩, List.mem_of_getElem? (i := 57) (by decide +kernel), List.mem_of_getElem? (i := 227) (by decide +kernel), List.mem_of_getElem? (i := 228) (by decide +kernel)⟩
theorem lw_p4 : lw_okq (⟨"ObedientDice$Extremes", "startOfNext", "()I"⟩, 11) := ⟨⟨by decide +kernel, by decide +kernel⟩, List.mem_of_getElem? (i := 57) (by decide +kernel), List.mem_of_getElem? (i := 231) (by decide +kernel), List.mem_of_getElem? (i := 232) (by decide +kernel)⟩
theorem lw_p5 : lw_okq (⟨"ObedientDice$Extremes", "setNext", "(IJ)V"⟩, 11) := ⟨⟨by decide +kernel, by decide +kernel⟩, List.mem_of_getElem? (i := 57) (by decide +kernel), List.mem_of_getElem? (i := 235) (by decide +kernel), List.mem_of_getElem? (i := 236) (by decide +kernel)⟩
theorem lw_p6 : lw_okq (⟨"ObedientDice$Extremes", "finishNext", "(I)V"⟩, 11) := ⟨⟨by decide +kernel, by decide +kernel⟩, List.mem_of_getElem? (i := 57) (by decide +kernel), List.mem_of_getElem? (i := 239) (by decide +kernel), List.mem_of_getElem? (i := 240) (by decide +kernel)⟩
theorem lw_p7 : lw_okq (⟨"ObedientDice$Extremes", "turnToNext", "()V"⟩, 11) := ⟨⟨by decide +kernel, by decide +kernel⟩, List.mem_of_getElem? (i := 57) (by decide +kernel), List.mem_of_getElem? (i := 243) (by decide +kernel), List.mem_of_getElem? (i := 244) (by decide +kernel)⟩
theorem lw_p8 : lw_okq (⟨"ObedientDice$Extremes", "cutWith", "(LObedientDice$State;I)V"⟩, 11) := ⟨⟨by decide +kernel, by decide +kernel⟩, List.mem_of_getElem? (i := 57) (by decide +kernel), List.mem_of_getElem? (i := 251) (by decide +kernel), List.mem_of_getElem? (i := 252) (by decide +kernel)⟩
theorem lw_p9 : lw_okq (⟨"ObedientDice$Extremes", "takeSlacks", "(LObedientDice$State;I)V"⟩, 11) := ⟨⟨by decide +kernel, by decide +kernel⟩, List.mem_of_getElem? (i := 57) (by decide +kernel), List.mem_of_getElem? (i := 255) (by decide +kernel), List.mem_of_getElem? (i := 256) (by decide +kernel)⟩
theorem lw_p10 : lw_okq (⟨"ObedientDice$Extremes", "slackOf", "(I)J"⟩, 11) := ⟨⟨by decide +kernel, by decide +kernel⟩, List.mem_of_getElem? (i := 57) (by decide +kernel), List.mem_of_getElem? (i := 287) (by decide +kernel), List.mem_of_getElem? (i := 288) (by decide +kernel)⟩
theorem lw_p11 : lw_okq (⟨"ObedientDice$Extremes", "keep", "(II)V"⟩, 11) := ⟨⟨by decide +kernel, by decide +kernel⟩, List.mem_of_getElem? (i := 57) (by decide +kernel), List.mem_of_getElem? (i := 291) (by decide +kernel), List.mem_of_getElem? (i := 292) (by decide +kernel)⟩
theorem lw_p12 : lw_okq (⟨"ObedientDice$Extremes", "tightOf", "(I)I"⟩, 11) := ⟨⟨by decide +kernel, by decide +kernel⟩, List.mem_of_getElem? (i := 57) (by decide +kernel), List.mem_of_getElem? (i := 295) (by decide +kernel), List.mem_of_getElem? (i := 296) (by decide +kernel)⟩
theorem lw_p13 : lw_okq (⟨"ObedientDice$Extremes", "addNeighboursBelow", "(II)V"⟩, 11) := ⟨⟨by decide +kernel, by decide +kernel⟩, List.mem_of_getElem? (i := 57) (by decide +kernel), List.mem_of_getElem? (i := 299) (by decide +kernel), List.mem_of_getElem? (i := 300) (by decide +kernel)⟩
theorem lw_p14 : lw_okq (⟨"ObedientDice$Extremes", "areNeighbours", "(II)Z"⟩, 11) := ⟨⟨by decide +kernel, by decide +kernel⟩, List.mem_of_getElem? (i := 57) (by decide +kernel), List.mem_of_getElem? (i := 303) (by decide +kernel), List.mem_of_getElem? (i := 304) (by decide +kernel)⟩
theorem lw_p15 : lw_okq (⟨"ObedientDice$Extremes", "addBetween", "(III)V"⟩, 11) := ⟨⟨by decide +kernel, by decide +kernel⟩, List.mem_of_getElem? (i := 57) (by decide +kernel), List.mem_of_getElem? (i := 307) (by decide +kernel), List.mem_of_getElem? (i := 308) (by decide +kernel)⟩
def lw_privs_1 : List (MethodName × Nat) := [(⟨"ObedientDice", "recordChange", "()V"⟩, 6), (⟨"ObedientDice", "dropOldestChange", "()V"⟩, 6), (⟨"ObedientDice", "isCell", "(II)Z"⟩, 6), (⟨"ObedientDice$Extremes", "startWithSingleCells", "(I)V"⟩, 11), (⟨"ObedientDice$Extremes", "startOfNext", "()I"⟩, 11), (⟨"ObedientDice$Extremes", "setNext", "(IJ)V"⟩, 11), (⟨"ObedientDice$Extremes", "finishNext", "(I)V"⟩, 11), (⟨"ObedientDice$Extremes", "turnToNext", "()V"⟩, 11), (⟨"ObedientDice$Extremes", "cutWith", "(LObedientDice$State;I)V"⟩, 11), (⟨"ObedientDice$Extremes", "takeSlacks", "(LObedientDice$State;I)V"⟩, 11), (⟨"ObedientDice$Extremes", "slackOf", "(I)J"⟩, 11), (⟨"ObedientDice$Extremes", "keep", "(II)V"⟩, 11), (⟨"ObedientDice$Extremes", "tightOf", "(I)I"⟩, 11), (⟨"ObedientDice$Extremes", "addNeighboursBelow", "(II)V"⟩, 11), (⟨"ObedientDice$Extremes", "areNeighbours", "(II)Z"⟩, 11), (⟨"ObedientDice$Extremes", "addBetween", "(III)V"⟩, 11)]
theorem lw_r1 : ∀ q ∈ lw_privs_1, lw_okq q := List.forall_mem_cons.mpr ⟨lw_p0, List.forall_mem_cons.mpr ⟨lw_p1, List.forall_mem_cons.mpr ⟨lw_p2, List.forall_mem_cons.mpr ⟨lw_p3, List.forall_mem_cons.mpr ⟨lw_p4, List.forall_mem_cons.mpr ⟨lw_p5, List.forall_mem_cons.mpr ⟨lw_p6, List.forall_mem_cons.mpr ⟨lw_p7, List.forall_mem_cons.mpr ⟨lw_p8, List.forall_mem_cons.mpr ⟨lw_p9, List.forall_mem_cons.mpr ⟨lw_p10, List.forall_mem_cons.mpr ⟨lw_p11, List.forall_mem_cons.mpr ⟨lw_p12, List.forall_mem_cons.mpr ⟨lw_p13, List.forall_mem_cons.mpr ⟨lw_p14, List.forall_mem_cons.mpr ⟨lw_p15, fun _ h => absurd h List.not_mem_nil⟩⟩⟩⟩⟩⟩⟩⟩⟩⟩⟩⟩⟩⟩⟩⟩
theorem lw_p16 : lw_okq (⟨"ObedientDice$Extremes", "mixedAtCut", "(III)J"⟩, 11) := ⟨⟨by decide +kernel, by decide +kernel⟩, List.mem_of_getElem? (i := 57) (by decide +kernel), List.mem_of_getElem? (i := 311) (by decide +kernel), List.mem_of_getElem? (i := 312) (by decide +kernel)⟩
theorem lw_p17 : lw_okq (⟨"ObedientDice$Extremes", "sumUp", "()V"⟩, 11) := ⟨⟨by decide +kernel, by decide +kernel⟩, List.mem_of_getElem? (i := 57) (by decide +kernel), List.mem_of_getElem? (i := 324) (by decide +kernel), List.mem_of_getElem? (i := 325) (by decide +kernel)⟩
theorem lw_p18 : lw_okq (⟨"ObedientDice$Extremes", "sort", "()V"⟩, 11) := ⟨⟨by decide +kernel, by decide +kernel⟩, List.mem_of_getElem? (i := 57) (by decide +kernel), List.mem_of_getElem? (i := 328) (by decide +kernel), List.mem_of_getElem? (i := 329) (by decide +kernel)⟩
theorem lw_p19 : lw_okq (⟨"ObedientDice$Extremes", "comesBefore", "(II)Z"⟩, 11) := ⟨⟨by decide +kernel, by decide +kernel⟩, List.mem_of_getElem? (i := 57) (by decide +kernel), List.mem_of_getElem? (i := 332) (by decide +kernel), List.mem_of_getElem? (i := 333) (by decide +kernel)⟩
theorem lw_p20 : lw_okq (⟨"ObedientDice$Extremes", "exchange", "(II)V"⟩, 11) := ⟨⟨by decide +kernel, by decide +kernel⟩, List.mem_of_getElem? (i := 57) (by decide +kernel), List.mem_of_getElem? (i := 340) (by decide +kernel), List.mem_of_getElem? (i := 341) (by decide +kernel)⟩
theorem lw_p21 : lw_okq (⟨"ObedientDice", "mixWith", "(LObedientDice$Extremes;III)I"⟩, 6) := ⟨⟨by decide +kernel, by decide +kernel⟩, List.mem_of_getElem? (i := 9) (by decide +kernel), List.mem_of_getElem? (i := 349) (by decide +kernel), List.mem_of_getElem? (i := 350) (by decide +kernel)⟩
theorem lw_p22 : lw_okq (⟨"ObedientDice", "mixedWeight", "(LObedientDice$Extremes;IIII)J"⟩, 6) := ⟨⟨by decide +kernel, by decide +kernel⟩, List.mem_of_getElem? (i := 9) (by decide +kernel), List.mem_of_getElem? (i := 354) (by decide +kernel), List.mem_of_getElem? (i := 355) (by decide +kernel)⟩
theorem lw_p23 : lw_okq (⟨"ObedientDice$Pad", "accepts", "(C)Z"⟩, 9) := ⟨⟨by decide +kernel, by decide +kernel⟩, List.mem_of_getElem? (i := 99) (by decide +kernel), List.mem_of_getElem? (i := 390) (by decide +kernel), List.mem_of_getElem? (i := 391) (by decide +kernel)⟩
theorem lw_p24 : lw_okq (⟨"ObedientDice$Pad", "acceptsMinus", "()Z"⟩, 9) := ⟨⟨by decide +kernel, by decide +kernel⟩, List.mem_of_getElem? (i := 99) (by decide +kernel), List.mem_of_getElem? (i := 394) (by decide +kernel), List.mem_of_getElem? (i := 395) (by decide +kernel)⟩
theorem lw_p25 : lw_okq (⟨"ObedientDice$Pad", "acceptsDigit", "(C)Z"⟩, 9) := ⟨⟨by decide +kernel, by decide +kernel⟩, List.mem_of_getElem? (i := 99) (by decide +kernel), List.mem_of_getElem? (i := 398) (by decide +kernel), List.mem_of_getElem? (i := 399) (by decide +kernel)⟩
theorem lw_p26 : lw_okq (⟨"ObedientDice$Pad", "acceptsComma", "()Z"⟩, 9) := ⟨⟨by decide +kernel, by decide +kernel⟩, List.mem_of_getElem? (i := 99) (by decide +kernel), List.mem_of_getElem? (i := 403) (by decide +kernel), List.mem_of_getElem? (i := 404) (by decide +kernel)⟩
theorem lw_p27 : lw_okq (⟨"ObedientDice$Pad", "acceptsSlash", "()Z"⟩, 9) := ⟨⟨by decide +kernel, by decide +kernel⟩, List.mem_of_getElem? (i := 99) (by decide +kernel), List.mem_of_getElem? (i := 407) (by decide +kernel), List.mem_of_getElem? (i := 408) (by decide +kernel)⟩
theorem lw_p28 : lw_okq (⟨"ObedientDice$Pad", "acceptsSemicolon", "()Z"⟩, 9) := ⟨⟨by decide +kernel, by decide +kernel⟩, List.mem_of_getElem? (i := 99) (by decide +kernel), List.mem_of_getElem? (i := 411) (by decide +kernel), List.mem_of_getElem? (i := 412) (by decide +kernel)⟩
theorem lw_p29 : lw_okq (⟨"ObedientDiceModel", "anew", "(I)V"⟩, 21) := ⟨⟨by decide +kernel, by decide +kernel⟩, List.mem_of_getElem? (i := 550) (by decide +kernel), List.mem_of_getElem? (i := 556) (by decide +kernel), List.mem_of_getElem? (i := 557) (by decide +kernel)⟩
theorem lw_p30 : lw_okq (⟨"ObedientDiceModel", "cells", "()I"⟩, 21) := ⟨⟨by decide +kernel, by decide +kernel⟩, List.mem_of_getElem? (i := 550) (by decide +kernel), List.mem_of_getElem? (i := 560) (by decide +kernel), List.mem_of_getElem? (i := 561) (by decide +kernel)⟩
theorem lw_p31 : lw_okq (⟨"ObedientDiceModel", "columns", "()I"⟩, 21) := ⟨⟨by decide +kernel, by decide +kernel⟩, List.mem_of_getElem? (i := 550) (by decide +kernel), List.mem_of_getElem? (i := 564) (by decide +kernel), List.mem_of_getElem? (i := 565) (by decide +kernel)⟩
def lw_privs_2 : List (MethodName × Nat) := [(⟨"ObedientDice$Extremes", "mixedAtCut", "(III)J"⟩, 11), (⟨"ObedientDice$Extremes", "sumUp", "()V"⟩, 11), (⟨"ObedientDice$Extremes", "sort", "()V"⟩, 11), (⟨"ObedientDice$Extremes", "comesBefore", "(II)Z"⟩, 11), (⟨"ObedientDice$Extremes", "exchange", "(II)V"⟩, 11), (⟨"ObedientDice", "mixWith", "(LObedientDice$Extremes;III)I"⟩, 6), (⟨"ObedientDice", "mixedWeight", "(LObedientDice$Extremes;IIII)J"⟩, 6), (⟨"ObedientDice$Pad", "accepts", "(C)Z"⟩, 9), (⟨"ObedientDice$Pad", "acceptsMinus", "()Z"⟩, 9), (⟨"ObedientDice$Pad", "acceptsDigit", "(C)Z"⟩, 9), (⟨"ObedientDice$Pad", "acceptsComma", "()Z"⟩, 9), (⟨"ObedientDice$Pad", "acceptsSlash", "()Z"⟩, 9), (⟨"ObedientDice$Pad", "acceptsSemicolon", "()Z"⟩, 9), (⟨"ObedientDiceModel", "anew", "(I)V"⟩, 21), (⟨"ObedientDiceModel", "cells", "()I"⟩, 21), (⟨"ObedientDiceModel", "columns", "()I"⟩, 21)]
theorem lw_r2 : ∀ q ∈ lw_privs_2, lw_okq q := List.forall_mem_cons.mpr ⟨lw_p16, List.forall_mem_cons.mpr ⟨lw_p17, List.forall_mem_cons.mpr ⟨lw_p18, List.forall_mem_cons.mpr ⟨lw_p19, List.forall_mem_cons.mpr ⟨lw_p20, List.forall_mem_cons.mpr ⟨lw_p21, List.forall_mem_cons.mpr ⟨lw_p22, List.forall_mem_cons.mpr ⟨lw_p23, List.forall_mem_cons.mpr ⟨lw_p24, List.forall_mem_cons.mpr ⟨lw_p25, List.forall_mem_cons.mpr ⟨lw_p26, List.forall_mem_cons.mpr ⟨lw_p27, List.forall_mem_cons.mpr ⟨lw_p28, List.forall_mem_cons.mpr ⟨lw_p29, List.forall_mem_cons.mpr ⟨lw_p30, List.forall_mem_cons.mpr ⟨lw_p31, fun _ h => absurd h List.not_mem_nil⟩⟩⟩⟩⟩⟩⟩⟩⟩⟩⟩⟩⟩⟩⟩⟩
theorem lw_p32 : lw_okq (⟨"ObedientDiceModel", "record", "()V"⟩, 21) := ⟨⟨by decide +kernel, by decide +kernel⟩, List.mem_of_getElem? (i := 550) (by decide +kernel), List.mem_of_getElem? (i := 641) (by decide +kernel), List.mem_of_getElem? (i := 642) (by decide +kernel)⟩
theorem lw_p33 : lw_okq (⟨"ObedientDiceModel", "isCell", "(II)Z"⟩, 21) := ⟨⟨by decide +kernel, by decide +kernel⟩, List.mem_of_getElem? (i := 550) (by decide +kernel), List.mem_of_getElem? (i := 649) (by decide +kernel), List.mem_of_getElem? (i := 650) (by decide +kernel)⟩
theorem lw_p34 : lw_okq (⟨"ObedientDiceModel", "cellOf", "(II)I"⟩, 21) := ⟨⟨by decide +kernel, by decide +kernel⟩, List.mem_of_getElem? (i := 550) (by decide +kernel), List.mem_of_getElem? (i := 655) (by decide +kernel), List.mem_of_getElem? (i := 656) (by decide +kernel)⟩
theorem lw_p35 : lw_okq (⟨"ObedientDiceModel", "sumOfWeights", "()I"⟩, 21) := ⟨⟨by decide +kernel, by decide +kernel⟩, List.mem_of_getElem? (i := 550) (by decide +kernel), List.mem_of_getElem? (i := 664) (by decide +kernel), List.mem_of_getElem? (i := 665) (by decide +kernel)⟩
theorem lw_p36 : lw_okq (⟨"ObedientDiceModel", "isExtreme", "(I)Z"⟩, 21) := ⟨⟨by decide +kernel, by decide +kernel⟩, List.mem_of_getElem? (i := 550) (by decide +kernel), List.mem_of_getElem? (i := 672) (by decide +kernel), List.mem_of_getElem? (i := 673) (by decide +kernel)⟩
theorem lw_p37 : lw_okq (⟨"ObedientDiceModel", "layExtremes", "()V"⟩, 21) := ⟨⟨by decide +kernel, by decide +kernel⟩, List.mem_of_getElem? (i := 550) (by decide +kernel), List.mem_of_getElem? (i := 676) (by decide +kernel), List.mem_of_getElem? (i := 677) (by decide +kernel)⟩
theorem lw_p38 : lw_okq (⟨"ObedientDiceModel", "laySystem", "()V"⟩, 21) := ⟨⟨by decide +kernel, by decide +kernel⟩, List.mem_of_getElem? (i := 550) (by decide +kernel), List.mem_of_getElem? (i := 680) (by decide +kernel), List.mem_of_getElem? (i := 681) (by decide +kernel)⟩
theorem lw_p39 : lw_okq (⟨"ObedientDiceModel", "look", "(I)V"⟩, 21) := ⟨⟨by decide +kernel, by decide +kernel⟩, List.mem_of_getElem? (i := 550) (by decide +kernel), List.mem_of_getElem? (i := 684) (by decide +kernel), List.mem_of_getElem? (i := 685) (by decide +kernel)⟩
theorem lw_p40 : lw_okq (⟨"ObedientDiceModel", "loss", "(I)I"⟩, 21) := ⟨⟨by decide +kernel, by decide +kernel⟩, List.mem_of_getElem? (i := 550) (by decide +kernel), List.mem_of_getElem? (i := 688) (by decide +kernel), List.mem_of_getElem? (i := 689) (by decide +kernel)⟩
theorem lw_p41 : lw_okq (⟨"ObedientDiceModel", "pointsOf", "(II)I"⟩, 21) := ⟨⟨by decide +kernel, by decide +kernel⟩, List.mem_of_getElem? (i := 550) (by decide +kernel), List.mem_of_getElem? (i := 692) (by decide +kernel), List.mem_of_getElem? (i := 693) (by decide +kernel)⟩
theorem lw_p42 : lw_okq (⟨"ObedientDiceModel", "solve", "()I"⟩, 21) := ⟨⟨by decide +kernel, by decide +kernel⟩, List.mem_of_getElem? (i := 550) (by decide +kernel), List.mem_of_getElem? (i := 696) (by decide +kernel), List.mem_of_getElem? (i := 697) (by decide +kernel)⟩
theorem lw_p43 : lw_okq (⟨"ObedientDiceModel", "get", "(II)J"⟩, 21) := ⟨⟨by decide +kernel, by decide +kernel⟩, List.mem_of_getElem? (i := 550) (by decide +kernel), List.mem_of_getElem? (i := 700) (by decide +kernel), List.mem_of_getElem? (i := 701) (by decide +kernel)⟩
theorem lw_p44 : lw_okq (⟨"ObedientDiceModel", "exchange", "(II)V"⟩, 21) := ⟨⟨by decide +kernel, by decide +kernel⟩, List.mem_of_getElem? (i := 550) (by decide +kernel), List.mem_of_getElem? (i := 704) (by decide +kernel), List.mem_of_getElem? (i := 705) (by decide +kernel)⟩
theorem lw_p45 : lw_okq (⟨"ObedientDiceModel", "shorten", "(I)V"⟩, 21) := ⟨⟨by decide +kernel, by decide +kernel⟩, List.mem_of_getElem? (i := 550) (by decide +kernel), List.mem_of_getElem? (i := 708) (by decide +kernel), List.mem_of_getElem? (i := 709) (by decide +kernel)⟩
theorem lw_p46 : lw_okq (⟨"ObedientDiceModel", "clearOthers", "(II)V"⟩, 21) := ⟨⟨by decide +kernel, by decide +kernel⟩, List.mem_of_getElem? (i := 550) (by decide +kernel), List.mem_of_getElem? (i := 715) (by decide +kernel), List.mem_of_getElem? (i := 716) (by decide +kernel)⟩
theorem lw_p47 : lw_okq (⟨"ObedientDiceModel", "laySolution", "(I)V"⟩, 21) := ⟨⟨by decide +kernel, by decide +kernel⟩, List.mem_of_getElem? (i := 550) (by decide +kernel), List.mem_of_getElem? (i := 719) (by decide +kernel), List.mem_of_getElem? (i := 720) (by decide +kernel)⟩
def lw_privs_3 : List (MethodName × Nat) := [(⟨"ObedientDiceModel", "record", "()V"⟩, 21), (⟨"ObedientDiceModel", "isCell", "(II)Z"⟩, 21), (⟨"ObedientDiceModel", "cellOf", "(II)I"⟩, 21), (⟨"ObedientDiceModel", "sumOfWeights", "()I"⟩, 21), (⟨"ObedientDiceModel", "isExtreme", "(I)Z"⟩, 21), (⟨"ObedientDiceModel", "layExtremes", "()V"⟩, 21), (⟨"ObedientDiceModel", "laySystem", "()V"⟩, 21), (⟨"ObedientDiceModel", "look", "(I)V"⟩, 21), (⟨"ObedientDiceModel", "loss", "(I)I"⟩, 21), (⟨"ObedientDiceModel", "pointsOf", "(II)I"⟩, 21), (⟨"ObedientDiceModel", "solve", "()I"⟩, 21), (⟨"ObedientDiceModel", "get", "(II)J"⟩, 21), (⟨"ObedientDiceModel", "exchange", "(II)V"⟩, 21), (⟨"ObedientDiceModel", "shorten", "(I)V"⟩, 21), (⟨"ObedientDiceModel", "clearOthers", "(II)V"⟩, 21), (⟨"ObedientDiceModel", "laySolution", "(I)V"⟩, 21)]
theorem lw_r3 : ∀ q ∈ lw_privs_3, lw_okq q := List.forall_mem_cons.mpr ⟨lw_p32, List.forall_mem_cons.mpr ⟨lw_p33, List.forall_mem_cons.mpr ⟨lw_p34, List.forall_mem_cons.mpr ⟨lw_p35, List.forall_mem_cons.mpr ⟨lw_p36, List.forall_mem_cons.mpr ⟨lw_p37, List.forall_mem_cons.mpr ⟨lw_p38, List.forall_mem_cons.mpr ⟨lw_p39, List.forall_mem_cons.mpr ⟨lw_p40, List.forall_mem_cons.mpr ⟨lw_p41, List.forall_mem_cons.mpr ⟨lw_p42, List.forall_mem_cons.mpr ⟨lw_p43, List.forall_mem_cons.mpr ⟨lw_p44, List.forall_mem_cons.mpr ⟨lw_p45, List.forall_mem_cons.mpr ⟨lw_p46, List.forall_mem_cons.mpr ⟨lw_p47, fun _ h => absurd h List.not_mem_nil⟩⟩⟩⟩⟩⟩⟩⟩⟩⟩⟩⟩⟩⟩⟩⟩
theorem lw_p48 : lw_okq (⟨"ObedientDiceModel", "isObeyed", "()Z"⟩, 21) := ⟨⟨by decide +kernel, by decide +kernel⟩, List.mem_of_getElem? (i := 550) (by decide +kernel), List.mem_of_getElem? (i := 723) (by decide +kernel), List.mem_of_getElem? (i := 724) (by decide +kernel)⟩
theorem lw_p49 : lw_okq (⟨"ObedientDiceModel", "inequalities", "()I"⟩, 21) := ⟨⟨by decide +kernel, by decide +kernel⟩, List.mem_of_getElem? (i := 550) (by decide +kernel), List.mem_of_getElem? (i := 727) (by decide +kernel), List.mem_of_getElem? (i := 728) (by decide +kernel)⟩
theorem lw_p50 : lw_okq (⟨"ObedientDiceModel", "insert", "()V"⟩, 21) := ⟨⟨by decide +kernel, by decide +kernel⟩, List.mem_of_getElem? (i := 550) (by decide +kernel), List.mem_of_getElem? (i := 731) (by decide +kernel), List.mem_of_getElem? (i := 732) (by decide +kernel)⟩
theorem lw_p51 : lw_okq (⟨"ObedientDiceModel", "ahead", "(IJ)J"⟩, 21) := ⟨⟨by decide +kernel, by decide +kernel⟩, List.mem_of_getElem? (i := 550) (by decide +kernel), List.mem_of_getElem? (i := 735) (by decide +kernel), List.mem_of_getElem? (i := 736) (by decide +kernel)⟩
theorem lw_p52 : lw_okq (⟨"ObedientDiceModel", "picksNext", "()Z"⟩, 21) := ⟨⟨by decide +kernel, by decide +kernel⟩, List.mem_of_getElem? (i := 550) (by decide +kernel), List.mem_of_getElem? (i := 739) (by decide +kernel), List.mem_of_getElem? (i := 740) (by decide +kernel)⟩
theorem lw_p53 : lw_okq (⟨"ObedientDiceModel", "mixes", "(III)I"⟩, 21) := ⟨⟨by decide +kernel, by decide +kernel⟩, List.mem_of_getElem? (i := 550) (by decide +kernel), List.mem_of_getElem? (i := 743) (by decide +kernel), List.mem_of_getElem? (i := 744) (by decide +kernel)⟩
theorem lw_p54 : lw_okq (⟨"ObedientDiceModel", "throwsSoFar", "()I"⟩, 21) := ⟨⟨by decide +kernel, by decide +kernel⟩, List.mem_of_getElem? (i := 550) (by decide +kernel), List.mem_of_getElem? (i := 756) (by decide +kernel), List.mem_of_getElem? (i := 757) (by decide +kernel)⟩
theorem lw_p55 : lw_okq (⟨"ObedientDiceModel", "rolls", "()I"⟩, 21) := ⟨⟨by decide +kernel, by decide +kernel⟩, List.mem_of_getElem? (i := 550) (by decide +kernel), List.mem_of_getElem? (i := 760) (by decide +kernel), List.mem_of_getElem? (i := 761) (by decide +kernel)⟩
theorem lw_p56 : lw_okq (⟨"ObedientDiceModel", "faultOf", "()I"⟩, 21) := ⟨⟨by decide +kernel, by decide +kernel⟩, List.mem_of_getElem? (i := 550) (by decide +kernel), List.mem_of_getElem? (i := 776) (by decide +kernel), List.mem_of_getElem? (i := 777) (by decide +kernel)⟩
theorem lw_p57 : lw_okq (⟨"ObedientDiceModel", "readsRow", "(I)Z"⟩, 21) := ⟨⟨by decide +kernel, by decide +kernel⟩, List.mem_of_getElem? (i := 550) (by decide +kernel), List.mem_of_getElem? (i := 780) (by decide +kernel), List.mem_of_getElem? (i := 781) (by decide +kernel)⟩
theorem lw_p58 : lw_okq (⟨"ObedientDiceModel", "readsPoints", "(I)Z"⟩, 21) := ⟨⟨by decide +kernel, by decide +kernel⟩, List.mem_of_getElem? (i := 550) (by decide +kernel), List.mem_of_getElem? (i := 784) (by decide +kernel), List.mem_of_getElem? (i := 785) (by decide +kernel)⟩
theorem lw_p59 : lw_okq (⟨"ObedientDiceModel", "takes", "(I)Z"⟩, 21) := ⟨⟨by decide +kernel, by decide +kernel⟩, List.mem_of_getElem? (i := 550) (by decide +kernel), List.mem_of_getElem? (i := 788) (by decide +kernel), List.mem_of_getElem? (i := 789) (by decide +kernel)⟩
theorem lw_p60 : lw_okq (⟨"ObedientDiceModel", "isSure", "(I)Z"⟩, 21) := ⟨⟨by decide +kernel, by decide +kernel⟩, List.mem_of_getElem? (i := 550) (by decide +kernel), List.mem_of_getElem? (i := 798) (by decide +kernel), List.mem_of_getElem? (i := 799) (by decide +kernel)⟩
theorem lw_p61 : lw_okq (⟨"ObedientDiceModel", "anyCells", "()I"⟩, 21) := ⟨⟨by decide +kernel, by decide +kernel⟩, List.mem_of_getElem? (i := 550) (by decide +kernel), List.mem_of_getElem? (i := 802) (by decide +kernel), List.mem_of_getElem? (i := 803) (by decide +kernel)⟩
theorem lw_p62 : lw_okq (⟨"ObedientDiceModel", "cellsOf", "(I)I"⟩, 21) := ⟨⟨by decide +kernel, by decide +kernel⟩, List.mem_of_getElem? (i := 550) (by decide +kernel), List.mem_of_getElem? (i := 806) (by decide +kernel), List.mem_of_getElem? (i := 807) (by decide +kernel)⟩
theorem lw_p63 : lw_okq (⟨"ObedientDiceModel", "slackBy", "(II)I"⟩, 21) := ⟨⟨by decide +kernel, by decide +kernel⟩, List.mem_of_getElem? (i := 550) (by decide +kernel), List.mem_of_getElem? (i := 814) (by decide +kernel), List.mem_of_getElem? (i := 815) (by decide +kernel)⟩
def lw_privs_4 : List (MethodName × Nat) := [(⟨"ObedientDiceModel", "isObeyed", "()Z"⟩, 21), (⟨"ObedientDiceModel", "inequalities", "()I"⟩, 21), (⟨"ObedientDiceModel", "insert", "()V"⟩, 21), (⟨"ObedientDiceModel", "ahead", "(IJ)J"⟩, 21), (⟨"ObedientDiceModel", "picksNext", "()Z"⟩, 21), (⟨"ObedientDiceModel", "mixes", "(III)I"⟩, 21), (⟨"ObedientDiceModel", "throwsSoFar", "()I"⟩, 21), (⟨"ObedientDiceModel", "rolls", "()I"⟩, 21), (⟨"ObedientDiceModel", "faultOf", "()I"⟩, 21), (⟨"ObedientDiceModel", "readsRow", "(I)Z"⟩, 21), (⟨"ObedientDiceModel", "readsPoints", "(I)Z"⟩, 21), (⟨"ObedientDiceModel", "takes", "(I)Z"⟩, 21), (⟨"ObedientDiceModel", "isSure", "(I)Z"⟩, 21), (⟨"ObedientDiceModel", "anyCells", "()I"⟩, 21), (⟨"ObedientDiceModel", "cellsOf", "(I)I"⟩, 21), (⟨"ObedientDiceModel", "slackBy", "(II)I"⟩, 21)]
theorem lw_r4 : ∀ q ∈ lw_privs_4, lw_okq q := List.forall_mem_cons.mpr ⟨lw_p48, List.forall_mem_cons.mpr ⟨lw_p49, List.forall_mem_cons.mpr ⟨lw_p50, List.forall_mem_cons.mpr ⟨lw_p51, List.forall_mem_cons.mpr ⟨lw_p52, List.forall_mem_cons.mpr ⟨lw_p53, List.forall_mem_cons.mpr ⟨lw_p54, List.forall_mem_cons.mpr ⟨lw_p55, List.forall_mem_cons.mpr ⟨lw_p56, List.forall_mem_cons.mpr ⟨lw_p57, List.forall_mem_cons.mpr ⟨lw_p58, List.forall_mem_cons.mpr ⟨lw_p59, List.forall_mem_cons.mpr ⟨lw_p60, List.forall_mem_cons.mpr ⟨lw_p61, List.forall_mem_cons.mpr ⟨lw_p62, List.forall_mem_cons.mpr ⟨lw_p63, fun _ h => absurd h List.not_mem_nil⟩⟩⟩⟩⟩⟩⟩⟩⟩⟩⟩⟩⟩⟩⟩⟩
theorem lw_p64 : lw_okq (⟨"ObedientDiceModel", "broken", "()I"⟩, 21) := ⟨⟨by decide +kernel, by decide +kernel⟩, List.mem_of_getElem? (i := 550) (by decide +kernel), List.mem_of_getElem? (i := 823) (by decide +kernel), List.mem_of_getElem? (i := 824) (by decide +kernel)⟩
theorem lw_p65 : lw_okq (⟨"ObedientDiceModel", "manyExtremes", "()I"⟩, 21) := ⟨⟨by decide +kernel, by decide +kernel⟩, List.mem_of_getElem? (i := 550) (by decide +kernel), List.mem_of_getElem? (i := 827) (by decide +kernel), List.mem_of_getElem? (i := 828) (by decide +kernel)⟩
theorem lw_p66 : lw_okq (⟨"ObedientDiceModel", "got", "(I)I"⟩, 21) := ⟨⟨by decide +kernel, by decide +kernel⟩, List.mem_of_getElem? (i := 550) (by decide +kernel), List.mem_of_getElem? (i := 831) (by decide +kernel), List.mem_of_getElem? (i := 832) (by decide +kernel)⟩
theorem lw_p67 : lw_okq (⟨"ObedientDiceModel", "pointsFor", "(II)I"⟩, 21) := ⟨⟨by decide +kernel, by decide +kernel⟩, List.mem_of_getElem? (i := 550) (by decide +kernel), List.mem_of_getElem? (i := 840) (by decide +kernel), List.mem_of_getElem? (i := 841) (by decide +kernel)⟩
theorem lw_p68 : lw_okq (⟨"ObedientDiceModel", "tightOf", "(I)I"⟩, 21) := ⟨⟨by decide +kernel, by decide +kernel⟩, List.mem_of_getElem? (i := 550) (by decide +kernel), List.mem_of_getElem? (i := 852) (by decide +kernel), List.mem_of_getElem? (i := 853) (by decide +kernel)⟩
theorem lw_p69 : lw_okq (⟨"ObedientDiceModel", "pointsBy", "(II)J"⟩, 21) := ⟨⟨by decide +kernel, by decide +kernel⟩, List.mem_of_getElem? (i := 550) (by decide +kernel), List.mem_of_getElem? (i := 860) (by decide +kernel), List.mem_of_getElem? (i := 861) (by decide +kernel)⟩
def lw_privs_5 : List (MethodName × Nat) := [(⟨"ObedientDiceModel", "broken", "()I"⟩, 21), (⟨"ObedientDiceModel", "manyExtremes", "()I"⟩, 21), (⟨"ObedientDiceModel", "got", "(I)I"⟩, 21), (⟨"ObedientDiceModel", "pointsFor", "(II)I"⟩, 21), (⟨"ObedientDiceModel", "tightOf", "(I)I"⟩, 21), (⟨"ObedientDiceModel", "pointsBy", "(II)J"⟩, 21)]
theorem lw_r5 : ∀ q ∈ lw_privs_5, lw_okq q := List.forall_mem_cons.mpr ⟨lw_p64, List.forall_mem_cons.mpr ⟨lw_p65, List.forall_mem_cons.mpr ⟨lw_p66, List.forall_mem_cons.mpr ⟨lw_p67, List.forall_mem_cons.mpr ⟨lw_p68, List.forall_mem_cons.mpr ⟨lw_p69, fun _ h => absurd h List.not_mem_nil⟩⟩⟩⟩⟩⟩
def lw_privs : List (MethodName × Nat) := lw_privs_1 ++ (lw_privs_2 ++ (lw_privs_3 ++ (lw_privs_4 ++ (lw_privs_5))))
def lw_tbl : List Cond := k2_sels lw_privs ++ tables_1
theorem lw_privs_ok : ∀ q ∈ lw_privs, lw_okq q := by
  show ∀ q ∈ lw_privs_1 ++ (lw_privs_2 ++ (lw_privs_3 ++ (lw_privs_4 ++ (lw_privs_5)))), lw_okq q
  exact List.forall_mem_append.mpr ⟨lw_r1, List.forall_mem_append.mpr ⟨lw_r2, List.forall_mem_append.mpr ⟨lw_r3, List.forall_mem_append.mpr ⟨lw_r4, lw_r5⟩⟩⟩⟩
-- ===== end of PART A; then your names; then what follows =====
/-! names, as printed for this claim (claim/NAMES.whole.lean.txt), what of them is used -/
def RX0 : String := "ObedientDice$Extremes"
def TX0 : u_T := fun k => match k with
  | 0 => ("ObedientDice$Extremes", "size", "I", false)
  | 1 => ("ObedientDice$Extremes", "nextSize", "I", false)
  | 2 => ("ObedientDice$Extremes", "weights", "[J", false)
  | 3 => ("ObedientDice$Extremes", "nextWeights", "[J", false)
  | 4 => ("ObedientDice$Extremes", "tight", "[I", false)
  | 5 => ("ObedientDice$Extremes", "nextTight", "[I", false)
  | 6 => ("ObedientDice$Extremes", "slacks", "[J", true)
  | 7 => ("ObedientDice$Extremes", "sums", "[J", true)
  | 8 => ("ObedientDice$Extremes", "losses", "[I", true)
  | 9 => ("ObedientDice$Extremes", "ofColumns", "I", false)
  | _ => ("ObedientDice$Extremes", "ofGains", "[I", true)
def tyX0 : Nat → FieldType := fun k => match k with
  | 0 => .int
  | 1 => .int
  | 2 => .array .long
  | 3 => .array .long
  | 4 => .array .int
  | 5 => .array .int
  | 6 => .array .long
  | 7 => .array .long
  | 8 => .array .int
  | 9 => .int
  | _ => .array .int
abbrev wsX00 : List Cond := u_ws RX0 TX0 11
theorem nmX0 : ∀ a, a < 11 → ∀ b, b < 11 → a ≠ b → (TX0 a).2.1 ≠ (TX0 b).2.1 := by decide +kernel
theorem tyX0_ok : ∀ k, k < 11 → parseFieldDescriptor (TX0 k).2.2.1 = some (tyX0 k) := by decide +kernel
abbrev cX0_init : ByteArray := prog_2_method_1_code
def yX0_init : MethodName := ⟨RX0, "<init>", "()V"⟩
abbrev cX0_workedOut : ByteArray := prog_2_method_2_code
def yX0_workedOut : MethodName := ⟨RX0, "workedOut", "(LObedientDice$State;)LObedientDice$Extremes;"⟩
abbrev cX0_has : ByteArray := prog_2_method_3_code
def yX0_has : MethodName := ⟨RX0, "has", "(I)Z"⟩
abbrev cX0_weight : ByteArray := prog_2_method_4_code
def yX0_weight : MethodName := ⟨RX0, "weight", "(II)J"⟩
abbrev cX0_weightSum : ByteArray := prog_2_method_5_code
def yX0_weightSum : MethodName := ⟨RX0, "weightSum", "(I)J"⟩
abbrev cX0_toldCells : ByteArray := prog_2_method_6_code
def yX0_toldCells : MethodName := ⟨RX0, "toldCells", "(I)I"⟩
abbrev cX0_tightInequalities : ByteArray := prog_2_method_7_code
def yX0_tightInequalities : MethodName := ⟨RX0, "tightInequalities", "(I)I"⟩
abbrev cX0_everTold : ByteArray := prog_2_method_8_code
def yX0_everTold : MethodName := ⟨RX0, "everTold", "()I"⟩
abbrev cX0_pointsBy : ByteArray := prog_2_method_9_code
def yX0_pointsBy : MethodName := ⟨RX0, "pointsBy", "(LObedientDice$State;II)J"⟩
abbrev cX0_bestFor : ByteArray := prog_2_method_10_code
def yX0_bestFor : MethodName := ⟨RX0, "bestFor", "(LObedientDice$State;I)I"⟩
abbrev cX0_tightOf : ByteArray := prog_2_method_11_code
def yX0_tightOf : MethodName := ⟨RX0, "tightOf", "(I)I"⟩
abbrev cX0_slackOf : ByteArray := prog_2_method_12_code
def yX0_slackOf : MethodName := ⟨RX0, "slackOf", "(I)J"⟩
abbrev cX0_startWithSingleCells : ByteArray := prog_2_method_13_code
def yX0_startWithSingleCells : MethodName := ⟨RX0, "startWithSingleCells", "(I)V"⟩
abbrev cX0_cutWith : ByteArray := prog_2_method_14_code
def yX0_cutWith : MethodName := ⟨RX0, "cutWith", "(LObedientDice$State;I)V"⟩
abbrev cX0_addNeighboursBelow : ByteArray := prog_2_method_15_code
def yX0_addNeighboursBelow : MethodName := ⟨RX0, "addNeighboursBelow", "(II)V"⟩
abbrev cX0_takeSlacks : ByteArray := prog_2_method_16_code
def yX0_takeSlacks : MethodName := ⟨RX0, "takeSlacks", "(LObedientDice$State;I)V"⟩
abbrev cX0_areNeighbours : ByteArray := prog_2_method_17_code
def yX0_areNeighbours : MethodName := ⟨RX0, "areNeighbours", "(II)Z"⟩
abbrev cX0_keep : ByteArray := prog_2_method_18_code
def yX0_keep : MethodName := ⟨RX0, "keep", "(II)V"⟩
abbrev cX0_addBetween : ByteArray := prog_2_method_19_code
def yX0_addBetween : MethodName := ⟨RX0, "addBetween", "(III)V"⟩
abbrev cX0_mixedAtCut : ByteArray := prog_2_method_20_code
def yX0_mixedAtCut : MethodName := ⟨RX0, "mixedAtCut", "(III)J"⟩
abbrev cX0_startOfNext : ByteArray := prog_2_method_21_code
def yX0_startOfNext : MethodName := ⟨RX0, "startOfNext", "()I"⟩
abbrev cX0_setNext : ByteArray := prog_2_method_22_code
def yX0_setNext : MethodName := ⟨RX0, "setNext", "(IJ)V"⟩
abbrev cX0_finishNext : ByteArray := prog_2_method_23_code
def yX0_finishNext : MethodName := ⟨RX0, "finishNext", "(I)V"⟩
abbrev cX0_turnToNext : ByteArray := prog_2_method_24_code
def yX0_turnToNext : MethodName := ⟨RX0, "turnToNext", "()V"⟩
abbrev cX0_sumUp : ByteArray := prog_2_method_25_code
def yX0_sumUp : MethodName := ⟨RX0, "sumUp", "()V"⟩
abbrev cX0_sort : ByteArray := prog_2_method_26_code
def yX0_sort : MethodName := ⟨RX0, "sort", "()V"⟩
abbrev cX0_comesBefore : ByteArray := prog_2_method_27_code
def yX0_comesBefore : MethodName := ⟨RX0, "comesBefore", "(II)Z"⟩
abbrev cX0_exchange : ByteArray := prog_2_method_28_code
def yX0_exchange : MethodName := ⟨RX0, "exchange", "(II)V"⟩
abbrev cX0_commonDivisor : ByteArray := prog_2_method_29_code
def yX0_commonDivisor : MethodName := ⟨RX0, "commonDivisor", "(JJ)J"⟩
def RX1 : String := "ObedientDice$Pad"
def TX1 : u_T := fun k => match k with
  | 0 => ("ObedientDice$Pad", "length", "I", false)
  | 1 => ("ObedientDice$Pad", "columns", "I", false)
  | 2 => ("ObedientDice$Pad", "text", "[C", true)
  | 3 => ("ObedientDice$Pad", "numbers", "[I", true)
  | 4 => ("ObedientDice$Pad", "due", "I", false)
  | 5 => ("ObedientDice$Pad", "row", "I", false)
  | 6 => ("ObedientDice$Pad", "cellsOfRow", "I", false)
  | 7 => ("ObedientDice$Pad", "player", "I", false)
  | _ => ("ObedientDice$Pad", "negative", "Z", false)
def tyX1 : Nat → FieldType := fun k => match k with
  | 0 => .int
  | 1 => .int
  | 2 => .array .char
  | 3 => .array .int
  | 4 => .int
  | 5 => .int
  | 6 => .int
  | 7 => .int
  | _ => .boolean
abbrev wsX10 : List Cond := u_ws RX1 TX1 9
theorem nmX1 : ∀ a, a < 9 → ∀ b, b < 9 → a ≠ b → (TX1 a).2.1 ≠ (TX1 b).2.1 := by decide +kernel
theorem tyX1_ok : ∀ k, k < 9 → parseFieldDescriptor (TX1 k).2.2.1 = some (tyX1 k) := by decide +kernel
abbrev cX1_init : ByteArray := prog_3_method_1_code
def yX1_init : MethodName := ⟨RX1, "<init>", "()V"⟩
abbrev cX1_charactersIn : ByteArray := prog_3_method_2_code
def yX1_charactersIn : MethodName := ⟨RX1, "charactersIn", "(J)I"⟩
abbrev cX1_append : ByteArray := prog_3_method_3_code
def yX1_append : MethodName := ⟨RX1, "append", "(JI)V"⟩
abbrev cX1_number : ByteArray := prog_3_method_4_code
def yX1_number : MethodName := ⟨RX1, "number", "(II)I"⟩
abbrev cX1_findFault : ByteArray := prog_3_method_5_code
def yX1_findFault : MethodName := ⟨RX1, "findFault", "()I"⟩
abbrev cX1_accepts : ByteArray := prog_3_method_6_code
def yX1_accepts : MethodName := ⟨RX1, "accepts", "(C)Z"⟩
abbrev cX1_acceptsMinus : ByteArray := prog_3_method_7_code
def yX1_acceptsMinus : MethodName := ⟨RX1, "acceptsMinus", "()Z"⟩
abbrev cX1_acceptsDigit : ByteArray := prog_3_method_8_code
def yX1_acceptsDigit : MethodName := ⟨RX1, "acceptsDigit", "(C)Z"⟩
abbrev cX1_acceptsComma : ByteArray := prog_3_method_9_code
def yX1_acceptsComma : MethodName := ⟨RX1, "acceptsComma", "()Z"⟩
abbrev cX1_acceptsSemicolon : ByteArray := prog_3_method_10_code
def yX1_acceptsSemicolon : MethodName := ⟨RX1, "acceptsSemicolon", "()Z"⟩
abbrev cX1_acceptsSlash : ByteArray := prog_3_method_11_code
def yX1_acceptsSlash : MethodName := ⟨RX1, "acceptsSlash", "()Z"⟩
def RX2 : String := "ObedientDice$State"
def TX2 : u_T := fun k => match k with
  | 0 => ("ObedientDice$State", "columns", "I", false)
  | 1 => ("ObedientDice$State", "thrower", "I", false)
  | 2 => ("ObedientDice$State", "gains", "[I", true)
  | 3 => ("ObedientDice$State", "weights", "[I", true)
  | _ => ("ObedientDice$State", "falls", "[I", true)
def tyX2 : Nat → FieldType := fun k => match k with
  | 0 => .int
  | 1 => .int
  | 2 => .array .int
  | 3 => .array .int
  | _ => .array .int
abbrev wsX20 : List Cond := u_ws RX2 TX2 5
theorem nmX2 : ∀ a, a < 5 → ∀ b, b < 5 → a ≠ b → (TX2 a).2.1 ≠ (TX2 b).2.1 := by decide +kernel
theorem tyX2_ok : ∀ k, k < 5 → parseFieldDescriptor (TX2 k).2.2.1 = some (tyX2 k) := by decide +kernel
abbrev cX2_init : ByteArray := prog_4_method_1_code
def yX2_init : MethodName := ⟨RX2, "<init>", "()V"⟩
abbrev cX2_startAnew : ByteArray := prog_4_method_2_code
def yX2_startAnew : MethodName := ⟨RX2, "startAnew", "(I)V"⟩
abbrev cX2_copyFrom : ByteArray := prog_4_method_3_code
def yX2_copyFrom : MethodName := ⟨RX2, "copyFrom", "(LObedientDice$State;)V"⟩
abbrev cX2_isSameGame : ByteArray := prog_4_method_4_code
def yX2_isSameGame : MethodName := ⟨RX2, "isSameGame", "(I[I)Z"⟩
abbrev cX2_cells : ByteArray := prog_4_method_5_code
def yX2_cells : MethodName := ⟨RX2, "cells", "()I"⟩
abbrev cX2_cellAt : ByteArray := prog_4_method_6_code
def yX2_cellAt : MethodName := ⟨RX2, "cellAt", "(II)I"⟩
abbrev cX2_moveIn : ByteArray := prog_4_method_7_code
def yX2_moveIn : MethodName := ⟨RX2, "moveIn", "(II)I"⟩
abbrev cX2_gain : ByteArray := prog_4_method_8_code
def yX2_gain : MethodName := ⟨RX2, "gain", "(II)I"⟩
abbrev cX2_setGain : ByteArray := prog_4_method_9_code
def yX2_setGain : MethodName := ⟨RX2, "setGain", "(III)V"⟩
abbrev cX2_gainForOneOrBoth : ByteArray := prog_4_method_10_code
def yX2_gainForOneOrBoth : MethodName := ⟨RX2, "gainForOneOrBoth", "(II)I"⟩
abbrev cX2_pointsBy : ByteArray := prog_4_method_11_code
def yX2_pointsBy : MethodName := ⟨RX2, "pointsBy", "([II)I"⟩
abbrev cX2_inequalities : ByteArray := prog_4_method_12_code
def yX2_inequalities : MethodName := ⟨RX2, "inequalities", "()I"⟩
abbrev cX2_playerOf : ByteArray := prog_4_method_13_code
def yX2_playerOf : MethodName := ⟨RX2, "playerOf", "(I)I"⟩
abbrev cX2_toldMove : ByteArray := prog_4_method_14_code
def yX2_toldMove : MethodName := ⟨RX2, "toldMove", "(I)I"⟩
abbrev cX2_otherMove : ByteArray := prog_4_method_15_code
def yX2_otherMove : MethodName := ⟨RX2, "otherMove", "(I)I"⟩
abbrev cX2_loss : ByteArray := prog_4_method_16_code
def yX2_loss : MethodName := ⟨RX2, "loss", "(II)I"⟩
abbrev cX2_leftSide : ByteArray := prog_4_method_17_code
def yX2_leftSide : MethodName := ⟨RX2, "leftSide", "(I[I)I"⟩
abbrev cX2_brokenInequalities : ByteArray := prog_4_method_18_code
def yX2_brokenInequalities : MethodName := ⟨RX2, "brokenInequalities", "()I"⟩
abbrev cX2_isSure : ByteArray := prog_4_method_19_code
def yX2_isSure : MethodName := ⟨RX2, "isSure", "(I)Z"⟩
abbrev cX2_throwDice : ByteArray := prog_4_method_20_code
def yX2_throwDice : MethodName := ⟨RX2, "throwDice", "()I"⟩
def RX3 : String := "ObedientDice"
def TX3 : u_T := fun k => match k with
  | 0 => ("ObedientDice", "now", "LObedientDice$State;", true)
  | 1 => ("ObedientDice", "found", "LObedientDice$Extremes;", true)
  | 2 => ("ObedientDice", "pad", "LObedientDice$Pad;", true)
  | 3 => ("ObedientDice", "history", "[LObedientDice$State;", true)
  | 4 => ("ObedientDice", "slots", "[LObedientDice$State;", true)
  | _ => ("ObedientDice", "changes", "I", false)
def tyX3 : Nat → FieldType := fun k => match k with
  | 0 => .object "ObedientDice$State"
  | 1 => .object "ObedientDice$Extremes"
  | 2 => .object "ObedientDice$Pad"
  | 3 => .array (.object "ObedientDice$State")
  | 4 => .array (.object "ObedientDice$State")
  | _ => .int
abbrev wsX30 : List Cond := u_ws RX3 TX3 6
theorem nmX3 : ∀ a, a < 6 → ∀ b, b < 6 → a ≠ b → (TX3 a).2.1 ≠ (TX3 b).2.1 := by decide +kernel
theorem tyX3_ok : ∀ k, k < 6 → parseFieldDescriptor (TX3 k).2.2.1 = some (tyX3 k) := by decide +kernel
abbrev cX3_init : ByteArray := prog_1_method_1_code
def yX3_init : MethodName := ⟨RX3, "<init>", "()V"⟩
abbrev cX3_begin : ByteArray := prog_1_method_2_code
def yX3_begin : MethodName := ⟨RX3, "begin", "(I)I"⟩
abbrev cX3_points : ByteArray := prog_1_method_3_code
def yX3_points : MethodName := ⟨RX3, "points", "(IIII)I"⟩
abbrev cX3_weigh : ByteArray := prog_1_method_4_code
def yX3_weigh : MethodName := ⟨RX3, "weigh", "(III)I"⟩
abbrev cX3_take : ByteArray := prog_1_method_5_code
def yX3_take : MethodName := ⟨RX3, "take", "(I)I"⟩
abbrev cX3_mix : ByteArray := prog_1_method_6_code
def yX3_mix : MethodName := ⟨RX3, "mix", "(III)I"⟩
abbrev cX3_roll : ByteArray := prog_1_method_7_code
def yX3_roll : MethodName := ⟨RX3, "roll", "(I)I"⟩
abbrev cX3_forget : ByteArray := prog_1_method_8_code
def yX3_forget : MethodName := ⟨RX3, "forget", "(I)I"⟩
abbrev cX3_read : ByteArray := prog_1_method_9_code
def yX3_read : MethodName := ⟨RX3, "read", "()I"⟩
abbrev cX3_cell : ByteArray := prog_1_method_10_code
def yX3_cell : MethodName := ⟨RX3, "cell", "(III)I"⟩
abbrev cX3_inequality : ByteArray := prog_1_method_11_code
def yX3_inequality : MethodName := ⟨RX3, "inequality", "(II)I"⟩
abbrev cX3_count : ByteArray := prog_1_method_12_code
def yX3_count : MethodName := ⟨RX3, "count", "(I)I"⟩
abbrev cX3_worth : ByteArray := prog_1_method_13_code
def yX3_worth : MethodName := ⟨RX3, "worth", "(I)I"⟩
abbrev cX3_extreme : ByteArray := prog_1_method_14_code
def yX3_extreme : MethodName := ⟨RX3, "extreme", "(II)I"⟩
abbrev cX3_best : ByteArray := prog_1_method_15_code
def yX3_best : MethodName := ⟨RX3, "best", "(II)I"⟩
abbrev cX3_neverTold : ByteArray := prog_1_method_16_code
def yX3_neverTold : MethodName := ⟨RX3, "neverTold", "(I)I"⟩
abbrev cX3_sure : ByteArray := prog_1_method_17_code
def yX3_sure : MethodName := ⟨RX3, "sure", "()I"⟩
abbrev cX3_put : ByteArray := prog_1_method_18_code
def yX3_put : MethodName := ⟨RX3, "put", "(J)I"⟩
abbrev cX3_wipe : ByteArray := prog_1_method_19_code
def yX3_wipe : MethodName := ⟨RX3, "wipe", "()I"⟩
abbrev cX3_fault : ByteArray := prog_1_method_20_code
def yX3_fault : MethodName := ⟨RX3, "fault", "()I"⟩
abbrev cX3_undo : ByteArray := prog_1_method_21_code
def yX3_undo : MethodName := ⟨RX3, "undo", "()I"⟩
abbrev cX3_save : ByteArray := prog_1_method_22_code
def yX3_save : MethodName := ⟨RX3, "save", "(I)I"⟩
abbrev cX3_restore : ByteArray := prog_1_method_23_code
def yX3_restore : MethodName := ⟨RX3, "restore", "(I)I"⟩
abbrev cX3_isPlayer : ByteArray := prog_1_method_24_code
def yX3_isPlayer : MethodName := ⟨RX3, "isPlayer", "(I)Z"⟩
abbrev cX3_isPlayerOrBoth : ByteArray := prog_1_method_25_code
def yX3_isPlayerOrBoth : MethodName := ⟨RX3, "isPlayerOrBoth", "(I)Z"⟩
abbrev cX3_isCell : ByteArray := prog_1_method_26_code
def yX3_isCell : MethodName := ⟨RX3, "isCell", "(II)Z"⟩
abbrev cX3_mixWith : ByteArray := prog_1_method_27_code
def yX3_mixWith : MethodName := ⟨RX3, "mixWith", "(LObedientDice$Extremes;III)I"⟩
abbrev cX3_mixedWeight : ByteArray := prog_1_method_28_code
def yX3_mixedWeight : MethodName := ⟨RX3, "mixedWeight", "(LObedientDice$Extremes;IIII)J"⟩
abbrev cX3_thousandths : ByteArray := prog_1_method_29_code
def yX3_thousandths : MethodName := ⟨RX3, "thousandths", "(JJ)I"⟩
abbrev cX3_recordChange : ByteArray := prog_1_method_30_code
def yX3_recordChange : MethodName := ⟨RX3, "recordChange", "()V"⟩
abbrev cX3_dropOldestChange : ByteArray := prog_1_method_31_code
def yX3_dropOldestChange : MethodName := ⟨RX3, "dropOldestChange", "()V"⟩
abbrev cX3_amount : ByteArray := prog_1_method_32_code
def yX3_amount : MethodName := ⟨RX3, "amount", "([II)I"⟩
abbrev cX3_setAmount : ByteArray := prog_1_method_33_code
def yX3_setAmount : MethodName := ⟨RX3, "setAmount", "([III)V"⟩
abbrev cX3_fillAmounts : ByteArray := prog_1_method_34_code
def yX3_fillAmounts : MethodName := ⟨RX3, "fillAmounts", "([III)V"⟩
abbrev cX3_sumOf : ByteArray := prog_1_method_35_code
def yX3_sumOf : MethodName := ⟨RX3, "sumOf", "([I)I"⟩
def RX4 : String := "ObedientDiceModel"
def TX4 : u_T := fun k => match k with
  | 0 => ("ObedientDiceModel", "all", "[I", true)
  | 1 => ("ObedientDiceModel", "history", "[I", true)
  | 2 => ("ObedientDiceModel", "historyLong", "I", false)
  | 3 => ("ObedientDiceModel", "slots", "[I", true)
  | 4 => ("ObedientDiceModel", "isSaved", "[I", true)
  | 5 => ("ObedientDiceModel", "player", "I", false)
  | 6 => ("ObedientDiceModel", "told", "I", false)
  | 7 => ("ObedientDiceModel", "other", "I", false)
  | 8 => ("ObedientDiceModel", "extreme", "[J", true)
  | 9 => ("ObedientDiceModel", "extremeSum", "[J", true)
  | 10 => ("ObedientDiceModel", "extremes", "I", false)
  | 11 => ("ObedientDiceModel", "isLaid", "Z", false)
  | 12 => ("ObedientDiceModel", "pick", "[I", true)
  | 13 => ("ObedientDiceModel", "system", "[J", true)
  | 14 => ("ObedientDiceModel", "pivot", "[I", true)
  | 15 => ("ObedientDiceModel", "found", "[J", true)
  | 16 => ("ObedientDiceModel", "pad", "[I", true)
  | 17 => ("ObedientDiceModel", "padLong", "I", false)
  | 18 => ("ObedientDiceModel", "read", "[I", true)
  | 19 => ("ObedientDiceModel", "rowLong", "[I", true)
  | _ => ("ObedientDiceModel", "spot", "I", false)
def tyX4 : Nat → FieldType := fun k => match k with
  | 0 => .array .int
  | 1 => .array .int
  | 2 => .int
  | 3 => .array .int
  | 4 => .array .int
  | 5 => .int
  | 6 => .int
  | 7 => .int
  | 8 => .array .long
  | 9 => .array .long
  | 10 => .int
  | 11 => .boolean
  | 12 => .array .int
  | 13 => .array .long
  | 14 => .array .int
  | 15 => .array .long
  | 16 => .array .int
  | 17 => .int
  | 18 => .array .int
  | 19 => .array .int
  | _ => .int
abbrev wsX40 : List Cond := u_ws RX4 TX4 21
theorem nmX4 : ∀ a, a < 21 → ∀ b, b < 21 → a ≠ b → (TX4 a).2.1 ≠ (TX4 b).2.1 := by decide +kernel
theorem tyX4_ok : ∀ k, k < 21 → parseFieldDescriptor (TX4 k).2.2.1 = some (tyX4 k) := by decide +kernel
abbrev cX4_init : ByteArray := prog_6_method_1_code
def yX4_init : MethodName := ⟨RX4, "<init>", "()V"⟩
abbrev cX4_in : ByteArray := prog_6_method_3_code
def yX4_in : MethodName := ⟨RX4, "in", "(JJJ)Z"⟩
abbrev cX4_record : ByteArray := prog_6_method_4_code
def yX4_record : MethodName := ⟨RX4, "record", "()V"⟩
abbrev cX4_columns : ByteArray := prog_6_method_5_code
def yX4_columns : MethodName := ⟨RX4, "columns", "()I"⟩
abbrev cX4_cells : ByteArray := prog_6_method_6_code
def yX4_cells : MethodName := ⟨RX4, "cells", "()I"⟩
abbrev cX4_inequalities : ByteArray := prog_6_method_7_code
def yX4_inequalities : MethodName := ⟨RX4, "inequalities", "()I"⟩
abbrev cX4_anew : ByteArray := prog_6_method_8_code
def yX4_anew : MethodName := ⟨RX4, "anew", "(I)V"⟩
abbrev cX4_pointsOf : ByteArray := prog_6_method_9_code
def yX4_pointsOf : MethodName := ⟨RX4, "pointsOf", "(II)I"⟩
abbrev cX4_isCell : ByteArray := prog_6_method_10_code
def yX4_isCell : MethodName := ⟨RX4, "isCell", "(II)Z"⟩
abbrev cX4_cellOf : ByteArray := prog_6_method_11_code
def yX4_cellOf : MethodName := ⟨RX4, "cellOf", "(II)I"⟩
abbrev cX4_look : ByteArray := prog_6_method_12_code
def yX4_look : MethodName := ⟨RX4, "look", "(I)V"⟩
abbrev cX4_loss : ByteArray := prog_6_method_13_code
def yX4_loss : MethodName := ⟨RX4, "loss", "(I)I"⟩
abbrev cX4_slackBy : ByteArray := prog_6_method_14_code
def yX4_slackBy : MethodName := ⟨RX4, "slackBy", "(II)I"⟩
abbrev cX4_sumOfWeights : ByteArray := prog_6_method_15_code
def yX4_sumOfWeights : MethodName := ⟨RX4, "sumOfWeights", "()I"⟩
abbrev cX4_broken : ByteArray := prog_6_method_16_code
def yX4_broken : MethodName := ⟨RX4, "broken", "()I"⟩
abbrev cX4_isSure : ByteArray := prog_6_method_17_code
def yX4_isSure : MethodName := ⟨RX4, "isSure", "(I)Z"⟩
abbrev cX4_divide : ByteArray := prog_6_method_18_code
def yX4_divide : MethodName := ⟨RX4, "divide", "(JJ)J"⟩
abbrev cX4_divisor : ByteArray := prog_6_method_19_code
def yX4_divisor : MethodName := ⟨RX4, "divisor", "(JJ)J"⟩
abbrev cX4_get : ByteArray := prog_6_method_20_code
def yX4_get : MethodName := ⟨RX4, "get", "(II)J"⟩
abbrev cX4_laySystem : ByteArray := prog_6_method_21_code
def yX4_laySystem : MethodName := ⟨RX4, "laySystem", "()V"⟩
abbrev cX4_shorten : ByteArray := prog_6_method_22_code
def yX4_shorten : MethodName := ⟨RX4, "shorten", "(I)V"⟩
abbrev cX4_exchange : ByteArray := prog_6_method_23_code
def yX4_exchange : MethodName := ⟨RX4, "exchange", "(II)V"⟩
abbrev cX4_clearOthers : ByteArray := prog_6_method_24_code
def yX4_clearOthers : MethodName := ⟨RX4, "clearOthers", "(II)V"⟩
abbrev cX4_solve : ByteArray := prog_6_method_25_code
def yX4_solve : MethodName := ⟨RX4, "solve", "()I"⟩
abbrev cX4_laySolution : ByteArray := prog_6_method_26_code
def yX4_laySolution : MethodName := ⟨RX4, "laySolution", "(I)V"⟩
abbrev cX4_isObeyed : ByteArray := prog_6_method_27_code
def yX4_isObeyed : MethodName := ⟨RX4, "isObeyed", "()Z"⟩
abbrev cX4_ahead : ByteArray := prog_6_method_28_code
def yX4_ahead : MethodName := ⟨RX4, "ahead", "(IJ)J"⟩
abbrev cX4_insert : ByteArray := prog_6_method_29_code
def yX4_insert : MethodName := ⟨RX4, "insert", "()V"⟩
abbrev cX4_picksNext : ByteArray := prog_6_method_30_code
def yX4_picksNext : MethodName := ⟨RX4, "picksNext", "()Z"⟩
abbrev cX4_layExtremes : ByteArray := prog_6_method_31_code
def yX4_layExtremes : MethodName := ⟨RX4, "layExtremes", "()V"⟩
abbrev cX4_isExtreme : ByteArray := prog_6_method_32_code
def yX4_isExtreme : MethodName := ⟨RX4, "isExtreme", "(I)Z"⟩
abbrev cX4_cellsOf : ByteArray := prog_6_method_33_code
def yX4_cellsOf : MethodName := ⟨RX4, "cellsOf", "(I)I"⟩
abbrev cX4_anyCells : ByteArray := prog_6_method_34_code
def yX4_anyCells : MethodName := ⟨RX4, "anyCells", "()I"⟩
abbrev cX4_tightOf : ByteArray := prog_6_method_35_code
def yX4_tightOf : MethodName := ⟨RX4, "tightOf", "(I)I"⟩
abbrev cX4_begin : ByteArray := prog_6_method_36_code
def yX4_begin : MethodName := ⟨RX4, "begin", "(I)I"⟩
abbrev cX4_points : ByteArray := prog_6_method_37_code
def yX4_points : MethodName := ⟨RX4, "points", "(IIII)I"⟩
abbrev cX4_weigh : ByteArray := prog_6_method_38_code
def yX4_weigh : MethodName := ⟨RX4, "weigh", "(III)I"⟩
abbrev cX4_mixes : ByteArray := prog_6_method_39_code
def yX4_mixes : MethodName := ⟨RX4, "mixes", "(III)I"⟩
abbrev cX4_take : ByteArray := prog_6_method_40_code
def yX4_take : MethodName := ⟨RX4, "take", "(I)I"⟩
abbrev cX4_mix : ByteArray := prog_6_method_41_code
def yX4_mix : MethodName := ⟨RX4, "mix", "(III)I"⟩
abbrev cX4_throwsSoFar : ByteArray := prog_6_method_42_code
def yX4_throwsSoFar : MethodName := ⟨RX4, "throwsSoFar", "()I"⟩
abbrev cX4_rolls : ByteArray := prog_6_method_43_code
def yX4_rolls : MethodName := ⟨RX4, "rolls", "()I"⟩
abbrev cX4_roll : ByteArray := prog_6_method_44_code
def yX4_roll : MethodName := ⟨RX4, "roll", "(I)I"⟩
abbrev cX4_forget : ByteArray := prog_6_method_45_code
def yX4_forget : MethodName := ⟨RX4, "forget", "(I)I"⟩
abbrev cX4_takes : ByteArray := prog_6_method_46_code
def yX4_takes : MethodName := ⟨RX4, "takes", "(I)Z"⟩
abbrev cX4_readsPoints : ByteArray := prog_6_method_47_code
def yX4_readsPoints : MethodName := ⟨RX4, "readsPoints", "(I)Z"⟩
abbrev cX4_readsRow : ByteArray := prog_6_method_48_code
def yX4_readsRow : MethodName := ⟨RX4, "readsRow", "(I)Z"⟩
abbrev cX4_faultOf : ByteArray := prog_6_method_49_code
def yX4_faultOf : MethodName := ⟨RX4, "faultOf", "()I"⟩
abbrev cX4_read : ByteArray := prog_6_method_50_code
def yX4_read : MethodName := ⟨RX4, "read", "()I"⟩
abbrev cX4_cell : ByteArray := prog_6_method_51_code
def yX4_cell : MethodName := ⟨RX4, "cell", "(III)I"⟩
abbrev cX4_inequality : ByteArray := prog_6_method_52_code
def yX4_inequality : MethodName := ⟨RX4, "inequality", "(II)I"⟩
abbrev cX4_got : ByteArray := prog_6_method_53_code
def yX4_got : MethodName := ⟨RX4, "got", "(I)I"⟩
abbrev cX4_manyExtremes : ByteArray := prog_6_method_54_code
def yX4_manyExtremes : MethodName := ⟨RX4, "manyExtremes", "()I"⟩
abbrev cX4_count : ByteArray := prog_6_method_55_code
def yX4_count : MethodName := ⟨RX4, "count", "(I)I"⟩
abbrev cX4_pointsFor : ByteArray := prog_6_method_56_code
def yX4_pointsFor : MethodName := ⟨RX4, "pointsFor", "(II)I"⟩
abbrev cX4_worth : ByteArray := prog_6_method_57_code
def yX4_worth : MethodName := ⟨RX4, "worth", "(I)I"⟩
abbrev cX4_extreme : ByteArray := prog_6_method_58_code
def yX4_extreme : MethodName := ⟨RX4, "extreme", "(II)I"⟩
abbrev cX4_pointsBy : ByteArray := prog_6_method_59_code
def yX4_pointsBy : MethodName := ⟨RX4, "pointsBy", "(II)J"⟩
abbrev cX4_best : ByteArray := prog_6_method_60_code
def yX4_best : MethodName := ⟨RX4, "best", "(II)I"⟩
abbrev cX4_neverTold : ByteArray := prog_6_method_61_code
def yX4_neverTold : MethodName := ⟨RX4, "neverTold", "(I)I"⟩
abbrev cX4_sure : ByteArray := prog_6_method_62_code
def yX4_sure : MethodName := ⟨RX4, "sure", "()I"⟩
abbrev cX4_put : ByteArray := prog_6_method_63_code
def yX4_put : MethodName := ⟨RX4, "put", "(J)I"⟩
abbrev cX4_wipe : ByteArray := prog_6_method_64_code
def yX4_wipe : MethodName := ⟨RX4, "wipe", "()I"⟩
abbrev cX4_fault : ByteArray := prog_6_method_65_code
def yX4_fault : MethodName := ⟨RX4, "fault", "()I"⟩
abbrev cX4_undo : ByteArray := prog_6_method_66_code
def yX4_undo : MethodName := ⟨RX4, "undo", "()I"⟩
abbrev cX4_save : ByteArray := prog_6_method_67_code
def yX4_save : MethodName := ⟨RX4, "save", "(I)I"⟩
abbrev cX4_restore : ByteArray := prog_6_method_68_code
def yX4_restore : MethodName := ⟨RX4, "restore", "(I)I"⟩
def RJ9 : String := "java/lang/Math"
abbrev cJ9_floorDiv_f86c9 : ByteArray := prog_7_method_49_code
def yJ9_floorDiv_f86c9 : MethodName := ⟨RJ9, "floorDiv", "(JJ)J"⟩
abbrev cJ9_max_f86c9 : ByteArray := prog_7_method_66_code
def yJ9_max_f86c9 : MethodName := ⟨RJ9, "max", "(JJ)J"⟩
abbrev cJ9_min_f86c9 : ByteArray := prog_7_method_70_code
def yJ9_min_f86c9 : MethodName := ⟨RJ9, "min", "(JJ)J"⟩
def RL : String := "ObedientDiceLaw"
abbrev cL_law : ByteArray := code
def yL_law : MethodName := ⟨RL, "law", "([I)Z"⟩
abbrev vwCl : List vw_C := [(RX0, TX0, 11), (RX1, TX1, 9), (RX2, TX2, 5), (RX3, TX3, 6), (RX4, TX4, 21)]
theorem sm_inPos {big ws : List Cond} (ps : List Nat) (h : ws = ps.filterMap (fun i => big[i]?)) : ∀ w ∈ ws, w ∈ big := by
  intro w hw
  rw [h] at hw
  obtain ⟨i, -, hi⟩ := List.mem_filterMap.mp hw
  exact List.mem_of_getElem? hi
set_option maxRecDepth 20000 in
theorem inX0 : ∀ w ∈ wsX00, w ∈ lw_tbl := sm_inPos [144, 146, 148, 150, 152, 154, 156, 158, 160, 162, 164] (by decide +kernel)
set_option maxRecDepth 20000 in
theorem inX1 : ∀ w ∈ wsX10, w ∈ lw_tbl := sm_inPos [185, 187, 189, 191, 193, 195, 197, 199, 201] (by decide +kernel)
set_option maxRecDepth 20000 in
theorem inX2 : ∀ w ∈ wsX20, w ∈ lw_tbl := sm_inPos [114, 116, 118, 120, 122] (by decide +kernel)
set_option maxRecDepth 20000 in
theorem inX3 : ∀ w ∈ wsX30, w ∈ lw_tbl := sm_inPos [212, 214, 216, 218, 220, 222] (by decide +kernel)
set_option maxRecDepth 20000 in
theorem inX4 : ∀ w ∈ wsX40, w ∈ lw_tbl := sm_inPos [658, 660, 662, 664, 666, 668, 670, 672, 674, 676, 678, 680, 682, 684, 686, 688, 690, 692, 694, 696, 698] (by decide +kernel)
end
section
/-! ===== THE SMALL MACHINE: a JVM of ints, longs and references over a plain memory, as a function; no kit in it but the names of instructions and values ===== -/
/-- what stands where no local is -/
abbrev am_ph : Value := .retAddr 0
/-- a memory: for each cell its kind (0 to 4 an object of that class, 5 int[], 6 long[], 7 char[], 8 State[], 9 the script) and its size; its ints, longs, references -/
abbrev AH : Type := List (Nat × Nat) × (Nat → Nat → Int32) × (Nat → Nat → Int64) × (Nat → Nat → Option Nat)
abbrev AR : Type := Option (Option Value × AH)
def am_kd (h : AH) (a : Nat) : Nat := (h.1.getD a (99, 0)).1
def am_ln (h : AH) (a : Nat) : Nat := (h.1.getD a (99, 0)).2
def am_I (h : AH) : Nat → Nat → Int32 := h.2.1
def am_J (h : AH) : Nat → Nat → Int64 := h.2.2.1
def am_R (h : AH) : Nat → Nat → Option Nat := h.2.2.2
def am_ud {α : Type} (f : Nat → α) (k : Nat) (v : α) : Nat → α := fun j => if j = k then v else f j
def am_rI (h : AH) (a : Nat) (f : Nat → Int32) : AH := (h.1, am_ud h.2.1 a f, h.2.2.1, h.2.2.2)
def am_rJ (h : AH) (a : Nat) (f : Nat → Int64) : AH := (h.1, h.2.1, am_ud h.2.2.1 a f, h.2.2.2)
def am_rR (h : AH) (a : Nat) (f : Nat → Option Nat) : AH := (h.1, h.2.1, h.2.2.1, am_ud h.2.2.2 a f)
def am_sI (h : AH) (a k : Nat) (v : Int32) : AH := am_rI h a (am_ud (am_I h a) k v)
def am_sJ (h : AH) (a k : Nat) (v : Int64) : AH := am_rJ h a (am_ud (am_J h a) k v)
def am_sR (h : AH) (a k : Nat) (v : Option Nat) : AH := am_rR h a (am_ud (am_R h a) k v)
def am_nw (h : AH) (k n : Nat) : AH := (h.1 ++ [(k, n)], am_ud h.2.1 h.1.length (fun _ => 0), am_ud h.2.2.1 h.1.length (fun _ => 0), am_ud h.2.2.2 h.1.length (fun _ => none))
/-- an instruction: where, what, the next one's place, its numbers (targets, fields, methods), its constants -/
abbrev AE : Type := Nat × Instr × Nat × List Nat × Int32 × Int64
/-- a method: its code, its locals, what it returns (0 nothing, 1 int, 2 boolean, 3 long, 4 a reference), which locals are dead at a place -/
abbrev AMe : Type := List AE × Nat × Nat × List (Nat × List Nat)
def am_fetch : List AE → Nat → Option AE
  | [], _ => none
  | q :: r, pc => bif Nat.beq q.1 pc then some q else am_fetch r pc
section helpers
def am_i1.{u} {α : Sort u} (no : α) (f : Int32 → List Value → α) : List Value → α
  | .int x :: r => f x r
  | _ => no
def am_i2.{u} {α : Sort u} (no : α) (f : Int32 → Int32 → List Value → α) : List Value → α
  | .int y :: .int x :: r => f x y r
  | _ => no
def am_l1.{u} {α : Sort u} (no : α) (f : Int64 → List Value → α) : List Value → α
  | .long x :: r => f x r
  | _ => no
def am_l2.{u} {α : Sort u} (no : α) (f : Int64 → Int64 → List Value → α) : List Value → α
  | .long y :: .long x :: r => f x y r
  | _ => no
def am_li.{u} {α : Sort u} (no : α) (f : Int64 → Int32 → List Value → α) : List Value → α
  | .int y :: .long x :: r => f x y r
  | _ => no
def am_r1.{u} {α : Sort u} (no : α) (f : Nat → List Value → α) : List Value → α
  | .ref a :: r => f a r
  | _ => no
/-- a reference or null -/
def am_o1.{u} {α : Sort u} (no : α) (f : Option Nat → List Value → α) : List Value → α
  | .ref a :: r => f (some a) r
  | .null :: r => f none r
  | _ => no
def am_ai.{u} {α : Sort u} (no : α) (f : Nat → Int32 → List Value → α) : List Value → α
  | .int i :: .ref a :: r => f a i r
  | _ => no
def am_aii.{u} {α : Sort u} (no : α) (f : Nat → Int32 → Int32 → List Value → α) : List Value → α
  | .int x :: .int i :: .ref a :: r => f a i x r
  | _ => no
def am_ail.{u} {α : Sort u} (no : α) (f : Nat → Int32 → Int64 → List Value → α) : List Value → α
  | .long x :: .int i :: .ref a :: r => f a i x r
  | _ => no
def am_air.{u} {α : Sort u} (no : α) (f : Nat → Int32 → Option Nat → List Value → α) : List Value → α
  | .ref b :: .int i :: .ref a :: r => f a i (some b) r
  | .null :: .int i :: .ref a :: r => f a i none r
  | _ => no
def am_ri.{u} {α : Sort u} (no : α) (f : Nat → Int32 → List Value → α) : List Value → α
  | .int x :: .ref a :: r => f a x r
  | _ => no
def am_rr.{u} {α : Sort u} (no : α) (f : Nat → Option Nat → List Value → α) : List Value → α
  | .ref b :: .ref a :: r => f a (some b) r
  | .null :: .ref a :: r => f a none r
  | _ => no
def am_v1.{u} {α : Sort u} (no : α) (f : Value → List Value → α) : List Value → α
  | v :: r => if v.category = 1 then f v r else no
  | _ => no
def am_v2.{u} {α : Sort u} (no : α) (f : Value → Value → List Value → α) : List Value → α
  | v :: w :: r => if v.category = 1 ∧ w.category = 1 then f v w r else no
  | _ => no
def am_ldI.{u} {α : Sort u} (no : α) (f : Int32 → α) : Option Value → α
  | some (.int x) => f x
  | _ => no
def am_ldJ.{u} {α : Sort u} (no : α) (f : Int64 → α) : Option Value → α
  | some (.long x) => f x
  | _ => no
def am_ldA.{u} {α : Sort u} (no : α) (f : Option Nat → α) : Option Value → α
  | some (.ref a) => f (some a)
  | some .null => f none
  | _ => no
def am_oe.{u} {α : Sort u} (o : Option Nat) (x : α) (f : Nat → α) : α := match o with
  | none => x
  | some a => f a
def am_kill (ls : List Value) : Nat → List Value
  | 0 => ls
  | j + 1 => match ls[j]? with
    | some (.long _) => ls.set j am_ph
    | _ => ls
def am_set1 (ls : List Value) (k : Nat) (v : Value) : List Value := (am_kill ls k).set k v
def am_set2 (ls : List Value) (k : Nat) (v : Value) : List Value := ((am_kill ls k).set k v).set (k + 1) am_ph
def am_sw.{u} {α : Sort u} (f : Nat → α) (x : Int32) (d : Nat) : Nat → List Nat → α
  | _, [] => f d
  | k, t :: r => if x = nI k then f t else am_sw f x d (k + 1) r
def am_pop : Nat → List Value → List Value → Option (List Value × List Value)
  | 0, st, acc => some (acc, st)
  | n + 1, v :: st, acc => am_pop n st (v :: acc)
  | _ + 1, [], _ => none
def am_w8 (st : List Value) : Nat := (st.map fun v => v.category).sum
def am_ob (v : Option Nat) : Value := match v with
  | none => .null
  | some a => .ref a
def am_bit (x : Int32) : Prop := x = 0 ∨ x = 1
end helpers
def am_cpy (f g : Nat → Int32) (sp dp n : Nat) : Nat → Int32 := fun k => if dp ≤ k ∧ k < dp + n then f (sp + (k - dp)) else g k
/-- a call: numbers are the method, its arguments behind the receiver, the kind (0 with a receiver, 1 static), what the method returns, its locals, the receiver's class; 2 Object's constructor, 3 arraycopy -/
def am_inv.{u} {α : Sort u} (nx : Nat → List Value → List Value → AH → α) (cl : Nat → Nat → Nat → List Value → Nat → List Value → List Value → AH → α) (no : α) (n : Nat) (ts : List Nat) (ls st : List Value) (h : AH) : α := match ts with
  | [mi, na, 1, rk, nL] => match am_pop na st [] with
    | some (as, r) => if am_w8 r ≤ 8 then cl mi rk nL as n ls r h else no
    | none => no
  | [mi, na, 0, rk, nL, rc] => match am_pop na st [] with
    | some (as, .ref b :: r) => if am_kd h b = rc then (if am_w8 r ≤ 8 then cl mi rk nL (.ref b :: as) n ls r h else no) else no
    | _ => no
  | [2] => match st with
    | .ref _ :: r => if am_w8 r ≤ 8 then nx n ls r h else no
    | _ => no
  | [3, _] => match st with
    | .int c :: .int dp :: .ref d :: .int sp :: .ref s :: r => if am_kd h s = 5 ∧ am_kd h d = 5 ∧ ¬ sp < 0 ∧ ¬ dp < 0 ∧ ¬ c < 0 ∧ sp.toNatClampNeg + c.toNatClampNeg ≤ am_ln h s ∧ dp.toNatClampNeg + c.toNatClampNeg ≤ am_ln h d ∧ am_w8 r ≤ 8 then nx n ls r (am_rI h d (am_cpy (am_I h s) (am_I h d) sp.toNatClampNeg dp.toNatClampNeg c.toNatClampNeg)) else no
    | _ => no
  | _ => no
def am_exe.{u} {α : Sort u} (nx : Nat → List Value → List Value → AH → α) (cl : Nat → Nat → Nat → List Value → Nat → List Value → List Value → AH → α) (rt : Option Value → AH → α) (no : α) (rk : Nat) (i : Instr) (n : Nat) (ts : List Nat) (cv : Int32) (cj : Int64) (ls st : List Value) (h : AH) : α := match i with
  | .iconst _ => nx n ls (.int cv :: st) h
  | .bipush _ => nx n ls (.int cv :: st) h
  | .sipush _ => nx n ls (.int cv :: st) h
  | .ldc _ => nx n ls (.int cv :: st) h
  | .ldc2_w _ => nx n ls (.long cj :: st) h
  | .lconst _ => nx n ls (.long cj :: st) h
  | .aconst_null => nx n ls (.null :: st) h
  | .iload k => am_ldI no (fun x => nx n ls (.int x :: st) h) ls[k]?
  | .iload_n k => am_ldI no (fun x => nx n ls (.int x :: st) h) ls[(k : Nat)]?
  | .lload k => am_ldJ no (fun x => nx n ls (.long x :: st) h) ls[k]?
  | .lload_n k => am_ldJ no (fun x => nx n ls (.long x :: st) h) ls[(k : Nat)]?
  | .aload k => am_ldA no (fun o => nx n ls (am_ob o :: st) h) ls[k]?
  | .aload_n k => am_ldA no (fun o => nx n ls (am_ob o :: st) h) ls[(k : Nat)]?
  | .istore k => am_i1 no (fun x r => if k < ls.length then nx n (am_set1 ls k (.int x)) r h else no) st
  | .istore_n k => am_i1 no (fun x r => if (k : Nat) < ls.length then nx n (am_set1 ls k (.int x)) r h else no) st
  | .lstore k => am_l1 no (fun x r => if k + 1 < ls.length then nx n (am_set2 ls k (.long x)) r h else no) st
  | .lstore_n k => am_l1 no (fun x r => if (k : Nat) + 1 < ls.length then nx n (am_set2 ls k (.long x)) r h else no) st
  | .astore k => am_o1 no (fun o r => if k < ls.length then nx n (am_set1 ls k (am_ob o)) r h else no) st
  | .astore_n k => am_o1 no (fun o r => if (k : Nat) < ls.length then nx n (am_set1 ls k (am_ob o)) r h else no) st
  | .iinc k _ => am_ldI no (fun x => if k < ls.length then nx n (am_set1 ls k (.int (x + cv))) st h else no) ls[k]?
  | .iadd => am_i2 no (fun x y r => nx n ls (.int (x + y) :: r) h) st
  | .isub => am_i2 no (fun x y r => nx n ls (.int (x - y) :: r) h) st
  | .imul => am_i2 no (fun x y r => nx n ls (.int (x * y) :: r) h) st
  | .iand => am_i2 no (fun x y r => nx n ls (.int (x &&& y) :: r) h) st
  | .ior => am_i2 no (fun x y r => nx n ls (.int (x ||| y) :: r) h) st
  | .ixor => am_i2 no (fun x y r => nx n ls (.int (x ^^^ y) :: r) h) st
  | .idiv => am_i2 no (fun x y r => if y = 0 then no else nx n ls (.int (x / y) :: r) h) st
  | .irem => am_i2 no (fun x y r => if y = 0 then no else nx n ls (.int (x - x / y * y) :: r) h) st
  | .ishl => am_i2 no (fun x y r => nx n ls (.int (x <<< (y &&& 31)) :: r) h) st
  | .ishr => am_i2 no (fun x y r => nx n ls (.int (x >>> (y &&& 31)) :: r) h) st
  | .ladd => am_l2 no (fun x y r => nx n ls (.long (x + y) :: r) h) st
  | .lsub => am_l2 no (fun x y r => nx n ls (.long (x - y) :: r) h) st
  | .lmul => am_l2 no (fun x y r => nx n ls (.long (x * y) :: r) h) st
  | .land => am_l2 no (fun x y r => nx n ls (.long (x &&& y) :: r) h) st
  | .lor => am_l2 no (fun x y r => nx n ls (.long (x ||| y) :: r) h) st
  | .lxor => am_l2 no (fun x y r => nx n ls (.long (x ^^^ y) :: r) h) st
  | .ldiv => am_l2 no (fun x y r => if y = 0 then no else nx n ls (.long (x / y) :: r) h) st
  | .lrem => am_l2 no (fun x y r => if y = 0 then no else nx n ls (.long (x - x / y * y) :: r) h) st
  | .lneg => am_l1 no (fun x r => nx n ls (.long (-x) :: r) h) st
  | .lshl => am_li no (fun x y r => nx n ls (.long (x <<< (y.toInt64 &&& 63)) :: r) h) st
  | .lushr => am_li no (fun x y r => nx n ls (.long ((x.toUInt64 >>> (y.toInt64.toUInt64 &&& Int64.toUInt64 63)).toInt64) :: r) h) st
  | .lcmp => am_l2 no (fun x y r => nx n ls (.int (lg_cmp x y) :: r) h) st
  | .i2l => am_i1 no (fun x r => nx n ls (.long x.toInt64 :: r) h) st
  | .l2i => am_l1 no (fun x r => nx n ls (.int x.toInt32 :: r) h) st
  | .i2c => am_i1 no (fun x r => nx n ls (.int (x.toUInt32 % 65536).toInt32 :: r) h) st
  | .dup => am_v1 no (fun v r => nx n ls (v :: v :: r) h) st
  | .dup2 => am_v2 no (fun v w r => nx n ls (v :: w :: v :: w :: r) h) st
  | .ifCond c _ => match ts with
    | [t] => am_i1 no (fun x r => match c with
      | .eq => if x = 0 then nx t ls r h else nx n ls r h
      | .ne => if x = 0 then nx n ls r h else nx t ls r h
      | .lt => if x < 0 then nx t ls r h else nx n ls r h
      | .ge => if x < 0 then nx n ls r h else nx t ls r h
      | .gt => if 0 < x then nx t ls r h else nx n ls r h
      | .le => if 0 < x then nx n ls r h else nx t ls r h) st
    | _ => no
  | .if_icmp c _ => match ts with
    | [t] => am_i2 no (fun x y r => match c with
      | .eq => if x = y then nx t ls r h else nx n ls r h
      | .ne => if x = y then nx n ls r h else nx t ls r h
      | .lt => if x < y then nx t ls r h else nx n ls r h
      | .ge => if x < y then nx n ls r h else nx t ls r h
      | .gt => if y < x then nx t ls r h else nx n ls r h
      | .le => if y < x then nx n ls r h else nx t ls r h) st
    | _ => no
  | .ifnonnull _ => match ts with
    | [t] => am_o1 no (fun o r => am_oe o (nx n ls r h) (fun _ => nx t ls r h)) st
    | _ => no
  | .goto _ => match ts with
    | [t] => nx t ls st h
    | _ => no
  | .tableswitch .. => match ts with
    | k :: d :: r0 => am_i1 no (fun x r => am_sw (fun p => nx p ls r h) x d k r0) st
    | _ => no
  | .getfield _ => match ts with
    | [ci, k, 1] => am_r1 no (fun a r => if am_kd h a = ci then am_oe (am_R h a k) (nx n ls (.null :: r) h) (fun b => nx n ls (.ref b :: r) h) else no) st
    | [ci, k, _] => am_r1 no (fun a r => if am_kd h a = ci then nx n ls (.int (am_I h a k) :: r) h else no) st
    | _ => no
  | .putfield _ => match ts with
    | [ci, k, 1] => am_rr no (fun a o r => if am_kd h a = ci then nx n ls r (am_sR h a k o) else no) st
    | [ci, k, 2] => am_ri no (fun a x r => if am_kd h a = ci then (if x = 0 ∨ x = 1 then nx n ls r (am_sI h a k x) else no) else no) st
    | [ci, k, 0] => am_ri no (fun a x r => if am_kd h a = ci then nx n ls r (am_sI h a k x) else no) st
    | _ => no
  | .new _ => match ts with
    | [ci, nf] => nx n ls (.ref h.1.length :: st) (am_nw h ci nf)
    | _ => no
  | .newarray _ => match ts with
    | [k] => am_i1 no (fun x r => if x < 0 ∨ 1000 < x.toNatClampNeg then no else nx n ls (.ref h.1.length :: r) (am_nw h k x.toNatClampNeg)) st
    | _ => no
  | .anewarray _ => am_i1 no (fun x r => if x < 0 ∨ 1000 < x.toNatClampNeg then no else nx n ls (.ref h.1.length :: r) (am_nw h 8 x.toNatClampNeg)) st
  | .arraylength => am_r1 no (fun a r => if 5 ≤ am_kd h a ∧ am_kd h a ≤ 9 then nx n ls (.int (Int32.ofNat (am_ln h a)) :: r) h else no) st
  | .iaload => am_ai no (fun a x r => if (am_kd h a = 5 ∨ am_kd h a = 9) ∧ ¬ (x < 0 ∨ am_ln h a ≤ x.toNatClampNeg) then nx n ls (.int (am_I h a x.toNatClampNeg) :: r) h else no) st
  | .laload => am_ai no (fun a x r => if am_kd h a = 6 ∧ ¬ (x < 0 ∨ am_ln h a ≤ x.toNatClampNeg) then nx n ls (.long (am_J h a x.toNatClampNeg) :: r) h else no) st
  | .caload => am_ai no (fun a x r => if am_kd h a = 7 ∧ ¬ (x < 0 ∨ am_ln h a ≤ x.toNatClampNeg) then nx n ls (.int (am_I h a x.toNatClampNeg) :: r) h else no) st
  | .aaload => am_ai no (fun a x r => if am_kd h a = 8 ∧ ¬ (x < 0 ∨ am_ln h a ≤ x.toNatClampNeg) then am_oe (am_R h a x.toNatClampNeg) (nx n ls (.null :: r) h) (fun b => nx n ls (.ref b :: r) h) else no) st
  | .iastore => am_aii no (fun a x v r => if am_kd h a = 5 ∧ ¬ (x < 0 ∨ am_ln h a ≤ x.toNatClampNeg) then nx n ls r (am_sI h a x.toNatClampNeg v) else no) st
  | .lastore => am_ail no (fun a x v r => if am_kd h a = 6 ∧ ¬ (x < 0 ∨ am_ln h a ≤ x.toNatClampNeg) then nx n ls r (am_sJ h a x.toNatClampNeg v) else no) st
  | .castore => am_aii no (fun a x v r => if am_kd h a = 7 ∧ ¬ (x < 0 ∨ am_ln h a ≤ x.toNatClampNeg) then nx n ls r (am_sI h a x.toNatClampNeg v.toUInt32.toUInt16.toUInt32.toInt32) else no) st
  | .aastore => am_air no (fun a x o r => if am_kd h a = 8 ∧ ¬ (x < 0 ∨ am_ln h a ≤ x.toNatClampNeg) then am_oe o (nx n ls r (am_sR h a x.toNatClampNeg none)) (fun b => if am_kd h b = 2 then nx n ls r (am_sR h a x.toNatClampNeg (some b)) else no) else no) st
  | .invokevirtual _ => am_inv nx cl no n ts ls st h
  | .invokespecial _ => am_inv nx cl no n ts ls st h
  | .invokestatic _ => am_inv nx cl no n ts ls st h
  | .ireturn => match st with
    | [.int x] => match rk with
      | 1 => rt (some (.int x)) h
      | 2 => if x = 0 ∨ x = 1 then rt (some (.int x)) h else no
      | _ => no
    | _ => no
  | .lreturn => match st with
    | [.long x] => match rk with
      | 3 => rt (some (.long x)) h
      | _ => no
    | _ => no
  | .areturn => match st with
    | [.ref a] => match rk with
      | 4 => rt (some (.ref a)) h
      | _ => no
    | _ => no
  | .return_ => match st with
    | [] => match rk with
      | 0 => rt none h
      | _ => no
    | _ => no
  | _ => no
def am_pad : List Value → List Value
  | [] => []
  | .long x :: r => .long x :: am_ph :: am_pad r
  | v :: r => v :: am_pad r
def am_entry (nL : Nat) (as : List Value) : List Value := am_pad as ++ List.replicate (nL - (am_pad as).length) am_ph
def am_clr : List Nat → List Value → List Value
  | [], ls => ls
  | k :: r, ls => am_clr r (ls.set k am_ph)
def am_fg : List (Nat × List Nat) → Nat → List Value → List Value
  | [], _, ls => ls
  | q :: r, pc, ls => bif Nat.beq q.1 pc then am_clr q.2 ls else am_fg r pc ls
def am_bV (x : AR) (f : AH → AR) : AR := match x with
  | some (none, h) => f h
  | _ => none
def am_bI (x : AR) (f : Int32 → AH → AR) : AR := match x with
  | some (some (.int v), h) => f v h
  | _ => none
def am_bJ (x : AR) (f : Int64 → AH → AR) : AR := match x with
  | some (some (.long v), h) => f v h
  | _ => none
def am_bA (x : AR) (f : Nat → AH → AR) : AR := match x with
  | some (some (.ref v), h) => f v h
  | _ => none
/-- what a callee came to, and what comes of it -/
def am_bd (rk : Nat) (x : AR) (f : List Value → AH → AR) : AR := match rk with
  | 0 => am_bV x (fun h => f [] h)
  | 1 => am_bI x (fun v h => f [.int v] h)
  | 2 => am_bI x (fun v h => f [.int v] h)
  | 3 => am_bJ x (fun v h => f [.long v] h)
  | 4 => am_bA x (fun v h => f [.ref v] h)
  | _ => none
def am_runP (M : Nat → AMe) : Nat → Nat → Nat → List Value → List Value → AH → AR
  | 0, _, _, _, _, _ => none
  | n + 1, mi, pc, ls, st, h => match am_fetch (M mi).1 pc with
    | none => none
    | some q => am_exe (fun pc ls st h => am_runP M n mi pc (am_fg (M mi).2.2.2 pc ls) st h)
        (fun mi' rk nL as pc ls st h => am_bd rk (am_runP M n mi' 0 (am_entry nL as) [] h) fun vs h => am_runP M n mi pc (am_fg (M mi).2.2.2 pc ls) (vs ++ st) h)
        (fun v h => some (v, h)) none (M mi).2.2.1 q.2.1 q.2.2.1 q.2.2.2.1 q.2.2.2.2.1 q.2.2.2.2.2 ls st h
end
section
theorem am_i1_nat.{u, v} {α : Sort u} {β : Sort v} (f : α → β) (no : α) (g : Int32 → List Value → α) (st : List Value) : f (am_i1 no g st) = am_i1 (f no) (fun x r => f (g x r)) st := by
  unfold am_i1
  split <;> first | rfl | (split <;> rfl)
theorem am_i2_nat.{u, v} {α : Sort u} {β : Sort v} (f : α → β) (no : α) (g : Int32 → Int32 → List Value → α) (st : List Value) : f (am_i2 no g st) = am_i2 (f no) (fun x y r => f (g x y r)) st := by
  unfold am_i2
  split <;> first | rfl | (split <;> rfl)
theorem am_l1_nat.{u, v} {α : Sort u} {β : Sort v} (f : α → β) (no : α) (g : Int64 → List Value → α) (st : List Value) : f (am_l1 no g st) = am_l1 (f no) (fun x r => f (g x r)) st := by
  unfold am_l1
  split <;> first | rfl | (split <;> rfl)
theorem am_l2_nat.{u, v} {α : Sort u} {β : Sort v} (f : α → β) (no : α) (g : Int64 → Int64 → List Value → α) (st : List Value) : f (am_l2 no g st) = am_l2 (f no) (fun x y r => f (g x y r)) st := by
  unfold am_l2
  split <;> first | rfl | (split <;> rfl)
theorem am_li_nat.{u, v} {α : Sort u} {β : Sort v} (f : α → β) (no : α) (g : Int64 → Int32 → List Value → α) (st : List Value) : f (am_li no g st) = am_li (f no) (fun x y r => f (g x y r)) st := by
  unfold am_li
  split <;> first | rfl | (split <;> rfl)
theorem am_r1_nat.{u, v} {α : Sort u} {β : Sort v} (f : α → β) (no : α) (g : Nat → List Value → α) (st : List Value) : f (am_r1 no g st) = am_r1 (f no) (fun x r => f (g x r)) st := by
  unfold am_r1
  split <;> first | rfl | (split <;> rfl)
theorem am_o1_nat.{u, v} {α : Sort u} {β : Sort v} (f : α → β) (no : α) (g : Option Nat → List Value → α) (st : List Value) : f (am_o1 no g st) = am_o1 (f no) (fun x r => f (g x r)) st := by
  unfold am_o1
  split <;> first | rfl | (split <;> rfl)
theorem am_ai_nat.{u, v} {α : Sort u} {β : Sort v} (f : α → β) (no : α) (g : Nat → Int32 → List Value → α) (st : List Value) : f (am_ai no g st) = am_ai (f no) (fun a x r => f (g a x r)) st := by
  unfold am_ai
  split <;> first | rfl | (split <;> rfl)
theorem am_aii_nat.{u, v} {α : Sort u} {β : Sort v} (f : α → β) (no : α) (g : Nat → Int32 → Int32 → List Value → α) (st : List Value) : f (am_aii no g st) = am_aii (f no) (fun a x y r => f (g a x y r)) st := by
  unfold am_aii
  split <;> first | rfl | (split <;> rfl)
theorem am_ail_nat.{u, v} {α : Sort u} {β : Sort v} (f : α → β) (no : α) (g : Nat → Int32 → Int64 → List Value → α) (st : List Value) : f (am_ail no g st) = am_ail (f no) (fun a x y r => f (g a x y r)) st := by
  unfold am_ail
  split <;> first | rfl | (split <;> rfl)
theorem am_air_nat.{u, v} {α : Sort u} {β : Sort v} (f : α → β) (no : α) (g : Nat → Int32 → Option Nat → List Value → α) (st : List Value) : f (am_air no g st) = am_air (f no) (fun a x y r => f (g a x y r)) st := by
  unfold am_air
  split <;> first | rfl | (split <;> rfl)
theorem am_ri_nat.{u, v} {α : Sort u} {β : Sort v} (f : α → β) (no : α) (g : Nat → Int32 → List Value → α) (st : List Value) : f (am_ri no g st) = am_ri (f no) (fun a x r => f (g a x r)) st := by
  unfold am_ri
  split <;> first | rfl | (split <;> rfl)
theorem am_rr_nat.{u, v} {α : Sort u} {β : Sort v} (f : α → β) (no : α) (g : Nat → Option Nat → List Value → α) (st : List Value) : f (am_rr no g st) = am_rr (f no) (fun a x r => f (g a x r)) st := by
  unfold am_rr
  split <;> first | rfl | (split <;> rfl)
theorem am_v1_nat.{u, v} {α : Sort u} {β : Sort v} (f : α → β) (no : α) (g : Value → List Value → α) (st : List Value) : f (am_v1 no g st) = am_v1 (f no) (fun v r => f (g v r)) st := by
  unfold am_v1
  split <;> first | rfl | (split <;> rfl)
theorem am_v2_nat.{u, v} {α : Sort u} {β : Sort v} (f : α → β) (no : α) (g : Value → Value → List Value → α) (st : List Value) : f (am_v2 no g st) = am_v2 (f no) (fun v w r => f (g v w r)) st := by
  unfold am_v2
  split <;> first | rfl | (split <;> rfl)
theorem am_ldI_nat.{u, v} {α : Sort u} {β : Sort v} (f : α → β) (no : α) (g : Int32 → α) (o : Option Value) : f (am_ldI no g o) = am_ldI (f no) (fun x => f (g x)) o := by
  unfold am_ldI
  split <;> rfl
theorem am_ldJ_nat.{u, v} {α : Sort u} {β : Sort v} (f : α → β) (no : α) (g : Int64 → α) (o : Option Value) : f (am_ldJ no g o) = am_ldJ (f no) (fun x => f (g x)) o := by
  unfold am_ldJ
  split <;> rfl
theorem am_ldA_nat.{u, v} {α : Sort u} {β : Sort v} (f : α → β) (no : α) (g : Option Nat → α) (o : Option Value) : f (am_ldA no g o) = am_ldA (f no) (fun x => f (g x)) o := by
  unfold am_ldA
  split <;> rfl
theorem am_oe_nat.{u, v} {α : Sort u} {β : Sort v} (f : α → β) (o : Option Nat) (x : α) (g : Nat → α) : f (am_oe o x g) = am_oe o (f x) (fun b => f (g b)) := by
  unfold am_oe
  split <;> rfl
theorem am_sw_nat.{u, v} {α : Sort u} {β : Sort v} (f : α → β) (g : Nat → α) (x : Int32) (d : Nat) : ∀ (l : List Nat) (k : Nat), f (am_sw g x d k l) = am_sw (fun p => f (g p)) x d k l
  | [], k => rfl
  | t :: r, k => by
    unfold am_sw
    split
    · rfl
    · exact am_sw_nat f g x d r (k + 1)
theorem am_ite_nat.{u, v} {α : Sort u} {β : Sort v} (f : α → β) (c : Prop) [Decidable c] (a b : α) : f (if c then a else b) = if c then f a else f b := by split <;> rfl
theorem am_inv_nat.{u, v} {α : Sort u} {β : Sort v} (f : α → β) (nx : Nat → List Value → List Value → AH → α) (cl : Nat → Nat → Nat → List Value → Nat → List Value → List Value → AH → α) (no : α) (n : Nat) (ts : List Nat) (ls st : List Value) (h : AH) : f (am_inv nx cl no n ts ls st h) = am_inv (fun a b c d => f (nx a b c d)) (fun a b c d e g i j => f (cl a b c d e g i j)) (f no) n ts ls st h := by
  unfold am_inv
  split
  · split <;> simp only [am_ite_nat f]
  · split <;> simp only [am_ite_nat f]
  · split <;> simp only [am_ite_nat f]
  · split <;> simp only [am_ite_nat f]
  · rfl
set_option maxHeartbeats 4000000 in
theorem am_exe_nat.{u, v} {α : Sort u} {β : Sort v} (f : α → β) (nx : Nat → List Value → List Value → AH → α) (cl : Nat → Nat → Nat → List Value → Nat → List Value → List Value → AH → α) (rt : Option Value → AH → α) (no : α) (rk : Nat) (i : Instr) (n : Nat) (ts : List Nat) (cv : Int32) (cj : Int64) (ls st : List Value) (h : AH) : f (am_exe nx cl rt no rk i n ts cv cj ls st h) = am_exe (fun a b c d => f (nx a b c d)) (fun a b c d e g i j => f (cl a b c d e g i j)) (fun v h => f (rt v h)) (f no) rk i n ts cv cj ls st h := by
  cases i <;> dsimp only [am_exe] <;> first
    | rfl
    | exact am_inv_nat f nx cl no n ts ls st h
    | (simp only [am_i1_nat f, am_i2_nat f, am_l1_nat f, am_l2_nat f, am_li_nat f, am_r1_nat f, am_o1_nat f, am_ai_nat f, am_aii_nat f, am_ail_nat f, am_air_nat f, am_ri_nat f, am_rr_nat f, am_v1_nat f, am_v2_nat f, am_ldI_nat f, am_ldJ_nat f, am_ldA_nat f, am_oe_nat f, am_sw_nat f, am_ite_nat f]; done)
    | (split <;> first | rfl | (split <;> first | rfl | (split <;> rfl)) | (simp only [am_i1_nat f, am_i2_nat f, am_l1_nat f, am_l2_nat f, am_li_nat f, am_r1_nat f, am_o1_nat f, am_ai_nat f, am_aii_nat f, am_ail_nat f, am_air_nat f, am_ri_nat f, am_rr_nat f, am_v1_nat f, am_v2_nat f, am_ldI_nat f, am_ldJ_nat f, am_ldA_nat f, am_oe_nat f, am_sw_nat f, am_ite_nat f]; done))
    | (rename_i c _; cases c <;> (split <;> first | rfl | (simp only [am_i1_nat f, am_i2_nat f, am_l1_nat f, am_l2_nat f, am_li_nat f, am_r1_nat f, am_o1_nat f, am_ai_nat f, am_aii_nat f, am_ail_nat f, am_air_nat f, am_ri_nat f, am_rr_nat f, am_v1_nat f, am_v2_nat f, am_ldI_nat f, am_ldJ_nat f, am_ldA_nat f, am_oe_nat f, am_sw_nat f, am_ite_nat f]; done)))
    | skip
end
section
/-! the run's own laws: it grows with its steps, its limit, the equation of the limit -/
def am_le (a b : AR) : Prop := ∀ r, a = some r → b = some r
theorem am_exe_mono {nx nx' : Nat → List Value → List Value → AH → AR} {cl cl' : Nat → Nat → Nat → List Value → Nat → List Value → List Value → AH → AR} {rt : Option Value → AH → AR} (hn : ∀ a b c d, am_le (nx a b c d) (nx' a b c d)) (hc : ∀ a b c d e g i j, am_le (cl a b c d e g i j) (cl' a b c d e g i j)) (rk : Nat) (i : Instr) (n : Nat) (ts : List Nat) (cv : Int32) (cj : Int64) (ls st : List Value) (h : AH) : am_le (am_exe nx cl rt none rk i n ts cv cj ls st h) (am_exe nx' cl' rt none rk i n ts cv cj ls st h) := by
  have e := am_exe_nat (fun p : AR × AR => p.1) (fun a b c d => (nx a b c d, nx' a b c d)) (fun a b c d e g i j => (cl a b c d e g i j, cl' a b c d e g i j)) (fun v h => (rt v h, rt v h)) (none, none) rk i n ts cv cj ls st h
  have e' := am_exe_nat (fun p : AR × AR => p.2) (fun a b c d => (nx a b c d, nx' a b c d)) (fun a b c d e g i j => (cl a b c d e g i j, cl' a b c d e g i j)) (fun v h => (rt v h, rt v h)) (none, none) rk i n ts cv cj ls st h
  dsimp only at e e'
  rw [← e, ← e']
  have key : ∀ (p : AR × AR), (∃ q : {p : AR × AR // am_le p.1 p.2}, q.1 = p) → am_le p.1 p.2 := fun p ⟨q, h⟩ => h ▸ q.2
  refine key _ ⟨am_exe (fun a b c d => ⟨(nx a b c d, nx' a b c d), hn a b c d⟩) (fun a b c d e g i j => ⟨(cl a b c d e g i j, cl' a b c d e g i j), hc a b c d e g i j⟩) (fun v h => ⟨(rt v h, rt v h), fun _ x => x⟩) ⟨(none, none), fun _ x => x⟩ rk i n ts cv cj ls st h, ?_⟩
  exact am_exe_nat (fun q : {p : AR × AR // am_le p.1 p.2} => q.1) _ _ _ _ rk i n ts cv cj ls st h
theorem am_bd_some {rk : Nat} {a : AR} {f : List Value → AH → AR} {r : Option Value × AH} (e : am_bd rk a f = some r) : ∃ x, a = some x ∧ f x.1.toList x.2 = some r ∧ ∀ f', am_bd rk (some x) f' = f' x.1.toList x.2 := by
  unfold am_bd at e
  split at e
  · unfold am_bV at e
    split at e
    · exact ⟨_, rfl, e, fun _ => rfl⟩
    · cases e
  · unfold am_bI at e
    split at e
    · exact ⟨_, rfl, e, fun _ => rfl⟩
    · cases e
  · unfold am_bI at e
    split at e
    · exact ⟨_, rfl, e, fun _ => rfl⟩
    · cases e
  · unfold am_bJ at e
    split at e
    · exact ⟨_, rfl, e, fun _ => rfl⟩
    · cases e
  · unfold am_bA at e
    split at e
    · exact ⟨_, rfl, e, fun _ => rfl⟩
    · cases e
  · cases e
theorem am_bind_mono {rk : Nat} {a a' : AR} {f f' : List Value → AH → AR} (h : am_le a a') (hf : ∀ x y, am_le (f x y) (f' x y)) : am_le (am_bd rk a f) (am_bd rk a' f') := by
  intro r hr
  obtain ⟨x, ha, e, k⟩ := am_bd_some hr
  rw [h x ha, k]
  exact hf _ _ r e
section run
variable {M : Nat → AMe}
theorem am_run_succ : ∀ (n mi pc : Nat) (ls st : List Value) (h : AH), am_le (am_runP M n mi pc ls st h) (am_runP M (n + 1) mi pc ls st h)
  | 0, mi, pc, ls, st, h => fun r hr => by cases hr
  | n + 1, mi, pc, ls, st, h => by
    unfold am_runP
    split
    · exact fun r hr => by cases hr
    · exact am_exe_mono (fun a b c d => am_run_succ n _ _ _ _ _) (fun a b c d e g i j => am_bind_mono (am_run_succ n _ _ _ _ _) (fun x y => am_run_succ n _ _ _ _ _)) _ _ _ _ _ _ _ _ _
theorem am_run_le {n k : Nat} (hk : n ≤ k) (mi pc : Nat) (ls st : List Value) (h : AH) : am_le (am_runP M n mi pc ls st h) (am_runP M k mi pc ls st h) := by
  obtain ⟨d, rfl⟩ := Nat.exists_eq_add_of_le hk
  induction d with
  | zero => exact fun r hr => hr
  | succ d ih => exact fun r hr => am_run_succ _ _ _ _ _ _ r (ih (Nat.le_add_right _ _) r hr)
/-- what the run comes to, with any number of steps -/
noncomputable def am_evP (M : Nat → AMe) (mi pc : Nat) (ls st : List Value) (h : AH) : AR := by
  classical
  exact if hx : ∃ n r, am_runP M n mi pc ls st h = some r then some (Classical.choose (Classical.choose_spec hx)) else none
theorem am_ev_iff {mi pc : Nat} {ls st : List Value} {h : AH} {r : Option Value × AH} : am_evP M mi pc ls st h = some r ↔ ∃ n, am_runP M n mi pc ls st h = some r := by
  unfold am_evP
  by_cases hx : ∃ n r, am_runP M n mi pc ls st h = some r
  · rw [dif_pos hx]
    have h1 := Classical.choose_spec (Classical.choose_spec hx)
    constructor
    · intro e
      cases e
      exact ⟨_, h1⟩
    · rintro ⟨n, hn⟩
      have a := am_run_le (Nat.le_max_left n (Classical.choose hx)) mi pc ls st h r hn
      have b := am_run_le (Nat.le_max_right n (Classical.choose hx)) mi pc ls st h _ h1
      rw [a] at b
      exact b.symm
  · rw [dif_neg hx]
    constructor
    · intro e; cases e
    · rintro ⟨n, hn⟩; exact absurd ⟨n, r, hn⟩ hx
theorem am_run_ev (n mi pc : Nat) (ls st : List Value) (h : AH) : am_le (am_runP M n mi pc ls st h) (am_evP M mi pc ls st h) := fun r hr => am_ev_iff.mpr ⟨n, hr⟩
/-- one step, and what it comes to then -/
noncomputable def am_nextP (M : Nat → AMe) (mi : Nat) (q : AE) (ls st : List Value) (h : AH) : AR :=
  am_exe (fun pc ls st h => am_evP M mi pc (am_fg (M mi).2.2.2 pc ls) st h)
    (fun mi' rk nL as pc ls st h => am_bd rk (am_evP M mi' 0 (am_entry nL as) [] h) fun vs h => am_evP M mi pc (am_fg (M mi).2.2.2 pc ls) (vs ++ st) h)
    (fun v h => some (v, h)) none (M mi).2.2.1 q.2.1 q.2.2.1 q.2.2.2.1 q.2.2.2.2.1 q.2.2.2.2.2 ls st h
theorem am_next_run {mi : Nat} {q : AE} {ls st : List Value} {h : AH} {r : Option Value × AH} (e : am_nextP M mi q ls st h = some r) : ∃ n, am_exe (fun pc ls st h => am_runP M n mi pc (am_fg (M mi).2.2.2 pc ls) st h)
    (fun mi' rk nL as pc ls st h => am_bd rk (am_runP M n mi' 0 (am_entry nL as) [] h) fun vs h => am_runP M n mi pc (am_fg (M mi).2.2.2 pc ls) (vs ++ st) h)
    (fun v h => some (v, h)) none (M mi).2.2.1 q.2.1 q.2.2.1 q.2.2.2.1 q.2.2.2.2.1 q.2.2.2.2.2 ls st h = some r := by
  -- pairs of a limit and the sequence that comes to it
  have key : ∀ (p : AR × (Nat → AR)), (∃ q : {p : AR × (Nat → AR) // ∀ r, p.1 = some r → ∃ n, p.2 n = some r}, q.1 = p) → p.1 = some r → ∃ n, p.2 n = some r := fun p ⟨q, h⟩ => h ▸ q.2 r
  have e1 := am_exe_nat (fun p : AR × (Nat → AR) => p.1) (fun pc ls st h => (am_evP M mi pc (am_fg (M mi).2.2.2 pc ls) st h, fun n => am_runP M n mi pc (am_fg (M mi).2.2.2 pc ls) st h))
    (fun mi' rk nL as pc ls st h => (am_bd rk (am_evP M mi' 0 (am_entry nL as) [] h) fun vs h => am_evP M mi pc (am_fg (M mi).2.2.2 pc ls) (vs ++ st) h, fun n => am_bd rk (am_runP M n mi' 0 (am_entry nL as) [] h) fun vs h => am_runP M n mi pc (am_fg (M mi).2.2.2 pc ls) (vs ++ st) h))
    (fun v h => (some (v, h), fun _ => some (v, h))) (none, fun _ => none) (M mi).2.2.1 q.2.1 q.2.2.1 q.2.2.2.1 q.2.2.2.2.1 q.2.2.2.2.2 ls st h
  have e2 : ∀ n, _ := fun n => am_exe_nat (fun p : AR × (Nat → AR) => p.2 n) (fun pc ls st h => (am_evP M mi pc (am_fg (M mi).2.2.2 pc ls) st h, fun n => am_runP M n mi pc (am_fg (M mi).2.2.2 pc ls) st h))
    (fun mi' rk nL as pc ls st h => (am_bd rk (am_evP M mi' 0 (am_entry nL as) [] h) fun vs h => am_evP M mi pc (am_fg (M mi).2.2.2 pc ls) (vs ++ st) h, fun n => am_bd rk (am_runP M n mi' 0 (am_entry nL as) [] h) fun vs h => am_runP M n mi pc (am_fg (M mi).2.2.2 pc ls) (vs ++ st) h))
    (fun v h => (some (v, h), fun _ => some (v, h))) (none, fun _ => none) (M mi).2.2.1 q.2.1 q.2.2.1 q.2.2.2.1 q.2.2.2.2.1 q.2.2.2.2.2 ls st h
  dsimp only at e1 e2
  unfold am_nextP at e
  rw [← e1] at e
  obtain ⟨n, hn⟩ := key _ ⟨am_exe (fun pc ls st h => ⟨(am_evP M mi pc (am_fg (M mi).2.2.2 pc ls) st h, fun n => am_runP M n mi pc (am_fg (M mi).2.2.2 pc ls) st h), fun r hr => am_ev_iff.mp hr⟩)
    (fun mi' rk nL as pc ls st h => ⟨(am_bd rk (am_evP M mi' 0 (am_entry nL as) [] h) fun vs h => am_evP M mi pc (am_fg (M mi).2.2.2 pc ls) (vs ++ st) h, fun n => am_bd rk (am_runP M n mi' 0 (am_entry nL as) [] h) fun vs h => am_runP M n mi pc (am_fg (M mi).2.2.2 pc ls) (vs ++ st) h), fun r hr => by
      dsimp only at hr ⊢
      obtain ⟨x, ha, e, k⟩ := am_bd_some hr
      obtain ⟨n1, h1⟩ := am_ev_iff.mp ha
      obtain ⟨n2, h2⟩ := am_ev_iff.mp e
      refine ⟨max n1 n2, ?_⟩
      rw [am_run_le (Nat.le_max_left n1 n2) _ _ _ _ _ _ h1, k]
      exact am_run_le (Nat.le_max_right n1 n2) _ _ _ _ _ _ h2⟩)
    (fun v h => ⟨(some (v, h), fun _ => some (v, h)), fun r hr => ⟨0, hr⟩⟩) ⟨(none, fun _ => none), fun r hr => by cases hr⟩ (M mi).2.2.1 q.2.1 q.2.2.1 q.2.2.2.1 q.2.2.2.2.1 q.2.2.2.2.2 ls st h, am_exe_nat (fun q : {p : AR × (Nat → AR) // ∀ r, p.1 = some r → ∃ n, p.2 n = some r} => q.1) _ _ _ _ _ _ _ _ _ _ _ _ _⟩ e
  exact ⟨n, (e2 n) ▸ hn⟩
/-- THE EQUATION: what a frame comes to is one step of it, and what that comes to -/
theorem am_ev_eq (mi pc : Nat) (ls st : List Value) (h : AH) : am_evP M mi pc ls st h = match am_fetch (M mi).1 pc with
    | none => none
    | some q => am_nextP M mi q ls st h := by
  have hsome : ∀ r, am_evP M mi pc ls st h = some r ↔ (match am_fetch (M mi).1 pc with
    | none => none
    | some q => am_nextP M mi q ls st h) = some r := by
    intro r
    constructor
    · intro e
      obtain ⟨n, hn⟩ := am_ev_iff.mp e
      cases n with
      | zero => cases hn
      | succ n =>
        unfold am_runP at hn
        split at hn
        · cases hn
        · rename_i q hq
          rw [hq]
          exact am_exe_mono (fun a b c d => am_run_ev n _ _ _ _ _) (fun a b c d e g i j => am_bind_mono (am_run_ev n _ _ _ _ _) (fun x y => am_run_ev n _ _ _ _ _)) _ _ _ _ _ _ _ _ _ r hn
    · intro e
      split at e
      · cases e
      · rename_i q hq
        obtain ⟨n, hn⟩ := am_next_run e
        refine am_ev_iff.mpr ⟨n + 1, ?_⟩
        unfold am_runP
        rw [hq]
        exact hn
  cases h1 : am_evP M mi pc ls st h with
  | none =>
    cases h2 : (match am_fetch (M mi).1 pc with
    | none => none
    | some q => am_nextP M mi q ls st h) with
    | none => rfl
    | some r => exact absurd ((hsome r).mpr h2) (by rw [h1]; exact fun z => by cases z)
  | some r => exact ((hsome r).mp h1).symm
/-- what a frame comes to, its next k steps laid open, up to the places in sp -/
noncomputable def am_ctP (M : Nat → AMe) (mi : Nat) (cd : List AE) (rk : Nat) (fg : List (Nat × List Nat)) (sp : List Nat) : Nat → Nat → List Value → List Value → AH → AR
  | 0, pc, ls, st, h => am_evP M mi pc ls st h
  | k + 1, pc, ls, st, h => match am_fetch cd pc with
    | none => none
    | some q => am_exe (fun pc ls st h => bif sp.any (fun z => Nat.beq z pc) then am_evP M mi pc (am_fg fg pc ls) st h else am_ctP M mi cd rk fg sp k pc (am_fg fg pc ls) st h)
      (fun mi' rk' nL as pc ls st h => am_bd rk' (am_evP M mi' 0 (am_entry nL as) [] h) fun vs h => bif sp.any (fun z => Nat.beq z pc) then am_evP M mi pc (am_fg fg pc ls) (vs ++ st) h else am_ctP M mi cd rk fg sp k pc (am_fg fg pc ls) (vs ++ st) h)
      (fun v h => some (v, h)) none rk q.2.1 q.2.2.1 q.2.2.2.1 q.2.2.2.2.1 q.2.2.2.2.2 ls st h
theorem am_ct_eq {mi : Nat} {cd : List AE} {nL rk : Nat} {fg : List (Nat × List Nat)} (hM : M mi = (cd, nL, rk, fg)) (sp : List Nat) : ∀ (k pc : Nat) (ls st : List Value) (h : AH), am_evP M mi pc ls st h = am_ctP M mi cd rk fg sp k pc ls st h
  | 0, pc, ls, st, h => rfl
  | k + 1, pc, ls, st, h => by
    rw [am_ev_eq, hM]
    unfold am_ctP am_nextP
    simp only [hM]
    have e : ∀ (pc : Nat) (ls st : List Value) (h : AH), (bif sp.any (fun z => Nat.beq z pc) then am_evP M mi pc ls st h else am_ctP M mi cd rk fg sp k pc ls st h) = am_evP M mi pc ls st h := by
      intro pc ls st h
      rw [← am_ct_eq hM sp k pc ls st h]
      cases sp.any (fun z => Nat.beq z pc) <;> rfl
    have e2 : ∀ (rk' : Nat) (x : AR) (pc : Nat) (ls st : List Value), (am_bd rk' x fun vs h => bif sp.any (fun z => Nat.beq z pc) then am_evP M mi pc (am_fg fg pc ls) (vs ++ st) h else am_ctP M mi cd rk fg sp k pc (am_fg fg pc ls) (vs ++ st) h) = am_bd rk' x fun vs h => am_evP M mi pc (am_fg fg pc ls) (vs ++ st) h := by
      intro rk' x pc ls st
      exact congrArg (am_bd rk' x) (funext fun vs => funext fun h => e pc _ _ h)
    have en : (fun (pc : Nat) (ls st : List Value) (h : AH) => bif sp.any (fun z => Nat.beq z pc) then am_evP M mi pc (am_fg fg pc ls) st h else am_ctP M mi cd rk fg sp k pc (am_fg fg pc ls) st h) = fun pc ls st h => am_evP M mi pc (am_fg fg pc ls) st h := by
      funext pc ls st h
      exact e pc _ st h
    have ec : (fun (mi' rk' nL : Nat) (as : List Value) (pc : Nat) (ls st : List Value) (h : AH) => am_bd rk' (am_evP M mi' 0 (am_entry nL as) [] h) fun vs h => bif sp.any (fun z => Nat.beq z pc) then am_evP M mi pc (am_fg fg pc ls) (vs ++ st) h else am_ctP M mi cd rk fg sp k pc (am_fg fg pc ls) (vs ++ st) h) = fun mi' rk' nL as pc ls st h => am_bd rk' (am_evP M mi' 0 (am_entry nL as) [] h) fun vs h => am_evP M mi pc (am_fg fg pc ls) (vs ++ st) h := by
      funext mi' rk' nL as pc ls st h
      exact e2 rk' _ pc ls st
    rw [en, ec]
end run
end
