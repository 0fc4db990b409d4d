/-! ===== the small machine's tables against the claim's own: the bytes, the words ===== -/
/-- of a method: its name, bytes, locals, what it returns, the frames and words of locals below it, whether it is static, its parameters -/
abbrev SP : Type := MethodName × ByteArray × Nat × Option FieldType × Nat × Nat × Bool × Nat
def sm_fts : List (List Nat) := [[0, 0, 1, 1, 1, 1, 1, 1, 1, 0, 1], [0, 0, 1, 1, 0, 0, 0, 0, 2], [0, 0, 1, 1, 1], [1, 1, 1, 1, 1, 0], [1, 1, 0, 1, 1, 0, 0, 0, 1, 1, 0, 2, 1, 1, 1, 1, 1, 0, 1, 1, 0]]
def sm_ft (c k : Nat) : Nat := (sm_fts.getD c []).getD k 0
def sm_cn (c : Nat) : String := match c with
  | 0 => RX0
  | 1 => RX1
  | 2 => RX2
  | 3 => RX3
  | _ => RX4
def sm_len : Instr → Nat
  | .bipush _ => 2
  | .ldc _ => 2
  | .iload _ => 2
  | .lload _ => 2
  | .aload _ => 2
  | .istore _ => 2
  | .lstore _ => 2
  | .astore _ => 2
  | .newarray _ => 2
  | .sipush _ => 3
  | .ldc2_w _ => 3
  | .iinc _ _ => 3
  | .ifCond _ _ => 3
  | .if_icmp _ _ => 3
  | .ifnonnull _ => 3
  | .goto _ => 3
  | .getfield _ => 3
  | .putfield _ => 3
  | .new _ => 3
  | .anewarray _ => 3
  | .invokevirtual _ => 3
  | .invokespecial _ => 3
  | .invokestatic _ => 3
  | .tableswitch .. => 0
  | _ => 1
def sm_Ps0 : List SP := [(yX0_init, cX0_init, 1, none, 1, 20, false, 0), (yX0_workedOut, cX0_workedOut, 3, (some (.object "ObedientDice$Extremes")), 5, 129, false, 1), (yX0_has, cX0_has, 2, (some .boolean), 0, 0, false, 1), (yX0_weight, cX0_weight, 4, (some .long), 0, 0, false, 2), (yX0_weightSum, cX0_weightSum, 2, (some .long), 0, 0, false, 1), (yX0_toldCells, cX0_toldCells, 4, (some .int), 1, 23, false, 1), (yX0_tightInequalities, cX0_tightInequalities, 2, (some .int), 1, 21, false, 1), (yX0_everTold, cX0_everTold, 3, (some .int), 2, 46, false, 0), (yX0_pointsBy, cX0_pointsBy, 7, (some .long), 3, 65, false, 3), (yX0_bestFor, cX0_bestFor, 9, (some .int), 4, 91, false, 2), (yX0_tightOf, cX0_tightOf, 2, (some .int), 0, 0, false, 1), (yX0_slackOf, cX0_slackOf, 2, (some .long), 0, 0, false, 1), (yX0_startWithSingleCells, cX0_startWithSingleCells, 6, none, 1, 23, false, 1), (yX0_cutWith, cX0_cutWith, 5, none, 4, 105, false, 2), (yX0_addNeighboursBelow, cX0_addNeighboursBelow, 4, none, 3, 82, false, 2), (yX0_takeSlacks, cX0_takeSlacks, 7, none, 3, 71, false, 2)]
def sm_Ps1 : List SP := [(yX0_areNeighbours, cX0_areNeighbours, 5, (some .boolean), 1, 21, false, 2), (yX0_keep, cX0_keep, 5, none, 1, 23, false, 2), (yX0_addBetween, cX0_addBetween, 10, none, 2, 53, false, 3), (yX0_mixedAtCut, cX0_mixedAtCut, 4, (some .long), 1, 23, false, 3), (yX0_startOfNext, cX0_startOfNext, 1, (some .int), 0, 0, false, 0), (yX0_setNext, cX0_setNext, 4, none, 0, 0, false, 2), (yX0_finishNext, cX0_finishNext, 2, none, 0, 0, false, 1), (yX0_turnToNext, cX0_turnToNext, 3, none, 0, 0, false, 0), (yX0_sumUp, cX0_sumUp, 5, none, 1, 23, false, 0), (yX0_sort, cX0_sort, 3, none, 2, 50, false, 0), (yX0_comesBefore, cX0_comesBefore, 8, (some .boolean), 1, 23, false, 2), (yX0_exchange, cX0_exchange, 6, none, 0, 0, false, 2), (yX0_commonDivisor, cX0_commonDivisor, 11, (some .long), 1, 23, true, 2), (yX1_init, cX1_init, 1, none, 1, 20, false, 0), (yX1_charactersIn, cX1_charactersIn, 8, (some .int), 0, 0, true, 1), (yX1_append, cX1_append, 6, none, 0, 0, false, 2)]
def sm_Ps2 : List SP := [(yX1_number, cX1_number, 3, (some .int), 1, 21, false, 2), (yX1_findFault, cX1_findFault, 2, (some .int), 3, 65, false, 0), (yX1_accepts, cX1_accepts, 2, (some .boolean), 2, 44, false, 1), (yX1_acceptsMinus, cX1_acceptsMinus, 1, (some .boolean), 0, 0, false, 0), (yX1_acceptsDigit, cX1_acceptsDigit, 3, (some .boolean), 1, 22, false, 1), (yX1_acceptsComma, cX1_acceptsComma, 1, (some .boolean), 0, 0, false, 0), (yX1_acceptsSemicolon, cX1_acceptsSemicolon, 2, (some .boolean), 0, 0, false, 0), (yX1_acceptsSlash, cX1_acceptsSlash, 1, (some .boolean), 0, 0, false, 0), (yX2_init, cX2_init, 1, none, 2, 44, false, 0), (yX2_startAnew, cX2_startAnew, 2, none, 1, 23, false, 1), (yX2_copyFrom, cX2_copyFrom, 2, none, 1, 26, false, 1), (yX2_isSameGame, cX2_isSameGame, 4, (some .boolean), 1, 21, false, 2), (yX2_cells, cX2_cells, 1, (some .int), 0, 0, false, 0), (yX2_cellAt, cX2_cellAt, 3, (some .int), 0, 0, false, 2), (yX2_moveIn, cX2_moveIn, 4, (some .int), 0, 0, false, 2), (yX2_gain, cX2_gain, 3, (some .int), 1, 21, false, 2)]
def sm_Ps3 : List SP := [(yX2_setGain, cX2_setGain, 4, none, 1, 22, false, 3), (yX2_gainForOneOrBoth, cX2_gainForOneOrBoth, 3, (some .int), 2, 43, false, 2), (yX2_pointsBy, cX2_pointsBy, 5, (some .int), 3, 65, false, 2), (yX2_inequalities, cX2_inequalities, 1, (some .int), 0, 0, false, 0), (yX2_playerOf, cX2_playerOf, 2, (some .int), 0, 0, false, 1), (yX2_toldMove, cX2_toldMove, 2, (some .int), 0, 0, false, 1), (yX2_otherMove, cX2_otherMove, 4, (some .int), 1, 21, false, 1), (yX2_loss, cX2_loss, 8, (some .int), 2, 44, false, 2), (yX2_leftSide, cX2_leftSide, 5, (some .int), 3, 71, false, 2), (yX2_brokenInequalities, cX2_brokenInequalities, 3, (some .int), 4, 95, false, 0), (yX2_isSure, cX2_isSure, 3, (some .boolean), 3, 71, false, 1), (yX2_throwDice, cX2_throwDice, 5, (some .int), 1, 25, false, 0), (yX3_init, cX3_init, 1, none, 3, 64, false, 0), (yX3_begin, cX3_begin, 3, (some .int), 4, 85, false, 1), (yX3_points, cX3_points, 7, (some .int), 4, 85, false, 4), (yX3_weigh, cX3_weigh, 6, (some .int), 4, 85, false, 3)]
def sm_Ps4 : List SP := [(yX3_take, cX3_take, 3, (some .int), 6, 151, false, 1), (yX3_mix, cX3_mix, 5, (some .int), 6, 151, false, 3), (yX3_roll, cX3_roll, 4, (some .int), 4, 85, false, 1), (yX3_forget, cX3_forget, 3, (some .int), 4, 85, false, 1), (yX3_read, cX3_read, 3, (some .int), 4, 86, false, 0), (yX3_cell, cX3_cell, 5, (some .int), 6, 151, false, 3), (yX3_inequality, cX3_inequality, 3, (some .int), 4, 95, false, 2), (yX3_count, cX3_count, 2, (some .int), 6, 151, false, 1), (yX3_worth, cX3_worth, 2, (some .int), 4, 89, false, 1), (yX3_extreme, cX3_extreme, 4, (some .int), 6, 151, false, 2), (yX3_best, cX3_best, 5, (some .int), 6, 151, false, 2), (yX3_neverTold, cX3_neverTold, 5, (some .int), 6, 151, false, 1), (yX3_sure, cX3_sure, 3, (some .int), 4, 93, false, 0), (yX3_put, cX3_put, 4, (some .int), 1, 27, false, 1), (yX3_wipe, cX3_wipe, 2, (some .int), 0, 0, false, 0), (yX3_fault, cX3_fault, 1, (some .int), 4, 86, false, 0)]
def sm_Ps5 : List SP := [(yX3_undo, cX3_undo, 2, (some .int), 2, 47, false, 0), (yX3_save, cX3_save, 3, (some .int), 3, 64, false, 1), (yX3_restore, cX3_restore, 3, (some .int), 4, 85, false, 1), (yX3_isPlayer, cX3_isPlayer, 1, (some .boolean), 0, 0, true, 1), (yX3_isPlayerOrBoth, cX3_isPlayerOrBoth, 1, (some .boolean), 1, 20, true, 1), (yX3_isCell, cX3_isCell, 3, (some .boolean), 0, 0, false, 2), (yX3_mixWith, cX3_mixWith, 6, (some .int), 4, 85, false, 4), (yX3_mixedWeight, cX3_mixedWeight, 6, (some .long), 1, 23, false, 5), (yX3_thousandths, cX3_thousandths, 4, (some .int), 1, 25, true, 2), (yX3_recordChange, cX3_recordChange, 2, none, 3, 64, false, 0), (yX3_dropOldestChange, cX3_dropOldestChange, 3, none, 0, 0, false, 0), (yX3_amount, cX3_amount, 2, (some .int), 0, 0, true, 2), (yX3_setAmount, cX3_setAmount, 3, none, 0, 0, true, 3), (yX3_fillAmounts, cX3_fillAmounts, 4, none, 0, 0, true, 3), (yX3_sumOf, cX3_sumOf, 6, (some .int), 0, 0, true, 1), (yX4_init, cX4_init, 1, none, 3, 62, false, 0)]
def sm_Ps6 : List SP := [(yX4_in, cX4_in, 6, (some .boolean), 0, 0, true, 3), (yX4_record, cX4_record, 2, none, 0, 0, false, 0), (yX4_columns, cX4_columns, 1, (some .int), 0, 0, false, 0), (yX4_cells, cX4_cells, 1, (some .int), 1, 20, false, 0), (yX4_inequalities, cX4_inequalities, 1, (some .int), 1, 20, false, 0), (yX4_anew, cX4_anew, 3, none, 2, 40, false, 1), (yX4_pointsOf, cX4_pointsOf, 3, (some .int), 0, 0, false, 2), (yX4_isCell, cX4_isCell, 3, (some .boolean), 1, 25, false, 2), (yX4_cellOf, cX4_cellOf, 3, (some .int), 1, 20, false, 2), (yX4_look, cX4_look, 3, none, 1, 20, false, 1), (yX4_loss, cX4_loss, 5, (some .int), 2, 42, false, 1), (yX4_slackBy, cX4_slackBy, 5, (some .int), 3, 66, false, 2), (yX4_sumOfWeights, cX4_sumOfWeights, 3, (some .int), 2, 40, false, 0), (yX4_broken, cX4_broken, 3, (some .int), 4, 90, false, 0), (yX4_isSure, cX4_isSure, 4, (some .boolean), 3, 66, false, 1), (yX4_divide, cX4_divide, 6, (some .long), 0, 0, true, 2)]
def sm_Ps7 : List SP := [(yX4_divisor, cX4_divisor, 10, (some .long), 0, 0, true, 2), (yX4_get, cX4_get, 3, (some .long), 0, 0, false, 2), (yX4_laySystem, cX4_laySystem, 4, none, 3, 66, false, 0), (yX4_shorten, cX4_shorten, 5, none, 2, 40, false, 1), (yX4_exchange, cX4_exchange, 6, none, 0, 0, false, 2), (yX4_clearOthers, cX4_clearOthers, 7, none, 3, 64, false, 2), (yX4_solve, cX4_solve, 7, (some .int), 4, 90, false, 0), (yX4_laySolution, cX4_laySolution, 10, none, 2, 40, false, 1), (yX4_isObeyed, cX4_isObeyed, 6, (some .boolean), 3, 66, false, 0), (yX4_ahead, cX4_ahead, 7, (some .long), 2, 40, false, 2), (yX4_insert, cX4_insert, 6, none, 3, 66, false, 0), (yX4_picksNext, cX4_picksNext, 5, (some .boolean), 2, 40, false, 0), (yX4_layExtremes, cX4_layExtremes, 3, none, 5, 116, false, 0), (yX4_isExtreme, cX4_isExtreme, 2, (some .boolean), 6, 138, false, 1), (yX4_cellsOf, cX4_cellsOf, 4, (some .int), 2, 40, false, 1), (yX4_anyCells, cX4_anyCells, 3, (some .int), 6, 138, false, 0)]
def sm_Ps8 : List SP := [(yX4_tightOf, cX4_tightOf, 7, (some .int), 3, 66, false, 1), (yX4_begin, cX4_begin, 3, (some .int), 3, 62, false, 1), (yX4_points, cX4_points, 7, (some .int), 2, 47, false, 4), (yX4_weigh, cX4_weigh, 5, (some .int), 3, 62, false, 3), (yX4_mixes, cX4_mixes, 5, (some .int), 3, 62, false, 3), (yX4_take, cX4_take, 2, (some .int), 7, 159, false, 1), (yX4_mix, cX4_mix, 4, (some .int), 7, 159, false, 3), (yX4_throwsSoFar, cX4_throwsSoFar, 3, (some .int), 2, 40, false, 0), (yX4_rolls, cX4_rolls, 4, (some .int), 3, 62, false, 0), (yX4_roll, cX4_roll, 4, (some .int), 4, 85, false, 1), (yX4_forget, cX4_forget, 4, (some .int), 3, 62, false, 1), (yX4_takes, cX4_takes, 3, (some .boolean), 0, 0, false, 1), (yX4_readsPoints, cX4_readsPoints, 3, (some .boolean), 1, 25, false, 1), (yX4_readsRow, cX4_readsRow, 4, (some .boolean), 2, 47, false, 1), (yX4_faultOf, cX4_faultOf, 1, (some .int), 3, 70, false, 0), (yX4_read, cX4_read, 3, (some .int), 4, 90, false, 0)]
def sm_Ps9 : List SP := [(yX4_cell, cX4_cell, 5, (some .int), 7, 160, false, 3), (yX4_inequality, cX4_inequality, 3, (some .int), 4, 90, false, 2), (yX4_got, cX4_got, 4, (some .int), 2, 40, false, 1), (yX4_manyExtremes, cX4_manyExtremes, 1, (some .int), 6, 138, false, 0), (yX4_count, cX4_count, 2, (some .int), 7, 158, false, 1), (yX4_pointsFor, cX4_pointsFor, 3, (some .int), 1, 22, false, 2), (yX4_worth, cX4_worth, 5, (some .int), 3, 62, false, 1), (yX4_extreme, cX4_extreme, 3, (some .int), 7, 159, false, 2), (yX4_pointsBy, cX4_pointsBy, 6, (some .long), 2, 44, false, 2), (yX4_best, cX4_best, 5, (some .int), 6, 138, false, 2), (yX4_neverTold, cX4_neverTold, 6, (some .int), 7, 160, false, 1), (yX4_sure, cX4_sure, 3, (some .int), 4, 89, false, 0), (yX4_put, cX4_put, 8, (some .int), 1, 25, false, 1), (yX4_wipe, cX4_wipe, 2, (some .int), 0, 0, false, 0), (yX4_fault, cX4_fault, 1, (some .int), 4, 90, false, 0), (yX4_undo, cX4_undo, 2, (some .int), 0, 0, false, 0)]
def sm_Ps10 : List SP := [(yX4_save, cX4_save, 3, (some .int), 3, 62, false, 1), (yX4_restore, cX4_restore, 3, (some .int), 3, 62, false, 1), (yJ9_floorDiv_f86c9, cJ9_floorDiv_f86c9, 6, (some .long), 0, 0, true, 2), (yJ9_max_f86c9, cJ9_max_f86c9, 4, (some .long), 0, 0, true, 2), (yJ9_min_f86c9, cJ9_min_f86c9, 4, (some .long), 0, 0, true, 2), (yL_law, cL_law, 4, (some .boolean), 8, 185, true, 1)]
def sm_P (i : Nat) : SP := bif Nat.blt i 16 then sm_Ps0.getD (i - 0) (yL_law, code, 0, none, 0, 0, true, 0) else bif Nat.blt i 32 then sm_Ps1.getD (i - 16) (yL_law, code, 0, none, 0, 0, true, 0) else bif Nat.blt i 48 then sm_Ps2.getD (i - 32) (yL_law, code, 0, none, 0, 0, true, 0) else bif Nat.blt i 64 then sm_Ps3.getD (i - 48) (yL_law, code, 0, none, 0, 0, true, 0) else bif Nat.blt i 80 then sm_Ps4.getD (i - 64) (yL_law, code, 0, none, 0, 0, true, 0) else bif Nat.blt i 96 then sm_Ps5.getD (i - 80) (yL_law, code, 0, none, 0, 0, true, 0) else bif Nat.blt i 112 then sm_Ps6.getD (i - 96) (yL_law, code, 0, none, 0, 0, true, 0) else bif Nat.blt i 128 then sm_Ps7.getD (i - 112) (yL_law, code, 0, none, 0, 0, true, 0) else bif Nat.blt i 144 then sm_Ps8.getD (i - 128) (yL_law, code, 0, none, 0, 0, true, 0) else bif Nat.blt i 160 then sm_Ps9.getD (i - 144) (yL_law, code, 0, none, 0, 0, true, 0) else bif Nat.blt i 176 then sm_Ps10.getD (i - 160) (yL_law, code, 0, none, 0, 0, true, 0) else (yL_law, code, 0, none, 0, 0, true, 0)
def sm_jB (pc : Nat) (off : Int) (ts : List Nat) : Bool := match ts with
  | [t] => decide ((pc : Int) + off = (t : Int))
  | _ => false
def sm_fB (own : String) (idx : Nat) (ci k ft p : Nat) : Bool := match vwCl[ci]? with
  | some r => decide (k < r.2.2) && (decide (lw_tbl[p]? = some (Cond.fieldLink own idx (r.2.1 k).1 (r.2.1 k).2.1 (r.2.1 k).2.2.1)) && decide (ft = sm_ft ci k))
  | none => false
def sm_wB (ini : Bool) (own : String) (ci k : Nat) : Bool := match vwCl[ci]? with
  | some r => decide ((r.2.1 k).2.2.2 = false) || (ini && (decide ((r.2.1 k).2.2.2 = true) && decide ((r.2.1 k).1 = own)))
  | none => false
def sm_lB (own : String) (idx : Nat) (y : MethodName) (p : Nat) : Bool := decide (lw_tbl[p]? = some (Cond.methodLink own idx y)) || decide (lw_tbl[p]? = some (Cond.methodLinkNest own idx y "ObedientDice"))
def sm_rB (rk : Nat) (r : Option FieldType) : Bool := match rk, r with
  | 0, none => true
  | 1, some .int => true
  | 2, some .boolean => true
  | 3, some .long => true
  | 4, some (.object _) => true
  | _, _ => false
/-- a call's numbers against the callee's row -/
def sm_cB (own : String) (fr lo idx mi na rk nL p : Nat) : Bool := decide (mi < 165) && (sm_lB own idx (sm_P mi).1 p && (decide ((sm_P mi).2.2.2.2.2.2.2 = na) && (sm_rB rk (sm_P mi).2.2.2.1 && (decide ((sm_P mi).2.2.1 = nL) && (decide ((sm_P mi).2.2.2.2.1 + 1 ≤ fr) && decide (8 + (nL + 11) + (sm_P mi).2.2.2.2.2.1 ≤ lo))))))
def sm_opB (own : String) (ini : Bool) (fr lo pc : Nat) (i : Instr) (ts : List Nat) (cv : Int32) (cj : Int64) (p : Nat) : Bool := match i with
  | .iconst m => decide (Int32.ofInt m = cv)
  | .bipush m => decide ((Int8.ofInt m).toInt32 = cv)
  | .sipush m => decide ((Int16.ofInt m).toInt32 = cv)
  | .lconst m => decide (Int64.ofNat (m : Nat) = cj)
  | .iinc _ m => decide (Int32.ofInt m = cv)
  | .ldc idx => decide (lw_tbl[p]? = some (Cond.constant own idx cv))
  | .ldc2_w idx => decide (lw_tbl[p]? = some (Cond.constantLong own idx cj))
  | .if_icmp _ off => sm_jB pc off ts
  | .ifCond _ off => sm_jB pc off ts
  | .ifnonnull off => sm_jB pc off ts
  | .goto off => sm_jB pc off ts
  | .tableswitch d lo hi offs => match ts with
    | k :: df :: r => decide (lo = (k : Int)) && (decide ((pc : Int) + d = (df : Int)) && (decide (offs.toList.map (fun o => (pc : Int) + o) = r.map (fun (t : Nat) => (t : Int))) && (decide (hi = (k : Int) + (r.length : Int) - 1) && decide (k + r.length < 1000))))
    | _ => false
  | .getfield idx => match ts with
    | [ci, k, ft] => sm_fB own idx ci k ft p
    | _ => false
  | .putfield idx => match ts with
    | [ci, k, ft] => sm_fB own idx ci k ft p && sm_wB ini own ci k
    | _ => false
  | .new idx => match ts with
    | [ci, nf] => (match vwCl[ci]? with
      | some r => decide (nf = r.2.2) && decide (lw_tbl[p]? = some (Cond.classLink own idx r.1))
      | none => false)
    | _ => false
  | .newarray t => match ts with
    | [5] => decide (newarray.typeOf t = .int)
    | [6] => decide (newarray.typeOf t = .long)
    | [7] => decide (newarray.typeOf t = .char)
    | _ => false
  | .anewarray idx => decide (lw_tbl[p]? = some (Cond.classLink own idx RX2))
  | .invokevirtual idx => match ts with
    | [mi, na, 0, rk, nL, rc] => sm_cB own fr lo idx mi na rk nL p && (decide ((sm_P mi).1.cls = sm_cn rc ∧ rc < 5) && (!(sm_P mi).2.2.2.2.2.2.1 && decide ((sm_P mi).1.name ≠ "<init>")))
    | _ => false
  | .invokespecial idx => match ts with
    | [mi, na, 0, rk, nL, rc] => sm_cB own fr lo idx mi na rk nL p && (decide (rk = 0) && (!(sm_P mi).2.2.2.2.2.2.1 && decide ((sm_P mi).1.name = "<init>")))
    | [2] => decide (lw_tbl[p]? = some (Cond.methodLink own idx objectInit)) && (decide (1 ≤ fr) && decide (20 ≤ lo))
    | _ => false
  | .invokestatic idx => match ts with
    | [mi, na, 1, rk, nL] => sm_cB own fr lo idx mi na rk nL p && (sm_P mi).2.2.2.2.2.2.1
    | [3, _] => decide (lw_tbl[p]? = some (Cond.methodLink own idx arraycopyName)) && (decide (1 ≤ fr) && decide (26 ≤ lo))
    | _ => false
  | _ => true
/-- an entry: the bytes say it, its numbers are right -/
def sm_eB (P : SP) (q : AE) (p : Nat) : Bool := (match decode P.2.1 q.1 with
  | .ok (i, l) => decide (i = q.2.1) && (decide (q.1 + l = q.2.2.1) && decide (sm_len i = 0 ∨ sm_len i = l))
  | _ => false) && sm_opB P.1.cls (decide (P.1.name = "<init>")) P.2.2.2.2.1 P.2.2.2.2.2.1 q.1 q.2.1 q.2.2.2.1 q.2.2.2.2.1 q.2.2.2.2.2 p
/-- a method's own words -/
def sm_mB (P : SP) (pc pi pk ps : Nat) : Bool := (decide (plainFor P.1 = true) && (decide (lw_tbl[pi]? = some (Cond.initialized P.1.cls)) && (decide (P.1.cls ≠ "java/lang/invoke/MethodHandle" ∧ P.1.cls ≠ "java/lang/invoke/VarHandle" ∧ (parseMethodDescriptor P.1.desc).map (fun d => d.parameters.length) = some P.2.2.2.2.2.2.2) && (bif P.2.2.2.2.2.2.1 then decide (lw_tbl[pk]? = some (Cond.static P.1)) else decide (lw_tbl[pk]? = some (Cond.instanceMethod P.1)) && (decide (P.1.name = "<init>") || decide (lw_tbl[ps]? = some (Cond.selects P.1.cls P.1 P.1)))))))
def sm_ps0 : List (List Nat) := [[0, 131, 0, 0, 132, 0, 0, 134, 0, 0, 0, 135, 0, 0, 0, 136, 0, 0, 0, 137, 0, 0, 0, 138, 0, 0, 0, 139, 0, 0, 0, 140, 0, 0, 0, 141, 0, 0, 142, 0, 0, 0, 143, 0], [0, 0, 142, 0, 143, 291, 0, 0, 0, 0, 0, 295, 296, 0, 0, 0, 0, 316, 0, 0, 0, 0, 320, 0, 0, 0, 393, 0, 397, 0, 0, 105, 142, 0, 109, 0, 0, 143, 0, 0, 413, 0, 0], [0, 0, 0, 0, 132, 0, 0, 0, 0, 0], [0, 0, 0, 0, 0, 0, 0, 0, 0, 0, 132, 0, 0, 0, 0, 0, 0, 0, 0, 135, 0, 0, 0, 0, 0, 135, 0, 0, 0], [0, 0, 0, 0, 140, 0, 0, 0, 0, 0, 140, 0, 0, 0], [0, 0, 0, 0, 0, 0, 0, 0, 0, 0, 351, 0, 0, 0, 0, 0, 0, 0, 0, 0, 0, 0, 0, 0], [0, 0, 364, 0, 0, 0], [0, 0, 0, 0, 0, 0, 132, 0, 0, 0, 0, 503, 0, 0, 0, 0, 0, 0], [0, 0, 0, 0, 0, 0, 295, 0, 0, 0, 0, 0, 351, 0, 0, 0, 574, 0, 0, 0, 0, 0, 0, 0, 0], [0, 0, 0, 0, 0, 0, 570, 0, 0, 0, 0, 0, 132, 0, 0, 0, 0, 0, 570, 0, 0, 0, 0, 405, 0, 0, 0, 0, 405, 0, 0, 0, 0, 0, 0, 0, 0, 0, 0, 0], [0, 0, 0, 0, 137, 0, 0, 0, 0, 0, 137, 0, 0, 0], [0, 0, 0, 0, 139, 0, 0, 0, 0, 0, 139, 0, 0, 0], [0, 0, 0, 0, 0, 0, 0, 0, 134, 0, 0, 0, 0, 0, 0, 300, 0, 0, 0, 0, 0, 0, 0, 0, 0, 0, 0, 0, 0, 0, 0, 0, 304, 0, 0, 0, 0, 0, 0, 0, 0, 0, 0, 308, 0, 0, 0, 312, 0], [0, 0, 0, 324, 0, 0, 0, 0, 0, 0, 0, 0, 134, 0, 0, 0, 0, 132, 0, 0, 0, 356, 0, 0, 0, 0, 0, 0, 0, 356, 0, 0, 0, 0, 0, 0, 360, 0, 0, 0, 0, 0, 0, 132, 0, 0, 0, 356, 0, 0, 0, 0, 0, 0, 368, 0, 0, 0, 312, 0], [0, 0, 0, 0, 132, 0, 0, 0, 356, 0, 0, 0, 0, 0, 0, 372, 0, 0, 0, 0, 0, 376, 0, 0, 0], [0, 0, 0, 0, 0, 0, 141, 0, 0, 0, 295, 0, 0, 0, 0, 328, 0, 0, 350, 0, 0, 0, 0, 0, 0, 132, 0, 0, 0, 139, 0, 0, 0, 0, 0, 0, 0, 0, 0, 0, 0, 0, 0, 351, 0, 141, 0, 355, 0, 0, 0, 0, 0, 0, 0, 139, 0, 0, 0, 0, 0, 0]]
def sm_ps1 : List (List Nat) := [[0, 0, 364, 0, 0, 364, 0, 0, 0, 0, 0, 0, 132, 0, 0, 0, 0, 0, 0, 0, 0, 0, 364, 0, 0, 0, 0, 0, 0, 0, 0, 0, 0], [0, 300, 0, 0, 0, 0, 0, 0, 0, 0, 0, 0, 0, 0, 0, 351, 304, 0, 0, 0, 0, 0, 364, 0, 0, 308, 0], [0, 300, 0, 0, 0, 0, 0, 0, 0, 0, 0, 0, 0, 0, 380, 0, 0, 0, 384, 0, 0, 0, 0, 0, 0, 0, 0, 0, 0, 0, 0, 380, 0, 0, 0, 0, 0, 0, 0, 0, 0, 0, 0, 0, 0, 0, 304, 0, 0, 0, 0, 0, 364, 0, 0, 364, 0, 0, 0, 308, 0], [0, 0, 356, 0, 0, 0, 351, 0, 0, 0, 356, 0, 0, 0, 351, 0, 0, 0], [0, 134, 0, 0, 0], [0, 0, 0, 0, 136, 0, 0, 0, 136, 0, 0, 0, 0], [0, 134, 0, 0, 134, 0, 138, 0, 0, 0, 138, 0, 134, 0, 0, 0, 0, 134, 0, 0, 134, 0], [0, 135, 0, 0, 0, 136, 135, 0, 0, 136, 0, 137, 0, 0, 0, 138, 137, 0, 0, 138, 0, 0, 134, 132, 0], [0, 0, 0, 0, 132, 0, 0, 0, 140, 0, 0, 0, 0, 0, 0, 0, 0, 0, 0, 0, 0, 0, 351, 0, 0, 0, 0, 0, 140, 0, 0, 0, 0, 0, 0], [0, 0, 0, 0, 132, 0, 0, 0, 0, 0, 0, 0, 0, 0, 0, 401, 0, 0, 0, 0, 0, 0, 409, 0, 0, 0, 0, 0], [0, 0, 0, 0, 0, 0, 0, 0, 351, 0, 0, 405, 0, 0, 0, 0, 0, 351, 0, 0, 405, 0, 0, 0, 0, 0, 0, 0, 0, 0, 0, 0, 0, 0, 0, 0, 0, 0, 0], [0, 0, 0, 0, 132, 0, 0, 0, 0, 0, 132, 0, 0, 132, 0, 0, 0, 0, 0, 0, 0, 0, 0, 135, 0, 0, 0, 0, 0, 0, 0, 0, 135, 0, 0, 0, 0, 0, 0, 135, 0, 0, 0, 0, 0, 0, 0, 0, 135, 0, 0, 0, 0, 0, 0, 0, 0, 0, 0, 137, 0, 0, 0, 0, 137, 0, 0, 137, 0, 0, 0, 0, 137, 0, 0, 0, 0, 140, 0, 0, 0, 0, 140, 0, 0, 140, 0, 0, 0, 0, 140, 0, 0, 0, 0], [0, 0, 387, 0, 0, 0, 390, 0, 0, 0, 0, 0, 0, 0, 0, 0, 0, 0, 0, 0, 0, 0, 0, 0, 0, 0, 0, 0, 0], [0, 173, 0, 0, 174, 0, 0, 176, 0, 0, 0, 178, 0, 0, 0, 179, 0, 0, 180, 0, 0, 181, 0, 0, 182, 0, 0, 183, 0, 0, 184, 0], [0, 0, 0, 0, 0, 0, 0, 0, 0, 0, 0, 0, 0, 0, 592, 0, 0, 0, 593, 0, 0, 0, 594, 0, 0, 0, 0, 0, 0, 0, 0, 0, 0, 0, 0, 0], [0, 0, 0, 0, 0, 0, 0, 0, 0, 0, 0, 0, 0, 0, 174, 0, 0, 174, 0, 178, 0, 0, 0, 178, 0, 174, 0, 0, 0, 592, 0, 0, 0, 0, 0, 0, 174, 0, 0, 174, 0, 0, 0]]
def sm_ps2 : List (List Nat) := [[0, 179, 0, 0, 0, 0, 0, 488, 0], [0, 0, 180, 0, 0, 181, 0, 0, 182, 0, 0, 183, 0, 0, 184, 0, 0, 176, 0, 0, 0, 0, 174, 0, 0, 0, 178, 0, 0, 0, 0, 178, 0, 0, 459, 0, 0, 0, 0, 0, 0, 180, 0, 0, 0, 181, 0, 0, 0, 182, 0, 176, 0, 0, 0, 0, 0, 0, 0, 0, 0, 0, 174, 0], [0, 180, 0, 0, 0, 0, 0, 463, 0, 0, 0, 467, 0, 0, 0, 467, 0, 0, 0, 0, 0, 472, 0, 0, 0, 0, 0, 0, 0, 0, 0, 476, 0, 0, 0, 0, 0, 480, 0, 0, 0, 0, 0], [0, 0, 184, 0, 0, 180, 0, 0], [0, 0, 0, 0, 0, 0, 0, 0, 0, 184, 0, 0, 0, 0, 0, 0, 0, 0, 0, 0, 179, 0, 183, 0, 0, 0, 176, 0, 181, 0, 0, 0, 182, 0, 0, 471, 0, 0, 184, 0, 183, 0, 0, 0, 180, 0, 0, 0, 180, 0, 0, 182, 0, 0, 182, 0, 0], [0, 0, 183, 0, 0, 180, 0, 0], [0, 181, 0, 0, 0, 0, 176, 0, 0, 182, 0, 0, 0, 0, 0, 0, 183, 0, 0, 180, 0, 0], [0, 181, 0, 0, 182, 0, 0, 0, 0, 0, 0, 182, 176, 0, 0, 181, 0, 0, 182, 0, 0, 183, 0, 0, 180, 0, 0], [0, 91, 0, 0, 103, 0, 0, 106, 0, 0, 0, 108, 0, 0, 0, 110, 0, 0, 0, 112, 0, 0, 92, 0], [0, 0, 103, 0, 108, 0, 0, 96, 0, 110, 0, 99, 0, 96, 0, 112, 0, 0, 96, 0], [0, 0, 103, 103, 0, 0, 106, 106, 0, 108, 0, 0, 108, 0, 0, 241, 0, 110, 0, 0, 110, 0, 0, 241, 0, 112, 0, 0, 112, 0, 0, 241, 0], [0, 103, 0, 0, 0, 0, 0, 0, 0, 0, 0, 0, 108, 0, 264, 0, 0, 264, 0, 0, 0, 0, 0, 0, 0], [0, 0, 103, 0, 0], [0, 103, 0, 0, 0, 0, 0], [0, 0, 103, 0, 0, 0, 0, 0, 0, 0, 0, 0, 0, 0, 103, 0, 0, 0, 0], [0, 108, 0, 0, 0, 0, 0, 264, 0]]
def sm_ps3 : List (List Nat) := [[0, 108, 0, 0, 0, 0, 0, 0, 271, 0], [0, 0, 0, 0, 0, 0, 349, 0, 0, 0, 349, 0, 0, 0, 0, 0, 349, 0], [0, 0, 0, 0, 0, 0, 99, 0, 0, 0, 0, 264, 0, 0, 0, 533, 0, 0, 0, 0, 0, 0, 0], [0, 0, 103, 0, 103, 0, 0, 0, 0, 0], [0, 0, 0, 0, 0, 0, 0], [0, 0, 0, 0, 0, 0, 103, 0, 0, 0, 0, 0, 0, 0, 0, 0, 0, 0, 0], [0, 0, 340, 0, 0, 0, 0, 0, 103, 0, 0, 0, 0, 0, 0, 0, 0, 0, 0, 0, 0, 0, 0, 0, 0, 0, 0, 0, 0, 0], [0, 0, 332, 0, 0, 0, 0, 336, 0, 0, 340, 0, 0, 0, 0, 0, 0, 336, 0, 0, 0, 0, 336, 0, 0, 0, 344, 0, 0, 0, 0, 0, 0, 348, 0, 0, 0, 0, 348, 0, 0, 0, 0, 349, 0, 0, 0, 349, 0, 0], [0, 0, 0, 0, 0, 0, 99, 0, 0, 0, 0, 264, 0, 0, 0, 498, 0, 0, 0, 0, 0, 0, 0], [0, 0, 0, 0, 0, 0, 497, 0, 0, 0, 0, 110, 528, 0, 0, 0, 0, 0, 0], [0, 0, 0, 0, 497, 0, 0, 0, 0, 498, 0, 0, 0, 0, 0, 0, 0], [0, 0, 106, 0, 441, 0, 442, 0, 443, 0, 0, 106, 0, 110, 444, 0, 0, 0, 0, 0, 0, 106, 445, 0, 0, 0, 0, 0, 0, 0, 110, 0, 264, 0, 0, 0, 0, 0, 0, 99, 0, 0, 0, 0, 0, 0, 110, 0, 264, 0, 0, 0, 0, 112, 0, 0, 112, 0, 264, 0, 0, 271, 0, 0], [0, 83, 0, 86, 0, 88, 206, 0, 126, 0, 128, 207, 0, 168, 0, 170, 208, 0, 0, 86, 209, 0, 0, 86, 210, 0, 0, 211, 0], [0, 0, 0, 0, 0, 0, 0, 0, 0, 206, 104, 0, 0, 229, 0, 206, 0, 244, 0, 0], [0, 249, 0, 0, 0, 0, 252, 0, 0, 0, 0, 0, 0, 0, 0, 0, 0, 0, 0, 206, 0, 0, 256, 0, 0, 206, 0, 0, 260, 0, 0, 229, 0, 206, 0, 0, 0, 267, 0, 0, 0, 0], [0, 0, 0, 252, 0, 0, 0, 0, 0, 0, 0, 0, 0, 0, 0, 206, 0, 0, 256, 0, 0, 206, 111, 0, 278, 0, 0, 206, 111, 279, 0, 0, 0, 0, 0, 0, 0, 0, 229, 0, 206, 111, 0, 0, 282, 0, 0]]
def sm_ps4 : List (List Nat) := [[0, 207, 0, 206, 287, 0, 0, 0, 414, 0, 0, 0, 0, 0, 0, 0, 0, 418, 0], [0, 207, 0, 206, 287, 0, 0, 0, 414, 0, 0, 0, 0, 0, 0, 0, 0, 0, 0, 0, 0, 0, 0, 0, 0, 0, 0, 0, 0, 0, 0, 0, 0, 0, 0, 418, 0], [0, 0, 0, 0, 0, 0, 0, 0, 0, 206, 113, 279, 0, 0, 0, 0, 0, 0, 0, 229, 0, 0, 0, 0, 0, 0, 0, 0, 206, 437, 0, 0, 0, 0, 0], [0, 0, 0, 0, 0, 206, 113, 279, 0, 0, 229, 0, 206, 113, 0, 0, 450, 0, 206, 0, 107, 0, 0], [0, 208, 455, 0, 0, 0, 0, 0, 229, 0, 206, 0, 208, 177, 244, 0, 0, 0, 0, 0, 0, 0, 0, 0, 206, 422, 0, 0, 206, 0, 0, 0, 208, 0, 0, 484, 267, 0, 0, 0, 0, 0, 208, 0, 175, 0, 206, 104, 0], [0, 0, 0, 252, 0, 0, 0, 0, 206, 0, 0, 256, 0, 0, 0, 0, 206, 0, 0, 260, 0, 0, 0, 0, 206, 111, 0, 278, 0, 0, 206, 113, 0, 278, 0, 0, 206, 0, 493, 0, 0, 0, 0, 0, 0, 207, 0, 206, 287, 499, 0, 0, 0, 0, 0, 0, 0], [0, 0, 0, 0, 206, 511, 0, 0, 0, 0, 0, 0, 206, 0, 512, 0, 0, 206, 0, 513, 0, 0, 206, 0, 514, 0, 0, 206, 0, 0, 206, 111, 515, 519, 0, 0, 519, 0, 206, 0, 0, 206, 113, 515, 0, 0, 0, 0], [0, 0, 0, 206, 104, 0, 0, 206, 422, 0, 0, 206, 511, 0, 0, 206, 111, 279, 0, 0, 206, 524, 0, 0, 0, 0, 0, 0, 206, 524, 0, 0, 207, 0, 206, 287, 133, 0, 0, 206, 113, 279, 0, 0, 206, 0, 206, 113, 0, 0, 0, 529, 537, 0, 0, 0, 206, 107, 0, 0, 208, 175, 0, 0, 211, 0, 0, 0], [0, 542, 0, 0, 0, 0, 206, 0, 206, 111, 0, 529, 0, 0, 206, 111, 279, 0, 545, 0], [0, 207, 0, 206, 287, 0, 0, 0, 414, 0, 0, 0, 0, 0, 0, 0, 206, 422, 0, 0, 0, 0, 427, 0, 0, 0, 0, 0, 0, 556, 0, 0, 0, 0, 557, 0, 0, 0, 558, 0, 0, 0], [0, 542, 0, 0, 0, 0, 0, 0, 0, 0, 0, 207, 0, 206, 287, 0, 0, 0, 206, 0, 566, 0, 0, 0, 0, 0, 0, 0, 206, 0, 0, 575, 0, 0, 556, 545, 0], [0, 249, 0, 0, 0, 0, 207, 0, 206, 287, 499, 0, 0, 0, 0, 0, 0, 0, 206, 422, 0, 0, 0, 0, 0, 0, 0, 0, 0, 0, 0, 206, 0, 0, 580, 0, 0, 0, 0, 0, 0, 0, 0, 0, 0, 0, 206, 104, 0, 0, 0, 0, 0, 0, 0, 0, 0, 0], [0, 0, 0, 0, 0, 0, 206, 422, 0, 0, 206, 0, 493, 0, 0, 0, 0, 0, 0, 0, 0, 0, 0, 0], [0, 589, 0, 0, 0, 0, 0, 0, 0, 208, 175, 0, 0, 0, 0, 0, 0, 0, 208, 0, 0, 595, 0, 208, 175, 0], [0, 208, 175, 0, 0, 208, 0, 175, 0, 0], [0, 208, 455, 0]]
def sm_ps5 : List (List Nat) := [[0, 211, 0, 0, 0, 211, 0, 209, 0, 0, 0, 0, 0, 209, 0, 211, 0, 0, 0, 0, 0, 0, 0, 0, 0, 206, 0, 237, 0, 0, 211, 0, 0, 211, 0, 211, 0], [0, 0, 0, 0, 210, 0, 0, 0, 0, 0, 210, 0, 0, 0, 0, 0, 86, 0, 88, 0, 0, 210, 0, 0, 0, 0, 0, 206, 237, 0, 206, 113, 279, 0], [0, 0, 0, 0, 210, 0, 0, 0, 0, 0, 210, 0, 0, 0, 0, 0, 0, 0, 0, 229, 0, 206, 0, 237, 0, 206, 113, 279, 0], [0, 0, 0, 0, 0, 0, 0, 0, 0], [0, 249, 0, 0, 0, 0, 0, 0, 0, 0], [0, 0, 0, 0, 0, 0, 0, 0, 0, 206, 104, 0, 0, 0, 0, 0], [0, 0, 0, 0, 206, 422, 0, 0, 0, 0, 0, 0, 0, 423, 428, 0, 0, 0, 0, 0, 0, 0, 229, 0, 0, 0, 0, 206, 422, 0, 0, 206, 111, 0, 0, 0, 0, 0, 0, 0, 423, 0, 282, 0, 0, 0, 206, 111, 279, 0], [0, 0, 0, 206, 111, 0, 278, 0, 0, 0, 0, 0, 0, 0, 427, 0, 0, 0], [0, 0, 0, 0, 537, 0, 548, 0, 0, 0, 549, 0, 537, 0, 0], [0, 211, 0, 209, 0, 0, 0, 233, 0, 211, 0, 0, 211, 0, 209, 0, 0, 0, 0, 209, 0, 211, 0, 0, 0, 0, 86, 0, 88, 0, 0, 209, 0, 211, 0, 0, 0, 0, 206, 237, 0, 0, 211, 0, 0, 211, 0], [0, 209, 0, 0, 0, 0, 0, 0, 0, 209, 0, 0, 0, 209, 0, 0, 0, 0, 209, 0, 0, 0, 0, 0, 0, 209, 0, 209, 0, 0, 0, 0, 0, 0, 0, 209, 0, 0, 0, 211, 0], [0, 0, 0, 0, 0, 0, 0, 0, 0, 0, 0, 0], [0, 0, 0, 0, 0, 0, 0, 0, 0, 0, 0], [0, 0, 0, 0, 0, 0, 0, 0, 0, 0, 0, 0, 0, 0, 0, 0, 0, 0], [0, 0, 0, 0, 0, 0, 0, 0, 0, 0, 0, 0, 0, 0, 0, 0, 0, 0, 0, 0, 0, 0, 0, 0], [0, 624, 0, 0, 0, 637, 0, 0, 0, 638, 0, 0, 0, 640, 0, 0, 0, 641, 0, 0, 0, 645, 0, 0, 0, 646, 0, 0, 0, 649, 0, 0, 0, 650, 0, 0, 0, 651, 0, 0, 0, 652, 0, 0, 0, 653, 0, 0, 0, 655, 0, 0, 0, 656, 0, 637, 0, 0, 0, 0, 0, 625, 0]]
def sm_ps6 : List (List Nat) := [[0, 0, 0, 0, 0, 0, 0, 0, 0, 0, 0, 0], [0, 639, 0, 0, 0, 0, 0, 0, 0, 0, 638, 0, 0, 638, 0, 0, 0, 0, 0, 0, 0, 0, 0, 639, 0, 0, 639, 0, 0, 0, 0, 0, 0, 638, 0, 0, 639, 0, 0, 0, 0, 637, 0, 0, 0, 0, 0, 0, 0, 639, 0, 0, 639, 0], [0, 637, 0, 0, 0], [0, 0, 633, 0, 0], [0, 0, 633, 0, 633, 0, 0, 0, 0, 0], [0, 0, 0, 0, 0, 0, 637, 0, 0, 0, 0, 0, 0, 637, 0, 0, 0, 0, 0, 0, 0, 629, 0, 0, 637, 0, 0, 0, 0, 0, 0, 0, 0, 0, 648, 0], [0, 637, 0, 0, 0, 0, 0, 0, 0, 0, 0], [0, 0, 0, 0, 707, 0, 0, 0, 0, 0, 633, 0, 0, 0, 707, 0, 0, 0, 0, 0], [0, 633, 0, 0, 0, 0, 0], [0, 0, 0, 0, 0, 0, 0, 642, 0, 642, 0, 0, 0, 643, 0, 0, 0, 0, 644, 0, 0, 633, 0, 0, 0, 0, 0, 0, 0, 0, 0, 643, 0, 0, 0, 0, 0, 0, 644, 0, 0, 644, 0, 644, 0, 643, 0, 0, 0, 0, 0, 644, 0], [0, 0, 633, 0, 0, 0, 0, 633, 0, 0, 0, 643, 0, 642, 0, 0, 0, 0, 0, 0, 0, 0, 642, 0, 0, 0, 644, 0, 724, 0, 0, 0, 0, 644, 724, 0, 0, 0, 642, 0, 761, 0, 0, 642, 0, 761, 0, 0], [0, 0, 753, 0, 0, 0, 0, 0, 0, 629, 0, 0, 0, 637, 0, 0, 0, 0, 0, 0, 757, 0, 0, 0, 0, 0, 0, 0], [0, 0, 0, 0, 0, 0, 629, 0, 0, 0, 637, 0, 0, 0, 0, 0, 0, 0, 0, 0, 0], [0, 0, 0, 0, 0, 0, 796, 0, 0, 0, 0, 0, 883, 0, 0, 0, 0, 0, 0, 0, 0, 0, 0], [0, 0, 0, 0, 0, 0, 796, 0, 0, 0, 753, 0, 0, 0, 0, 757, 0, 0, 0, 0, 0, 0, 0, 0, 0], [0, 0, 0, 0, 0, 0, 0, 0, 0, 0, 0, 0, 0, 0, 0, 0]]
def sm_ps7 : List (List Nat) := [[0, 0, 0, 0, 0, 0, 0, 0, 0, 0, 0, 0, 0, 0, 0, 0, 0, 0, 0, 0, 0, 0, 0, 0, 0, 0, 0, 0, 0, 0, 0, 0, 0], [0, 650, 0, 0, 0, 0, 0, 0, 0], [0, 629, 0, 0, 0, 0, 0, 0, 0, 0, 0, 649, 0, 0, 0, 0, 0, 0, 649, 0, 0, 0, 0, 753, 0, 0, 0, 0, 0, 0, 650, 0, 0, 0, 0, 0, 0, 649, 0, 0, 0, 0, 0, 0, 757, 0, 0, 0, 649, 0, 0, 0, 0, 0, 0, 0, 0, 0, 0, 0, 0, 0], [0, 0, 0, 0, 0, 0, 629, 0, 0, 0, 0, 0, 769, 781, 0, 0, 0, 0, 0, 0, 0, 629, 0, 0, 0, 0, 0, 0, 650, 0, 0, 0, 0, 0, 0, 0, 0, 0, 0, 0, 0, 0], [0, 0, 0, 0, 0, 0, 650, 0, 0, 0, 0, 0, 0, 0, 0, 650, 0, 0, 0, 0, 0, 0, 650, 0, 0, 0, 0, 0, 0, 0, 0, 650, 0, 0, 0, 0, 0, 0, 0, 0, 0, 0], [0, 0, 0, 0, 629, 0, 0, 0, 0, 0, 0, 769, 0, 0, 0, 0, 0, 0, 0, 0, 0, 0, 0, 0, 629, 0, 0, 650, 0, 0, 0, 0, 0, 0, 0, 0, 769, 0, 0, 0, 769, 0, 0, 0, 0, 769, 0, 0, 0, 0, 0, 0, 0, 0, 777, 0, 0, 0], [0, 629, 0, 0, 0, 0, 0, 0, 0, 0, 0, 0, 0, 0, 0, 0, 0, 0, 0, 0, 0, 0, 0, 0, 769, 0, 0, 0, 0, 0, 0, 0, 0, 0, 0, 0, 0, 0, 0, 0, 0, 0, 773, 0, 0, 777, 0, 0, 0, 784, 0, 651, 0, 0, 0, 0, 0, 0, 0, 0, 0, 0, 0, 0, 0], [0, 629, 0, 0, 0, 0, 0, 0, 0, 0, 0, 0, 0, 0, 0, 651, 0, 0, 769, 0, 0, 0, 0, 0, 0, 0, 0, 0, 0, 0, 0, 0, 0, 0, 0, 0, 769, 0, 781, 0, 0, 0, 0, 0, 0, 0, 0, 0, 0, 0, 0, 0, 652, 0, 651, 0, 0, 0, 0, 0, 0, 0, 769, 0, 0, 0, 0, 651, 0, 0, 769, 0, 0, 0, 0, 0, 652, 0, 0, 0, 0, 0, 0, 0, 0, 0, 0, 0, 0, 652, 0, 0, 781, 0, 0, 0, 0, 0, 0, 0, 0, 0, 652, 0, 0, 0, 0, 0, 0, 0, 0, 0], [0, 0, 0, 0, 0, 0, 629, 0, 0, 0, 0, 652, 0, 0, 0, 0, 0, 0, 0, 0, 0, 0, 0, 0, 0, 0, 0, 796, 0, 0, 0, 0, 0, 753, 0, 0, 0, 0, 0, 0, 629, 0, 0, 0, 652, 0, 0, 0, 0, 757, 0, 0, 0, 0, 0, 0, 0, 0, 0, 0, 0, 0, 0, 0, 0, 0, 0, 0], [0, 0, 0, 0, 629, 0, 0, 652, 0, 0, 0, 646, 0, 0, 0, 0, 645, 0, 0, 0, 0, 0, 0, 0, 0, 0, 0, 0, 0, 0, 0, 0, 0, 0, 0, 0, 0], [0, 0, 0, 0, 0, 0, 629, 0, 0, 0, 652, 0, 0, 0, 0, 0, 0, 0, 0, 0, 0, 647, 0, 0, 0, 0, 804, 0, 0, 0, 0, 0, 0, 0, 647, 0, 0, 0, 0, 804, 0, 0, 0, 0, 647, 0, 0, 0, 0, 647, 0, 0, 0, 0, 0, 0, 0, 0, 0, 0, 645, 0, 0, 0, 0, 0, 0, 645, 0, 0, 0, 0, 0, 0, 0, 0, 0, 0, 0, 0, 646, 0, 0, 646, 0, 0, 0, 0, 0, 0, 0, 0, 0, 0, 0, 0, 0, 645, 0, 0, 0, 0, 0, 0, 0, 629, 0, 0, 652, 0, 0, 0, 0, 0, 0, 0, 0, 646, 0, 0, 0, 0, 0, 647, 0, 0, 647, 0], [0, 629, 0, 0, 0, 0, 629, 0, 796, 0, 0, 0, 0, 0, 0, 0, 0, 0, 649, 0, 0, 0, 0, 0, 0, 0, 0, 0, 0, 0, 0, 0, 0, 0, 649, 0, 0, 0, 0, 0, 0, 0, 0, 0, 0, 0, 0, 0, 0, 649, 0, 0, 649, 0, 0, 0, 0, 0, 0, 0, 0, 0, 0, 0], [0, 648, 0, 0, 0, 0, 648, 0, 0, 647, 0, 0, 0, 0, 0, 0, 649, 0, 0, 0, 0, 0, 0, 0, 0, 0, 0, 749, 0, 765, 0, 0, 0, 0, 0, 0, 788, 0, 792, 0, 0, 800, 0, 808, 0, 0, 0], [0, 745, 0, 0, 0, 0, 647, 0, 0, 0, 707, 0], [0, 0, 0, 0, 0, 0, 629, 0, 0, 0, 645, 0, 0, 0, 0, 0, 0, 0, 0, 0, 0, 0, 0, 0, 0, 0, 0, 0, 0, 0, 0], [0, 745, 0, 0, 0, 0, 0, 0, 647, 0, 0, 0, 0, 875, 0, 0, 0, 0, 0, 0]]
def sm_ps8 : List (List Nat) := [[0, 0, 0, 0, 0, 0, 796, 0, 0, 0, 753, 0, 0, 0, 0, 0, 0, 629, 0, 0, 0, 645, 0, 0, 0, 0, 0, 0, 0, 0, 757, 0, 0, 0, 0, 0, 0, 0, 0, 0, 0, 0, 0, 0, 0, 0, 0, 0, 0, 0, 0, 0, 0], [0, 0, 705, 706, 707, 0, 0, 0, 0, 710, 0, 633, 0, 0, 0, 625, 0, 0], [0, 0, 0, 0, 707, 0, 0, 0, 0, 718, 0, 0, 0, 0, 0, 722, 723, 707, 0, 0, 0, 0, 710, 0, 0, 0, 0, 0, 0, 0, 0, 724, 0, 0, 0, 637, 0, 0, 0, 0, 637, 0, 0, 0, 0, 0, 648, 0, 0, 0, 0], [0, 0, 0, 718, 0, 0, 0, 0, 0, 0, 732, 707, 0, 0, 0, 0, 637, 0, 0, 0, 0, 724, 0, 0, 0, 0, 733, 0, 0, 0, 0, 0, 0, 0, 0, 710, 0, 637, 0, 0, 0, 0, 724, 0, 0, 0, 0, 0], [0, 0, 0, 0, 629, 0, 0, 0, 0, 637, 0, 0, 0, 0, 0, 0, 0, 0, 0, 645, 0, 0, 0, 0, 0, 0, 0, 0, 732, 0, 0, 0, 0, 0, 0, 0, 710, 0, 0, 0, 0, 629, 0, 0, 637, 0, 0, 0, 0, 0, 0, 637, 0, 0, 0, 0, 0, 0, 0, 0, 0, 645, 0, 0, 0, 0, 0, 0, 0, 0, 0, 0, 0, 0, 0, 733, 0], [0, 0, 741, 0, 0, 0, 0, 0, 812, 0, 0, 0], [0, 0, 741, 0, 0, 0, 0, 0, 0, 723, 707, 0, 0, 0, 0, 723, 707, 0, 0, 0, 0, 0, 0, 0, 0, 0, 0, 0, 812, 0], [0, 0, 0, 0, 0, 0, 629, 0, 0, 0, 637, 0, 0, 0, 0, 0, 0, 0, 0, 0, 0], [0, 637, 0, 0, 637, 0, 0, 0, 833, 0, 834, 0, 835, 0, 0, 0, 0, 637, 0, 0, 836, 0, 0, 733, 0, 0, 0, 0, 0, 637, 0, 0, 0, 0, 0, 0, 0, 0, 0, 637, 0, 0, 0, 0, 0, 0, 0, 0, 637, 0, 0, 0, 0, 0, 0, 0, 0, 0, 0], [0, 0, 0, 824, 707, 0, 0, 0, 0, 825, 0, 0, 0, 0, 0, 0, 0, 710, 0, 0, 0, 0, 0, 0, 0, 0, 829, 0, 0, 0, 0, 0], [0, 0, 0, 0, 0, 710, 0, 825, 0, 0, 0, 0, 0, 0, 0, 637, 0, 0, 0, 0, 0, 0, 0, 0, 637, 0, 0, 0, 0, 0], [0, 657, 0, 654, 0, 0, 653, 0, 657, 0, 0, 0, 0, 0, 0, 0, 0, 0, 657, 0, 0, 0, 0, 0, 0, 657, 0, 0], [0, 0, 857, 0, 0, 657, 0, 654, 0, 0, 653, 0, 657, 0, 0, 861, 862, 707, 0, 0, 0, 0, 655, 0, 0, 0, 0, 0, 653, 0, 657, 0, 0, 0, 0, 653, 0, 657, 0, 0, 0, 0, 0, 0, 657, 0, 0, 657, 0, 0], [0, 656, 0, 0, 0, 0, 0, 0, 0, 0, 0, 0, 0, 656, 0, 0, 0, 0, 0, 0, 853, 0, 0, 0, 857, 0, 0, 0, 0, 0, 853, 0, 0, 0, 0, 656, 0, 0, 0, 0, 0, 0, 0, 656, 0, 0, 0, 0, 0, 0, 0, 656, 0, 0, 0, 0, 0, 857, 0, 0, 0, 0, 0, 0, 0, 0, 0, 656, 0, 0, 0, 0, 0, 0, 857, 0, 0, 0, 0, 0, 0, 656, 0, 0, 0, 656, 0, 0, 0, 0, 657, 0, 654, 0, 0, 0, 0, 0], [0, 0, 657, 0, 0, 849, 0, 0, 0, 849, 0, 0, 0, 0, 657, 0], [0, 845, 0, 0, 0, 0, 0, 710, 0, 0, 656, 0, 0, 625, 0, 0, 0, 0, 0, 0, 0, 0, 0, 629, 0, 0, 637, 0, 0, 0, 0, 0, 0, 0, 0, 655, 0, 0, 0, 0, 0, 0, 633, 0, 0, 0, 0, 0, 633, 0, 0, 0, 0, 0, 0, 0, 0, 0, 0, 654, 0, 633, 0]]
def sm_ps9 : List (List Nat) := [[0, 0, 0, 718, 0, 0, 0, 0, 0, 0, 724, 0, 0, 0, 0, 0, 0, 761, 0, 0, 0, 0, 637, 0, 0, 0, 0, 0, 0, 637, 0, 0, 0, 0, 0, 0, 0, 867, 0, 0, 0, 0, 0, 0, 871, 0, 0, 0, 0, 0, 0, 0], [0, 0, 0, 0, 796, 0, 0, 0, 707, 0, 0, 0, 0, 0, 753, 0, 0, 0, 642, 0, 0, 643, 0, 0, 644, 0, 0, 0, 0, 883, 887, 0, 0, 887, 0, 0, 0, 883, 0, 0, 0, 0], [0, 0, 0, 0, 0, 0, 629, 0, 0, 0, 637, 0, 0, 0, 0, 0, 0, 0, 761, 0, 0, 0, 0, 0, 0, 0], [0, 745, 0, 647, 0], [0, 0, 0, 633, 0, 0, 629, 0, 0, 796, 0, 0, 733, 0, 0, 892, 0, 0, 0, 0, 0, 0, 892, 0, 0, 896, 0, 0, 825, 0, 0, 0, 0, 0, 900, 904, 0, 0, 0, 637, 0, 0, 0, 0, 654, 0, 0, 639, 0, 0, 0], [0, 0, 0, 0, 0, 0, 761, 0, 0, 0, 761, 0, 0, 0, 0, 0, 761, 0], [0, 0, 0, 705, 707, 0, 0, 0, 0, 0, 0, 0, 0, 0, 629, 0, 0, 0, 637, 0, 0, 0, 0, 0, 0, 0, 0, 909, 0, 0, 0, 0, 0, 0, 913, 0, 0, 0, 733, 0, 914, 0, 904, 0, 0], [0, 0, 741, 0, 0, 0, 0, 0, 0, 0, 629, 0, 0, 0, 707, 0, 0, 645, 0, 0, 0, 0, 0, 0, 0, 0, 0, 0, 0, 0, 646, 0, 0, 0, 0, 0, 0, 0, 0, 0, 875, 0, 0, 0, 0, 0, 0, 921, 0, 0, 0], [0, 0, 0, 0, 0, 0, 629, 0, 0, 0, 645, 0, 0, 0, 0, 0, 0, 0, 0, 0, 909, 0, 0, 0, 0, 0, 0, 0, 0], [0, 0, 0, 705, 707, 0, 0, 0, 0, 0, 707, 0, 0, 0, 0, 745, 0, 0, 0, 0, 0, 0, 647, 0, 0, 0, 0, 929, 0, 646, 0, 0, 0, 0, 0, 0, 929, 0, 646, 0, 0, 0, 0, 0, 0, 0, 0, 0, 0, 0, 0, 0, 0, 0, 913, 0, 0, 0, 929, 0, 0, 646, 0, 0, 914, 0, 904, 0, 0], [0, 0, 0, 0, 707, 0, 0, 0, 0, 871, 0, 0, 0, 0, 0, 0, 0, 629, 0, 0, 0, 0, 0, 633, 0, 0, 0, 0, 633, 0, 0, 0, 0, 0, 0, 0, 0, 0, 0, 0, 0, 0, 0, 0, 0, 0, 0, 0, 0, 0, 0, 0, 0, 0, 0, 0, 0, 633, 0, 0, 0, 0, 0], [0, 0, 0, 0, 0, 0, 629, 0, 0, 0, 0, 867, 0, 0, 0, 0, 0, 0, 0, 0, 0, 0, 0, 0], [0, 0, 0, 0, 0, 0, 0, 0, 0, 0, 945, 0, 0, 0, 0, 0, 0, 0, 945, 0, 946, 947, 707, 0, 0, 0, 0, 0, 0, 0, 0, 0, 0, 0, 0, 0, 0, 0, 0, 0, 0, 0, 0, 0, 0, 654, 0, 0, 0, 0, 0, 0, 0, 0, 0, 0, 0, 0, 0, 653, 0, 654, 0, 0, 0, 0, 0, 945, 0, 0, 0, 0, 0, 654, 0, 0, 654, 0, 0, 0, 654, 0], [0, 654, 0, 0, 0, 654, 0, 0], [0, 845, 0], [0, 639, 0, 0, 0, 0, 0, 639, 0, 0, 639, 0, 0, 0, 0, 0, 0, 637, 0, 0, 638, 0, 0, 639, 0, 0, 0, 0, 0, 0, 0, 0, 0, 648, 0, 639, 0]]
def sm_ps10 : List (List Nat) := [[0, 0, 0, 0, 707, 0, 0, 0, 0, 0, 0, 0, 0, 0, 640, 0, 0, 0, 0, 0, 0, 637, 0, 0, 0, 0, 0, 0, 641, 0, 0, 0, 0, 825, 0], [0, 0, 0, 0, 707, 0, 0, 0, 0, 641, 0, 0, 0, 0, 0, 0, 710, 0, 0, 0, 0, 0, 0, 637, 0, 0, 640, 0, 0, 0, 0, 0, 0, 0, 0, 0, 0, 0, 648, 0, 825, 0], [0, 0, 0, 0, 0, 0, 0, 0, 0, 0, 0, 0, 0, 0, 0, 0, 0, 0, 0, 0, 0, 0], [0, 0, 0, 0, 0, 0, 0, 0], [0, 0, 0, 0, 0, 0, 0, 0], [78, 0, 80, 0, 619, 0, 621, 0, 0, 0, 0, 0, 0, 0, 0, 0, 0, 0, 0, 0, 0, 0, 0, 0, 0, 0, 0, 0, 225, 0, 0, 0, 0, 0, 0, 701, 0, 0, 0, 0, 0, 0, 0, 0, 0, 0, 0, 0, 0, 0, 0, 0, 0, 0, 0, 0, 0, 0, 0, 0, 245, 0, 0, 0, 0, 0, 0, 0, 0, 0, 0, 0, 0, 0, 0, 0, 0, 0, 0, 0, 0, 0, 714, 0, 0, 0, 0, 0, 0, 0, 0, 0, 0, 0, 0, 0, 0, 0, 0, 0, 0, 0, 274, 0, 0, 0, 0, 0, 0, 0, 0, 0, 0, 0, 0, 0, 0, 0, 0, 728, 0, 0, 0, 0, 0, 0, 0, 0, 0, 283, 0, 0, 0, 0, 0, 0, 737, 0, 0, 0, 0, 0, 0, 0, 0, 0, 0, 0, 0, 0, 0, 0, 0, 0, 0, 0, 429, 0, 0, 0, 0, 0, 0, 0, 0, 0, 0, 0, 0, 0, 0, 0, 0, 816, 0, 0, 0, 0, 0, 0, 0, 0, 0, 433, 0, 0, 0, 0, 0, 0, 820, 0, 0, 0, 0, 0, 0, 0, 0, 0, 446, 0, 0, 0, 0, 0, 0, 837, 0, 0, 0, 0, 451, 0, 841, 0, 0, 0, 0, 0, 0, 0, 0, 0, 0, 0, 0, 0, 0, 0, 0, 0, 0, 0, 489, 0, 0, 0, 0, 0, 0, 0, 0, 0, 0, 0, 0, 0, 0, 0, 0, 863, 0, 0, 0, 0, 0, 0, 0, 0, 0, 0, 0, 0, 0, 0, 507, 0, 0, 0, 0, 0, 0, 0, 0, 0, 0, 0, 879, 0, 0, 0, 0, 0, 0, 0, 0, 0, 520, 0, 0, 0, 0, 0, 0, 888, 0, 0, 0, 0, 0, 0, 0, 0, 0, 538, 0, 0, 0, 0, 0, 0, 905, 0, 0, 0, 0, 0, 0, 0, 0, 0, 0, 0, 0, 0, 0, 552, 0, 0, 0, 0, 0, 0, 0, 0, 0, 0, 0, 917, 0, 0, 0, 0, 0, 0, 0, 0, 0, 0, 0, 0, 0, 0, 562, 0, 0, 0, 0, 0, 0, 0, 0, 0, 0, 0, 925, 0, 0, 0, 0, 0, 0, 0, 0, 0, 576, 0, 0, 0, 0, 0, 0, 933, 0, 0, 0, 0, 581, 0, 937, 0, 0, 0, 0, 0, 0, 0, 0, 0, 0, 0, 0, 0, 0, 0, 0, 0, 0, 968, 0, 0, 585, 0, 0, 0, 0, 0, 0, 0, 0, 0, 0, 0, 0, 0, 0, 0, 968, 0, 0, 941, 0, 0, 0, 0, 599, 0, 948, 0, 0, 0, 0, 603, 0, 952, 0, 0, 0, 0, 607, 0, 956, 0, 0, 0, 0, 0, 0, 0, 0, 0, 611, 0, 0, 0, 0, 0, 0, 960, 0, 0, 0, 0, 0, 0, 0, 0, 0, 615, 0, 0, 0, 0, 0, 0, 964, 0, 0, 0, 0, 0, 0, 0]]
def sm_ps (i : Nat) : List Nat := bif Nat.blt i 16 then sm_ps0.getD (i - 0) [] else bif Nat.blt i 32 then sm_ps1.getD (i - 16) [] else bif Nat.blt i 48 then sm_ps2.getD (i - 32) [] else bif Nat.blt i 64 then sm_ps3.getD (i - 48) [] else bif Nat.blt i 80 then sm_ps4.getD (i - 64) [] else bif Nat.blt i 96 then sm_ps5.getD (i - 80) [] else bif Nat.blt i 112 then sm_ps6.getD (i - 96) [] else bif Nat.blt i 128 then sm_ps7.getD (i - 112) [] else bif Nat.blt i 144 then sm_ps8.getD (i - 128) [] else bif Nat.blt i 160 then sm_ps9.getD (i - 144) [] else bif Nat.blt i 176 then sm_ps10.getD (i - 160) [] else []
def sm_mw : List (Nat × Nat × Nat × Nat) := [(130, 73, 129, 0), (290, 73, 288, 289), (417, 73, 415, 416), (354, 73, 352, 353), (408, 73, 406, 407), (506, 73, 504, 505), (561, 73, 559, 560), (502, 73, 500, 501), (573, 73, 571, 572), (569, 73, 567, 568), (367, 73, 366, 12), (359, 73, 358, 10), (299, 73, 298, 3), (323, 73, 322, 8), (371, 73, 370, 13), (327, 73, 326, 9), (375, 73, 374, 14), (363, 73, 362, 11), (379, 73, 378, 15), (383, 73, 382, 16), (303, 73, 302, 4), (307, 73, 306, 5), (311, 73, 310, 6), (315, 73, 314, 7), (396, 73, 395, 17), (400, 73, 399, 18), (404, 73, 403, 19), (412, 73, 411, 20), (386, 73, 385, 0), (172, 74, 171, 0), (591, 74, 590, 0), (598, 74, 596, 597), (487, 74, 485, 486), (458, 74, 456, 457), (462, 74, 461, 23), (466, 74, 465, 24), (470, 74, 469, 25), (475, 74, 474, 26), (483, 74, 482, 28), (479, 74, 478, 27), (90, 72, 89, 0), (95, 72, 93, 94), (240, 72, 238, 239), (294, 72, 292, 293), (102, 72, 100, 101), (259, 72, 257, 258), (339, 72, 337, 338), (263, 72, 261, 262), (270, 72, 268, 269), (536, 72, 534, 535), (532, 72, 530, 531), (319, 72, 317, 318), (335, 72, 333, 334), (343, 72, 341, 342), (347, 72, 345, 346), (331, 72, 329, 330), (518, 72, 516, 517), (527, 72, 525, 526), (496, 72, 494, 495), (440, 72, 438, 439), (82, 71, 81, 0), (228, 71, 226, 227), (248, 71, 246, 247), (277, 71, 275, 276), (286, 71, 284, 285), (432, 71, 430, 431), (436, 71, 434, 435), (449, 71, 447, 448), (454, 71, 452, 453), (492, 71, 490, 491), (510, 71, 508, 509), (523, 71, 521, 522), (541, 71, 539, 540), (555, 71, 553, 554), (565, 71, 563, 564), (579, 71, 577, 578), (584, 71, 582, 583), (588, 71, 586, 587), (602, 71, 600, 601), (606, 71, 604, 605), (610, 71, 608, 609), (614, 71, 612, 613), (618, 71, 616, 617), (251, 71, 250, 0), (544, 71, 543, 0), (255, 71, 254, 2), (421, 71, 420, 21), (426, 71, 425, 22), (547, 71, 546, 0), (232, 71, 231, 0), (236, 71, 235, 1), (266, 71, 265, 0), (273, 71, 272, 0), (98, 71, 97, 0), (281, 71, 280, 0), (623, 75, 622, 0), (709, 75, 708, 0), (713, 75, 712, 32), (636, 75, 635, 31), (632, 75, 631, 30), (799, 75, 798, 49), (628, 75, 627, 29), (764, 75, 763, 41), (721, 75, 720, 33), (727, 75, 726, 34), (756, 75, 755, 39), (760, 75, 759, 40), (886, 75, 885, 63), (736, 75, 735, 35), (895, 75, 894, 64), (870, 75, 869, 60), (916, 75, 915, 0), (783, 75, 782, 0), (772, 75, 771, 43), (752, 75, 751, 38), (780, 75, 779, 45), (776, 75, 775, 44), (787, 75, 786, 46), (768, 75, 767, 42), (791, 75, 790, 47), (795, 75, 794, 48), (807, 75, 806, 51), (803, 75, 802, 50), (811, 75, 810, 52), (748, 75, 747, 37), (744, 75, 743, 36), (878, 75, 877, 62), (874, 75, 873, 61), (924, 75, 923, 68), (704, 75, 702, 703), (717, 75, 715, 716), (731, 75, 729, 730), (815, 75, 814, 53), (740, 75, 738, 739), (819, 75, 817, 818), (828, 75, 827, 54), (832, 75, 831, 55), (823, 75, 821, 822), (840, 75, 838, 839), (860, 75, 859, 59), (856, 75, 855, 58), (852, 75, 851, 57), (848, 75, 847, 56), (844, 75, 842, 843), (866, 75, 864, 865), (882, 75, 880, 881), (903, 75, 902, 66), (899, 75, 898, 65), (891, 75, 889, 890), (912, 75, 911, 67), (908, 75, 906, 907), (920, 75, 918, 919), (932, 75, 931, 69), (928, 75, 926, 927), (936, 75, 934, 935), (940, 75, 938, 939), (944, 75, 942, 943), (951, 75, 949, 950), (955, 75, 953, 954), (959, 75, 957, 958), (963, 75, 961, 962), (967, 75, 965, 966), (551, 77, 550, 0), (389, 77, 388, 0), (392, 77, 391, 0)]
def sm_zB (P : SP) : List AE → List Nat → Bool
  | [], _ => true
  | q :: r, p :: ps => sm_eB P q p && sm_zB P r ps
  | _ :: _, [] => false
def sm_iB (i : Nat) : Bool := sm_zB (sm_P i) (am_M i).1 (sm_ps i) && (decide ((am_M i).2.1 = (sm_P i).2.2.1) && sm_rB (am_M i).2.2.1 (sm_P i).2.2.2.1)
set_option maxRecDepth 100000 in
theorem sm_mws : ((List.range 165).zip sm_mw).all (fun x => sm_mB (sm_P x.1) x.2.1 x.2.2.1 x.2.2.2.1 x.2.2.2.2) = true := by decide +kernel
set_option maxRecDepth 100000 in
theorem sm_cw0 : lw_tbl[130]? = some (Cond.code (sm_P 0).1 (sm_P 0).2.1 (sm_P 0).2.2.1 (sm_P 0).2.2.2.1) := rfl
set_option maxRecDepth 100000 in
theorem sm_cw1 : lw_tbl[290]? = some (Cond.code (sm_P 1).1 (sm_P 1).2.1 (sm_P 1).2.2.1 (sm_P 1).2.2.2.1) := rfl
set_option maxRecDepth 100000 in
theorem sm_cw2 : lw_tbl[417]? = some (Cond.code (sm_P 2).1 (sm_P 2).2.1 (sm_P 2).2.2.1 (sm_P 2).2.2.2.1) := rfl
set_option maxRecDepth 100000 in
theorem sm_cw3 : lw_tbl[354]? = some (Cond.code (sm_P 3).1 (sm_P 3).2.1 (sm_P 3).2.2.1 (sm_P 3).2.2.2.1) := rfl
set_option maxRecDepth 100000 in
theorem sm_cw4 : lw_tbl[408]? = some (Cond.code (sm_P 4).1 (sm_P 4).2.1 (sm_P 4).2.2.1 (sm_P 4).2.2.2.1) := rfl
set_option maxRecDepth 100000 in
theorem sm_cw5 : lw_tbl[506]? = some (Cond.code (sm_P 5).1 (sm_P 5).2.1 (sm_P 5).2.2.1 (sm_P 5).2.2.2.1) := rfl
set_option maxRecDepth 100000 in
theorem sm_cw6 : lw_tbl[561]? = some (Cond.code (sm_P 6).1 (sm_P 6).2.1 (sm_P 6).2.2.1 (sm_P 6).2.2.2.1) := rfl
set_option maxRecDepth 100000 in
theorem sm_cw7 : lw_tbl[502]? = some (Cond.code (sm_P 7).1 (sm_P 7).2.1 (sm_P 7).2.2.1 (sm_P 7).2.2.2.1) := rfl
set_option maxRecDepth 100000 in
theorem sm_cw8 : lw_tbl[573]? = some (Cond.code (sm_P 8).1 (sm_P 8).2.1 (sm_P 8).2.2.1 (sm_P 8).2.2.2.1) := rfl
set_option maxRecDepth 100000 in
theorem sm_cw9 : lw_tbl[569]? = some (Cond.code (sm_P 9).1 (sm_P 9).2.1 (sm_P 9).2.2.1 (sm_P 9).2.2.2.1) := rfl
set_option maxRecDepth 100000 in
theorem sm_cw10 : lw_tbl[367]? = some (Cond.code (sm_P 10).1 (sm_P 10).2.1 (sm_P 10).2.2.1 (sm_P 10).2.2.2.1) := rfl
set_option maxRecDepth 100000 in
theorem sm_cw11 : lw_tbl[359]? = some (Cond.code (sm_P 11).1 (sm_P 11).2.1 (sm_P 11).2.2.1 (sm_P 11).2.2.2.1) := rfl
set_option maxRecDepth 100000 in
theorem sm_cw12 : lw_tbl[299]? = some (Cond.code (sm_P 12).1 (sm_P 12).2.1 (sm_P 12).2.2.1 (sm_P 12).2.2.2.1) := rfl
set_option maxRecDepth 100000 in
theorem sm_cw13 : lw_tbl[323]? = some (Cond.code (sm_P 13).1 (sm_P 13).2.1 (sm_P 13).2.2.1 (sm_P 13).2.2.2.1) := rfl
set_option maxRecDepth 100000 in
theorem sm_cw14 : lw_tbl[371]? = some (Cond.code (sm_P 14).1 (sm_P 14).2.1 (sm_P 14).2.2.1 (sm_P 14).2.2.2.1) := rfl
set_option maxRecDepth 100000 in
theorem sm_cw15 : lw_tbl[327]? = some (Cond.code (sm_P 15).1 (sm_P 15).2.1 (sm_P 15).2.2.1 (sm_P 15).2.2.2.1) := rfl
set_option maxRecDepth 100000 in
theorem sm_cw16 : lw_tbl[375]? = some (Cond.code (sm_P 16).1 (sm_P 16).2.1 (sm_P 16).2.2.1 (sm_P 16).2.2.2.1) := rfl
set_option maxRecDepth 100000 in
theorem sm_cw17 : lw_tbl[363]? = some (Cond.code (sm_P 17).1 (sm_P 17).2.1 (sm_P 17).2.2.1 (sm_P 17).2.2.2.1) := rfl
set_option maxRecDepth 100000 in
theorem sm_cw18 : lw_tbl[379]? = some (Cond.code (sm_P 18).1 (sm_P 18).2.1 (sm_P 18).2.2.1 (sm_P 18).2.2.2.1) := rfl
set_option maxRecDepth 100000 in
theorem sm_cw19 : lw_tbl[383]? = some (Cond.code (sm_P 19).1 (sm_P 19).2.1 (sm_P 19).2.2.1 (sm_P 19).2.2.2.1) := rfl
set_option maxRecDepth 100000 in
theorem sm_cw20 : lw_tbl[303]? = some (Cond.code (sm_P 20).1 (sm_P 20).2.1 (sm_P 20).2.2.1 (sm_P 20).2.2.2.1) := rfl
set_option maxRecDepth 100000 in
theorem sm_cw21 : lw_tbl[307]? = some (Cond.code (sm_P 21).1 (sm_P 21).2.1 (sm_P 21).2.2.1 (sm_P 21).2.2.2.1) := rfl
set_option maxRecDepth 100000 in
theorem sm_cw22 : lw_tbl[311]? = some (Cond.code (sm_P 22).1 (sm_P 22).2.1 (sm_P 22).2.2.1 (sm_P 22).2.2.2.1) := rfl
set_option maxRecDepth 100000 in
theorem sm_cw23 : lw_tbl[315]? = some (Cond.code (sm_P 23).1 (sm_P 23).2.1 (sm_P 23).2.2.1 (sm_P 23).2.2.2.1) := rfl
set_option maxRecDepth 100000 in
theorem sm_cw24 : lw_tbl[396]? = some (Cond.code (sm_P 24).1 (sm_P 24).2.1 (sm_P 24).2.2.1 (sm_P 24).2.2.2.1) := rfl
set_option maxRecDepth 100000 in
theorem sm_cw25 : lw_tbl[400]? = some (Cond.code (sm_P 25).1 (sm_P 25).2.1 (sm_P 25).2.2.1 (sm_P 25).2.2.2.1) := rfl
set_option maxRecDepth 100000 in
theorem sm_cw26 : lw_tbl[404]? = some (Cond.code (sm_P 26).1 (sm_P 26).2.1 (sm_P 26).2.2.1 (sm_P 26).2.2.2.1) := rfl
set_option maxRecDepth 100000 in
theorem sm_cw27 : lw_tbl[412]? = some (Cond.code (sm_P 27).1 (sm_P 27).2.1 (sm_P 27).2.2.1 (sm_P 27).2.2.2.1) := rfl
set_option maxRecDepth 100000 in
theorem sm_cw28 : lw_tbl[386]? = some (Cond.code (sm_P 28).1 (sm_P 28).2.1 (sm_P 28).2.2.1 (sm_P 28).2.2.2.1) := rfl
set_option maxRecDepth 100000 in
theorem sm_cw29 : lw_tbl[172]? = some (Cond.code (sm_P 29).1 (sm_P 29).2.1 (sm_P 29).2.2.1 (sm_P 29).2.2.2.1) := rfl
set_option maxRecDepth 100000 in
theorem sm_cw30 : lw_tbl[591]? = some (Cond.code (sm_P 30).1 (sm_P 30).2.1 (sm_P 30).2.2.1 (sm_P 30).2.2.2.1) := rfl
set_option maxRecDepth 100000 in
theorem sm_cw31 : lw_tbl[598]? = some (Cond.code (sm_P 31).1 (sm_P 31).2.1 (sm_P 31).2.2.1 (sm_P 31).2.2.2.1) := rfl
set_option maxRecDepth 100000 in
theorem sm_cw32 : lw_tbl[487]? = some (Cond.code (sm_P 32).1 (sm_P 32).2.1 (sm_P 32).2.2.1 (sm_P 32).2.2.2.1) := rfl
set_option maxRecDepth 100000 in
theorem sm_cw33 : lw_tbl[458]? = some (Cond.code (sm_P 33).1 (sm_P 33).2.1 (sm_P 33).2.2.1 (sm_P 33).2.2.2.1) := rfl
set_option maxRecDepth 100000 in
theorem sm_cw34 : lw_tbl[462]? = some (Cond.code (sm_P 34).1 (sm_P 34).2.1 (sm_P 34).2.2.1 (sm_P 34).2.2.2.1) := rfl
set_option maxRecDepth 100000 in
theorem sm_cw35 : lw_tbl[466]? = some (Cond.code (sm_P 35).1 (sm_P 35).2.1 (sm_P 35).2.2.1 (sm_P 35).2.2.2.1) := rfl
set_option maxRecDepth 100000 in
theorem sm_cw36 : lw_tbl[470]? = some (Cond.code (sm_P 36).1 (sm_P 36).2.1 (sm_P 36).2.2.1 (sm_P 36).2.2.2.1) := rfl
set_option maxRecDepth 100000 in
theorem sm_cw37 : lw_tbl[475]? = some (Cond.code (sm_P 37).1 (sm_P 37).2.1 (sm_P 37).2.2.1 (sm_P 37).2.2.2.1) := rfl
set_option maxRecDepth 100000 in
theorem sm_cw38 : lw_tbl[483]? = some (Cond.code (sm_P 38).1 (sm_P 38).2.1 (sm_P 38).2.2.1 (sm_P 38).2.2.2.1) := rfl
set_option maxRecDepth 100000 in
theorem sm_cw39 : lw_tbl[479]? = some (Cond.code (sm_P 39).1 (sm_P 39).2.1 (sm_P 39).2.2.1 (sm_P 39).2.2.2.1) := rfl
set_option maxRecDepth 100000 in
theorem sm_cw40 : lw_tbl[90]? = some (Cond.code (sm_P 40).1 (sm_P 40).2.1 (sm_P 40).2.2.1 (sm_P 40).2.2.2.1) := rfl
set_option maxRecDepth 100000 in
theorem sm_cw41 : lw_tbl[95]? = some (Cond.code (sm_P 41).1 (sm_P 41).2.1 (sm_P 41).2.2.1 (sm_P 41).2.2.2.1) := rfl
set_option maxRecDepth 100000 in
theorem sm_cw42 : lw_tbl[240]? = some (Cond.code (sm_P 42).1 (sm_P 42).2.1 (sm_P 42).2.2.1 (sm_P 42).2.2.2.1) := rfl
set_option maxRecDepth 100000 in
theorem sm_cw43 : lw_tbl[294]? = some (Cond.code (sm_P 43).1 (sm_P 43).2.1 (sm_P 43).2.2.1 (sm_P 43).2.2.2.1) := rfl
set_option maxRecDepth 100000 in
theorem sm_cw44 : lw_tbl[102]? = some (Cond.code (sm_P 44).1 (sm_P 44).2.1 (sm_P 44).2.2.1 (sm_P 44).2.2.2.1) := rfl
set_option maxRecDepth 100000 in
theorem sm_cw45 : lw_tbl[259]? = some (Cond.code (sm_P 45).1 (sm_P 45).2.1 (sm_P 45).2.2.1 (sm_P 45).2.2.2.1) := rfl
set_option maxRecDepth 100000 in
theorem sm_cw46 : lw_tbl[339]? = some (Cond.code (sm_P 46).1 (sm_P 46).2.1 (sm_P 46).2.2.1 (sm_P 46).2.2.2.1) := rfl
set_option maxRecDepth 100000 in
theorem sm_cw47 : lw_tbl[263]? = some (Cond.code (sm_P 47).1 (sm_P 47).2.1 (sm_P 47).2.2.1 (sm_P 47).2.2.2.1) := rfl
set_option maxRecDepth 100000 in
theorem sm_cw48 : lw_tbl[270]? = some (Cond.code (sm_P 48).1 (sm_P 48).2.1 (sm_P 48).2.2.1 (sm_P 48).2.2.2.1) := rfl
set_option maxRecDepth 100000 in
theorem sm_cw49 : lw_tbl[536]? = some (Cond.code (sm_P 49).1 (sm_P 49).2.1 (sm_P 49).2.2.1 (sm_P 49).2.2.2.1) := rfl
set_option maxRecDepth 100000 in
theorem sm_cw50 : lw_tbl[532]? = some (Cond.code (sm_P 50).1 (sm_P 50).2.1 (sm_P 50).2.2.1 (sm_P 50).2.2.2.1) := rfl
set_option maxRecDepth 100000 in
theorem sm_cw51 : lw_tbl[319]? = some (Cond.code (sm_P 51).1 (sm_P 51).2.1 (sm_P 51).2.2.1 (sm_P 51).2.2.2.1) := rfl
set_option maxRecDepth 100000 in
theorem sm_cw52 : lw_tbl[335]? = some (Cond.code (sm_P 52).1 (sm_P 52).2.1 (sm_P 52).2.2.1 (sm_P 52).2.2.2.1) := rfl
set_option maxRecDepth 100000 in
theorem sm_cw53 : lw_tbl[343]? = some (Cond.code (sm_P 53).1 (sm_P 53).2.1 (sm_P 53).2.2.1 (sm_P 53).2.2.2.1) := rfl
set_option maxRecDepth 100000 in
theorem sm_cw54 : lw_tbl[347]? = some (Cond.code (sm_P 54).1 (sm_P 54).2.1 (sm_P 54).2.2.1 (sm_P 54).2.2.2.1) := rfl
set_option maxRecDepth 100000 in
theorem sm_cw55 : lw_tbl[331]? = some (Cond.code (sm_P 55).1 (sm_P 55).2.1 (sm_P 55).2.2.1 (sm_P 55).2.2.2.1) := rfl
set_option maxRecDepth 100000 in
theorem sm_cw56 : lw_tbl[518]? = some (Cond.code (sm_P 56).1 (sm_P 56).2.1 (sm_P 56).2.2.1 (sm_P 56).2.2.2.1) := rfl
set_option maxRecDepth 100000 in
theorem sm_cw57 : lw_tbl[527]? = some (Cond.code (sm_P 57).1 (sm_P 57).2.1 (sm_P 57).2.2.1 (sm_P 57).2.2.2.1) := rfl
set_option maxRecDepth 100000 in
theorem sm_cw58 : lw_tbl[496]? = some (Cond.code (sm_P 58).1 (sm_P 58).2.1 (sm_P 58).2.2.1 (sm_P 58).2.2.2.1) := rfl
set_option maxRecDepth 100000 in
theorem sm_cw59 : lw_tbl[440]? = some (Cond.code (sm_P 59).1 (sm_P 59).2.1 (sm_P 59).2.2.1 (sm_P 59).2.2.2.1) := rfl
set_option maxRecDepth 100000 in
theorem sm_cw60 : lw_tbl[82]? = some (Cond.code (sm_P 60).1 (sm_P 60).2.1 (sm_P 60).2.2.1 (sm_P 60).2.2.2.1) := rfl
set_option maxRecDepth 100000 in
theorem sm_cw61 : lw_tbl[228]? = some (Cond.code (sm_P 61).1 (sm_P 61).2.1 (sm_P 61).2.2.1 (sm_P 61).2.2.2.1) := rfl
set_option maxRecDepth 100000 in
theorem sm_cw62 : lw_tbl[248]? = some (Cond.code (sm_P 62).1 (sm_P 62).2.1 (sm_P 62).2.2.1 (sm_P 62).2.2.2.1) := rfl
set_option maxRecDepth 100000 in
theorem sm_cw63 : lw_tbl[277]? = some (Cond.code (sm_P 63).1 (sm_P 63).2.1 (sm_P 63).2.2.1 (sm_P 63).2.2.2.1) := rfl
set_option maxRecDepth 100000 in
theorem sm_cw64 : lw_tbl[286]? = some (Cond.code (sm_P 64).1 (sm_P 64).2.1 (sm_P 64).2.2.1 (sm_P 64).2.2.2.1) := rfl
set_option maxRecDepth 100000 in
theorem sm_cw65 : lw_tbl[432]? = some (Cond.code (sm_P 65).1 (sm_P 65).2.1 (sm_P 65).2.2.1 (sm_P 65).2.2.2.1) := rfl
set_option maxRecDepth 100000 in
theorem sm_cw66 : lw_tbl[436]? = some (Cond.code (sm_P 66).1 (sm_P 66).2.1 (sm_P 66).2.2.1 (sm_P 66).2.2.2.1) := rfl
set_option maxRecDepth 100000 in
theorem sm_cw67 : lw_tbl[449]? = some (Cond.code (sm_P 67).1 (sm_P 67).2.1 (sm_P 67).2.2.1 (sm_P 67).2.2.2.1) := rfl
set_option maxRecDepth 100000 in
theorem sm_cw68 : lw_tbl[454]? = some (Cond.code (sm_P 68).1 (sm_P 68).2.1 (sm_P 68).2.2.1 (sm_P 68).2.2.2.1) := rfl
set_option maxRecDepth 100000 in
theorem sm_cw69 : lw_tbl[492]? = some (Cond.code (sm_P 69).1 (sm_P 69).2.1 (sm_P 69).2.2.1 (sm_P 69).2.2.2.1) := rfl
set_option maxRecDepth 100000 in
theorem sm_cw70 : lw_tbl[510]? = some (Cond.code (sm_P 70).1 (sm_P 70).2.1 (sm_P 70).2.2.1 (sm_P 70).2.2.2.1) := rfl
set_option maxRecDepth 100000 in
theorem sm_cw71 : lw_tbl[523]? = some (Cond.code (sm_P 71).1 (sm_P 71).2.1 (sm_P 71).2.2.1 (sm_P 71).2.2.2.1) := rfl
set_option maxRecDepth 100000 in
theorem sm_cw72 : lw_tbl[541]? = some (Cond.code (sm_P 72).1 (sm_P 72).2.1 (sm_P 72).2.2.1 (sm_P 72).2.2.2.1) := rfl
set_option maxRecDepth 100000 in
theorem sm_cw73 : lw_tbl[555]? = some (Cond.code (sm_P 73).1 (sm_P 73).2.1 (sm_P 73).2.2.1 (sm_P 73).2.2.2.1) := rfl
set_option maxRecDepth 100000 in
theorem sm_cw74 : lw_tbl[565]? = some (Cond.code (sm_P 74).1 (sm_P 74).2.1 (sm_P 74).2.2.1 (sm_P 74).2.2.2.1) := rfl
set_option maxRecDepth 100000 in
theorem sm_cw75 : lw_tbl[579]? = some (Cond.code (sm_P 75).1 (sm_P 75).2.1 (sm_P 75).2.2.1 (sm_P 75).2.2.2.1) := rfl
set_option maxRecDepth 100000 in
theorem sm_cw76 : lw_tbl[584]? = some (Cond.code (sm_P 76).1 (sm_P 76).2.1 (sm_P 76).2.2.1 (sm_P 76).2.2.2.1) := rfl
set_option maxRecDepth 100000 in
theorem sm_cw77 : lw_tbl[588]? = some (Cond.code (sm_P 77).1 (sm_P 77).2.1 (sm_P 77).2.2.1 (sm_P 77).2.2.2.1) := rfl
set_option maxRecDepth 100000 in
theorem sm_cw78 : lw_tbl[602]? = some (Cond.code (sm_P 78).1 (sm_P 78).2.1 (sm_P 78).2.2.1 (sm_P 78).2.2.2.1) := rfl
set_option maxRecDepth 100000 in
theorem sm_cw79 : lw_tbl[606]? = some (Cond.code (sm_P 79).1 (sm_P 79).2.1 (sm_P 79).2.2.1 (sm_P 79).2.2.2.1) := rfl
set_option maxRecDepth 100000 in
theorem sm_cw80 : lw_tbl[610]? = some (Cond.code (sm_P 80).1 (sm_P 80).2.1 (sm_P 80).2.2.1 (sm_P 80).2.2.2.1) := rfl
set_option maxRecDepth 100000 in
theorem sm_cw81 : lw_tbl[614]? = some (Cond.code (sm_P 81).1 (sm_P 81).2.1 (sm_P 81).2.2.1 (sm_P 81).2.2.2.1) := rfl
set_option maxRecDepth 100000 in
theorem sm_cw82 : lw_tbl[618]? = some (Cond.code (sm_P 82).1 (sm_P 82).2.1 (sm_P 82).2.2.1 (sm_P 82).2.2.2.1) := rfl
set_option maxRecDepth 100000 in
theorem sm_cw83 : lw_tbl[251]? = some (Cond.code (sm_P 83).1 (sm_P 83).2.1 (sm_P 83).2.2.1 (sm_P 83).2.2.2.1) := rfl
set_option maxRecDepth 100000 in
theorem sm_cw84 : lw_tbl[544]? = some (Cond.code (sm_P 84).1 (sm_P 84).2.1 (sm_P 84).2.2.1 (sm_P 84).2.2.2.1) := rfl
set_option maxRecDepth 100000 in
theorem sm_cw85 : lw_tbl[255]? = some (Cond.code (sm_P 85).1 (sm_P 85).2.1 (sm_P 85).2.2.1 (sm_P 85).2.2.2.1) := rfl
set_option maxRecDepth 100000 in
theorem sm_cw86 : lw_tbl[421]? = some (Cond.code (sm_P 86).1 (sm_P 86).2.1 (sm_P 86).2.2.1 (sm_P 86).2.2.2.1) := rfl
set_option maxRecDepth 100000 in
theorem sm_cw87 : lw_tbl[426]? = some (Cond.code (sm_P 87).1 (sm_P 87).2.1 (sm_P 87).2.2.1 (sm_P 87).2.2.2.1) := rfl
set_option maxRecDepth 100000 in
theorem sm_cw88 : lw_tbl[547]? = some (Cond.code (sm_P 88).1 (sm_P 88).2.1 (sm_P 88).2.2.1 (sm_P 88).2.2.2.1) := rfl
set_option maxRecDepth 100000 in
theorem sm_cw89 : lw_tbl[232]? = some (Cond.code (sm_P 89).1 (sm_P 89).2.1 (sm_P 89).2.2.1 (sm_P 89).2.2.2.1) := rfl
set_option maxRecDepth 100000 in
theorem sm_cw90 : lw_tbl[236]? = some (Cond.code (sm_P 90).1 (sm_P 90).2.1 (sm_P 90).2.2.1 (sm_P 90).2.2.2.1) := rfl
set_option maxRecDepth 100000 in
theorem sm_cw91 : lw_tbl[266]? = some (Cond.code (sm_P 91).1 (sm_P 91).2.1 (sm_P 91).2.2.1 (sm_P 91).2.2.2.1) := rfl
set_option maxRecDepth 100000 in
theorem sm_cw92 : lw_tbl[273]? = some (Cond.code (sm_P 92).1 (sm_P 92).2.1 (sm_P 92).2.2.1 (sm_P 92).2.2.2.1) := rfl
set_option maxRecDepth 100000 in
theorem sm_cw93 : lw_tbl[98]? = some (Cond.code (sm_P 93).1 (sm_P 93).2.1 (sm_P 93).2.2.1 (sm_P 93).2.2.2.1) := rfl
set_option maxRecDepth 100000 in
theorem sm_cw94 : lw_tbl[281]? = some (Cond.code (sm_P 94).1 (sm_P 94).2.1 (sm_P 94).2.2.1 (sm_P 94).2.2.2.1) := rfl
set_option maxRecDepth 100000 in
theorem sm_cw95 : lw_tbl[623]? = some (Cond.code (sm_P 95).1 (sm_P 95).2.1 (sm_P 95).2.2.1 (sm_P 95).2.2.2.1) := rfl
set_option maxRecDepth 100000 in
theorem sm_cw96 : lw_tbl[709]? = some (Cond.code (sm_P 96).1 (sm_P 96).2.1 (sm_P 96).2.2.1 (sm_P 96).2.2.2.1) := rfl
set_option maxRecDepth 100000 in
theorem sm_cw97 : lw_tbl[713]? = some (Cond.code (sm_P 97).1 (sm_P 97).2.1 (sm_P 97).2.2.1 (sm_P 97).2.2.2.1) := rfl
set_option maxRecDepth 100000 in
theorem sm_cw98 : lw_tbl[636]? = some (Cond.code (sm_P 98).1 (sm_P 98).2.1 (sm_P 98).2.2.1 (sm_P 98).2.2.2.1) := rfl
set_option maxRecDepth 100000 in
theorem sm_cw99 : lw_tbl[632]? = some (Cond.code (sm_P 99).1 (sm_P 99).2.1 (sm_P 99).2.2.1 (sm_P 99).2.2.2.1) := rfl
set_option maxRecDepth 100000 in
theorem sm_cw100 : lw_tbl[799]? = some (Cond.code (sm_P 100).1 (sm_P 100).2.1 (sm_P 100).2.2.1 (sm_P 100).2.2.2.1) := rfl
set_option maxRecDepth 100000 in
theorem sm_cw101 : lw_tbl[628]? = some (Cond.code (sm_P 101).1 (sm_P 101).2.1 (sm_P 101).2.2.1 (sm_P 101).2.2.2.1) := rfl
set_option maxRecDepth 100000 in
theorem sm_cw102 : lw_tbl[764]? = some (Cond.code (sm_P 102).1 (sm_P 102).2.1 (sm_P 102).2.2.1 (sm_P 102).2.2.2.1) := rfl
set_option maxRecDepth 100000 in
theorem sm_cw103 : lw_tbl[721]? = some (Cond.code (sm_P 103).1 (sm_P 103).2.1 (sm_P 103).2.2.1 (sm_P 103).2.2.2.1) := rfl
set_option maxRecDepth 100000 in
theorem sm_cw104 : lw_tbl[727]? = some (Cond.code (sm_P 104).1 (sm_P 104).2.1 (sm_P 104).2.2.1 (sm_P 104).2.2.2.1) := rfl
set_option maxRecDepth 100000 in
theorem sm_cw105 : lw_tbl[756]? = some (Cond.code (sm_P 105).1 (sm_P 105).2.1 (sm_P 105).2.2.1 (sm_P 105).2.2.2.1) := rfl
set_option maxRecDepth 100000 in
theorem sm_cw106 : lw_tbl[760]? = some (Cond.code (sm_P 106).1 (sm_P 106).2.1 (sm_P 106).2.2.1 (sm_P 106).2.2.2.1) := rfl
set_option maxRecDepth 100000 in
theorem sm_cw107 : lw_tbl[886]? = some (Cond.code (sm_P 107).1 (sm_P 107).2.1 (sm_P 107).2.2.1 (sm_P 107).2.2.2.1) := rfl
set_option maxRecDepth 100000 in
theorem sm_cw108 : lw_tbl[736]? = some (Cond.code (sm_P 108).1 (sm_P 108).2.1 (sm_P 108).2.2.1 (sm_P 108).2.2.2.1) := rfl
set_option maxRecDepth 100000 in
theorem sm_cw109 : lw_tbl[895]? = some (Cond.code (sm_P 109).1 (sm_P 109).2.1 (sm_P 109).2.2.1 (sm_P 109).2.2.2.1) := rfl
set_option maxRecDepth 100000 in
theorem sm_cw110 : lw_tbl[870]? = some (Cond.code (sm_P 110).1 (sm_P 110).2.1 (sm_P 110).2.2.1 (sm_P 110).2.2.2.1) := rfl
set_option maxRecDepth 100000 in
theorem sm_cw111 : lw_tbl[916]? = some (Cond.code (sm_P 111).1 (sm_P 111).2.1 (sm_P 111).2.2.1 (sm_P 111).2.2.2.1) := rfl
set_option maxRecDepth 100000 in
theorem sm_cw112 : lw_tbl[783]? = some (Cond.code (sm_P 112).1 (sm_P 112).2.1 (sm_P 112).2.2.1 (sm_P 112).2.2.2.1) := rfl
set_option maxRecDepth 100000 in
theorem sm_cw113 : lw_tbl[772]? = some (Cond.code (sm_P 113).1 (sm_P 113).2.1 (sm_P 113).2.2.1 (sm_P 113).2.2.2.1) := rfl
set_option maxRecDepth 100000 in
theorem sm_cw114 : lw_tbl[752]? = some (Cond.code (sm_P 114).1 (sm_P 114).2.1 (sm_P 114).2.2.1 (sm_P 114).2.2.2.1) := rfl
set_option maxRecDepth 100000 in
theorem sm_cw115 : lw_tbl[780]? = some (Cond.code (sm_P 115).1 (sm_P 115).2.1 (sm_P 115).2.2.1 (sm_P 115).2.2.2.1) := rfl
set_option maxRecDepth 100000 in
theorem sm_cw116 : lw_tbl[776]? = some (Cond.code (sm_P 116).1 (sm_P 116).2.1 (sm_P 116).2.2.1 (sm_P 116).2.2.2.1) := rfl
set_option maxRecDepth 100000 in
theorem sm_cw117 : lw_tbl[787]? = some (Cond.code (sm_P 117).1 (sm_P 117).2.1 (sm_P 117).2.2.1 (sm_P 117).2.2.2.1) := rfl
set_option maxRecDepth 100000 in
theorem sm_cw118 : lw_tbl[768]? = some (Cond.code (sm_P 118).1 (sm_P 118).2.1 (sm_P 118).2.2.1 (sm_P 118).2.2.2.1) := rfl
set_option maxRecDepth 100000 in
theorem sm_cw119 : lw_tbl[791]? = some (Cond.code (sm_P 119).1 (sm_P 119).2.1 (sm_P 119).2.2.1 (sm_P 119).2.2.2.1) := rfl
set_option maxRecDepth 100000 in
theorem sm_cw120 : lw_tbl[795]? = some (Cond.code (sm_P 120).1 (sm_P 120).2.1 (sm_P 120).2.2.1 (sm_P 120).2.2.2.1) := rfl
set_option maxRecDepth 100000 in
theorem sm_cw121 : lw_tbl[807]? = some (Cond.code (sm_P 121).1 (sm_P 121).2.1 (sm_P 121).2.2.1 (sm_P 121).2.2.2.1) := rfl
set_option maxRecDepth 100000 in
theorem sm_cw122 : lw_tbl[803]? = some (Cond.code (sm_P 122).1 (sm_P 122).2.1 (sm_P 122).2.2.1 (sm_P 122).2.2.2.1) := rfl
set_option maxRecDepth 100000 in
theorem sm_cw123 : lw_tbl[811]? = some (Cond.code (sm_P 123).1 (sm_P 123).2.1 (sm_P 123).2.2.1 (sm_P 123).2.2.2.1) := rfl
set_option maxRecDepth 100000 in
theorem sm_cw124 : lw_tbl[748]? = some (Cond.code (sm_P 124).1 (sm_P 124).2.1 (sm_P 124).2.2.1 (sm_P 124).2.2.2.1) := rfl
set_option maxRecDepth 100000 in
theorem sm_cw125 : lw_tbl[744]? = some (Cond.code (sm_P 125).1 (sm_P 125).2.1 (sm_P 125).2.2.1 (sm_P 125).2.2.2.1) := rfl
set_option maxRecDepth 100000 in
theorem sm_cw126 : lw_tbl[878]? = some (Cond.code (sm_P 126).1 (sm_P 126).2.1 (sm_P 126).2.2.1 (sm_P 126).2.2.2.1) := rfl
set_option maxRecDepth 100000 in
theorem sm_cw127 : lw_tbl[874]? = some (Cond.code (sm_P 127).1 (sm_P 127).2.1 (sm_P 127).2.2.1 (sm_P 127).2.2.2.1) := rfl
set_option maxRecDepth 100000 in
theorem sm_cw128 : lw_tbl[924]? = some (Cond.code (sm_P 128).1 (sm_P 128).2.1 (sm_P 128).2.2.1 (sm_P 128).2.2.2.1) := rfl
set_option maxRecDepth 100000 in
theorem sm_cw129 : lw_tbl[704]? = some (Cond.code (sm_P 129).1 (sm_P 129).2.1 (sm_P 129).2.2.1 (sm_P 129).2.2.2.1) := rfl
set_option maxRecDepth 100000 in
theorem sm_cw130 : lw_tbl[717]? = some (Cond.code (sm_P 130).1 (sm_P 130).2.1 (sm_P 130).2.2.1 (sm_P 130).2.2.2.1) := rfl
set_option maxRecDepth 100000 in
theorem sm_cw131 : lw_tbl[731]? = some (Cond.code (sm_P 131).1 (sm_P 131).2.1 (sm_P 131).2.2.1 (sm_P 131).2.2.2.1) := rfl
set_option maxRecDepth 100000 in
theorem sm_cw132 : lw_tbl[815]? = some (Cond.code (sm_P 132).1 (sm_P 132).2.1 (sm_P 132).2.2.1 (sm_P 132).2.2.2.1) := rfl
set_option maxRecDepth 100000 in
theorem sm_cw133 : lw_tbl[740]? = some (Cond.code (sm_P 133).1 (sm_P 133).2.1 (sm_P 133).2.2.1 (sm_P 133).2.2.2.1) := rfl
set_option maxRecDepth 100000 in
theorem sm_cw134 : lw_tbl[819]? = some (Cond.code (sm_P 134).1 (sm_P 134).2.1 (sm_P 134).2.2.1 (sm_P 134).2.2.2.1) := rfl
set_option maxRecDepth 100000 in
theorem sm_cw135 : lw_tbl[828]? = some (Cond.code (sm_P 135).1 (sm_P 135).2.1 (sm_P 135).2.2.1 (sm_P 135).2.2.2.1) := rfl
set_option maxRecDepth 100000 in
theorem sm_cw136 : lw_tbl[832]? = some (Cond.code (sm_P 136).1 (sm_P 136).2.1 (sm_P 136).2.2.1 (sm_P 136).2.2.2.1) := rfl
set_option maxRecDepth 100000 in
theorem sm_cw137 : lw_tbl[823]? = some (Cond.code (sm_P 137).1 (sm_P 137).2.1 (sm_P 137).2.2.1 (sm_P 137).2.2.2.1) := rfl
set_option maxRecDepth 100000 in
theorem sm_cw138 : lw_tbl[840]? = some (Cond.code (sm_P 138).1 (sm_P 138).2.1 (sm_P 138).2.2.1 (sm_P 138).2.2.2.1) := rfl
set_option maxRecDepth 100000 in
theorem sm_cw139 : lw_tbl[860]? = some (Cond.code (sm_P 139).1 (sm_P 139).2.1 (sm_P 139).2.2.1 (sm_P 139).2.2.2.1) := rfl
set_option maxRecDepth 100000 in
theorem sm_cw140 : lw_tbl[856]? = some (Cond.code (sm_P 140).1 (sm_P 140).2.1 (sm_P 140).2.2.1 (sm_P 140).2.2.2.1) := rfl
set_option maxRecDepth 100000 in
theorem sm_cw141 : lw_tbl[852]? = some (Cond.code (sm_P 141).1 (sm_P 141).2.1 (sm_P 141).2.2.1 (sm_P 141).2.2.2.1) := rfl
set_option maxRecDepth 100000 in
theorem sm_cw142 : lw_tbl[848]? = some (Cond.code (sm_P 142).1 (sm_P 142).2.1 (sm_P 142).2.2.1 (sm_P 142).2.2.2.1) := rfl
set_option maxRecDepth 100000 in
theorem sm_cw143 : lw_tbl[844]? = some (Cond.code (sm_P 143).1 (sm_P 143).2.1 (sm_P 143).2.2.1 (sm_P 143).2.2.2.1) := rfl
set_option maxRecDepth 100000 in
theorem sm_cw144 : lw_tbl[866]? = some (Cond.code (sm_P 144).1 (sm_P 144).2.1 (sm_P 144).2.2.1 (sm_P 144).2.2.2.1) := rfl
set_option maxRecDepth 100000 in
theorem sm_cw145 : lw_tbl[882]? = some (Cond.code (sm_P 145).1 (sm_P 145).2.1 (sm_P 145).2.2.1 (sm_P 145).2.2.2.1) := rfl
set_option maxRecDepth 100000 in
theorem sm_cw146 : lw_tbl[903]? = some (Cond.code (sm_P 146).1 (sm_P 146).2.1 (sm_P 146).2.2.1 (sm_P 146).2.2.2.1) := rfl
set_option maxRecDepth 100000 in
theorem sm_cw147 : lw_tbl[899]? = some (Cond.code (sm_P 147).1 (sm_P 147).2.1 (sm_P 147).2.2.1 (sm_P 147).2.2.2.1) := rfl
set_option maxRecDepth 100000 in
theorem sm_cw148 : lw_tbl[891]? = some (Cond.code (sm_P 148).1 (sm_P 148).2.1 (sm_P 148).2.2.1 (sm_P 148).2.2.2.1) := rfl
set_option maxRecDepth 100000 in
theorem sm_cw149 : lw_tbl[912]? = some (Cond.code (sm_P 149).1 (sm_P 149).2.1 (sm_P 149).2.2.1 (sm_P 149).2.2.2.1) := rfl
set_option maxRecDepth 100000 in
theorem sm_cw150 : lw_tbl[908]? = some (Cond.code (sm_P 150).1 (sm_P 150).2.1 (sm_P 150).2.2.1 (sm_P 150).2.2.2.1) := rfl
set_option maxRecDepth 100000 in
theorem sm_cw151 : lw_tbl[920]? = some (Cond.code (sm_P 151).1 (sm_P 151).2.1 (sm_P 151).2.2.1 (sm_P 151).2.2.2.1) := rfl
set_option maxRecDepth 100000 in
theorem sm_cw152 : lw_tbl[932]? = some (Cond.code (sm_P 152).1 (sm_P 152).2.1 (sm_P 152).2.2.1 (sm_P 152).2.2.2.1) := rfl
set_option maxRecDepth 100000 in
theorem sm_cw153 : lw_tbl[928]? = some (Cond.code (sm_P 153).1 (sm_P 153).2.1 (sm_P 153).2.2.1 (sm_P 153).2.2.2.1) := rfl
set_option maxRecDepth 100000 in
theorem sm_cw154 : lw_tbl[936]? = some (Cond.code (sm_P 154).1 (sm_P 154).2.1 (sm_P 154).2.2.1 (sm_P 154).2.2.2.1) := rfl
set_option maxRecDepth 100000 in
theorem sm_cw155 : lw_tbl[940]? = some (Cond.code (sm_P 155).1 (sm_P 155).2.1 (sm_P 155).2.2.1 (sm_P 155).2.2.2.1) := rfl
set_option maxRecDepth 100000 in
theorem sm_cw156 : lw_tbl[944]? = some (Cond.code (sm_P 156).1 (sm_P 156).2.1 (sm_P 156).2.2.1 (sm_P 156).2.2.2.1) := rfl
set_option maxRecDepth 100000 in
theorem sm_cw157 : lw_tbl[951]? = some (Cond.code (sm_P 157).1 (sm_P 157).2.1 (sm_P 157).2.2.1 (sm_P 157).2.2.2.1) := rfl
set_option maxRecDepth 100000 in
theorem sm_cw158 : lw_tbl[955]? = some (Cond.code (sm_P 158).1 (sm_P 158).2.1 (sm_P 158).2.2.1 (sm_P 158).2.2.2.1) := rfl
set_option maxRecDepth 100000 in
theorem sm_cw159 : lw_tbl[959]? = some (Cond.code (sm_P 159).1 (sm_P 159).2.1 (sm_P 159).2.2.1 (sm_P 159).2.2.2.1) := rfl
set_option maxRecDepth 100000 in
theorem sm_cw160 : lw_tbl[963]? = some (Cond.code (sm_P 160).1 (sm_P 160).2.1 (sm_P 160).2.2.1 (sm_P 160).2.2.2.1) := rfl
set_option maxRecDepth 100000 in
theorem sm_cw161 : lw_tbl[967]? = some (Cond.code (sm_P 161).1 (sm_P 161).2.1 (sm_P 161).2.2.1 (sm_P 161).2.2.2.1) := rfl
set_option maxRecDepth 100000 in
theorem sm_cw162 : lw_tbl[551]? = some (Cond.code (sm_P 162).1 (sm_P 162).2.1 (sm_P 162).2.2.1 (sm_P 162).2.2.2.1) := rfl
set_option maxRecDepth 100000 in
theorem sm_cw163 : lw_tbl[389]? = some (Cond.code (sm_P 163).1 (sm_P 163).2.1 (sm_P 163).2.2.1 (sm_P 163).2.2.2.1) := rfl
set_option maxRecDepth 100000 in
theorem sm_cw164 : lw_tbl[392]? = some (Cond.code (sm_P 164).1 (sm_P 164).2.1 (sm_P 164).2.2.1 (sm_P 164).2.2.2.1) := rfl
