/-! ===== the small machine's tables against the claim's own: the bytes, the words ===== -/
/-- of a method: its name, bytes, locals, what it returns, the frames and words of locals below it, whether it is static, its parameters -/
abbrev SP : Type := MethodName × ByteArray × Nat × Option FieldType × Nat × Nat × Bool × Nat
def sm_fts : List (List Nat) := [[0, 0, 1, 1, 1, 1, 1, 1, 1, 0, 1], [0, 0, 1, 1, 0, 0, 0, 0, 2], [0, 0, 1, 1, 1], [1, 1, 1, 1, 1, 0]]
def sm_ft (c k : Nat) : Nat := (sm_fts.getD c []).getD k 0
def sm_cn (c : Nat) : String := match c with
  | 0 => RX0
  | 1 => RX1
  | 2 => RX2
  | 3 => RX3
  | _ => RX4
def sm_len : Instr → Nat
  | .bipush _ => 2
  | .ldc _ => 2
  | .iload _ => 2
  | .lload _ => 2
  | .aload _ => 2
  | .istore _ => 2
  | .lstore _ => 2
  | .astore _ => 2
  | .newarray _ => 2
  | .sipush _ => 3
  | .ldc2_w _ => 3
  | .iinc _ _ => 3
  | .ifCond _ _ => 3
  | .if_icmp _ _ => 3
  | .ifnonnull _ => 3
  | .goto _ => 3
  | .getfield _ => 3
  | .putfield _ => 3
  | .new _ => 3
  | .anewarray _ => 3
  | .invokevirtual _ => 3
  | .invokespecial _ => 3
  | .invokestatic _ => 3
  | .tableswitch .. => 0
  | _ => 1
def sm_Ps0 : List SP := [(yX0_init, cX0_init, 1, none, 1, 20, false, 0), (yX0_workedOut, cX0_workedOut, 3, (some (.object "ObedientDice$Extremes")), 5, 129, false, 1), (yX0_has, cX0_has, 2, (some .boolean), 0, 0, false, 1), (yX0_weight, cX0_weight, 4, (some .long), 0, 0, false, 2), (yX0_weightSum, cX0_weightSum, 2, (some .long), 0, 0, false, 1), (yX0_toldCells, cX0_toldCells, 4, (some .int), 1, 23, false, 1), (yX0_tightInequalities, cX0_tightInequalities, 2, (some .int), 1, 21, false, 1), (yX0_everTold, cX0_everTold, 3, (some .int), 2, 46, false, 0), (yX0_pointsBy, cX0_pointsBy, 7, (some .long), 3, 65, false, 3), (yX0_bestFor, cX0_bestFor, 9, (some .int), 4, 91, false, 2), (yX0_tightOf, cX0_tightOf, 2, (some .int), 0, 0, false, 1), (yX0_slackOf, cX0_slackOf, 2, (some .long), 0, 0, false, 1), (yX0_startWithSingleCells, cX0_startWithSingleCells, 6, none, 1, 23, false, 1), (yX0_cutWith, cX0_cutWith, 5, none, 4, 105, false, 2), (yX0_addNeighboursBelow, cX0_addNeighboursBelow, 4, none, 3, 82, false, 2), (yX0_takeSlacks, cX0_takeSlacks, 7, none, 3, 71, false, 2)]
def sm_Ps1 : List SP := [(yX0_areNeighbours, cX0_areNeighbours, 5, (some .boolean), 1, 21, false, 2), (yX0_keep, cX0_keep, 5, none, 1, 23, false, 2), (yX0_addBetween, cX0_addBetween, 10, none, 2, 53, false, 3), (yX0_mixedAtCut, cX0_mixedAtCut, 4, (some .long), 1, 23, false, 3), (yX0_startOfNext, cX0_startOfNext, 1, (some .int), 0, 0, false, 0), (yX0_setNext, cX0_setNext, 4, none, 0, 0, false, 2), (yX0_finishNext, cX0_finishNext, 2, none, 0, 0, false, 1), (yX0_turnToNext, cX0_turnToNext, 3, none, 0, 0, false, 0), (yX0_sumUp, cX0_sumUp, 5, none, 1, 23, false, 0), (yX0_sort, cX0_sort, 3, none, 2, 50, false, 0), (yX0_comesBefore, cX0_comesBefore, 8, (some .boolean), 1, 23, false, 2), (yX0_exchange, cX0_exchange, 6, none, 0, 0, false, 2), (yX0_commonDivisor, cX0_commonDivisor, 11, (some .long), 1, 23, true, 2), (yX1_init, cX1_init, 1, none, 1, 20, false, 0), (yL_up, cL_up, 2, (some .int), 0, 0, true, 2), (yL_up, cL_up, 2, (some .int), 0, 0, true, 2)]
def sm_Ps2 : List SP := [(yL_up, cL_up, 2, (some .int), 0, 0, true, 2), (yL_up, cL_up, 2, (some .int), 0, 0, true, 2), (yL_up, cL_up, 2, (some .int), 0, 0, true, 2), (yL_up, cL_up, 2, (some .int), 0, 0, true, 2), (yL_up, cL_up, 2, (some .int), 0, 0, true, 2), (yL_up, cL_up, 2, (some .int), 0, 0, true, 2), (yL_up, cL_up, 2, (some .int), 0, 0, true, 2), (yL_up, cL_up, 2, (some .int), 0, 0, true, 2), (yX2_init, cX2_init, 1, none, 2, 44, false, 0), (yX2_startAnew, cX2_startAnew, 2, none, 1, 23, false, 1), (yX2_copyFrom, cX2_copyFrom, 2, none, 1, 26, false, 1), (yX2_isSameGame, cX2_isSameGame, 4, (some .boolean), 1, 21, false, 2), (yX2_cells, cX2_cells, 1, (some .int), 0, 0, false, 0), (yX2_cellAt, cX2_cellAt, 3, (some .int), 0, 0, false, 2), (yX2_moveIn, cX2_moveIn, 4, (some .int), 0, 0, false, 2), (yX2_gain, cX2_gain, 3, (some .int), 1, 21, false, 2)]
def sm_Ps3 : List SP := [(yX2_setGain, cX2_setGain, 4, none, 1, 22, false, 3), (yX2_gainForOneOrBoth, cX2_gainForOneOrBoth, 3, (some .int), 2, 43, false, 2), (yX2_pointsBy, cX2_pointsBy, 5, (some .int), 3, 65, false, 2), (yX2_inequalities, cX2_inequalities, 1, (some .int), 0, 0, false, 0), (yX2_playerOf, cX2_playerOf, 2, (some .int), 0, 0, false, 1), (yX2_toldMove, cX2_toldMove, 2, (some .int), 0, 0, false, 1), (yX2_otherMove, cX2_otherMove, 4, (some .int), 1, 21, false, 1), (yX2_loss, cX2_loss, 8, (some .int), 2, 44, false, 2), (yX2_leftSide, cX2_leftSide, 5, (some .int), 3, 71, false, 2), (yX2_brokenInequalities, cX2_brokenInequalities, 3, (some .int), 4, 95, false, 0), (yX2_isSure, cX2_isSure, 3, (some .boolean), 3, 71, false, 1), (yX2_throwDice, cX2_throwDice, 5, (some .int), 1, 25, false, 0), (yX3_init, cX3_init, 1, none, 3, 64, false, 0), (yX3_begin, cX3_begin, 3, (some .int), 4, 85, false, 1), (yX3_points, cX3_points, 7, (some .int), 4, 85, false, 4), (yX3_weigh, cX3_weigh, 6, (some .int), 4, 85, false, 3)]
def sm_Ps4 : List SP := [(yX3_take, cX3_take, 3, (some .int), 6, 151, false, 1), (yX3_mix, cX3_mix, 5, (some .int), 6, 151, false, 3), (yX3_roll, cX3_roll, 4, (some .int), 4, 85, false, 1), (yX3_forget, cX3_forget, 3, (some .int), 4, 85, false, 1), (yL_up, cL_up, 2, (some .int), 0, 0, true, 2), (yX3_cell, cX3_cell, 5, (some .int), 6, 151, false, 3), (yX3_inequality, cX3_inequality, 3, (some .int), 4, 95, false, 2), (yX3_count, cX3_count, 2, (some .int), 6, 151, false, 1), (yX3_worth, cX3_worth, 2, (some .int), 4, 89, false, 1), (yX3_extreme, cX3_extreme, 4, (some .int), 6, 151, false, 2), (yX3_best, cX3_best, 5, (some .int), 6, 151, false, 2), (yX3_neverTold, cX3_neverTold, 5, (some .int), 6, 151, false, 1), (yL_up, cL_up, 2, (some .int), 0, 0, true, 2), (yL_up, cL_up, 2, (some .int), 0, 0, true, 2), (yL_up, cL_up, 2, (some .int), 0, 0, true, 2), (yL_up, cL_up, 2, (some .int), 0, 0, true, 2)]
def sm_Ps5 : List SP := [(yX3_undo, cX3_undo, 2, (some .int), 2, 47, false, 0), (yL_up, cL_up, 2, (some .int), 0, 0, true, 2), (yL_up, cL_up, 2, (some .int), 0, 0, true, 2), (yX3_isPlayer, cX3_isPlayer, 1, (some .boolean), 0, 0, true, 1), (yX3_isPlayerOrBoth, cX3_isPlayerOrBoth, 1, (some .boolean), 1, 20, true, 1), (yX3_isCell, cX3_isCell, 3, (some .boolean), 0, 0, false, 2), (yX3_mixWith, cX3_mixWith, 6, (some .int), 4, 85, false, 4), (yX3_mixedWeight, cX3_mixedWeight, 6, (some .long), 1, 23, false, 5), (yX3_thousandths, cX3_thousandths, 4, (some .int), 1, 25, true, 2), (yX3_recordChange, cX3_recordChange, 2, none, 3, 64, false, 0), (yX3_dropOldestChange, cX3_dropOldestChange, 3, none, 0, 0, false, 0), (yX3_amount, cX3_amount, 2, (some .int), 0, 0, true, 2), (yX3_setAmount, cX3_setAmount, 3, none, 0, 0, true, 3), (yX3_fillAmounts, cX3_fillAmounts, 4, none, 0, 0, true, 3), (yX3_sumOf, cX3_sumOf, 6, (some .int), 0, 0, true, 1), (yL_cell, cL_cell, 2, (some .int), 0, 0, true, 2)]
def sm_Ps6 : List SP := [(yL_up, cL_up, 2, (some .int), 0, 0, true, 2), (yL_row, cL_row, 2, (some .int), 0, 0, true, 2), (yL_column, cL_column, 4, (some .int), 0, 0, true, 3), (yL_isStep, cL_isStep, 10, (some .boolean), 7, 172, true, 4), (yL_areAlike, cL_areAlike, 12, (some .boolean), 7, 175, true, 4), (yL_isMixed, cL_isMixed, 9, (some .boolean), 7, 175, true, 2), (yL_isThrown, cL_isThrown, 8, (some .boolean), 7, 175, true, 2), (yL_up, cL_up, 2, (some .int), 0, 0, true, 2), (yL_up, cL_up, 2, (some .int), 0, 0, true, 2), (yL_up, cL_up, 2, (some .int), 0, 0, true, 2), (yL_up, cL_up, 2, (some .int), 0, 0, true, 2), (yL_up, cL_up, 2, (some .int), 0, 0, true, 2), (yL_up, cL_up, 2, (some .int), 0, 0, true, 2), (yL_up, cL_up, 2, (some .int), 0, 0, true, 2), (yL_up, cL_up, 2, (some .int), 0, 0, true, 2), (yL_up, cL_up, 2, (some .int), 0, 0, true, 2)]
def sm_Ps7 : List SP := [(yL_up, cL_up, 2, (some .int), 0, 0, true, 2), (yL_up, cL_up, 2, (some .int), 0, 0, true, 2), (yL_up, cL_up, 2, (some .int), 0, 0, true, 2), (yL_up, cL_up, 2, (some .int), 0, 0, true, 2), (yL_up, cL_up, 2, (some .int), 0, 0, true, 2), (yL_up, cL_up, 2, (some .int), 0, 0, true, 2), (yL_up, cL_up, 2, (some .int), 0, 0, true, 2), (yL_up, cL_up, 2, (some .int), 0, 0, true, 2), (yL_up, cL_up, 2, (some .int), 0, 0, true, 2), (yL_up, cL_up, 2, (some .int), 0, 0, true, 2), (yL_up, cL_up, 2, (some .int), 0, 0, true, 2), (yL_up, cL_up, 2, (some .int), 0, 0, true, 2), (yL_up, cL_up, 2, (some .int), 0, 0, true, 2), (yL_up, cL_up, 2, (some .int), 0, 0, true, 2), (yL_up, cL_up, 2, (some .int), 0, 0, true, 2), (yL_up, cL_up, 2, (some .int), 0, 0, true, 2)]
def sm_Ps8 : List SP := [(yL_up, cL_up, 2, (some .int), 0, 0, true, 2), (yL_up, cL_up, 2, (some .int), 0, 0, true, 2), (yL_up, cL_up, 2, (some .int), 0, 0, true, 2), (yL_up, cL_up, 2, (some .int), 0, 0, true, 2), (yL_up, cL_up, 2, (some .int), 0, 0, true, 2), (yL_up, cL_up, 2, (some .int), 0, 0, true, 2), (yL_up, cL_up, 2, (some .int), 0, 0, true, 2), (yL_up, cL_up, 2, (some .int), 0, 0, true, 2), (yL_up, cL_up, 2, (some .int), 0, 0, true, 2), (yL_up, cL_up, 2, (some .int), 0, 0, true, 2), (yL_up, cL_up, 2, (some .int), 0, 0, true, 2), (yL_up, cL_up, 2, (some .int), 0, 0, true, 2), (yL_up, cL_up, 2, (some .int), 0, 0, true, 2), (yL_up, cL_up, 2, (some .int), 0, 0, true, 2), (yL_up, cL_up, 2, (some .int), 0, 0, true, 2), (yL_up, cL_up, 2, (some .int), 0, 0, true, 2)]
def sm_Ps9 : List SP := [(yL_up, cL_up, 2, (some .int), 0, 0, true, 2), (yL_up, cL_up, 2, (some .int), 0, 0, true, 2), (yL_up, cL_up, 2, (some .int), 0, 0, true, 2), (yL_up, cL_up, 2, (some .int), 0, 0, true, 2), (yL_up, cL_up, 2, (some .int), 0, 0, true, 2), (yL_up, cL_up, 2, (some .int), 0, 0, true, 2), (yL_up, cL_up, 2, (some .int), 0, 0, true, 2), (yL_up, cL_up, 2, (some .int), 0, 0, true, 2), (yL_up, cL_up, 2, (some .int), 0, 0, true, 2), (yL_up, cL_up, 2, (some .int), 0, 0, true, 2), (yL_up, cL_up, 2, (some .int), 0, 0, true, 2), (yL_up, cL_up, 2, (some .int), 0, 0, true, 2), (yL_up, cL_up, 2, (some .int), 0, 0, true, 2), (yL_up, cL_up, 2, (some .int), 0, 0, true, 2), (yL_up, cL_up, 2, (some .int), 0, 0, true, 2), (yL_up, cL_up, 2, (some .int), 0, 0, true, 2)]
def sm_Ps10 : List SP := [(yL_up, cL_up, 2, (some .int), 0, 0, true, 2), (yL_up, cL_up, 2, (some .int), 0, 0, true, 2), (yJ9_floorDiv_f86c9, cJ9_floorDiv_f86c9, 6, (some .long), 0, 0, true, 2), (yJ9_max_f86c9, cJ9_max_f86c9, 4, (some .long), 0, 0, true, 2), (yJ9_min_f86c9, cJ9_min_f86c9, 4, (some .long), 0, 0, true, 2), (yL_law, cL_law, 7, (some .boolean), 8, 206, true, 1)]
def sm_P (i : Nat) : SP := bif Nat.blt i 16 then sm_Ps0.getD (i - 0) (yL_law, code, 0, none, 0, 0, true, 0) else bif Nat.blt i 32 then sm_Ps1.getD (i - 16) (yL_law, code, 0, none, 0, 0, true, 0) else bif Nat.blt i 48 then sm_Ps2.getD (i - 32) (yL_law, code, 0, none, 0, 0, true, 0) else bif Nat.blt i 64 then sm_Ps3.getD (i - 48) (yL_law, code, 0, none, 0, 0, true, 0) else bif Nat.blt i 80 then sm_Ps4.getD (i - 64) (yL_law, code, 0, none, 0, 0, true, 0) else bif Nat.blt i 96 then sm_Ps5.getD (i - 80) (yL_law, code, 0, none, 0, 0, true, 0) else bif Nat.blt i 112 then sm_Ps6.getD (i - 96) (yL_law, code, 0, none, 0, 0, true, 0) else bif Nat.blt i 128 then sm_Ps7.getD (i - 112) (yL_law, code, 0, none, 0, 0, true, 0) else bif Nat.blt i 144 then sm_Ps8.getD (i - 128) (yL_law, code, 0, none, 0, 0, true, 0) else bif Nat.blt i 160 then sm_Ps9.getD (i - 144) (yL_law, code, 0, none, 0, 0, true, 0) else bif Nat.blt i 176 then sm_Ps10.getD (i - 160) (yL_law, code, 0, none, 0, 0, true, 0) else (yL_law, code, 0, none, 0, 0, true, 0)
def sm_jB (pc : Nat) (off : Int) (ts : List Nat) : Bool := match ts with
  | [t] => decide ((pc : Int) + off = (t : Int))
  | _ => false
def sm_fB (own : String) (idx : Nat) (ci k ft p : Nat) : Bool := match vwCl[ci]? with
  | some r => decide (k < r.2.2) && (decide (lw_tbl[p]? = some (Cond.fieldLink own idx (r.2.1 k).1 (r.2.1 k).2.1 (r.2.1 k).2.2.1)) && decide (ft = sm_ft ci k))
  | none => false
def sm_wB (ini : Bool) (own : String) (ci k : Nat) : Bool := match vwCl[ci]? with
  | some r => decide ((r.2.1 k).2.2.2 = false) || (ini && (decide ((r.2.1 k).2.2.2 = true) && decide ((r.2.1 k).1 = own)))
  | none => false
def sm_lB (own : String) (idx : Nat) (y : MethodName) (p : Nat) : Bool := decide (lw_tbl[p]? = some (Cond.methodLink own idx y)) || decide (lw_tbl[p]? = some (Cond.methodLinkNest own idx y "ObedientDice"))
def sm_rB (rk : Nat) (r : Option FieldType) : Bool := match rk, r with
  | 0, none => true
  | 1, some .int => true
  | 2, some .boolean => true
  | 3, some .long => true
  | 4, some (.object _) => true
  | _, _ => false
/-- a call's numbers against the callee's row -/
def sm_cB (own : String) (fr lo idx mi na rk nL p : Nat) : Bool := decide (mi < 165) && (sm_lB own idx (sm_P mi).1 p && (decide ((sm_P mi).2.2.2.2.2.2.2 = na) && (sm_rB rk (sm_P mi).2.2.2.1 && (decide ((sm_P mi).2.2.1 = nL) && (decide ((sm_P mi).2.2.2.2.1 + 1 ≤ fr) && decide (8 + (nL + 11) + (sm_P mi).2.2.2.2.2.1 ≤ lo))))))
def sm_opB (own : String) (ini : Bool) (fr lo pc : Nat) (i : Instr) (ts : List Nat) (cv : Int32) (cj : Int64) (p : Nat) : Bool := match i with
  | .iconst m => decide (Int32.ofInt m = cv)
  | .bipush m => decide ((Int8.ofInt m).toInt32 = cv)
  | .sipush m => decide ((Int16.ofInt m).toInt32 = cv)
  | .lconst m => decide (Int64.ofNat (m : Nat) = cj)
  | .iinc _ m => decide (Int32.ofInt m = cv)
  | .ldc idx => decide (lw_tbl[p]? = some (Cond.constant own idx cv))
  | .ldc2_w idx => decide (lw_tbl[p]? = some (Cond.constantLong own idx cj))
  | .if_icmp _ off => sm_jB pc off ts
  | .ifCond _ off => sm_jB pc off ts
  | .ifnonnull off => sm_jB pc off ts
  | .goto off => sm_jB pc off ts
  | .tableswitch d lo hi offs => match ts with
    | k :: df :: r => decide (lo = (k : Int)) && (decide ((pc : Int) + d = (df : Int)) && (decide (offs.toList.map (fun o => (pc : Int) + o) = r.map (fun (t : Nat) => (t : Int))) && (decide (hi = (k : Int) + (r.length : Int) - 1) && decide (k + r.length < 1000))))
    | _ => false
  | .getfield idx => match ts with
    | [ci, k, ft] => sm_fB own idx ci k ft p
    | _ => false
  | .putfield idx => match ts with
    | [ci, k, ft] => sm_fB own idx ci k ft p && sm_wB ini own ci k
    | _ => false
  | .new idx => match ts with
    | [ci, nf] => (match vwCl[ci]? with
      | some r => decide (nf = r.2.2) && decide (lw_tbl[p]? = some (Cond.classLink own idx r.1))
      | none => false)
    | _ => false
  | .newarray t => match ts with
    | [5] => decide (newarray.typeOf t = .int)
    | [6] => decide (newarray.typeOf t = .long)
    | [7] => decide (newarray.typeOf t = .char)
    | _ => false
  | .anewarray idx => decide (lw_tbl[p]? = some (Cond.classLink own idx RX2))
  | .invokevirtual idx => match ts with
    | [mi, na, 0, rk, nL, rc] => sm_cB own fr lo idx mi na rk nL p && (decide ((sm_P mi).1.cls = sm_cn rc ∧ rc < 4) && (!(sm_P mi).2.2.2.2.2.2.1 && decide ((sm_P mi).1.name ≠ "<init>")))
    | _ => false
  | .invokespecial idx => match ts with
    | [mi, na, 0, rk, nL, rc] => sm_cB own fr lo idx mi na rk nL p && (decide (rk = 0) && (!(sm_P mi).2.2.2.2.2.2.1 && decide ((sm_P mi).1.name = "<init>")))
    | [2] => decide (lw_tbl[p]? = some (Cond.methodLink own idx objectInit)) && (decide (1 ≤ fr) && decide (20 ≤ lo))
    | _ => false
  | .invokestatic idx => match ts with
    | [mi, na, 1, rk, nL] => sm_cB own fr lo idx mi na rk nL p && (sm_P mi).2.2.2.2.2.2.1
    | [3, _] => decide (lw_tbl[p]? = some (Cond.methodLink own idx arraycopyName)) && (decide (1 ≤ fr) && decide (26 ≤ lo))
    | _ => false
  | _ => true
/-- an entry: the bytes say it, its numbers are right -/
def sm_eB (P : SP) (q : AE) (p : Nat) : Bool := (match decode P.2.1 q.1 with
  | .ok (i, l) => decide (i = q.2.1) && (decide (q.1 + l = q.2.2.1) && decide (sm_len i = 0 ∨ sm_len i = l))
  | _ => false) && sm_opB P.1.cls (decide (P.1.name = "<init>")) P.2.2.2.2.1 P.2.2.2.2.2.1 q.1 q.2.1 q.2.2.2.1 q.2.2.2.2.1 q.2.2.2.2.2 p
/-- a method's own words -/
def sm_mB (P : SP) (pc pi pk ps : Nat) : Bool := (decide (plainFor P.1 = true) && (decide (lw_tbl[pi]? = some (Cond.initialized P.1.cls)) && (decide (P.1.cls ≠ "java/lang/invoke/MethodHandle" ∧ P.1.cls ≠ "java/lang/invoke/VarHandle" ∧ (parseMethodDescriptor P.1.desc).map (fun d => d.parameters.length) = some P.2.2.2.2.2.2.2) && (bif P.2.2.2.2.2.2.1 then decide (lw_tbl[pk]? = some (Cond.static P.1)) else decide (lw_tbl[pk]? = some (Cond.instanceMethod P.1)) && (decide (P.1.name = "<init>") || decide (lw_tbl[ps]? = some (Cond.selects P.1.cls P.1 P.1)))))))
def sm_ps0 : List (List Nat) := [[0, 83, 0, 0, 84, 0, 0, 86, 0, 0, 0, 87, 0, 0, 0, 88, 0, 0, 0, 89, 0, 0, 0, 90, 0, 0, 0, 91, 0, 0, 0, 92, 0, 0, 0, 93, 0, 0, 94, 0, 0, 0, 95, 0], [0, 0, 94, 0, 95, 263, 0, 0, 0, 0, 0, 267, 268, 0, 0, 0, 0, 288, 0, 0, 0, 0, 289, 0, 0, 0, 343, 0, 347, 0, 0, 57, 94, 0, 61, 0, 0, 95, 0, 0, 363, 0, 0], [0, 0, 0, 0, 84, 0, 0, 0, 0, 0], [0, 0, 0, 0, 0, 0, 0, 0, 0, 0, 84, 0, 0, 0, 0, 0, 0, 0, 0, 87, 0, 0, 0, 0, 0, 87, 0, 0, 0], [0, 0, 0, 0, 92, 0, 0, 0, 0, 0, 92, 0, 0, 0], [0, 0, 0, 0, 0, 0, 0, 0, 0, 0, 301, 0, 0, 0, 0, 0, 0, 0, 0, 0, 0, 0, 0, 0], [0, 0, 314, 0, 0, 0], [0, 0, 0, 0, 0, 0, 84, 0, 0, 0, 0, 447, 0, 0, 0, 0, 0, 0], [0, 0, 0, 0, 0, 0, 267, 0, 0, 0, 0, 0, 301, 0, 0, 0, 432, 0, 0, 0, 0, 0, 0, 0, 0], [0, 0, 0, 0, 0, 0, 428, 0, 0, 0, 0, 0, 84, 0, 0, 0, 0, 0, 428, 0, 0, 0, 0, 355, 0, 0, 0, 0, 355, 0, 0, 0, 0, 0, 0, 0, 0, 0, 0, 0], [0, 0, 0, 0, 89, 0, 0, 0, 0, 0, 89, 0, 0, 0], [0, 0, 0, 0, 91, 0, 0, 0, 0, 0, 91, 0, 0, 0], [0, 0, 0, 0, 0, 0, 0, 0, 86, 0, 0, 0, 0, 0, 0, 272, 0, 0, 0, 0, 0, 0, 0, 0, 0, 0, 0, 0, 0, 0, 0, 0, 276, 0, 0, 0, 0, 0, 0, 0, 0, 0, 0, 280, 0, 0, 0, 284, 0], [0, 0, 0, 293, 0, 0, 0, 0, 0, 0, 0, 0, 86, 0, 0, 0, 0, 84, 0, 0, 0, 306, 0, 0, 0, 0, 0, 0, 0, 306, 0, 0, 0, 0, 0, 0, 310, 0, 0, 0, 0, 0, 0, 84, 0, 0, 0, 306, 0, 0, 0, 0, 0, 0, 318, 0, 0, 0, 284, 0], [0, 0, 0, 0, 84, 0, 0, 0, 306, 0, 0, 0, 0, 0, 0, 322, 0, 0, 0, 0, 0, 326, 0, 0, 0], [0, 0, 0, 0, 0, 0, 93, 0, 0, 0, 267, 0, 0, 0, 0, 297, 0, 0, 298, 0, 0, 0, 0, 0, 0, 84, 0, 0, 0, 91, 0, 0, 0, 0, 0, 0, 0, 0, 0, 0, 0, 0, 0, 301, 0, 93, 0, 305, 0, 0, 0, 0, 0, 0, 0, 91, 0, 0, 0, 0, 0, 0]]
def sm_ps1 : List (List Nat) := [[0, 0, 314, 0, 0, 314, 0, 0, 0, 0, 0, 0, 84, 0, 0, 0, 0, 0, 0, 0, 0, 0, 314, 0, 0, 0, 0, 0, 0, 0, 0, 0, 0], [0, 272, 0, 0, 0, 0, 0, 0, 0, 0, 0, 0, 0, 0, 0, 301, 276, 0, 0, 0, 0, 0, 314, 0, 0, 280, 0], [0, 272, 0, 0, 0, 0, 0, 0, 0, 0, 0, 0, 0, 0, 330, 0, 0, 0, 334, 0, 0, 0, 0, 0, 0, 0, 0, 0, 0, 0, 0, 330, 0, 0, 0, 0, 0, 0, 0, 0, 0, 0, 0, 0, 0, 0, 276, 0, 0, 0, 0, 0, 314, 0, 0, 314, 0, 0, 0, 280, 0], [0, 0, 306, 0, 0, 0, 301, 0, 0, 0, 306, 0, 0, 0, 301, 0, 0, 0], [0, 86, 0, 0, 0], [0, 0, 0, 0, 88, 0, 0, 0, 88, 0, 0, 0, 0], [0, 86, 0, 0, 86, 0, 90, 0, 0, 0, 90, 0, 86, 0, 0, 0, 0, 86, 0, 0, 86, 0], [0, 87, 0, 0, 0, 88, 87, 0, 0, 88, 0, 89, 0, 0, 0, 90, 89, 0, 0, 90, 0, 0, 86, 84, 0], [0, 0, 0, 0, 84, 0, 0, 0, 92, 0, 0, 0, 0, 0, 0, 0, 0, 0, 0, 0, 0, 0, 301, 0, 0, 0, 0, 0, 92, 0, 0, 0, 0, 0, 0], [0, 0, 0, 0, 84, 0, 0, 0, 0, 0, 0, 0, 0, 0, 0, 351, 0, 0, 0, 0, 0, 0, 359, 0, 0, 0, 0, 0], [0, 0, 0, 0, 0, 0, 0, 0, 301, 0, 0, 355, 0, 0, 0, 0, 0, 301, 0, 0, 355, 0, 0, 0, 0, 0, 0, 0, 0, 0, 0, 0, 0, 0, 0, 0, 0, 0, 0], [0, 0, 0, 0, 84, 0, 0, 0, 0, 0, 84, 0, 0, 84, 0, 0, 0, 0, 0, 0, 0, 0, 0, 87, 0, 0, 0, 0, 0, 0, 0, 0, 87, 0, 0, 0, 0, 0, 0, 87, 0, 0, 0, 0, 0, 0, 0, 0, 87, 0, 0, 0, 0, 0, 0, 0, 0, 0, 0, 89, 0, 0, 0, 0, 89, 0, 0, 89, 0, 0, 0, 0, 89, 0, 0, 0, 0, 92, 0, 0, 0, 0, 92, 0, 0, 92, 0, 0, 0, 0, 92, 0, 0, 0, 0], [0, 0, 337, 0, 0, 0, 340, 0, 0, 0, 0, 0, 0, 0, 0, 0, 0, 0, 0, 0, 0, 0, 0, 0, 0, 0, 0, 0, 0], [0, 125, 0, 0, 126, 0, 0, 128, 0, 0, 0, 129, 0, 0, 0, 130, 0, 0, 131, 0, 0, 132, 0, 0, 133, 0, 0, 134, 0, 0, 135, 0], [0, 203, 0, 0, 0, 0], [0, 203, 0, 0, 0, 0]]
def sm_ps2 : List (List Nat) := [[0, 203, 0, 0, 0, 0], [0, 203, 0, 0, 0, 0], [0, 203, 0, 0, 0, 0], [0, 203, 0, 0, 0, 0], [0, 203, 0, 0, 0, 0], [0, 203, 0, 0, 0, 0], [0, 203, 0, 0, 0, 0], [0, 203, 0, 0, 0, 0], [0, 43, 0, 0, 55, 0, 0, 58, 0, 0, 0, 60, 0, 0, 0, 62, 0, 0, 0, 64, 0, 0, 44, 0], [0, 0, 55, 0, 60, 0, 0, 48, 0, 62, 0, 51, 0, 48, 0, 64, 0, 0, 48, 0], [0, 0, 55, 55, 0, 0, 58, 58, 0, 60, 0, 0, 60, 0, 0, 192, 0, 62, 0, 0, 62, 0, 0, 192, 0, 64, 0, 0, 64, 0, 0, 192, 0], [0, 55, 0, 0, 0, 0, 0, 0, 0, 0, 0, 0, 60, 0, 228, 0, 0, 228, 0, 0, 0, 0, 0, 0, 0], [0, 0, 55, 0, 0], [0, 55, 0, 0, 0, 0, 0], [0, 0, 55, 0, 0, 0, 0, 0, 0, 0, 0, 0, 0, 0, 55, 0, 0, 0, 0], [0, 60, 0, 0, 0, 0, 0, 228, 0]]
def sm_ps3 : List (List Nat) := [[0, 60, 0, 0, 0, 0, 0, 0, 390, 0], [0, 0, 0, 0, 0, 0, 255, 0, 0, 0, 255, 0, 0, 0, 0, 0, 255, 0], [0, 0, 0, 0, 0, 0, 51, 0, 0, 0, 0, 228, 0, 0, 0, 368, 0, 0, 0, 0, 0, 0, 0], [0, 0, 55, 0, 55, 0, 0, 0, 0, 0], [0, 0, 0, 0, 0, 0, 0], [0, 0, 0, 0, 0, 0, 55, 0, 0, 0, 0, 0, 0, 0, 0, 0, 0, 0, 0], [0, 0, 243, 0, 0, 0, 0, 0, 55, 0, 0, 0, 0, 0, 0, 0, 0, 0, 0, 0, 0, 0, 0, 0, 0, 0, 0, 0, 0, 0], [0, 0, 235, 0, 0, 0, 0, 239, 0, 0, 243, 0, 0, 0, 0, 0, 0, 239, 0, 0, 0, 0, 239, 0, 0, 0, 247, 0, 0, 0, 0, 0, 0, 251, 0, 0, 0, 0, 251, 0, 0, 0, 0, 255, 0, 0, 0, 255, 0, 0], [0, 0, 0, 0, 0, 0, 51, 0, 0, 0, 0, 228, 0, 0, 0, 231, 0, 0, 0, 0, 0, 0, 0], [0, 0, 0, 0, 0, 0, 223, 0, 0, 0, 0, 62, 224, 0, 0, 0, 0, 0, 0], [0, 0, 0, 0, 223, 0, 0, 0, 0, 231, 0, 0, 0, 0, 0, 0, 0], [0, 0, 58, 0, 507, 0, 508, 0, 509, 0, 0, 58, 0, 62, 510, 0, 0, 0, 0, 0, 0, 58, 511, 0, 0, 0, 0, 0, 0, 0, 62, 0, 228, 0, 0, 0, 0, 0, 0, 51, 0, 0, 0, 0, 0, 0, 62, 0, 228, 0, 0, 0, 0, 64, 0, 0, 64, 0, 228, 0, 0, 390, 0, 0], [0, 35, 0, 38, 0, 40, 157, 0, 78, 0, 80, 158, 0, 120, 0, 122, 159, 0, 0, 38, 160, 0, 0, 38, 161, 0, 0, 162, 0], [0, 0, 0, 0, 0, 0, 0, 0, 0, 157, 56, 0, 0, 180, 0, 157, 0, 195, 0, 0], [0, 377, 0, 0, 0, 0, 380, 0, 0, 0, 0, 0, 0, 0, 0, 0, 0, 0, 0, 157, 0, 0, 384, 0, 0, 157, 0, 0, 385, 0, 0, 180, 0, 157, 0, 0, 0, 386, 0, 0, 0, 0], [0, 0, 0, 380, 0, 0, 0, 0, 0, 0, 0, 0, 0, 0, 0, 157, 0, 0, 384, 0, 0, 157, 63, 0, 401, 0, 0, 157, 63, 216, 0, 0, 0, 0, 0, 0, 0, 0, 180, 0, 157, 63, 0, 0, 402, 0, 0]]
def sm_ps4 : List (List Nat) := [[0, 158, 0, 157, 259, 0, 0, 0, 460, 0, 0, 0, 0, 0, 0, 0, 0, 477, 0], [0, 158, 0, 157, 259, 0, 0, 0, 460, 0, 0, 0, 0, 0, 0, 0, 0, 0, 0, 0, 0, 0, 0, 0, 0, 0, 0, 0, 0, 0, 0, 0, 0, 0, 0, 477, 0], [0, 0, 0, 0, 0, 0, 0, 0, 0, 157, 65, 216, 0, 0, 0, 0, 0, 0, 0, 180, 0, 0, 0, 0, 0, 0, 0, 0, 157, 503, 0, 0, 0, 0, 0], [0, 0, 0, 0, 0, 157, 65, 216, 0, 0, 180, 0, 157, 65, 0, 0, 498, 0, 157, 0, 59, 0, 0], [0, 203, 0, 0, 0, 0], [0, 0, 0, 380, 0, 0, 0, 0, 157, 0, 0, 384, 0, 0, 0, 0, 157, 0, 0, 385, 0, 0, 0, 0, 157, 63, 0, 401, 0, 0, 157, 65, 0, 401, 0, 0, 157, 0, 439, 0, 0, 0, 0, 0, 0, 158, 0, 157, 259, 443, 0, 0, 0, 0, 0, 0, 0], [0, 0, 0, 0, 157, 212, 0, 0, 0, 0, 0, 0, 157, 0, 520, 0, 0, 157, 0, 521, 0, 0, 157, 0, 522, 0, 0, 157, 0, 0, 157, 63, 523, 524, 0, 0, 524, 0, 157, 0, 0, 157, 65, 523, 0, 0, 0, 0], [0, 0, 0, 157, 56, 0, 0, 157, 211, 0, 0, 157, 212, 0, 0, 157, 63, 216, 0, 0, 157, 219, 0, 0, 0, 0, 0, 0, 157, 219, 0, 0, 158, 0, 157, 259, 85, 0, 0, 157, 65, 216, 0, 0, 157, 0, 157, 65, 0, 0, 0, 364, 372, 0, 0, 0, 157, 59, 0, 0, 159, 127, 0, 0, 162, 0, 0, 0], [0, 410, 0, 0, 0, 0, 157, 0, 157, 63, 0, 364, 0, 0, 157, 63, 216, 0, 413, 0], [0, 158, 0, 157, 259, 0, 0, 0, 460, 0, 0, 0, 0, 0, 0, 0, 157, 211, 0, 0, 0, 0, 464, 0, 0, 0, 0, 0, 0, 434, 0, 0, 0, 0, 465, 0, 0, 0, 466, 0, 0, 0], [0, 410, 0, 0, 0, 0, 0, 0, 0, 0, 0, 158, 0, 157, 259, 0, 0, 0, 157, 0, 424, 0, 0, 0, 0, 0, 0, 0, 157, 0, 0, 433, 0, 0, 434, 413, 0], [0, 377, 0, 0, 0, 0, 158, 0, 157, 259, 443, 0, 0, 0, 0, 0, 0, 0, 157, 211, 0, 0, 0, 0, 0, 0, 0, 0, 0, 0, 0, 157, 0, 0, 455, 0, 0, 0, 0, 0, 0, 0, 0, 0, 0, 0, 157, 56, 0, 0, 0, 0, 0, 0, 0, 0, 0, 0], [0, 203, 0, 0, 0, 0], [0, 203, 0, 0, 0, 0], [0, 203, 0, 0, 0, 0], [0, 203, 0, 0, 0, 0]]
def sm_ps5 : List (List Nat) := [[0, 162, 0, 0, 0, 162, 0, 160, 0, 0, 0, 0, 0, 160, 0, 162, 0, 0, 0, 0, 0, 0, 0, 0, 0, 157, 0, 188, 0, 0, 162, 0, 0, 162, 0, 162, 0], [0, 203, 0, 0, 0, 0], [0, 203, 0, 0, 0, 0], [0, 0, 0, 0, 0, 0, 0, 0, 0], [0, 377, 0, 0, 0, 0, 0, 0, 0, 0], [0, 0, 0, 0, 0, 0, 0, 0, 0, 157, 56, 0, 0, 0, 0, 0], [0, 0, 0, 0, 157, 211, 0, 0, 0, 0, 0, 0, 0, 481, 485, 0, 0, 0, 0, 0, 0, 0, 180, 0, 0, 0, 0, 157, 211, 0, 0, 157, 63, 0, 0, 0, 0, 0, 0, 0, 481, 0, 402, 0, 0, 0, 157, 63, 216, 0], [0, 0, 0, 157, 63, 0, 401, 0, 0, 0, 0, 0, 0, 0, 464, 0, 0, 0], [0, 0, 0, 0, 372, 0, 416, 0, 0, 0, 417, 0, 372, 0, 0], [0, 162, 0, 160, 0, 0, 0, 184, 0, 162, 0, 0, 162, 0, 160, 0, 0, 0, 0, 160, 0, 162, 0, 0, 0, 0, 38, 0, 40, 0, 0, 160, 0, 162, 0, 0, 0, 0, 157, 188, 0, 0, 162, 0, 0, 162, 0], [0, 160, 0, 0, 0, 0, 0, 0, 0, 160, 0, 0, 0, 160, 0, 0, 0, 0, 160, 0, 0, 0, 0, 0, 0, 160, 0, 160, 0, 0, 0, 0, 0, 0, 0, 160, 0, 0, 0, 162, 0], [0, 0, 0, 0, 0, 0, 0, 0, 0, 0, 0, 0], [0, 0, 0, 0, 0, 0, 0, 0, 0, 0, 0], [0, 0, 0, 0, 0, 0, 0, 0, 0, 0, 0, 0, 0, 0, 0, 0, 0, 0], [0, 0, 0, 0, 0, 0, 0, 0, 0, 0, 0, 0, 0, 0, 0, 0, 0, 0, 0, 0, 0, 0, 0, 0], [0, 0, 0, 0, 0, 0, 0, 0, 199, 0, 0, 0, 0, 0]]
def sm_ps6 : List (List Nat) := [[0, 203, 0, 0, 0, 0], [0, 0, 0, 0, 0, 0, 0, 0, 0, 0], [0, 0, 0, 0, 0, 0, 0, 0, 0, 0, 0, 0, 0, 0, 0, 0, 0, 0, 0], [0, 0, 0, 0, 0, 0, 207, 0, 0, 0, 200, 0, 0, 0, 0, 0, 200, 0, 0, 0, 200, 0, 0, 0, 0, 0, 200, 0, 0, 0, 0, 0, 200, 0, 0, 0, 0, 0, 0, 0, 0, 373, 0, 0, 0, 0, 391, 0, 0, 0, 394, 0, 373, 0, 0, 0, 0, 0, 0, 0, 0, 0, 0, 0, 0, 200, 397, 0, 0, 0, 391, 0, 0, 0, 394, 0, 0, 0, 0, 200, 397, 0, 0, 0, 0, 0], [0, 0, 207, 0, 0, 0, 207, 0, 0, 0, 0, 207, 0, 0, 0, 207, 0, 0, 207, 0, 0, 0, 207, 0, 0, 207, 0, 0, 0, 207, 0, 0, 207, 0, 0, 0, 0, 0, 0, 0, 0, 0, 0, 0, 0, 0, 0, 406, 0, 0, 406, 0, 0, 0, 0, 420, 0, 0, 0, 420, 0, 0, 0, 0, 0, 0, 0, 0, 0, 0, 0, 0, 0, 0, 0, 0, 0, 0, 0, 0, 0, 0, 0, 0, 0, 0, 0, 0, 435, 0, 0, 0, 391, 0, 0, 0, 394, 0, 435, 0, 0, 0, 0, 0, 0, 0, 0, 0, 0, 0, 0, 0, 0, 0, 0, 0, 0, 0, 0, 451, 0, 0, 0, 0, 0, 0, 451, 0, 0, 391, 0, 0, 0, 0, 0, 0, 0, 0, 0, 0, 0, 0, 0, 0, 0, 0, 0, 0, 0, 451, 0, 0, 0, 0, 0, 0, 451, 0, 0, 0, 394, 0, 0, 0, 0, 0, 0, 0, 0, 0, 0, 0, 0, 0, 0, 0, 0, 0, 0, 0, 0, 0, 0, 0, 0, 0, 0, 0, 0, 0, 0, 0, 0, 0, 0, 0, 456, 0, 0, 0, 456, 0, 0, 0, 0, 0, 0, 0, 0, 0, 0, 0, 0, 0, 0, 0, 0, 0, 456, 0, 0, 0, 0, 0, 0, 0, 391, 0, 0, 0, 0, 0, 0, 394, 0, 456, 0, 0, 0, 0, 0, 0, 0, 0, 0, 0, 0, 0, 0, 0, 0], [0, 0, 0, 207, 200, 0, 0, 0, 473, 0, 0, 0, 0, 0, 0, 0, 0, 456, 0, 0, 0, 207, 0, 0, 0, 0, 0, 0, 0, 0, 0, 0, 0, 0, 0, 0, 0, 0, 0, 0, 0, 0, 0, 0, 207, 200, 0, 0, 0, 207, 0, 0, 0, 0, 0, 0, 0, 0, 0, 0, 0, 0, 0, 0, 0, 0, 0, 0, 0, 200, 486, 0, 0, 0, 0, 0, 0, 0, 207, 0, 0, 0, 0, 0, 207, 0, 0, 0, 0, 0, 0, 0, 0, 207, 0, 0, 0, 0, 0, 0, 406, 0, 0, 0, 420, 0, 0, 0, 406, 0, 0, 0, 420, 0, 0, 0, 406, 0, 0, 0, 420, 0, 0, 0, 207, 0, 0, 0, 0, 0, 0, 0, 0, 0], [0, 0, 493, 200, 494, 0, 0, 0, 0, 0, 0, 0, 200, 0, 499, 0, 0, 0, 0, 0, 207, 0, 0, 0, 0, 0, 0, 0, 0, 0, 0, 0, 0, 0, 0, 0, 0, 435, 0, 0, 0, 0, 0, 0, 0, 0, 0, 0, 0, 0, 0, 0, 0, 435, 0, 0, 0, 0, 0, 0, 0, 0, 0, 0, 0, 0, 207, 0, 0, 0, 0, 0, 0, 0, 200, 0, 0, 0, 0, 0, 0, 0, 0, 0, 0, 435, 0, 0, 512, 0, 0, 0, 207, 0, 0, 0, 207, 493, 0, 0, 0, 0, 0, 0, 0, 0, 0, 0, 207, 0, 0, 0, 0, 0, 0, 516, 525, 0, 0, 0, 0, 0, 0, 0, 0, 0], [0, 203, 0, 0, 0, 0], [0, 203, 0, 0, 0, 0], [0, 203, 0, 0, 0, 0], [0, 203, 0, 0, 0, 0], [0, 203, 0, 0, 0, 0], [0, 203, 0, 0, 0, 0], [0, 203, 0, 0, 0, 0], [0, 203, 0, 0, 0, 0], [0, 203, 0, 0, 0, 0]]
def sm_ps7 : List (List Nat) := [[0, 203, 0, 0, 0, 0], [0, 203, 0, 0, 0, 0], [0, 203, 0, 0, 0, 0], [0, 203, 0, 0, 0, 0], [0, 203, 0, 0, 0, 0], [0, 203, 0, 0, 0, 0], [0, 203, 0, 0, 0, 0], [0, 203, 0, 0, 0, 0], [0, 203, 0, 0, 0, 0], [0, 203, 0, 0, 0, 0], [0, 203, 0, 0, 0, 0], [0, 203, 0, 0, 0, 0], [0, 203, 0, 0, 0, 0], [0, 203, 0, 0, 0, 0], [0, 203, 0, 0, 0, 0], [0, 203, 0, 0, 0, 0]]
def sm_ps8 : List (List Nat) := [[0, 203, 0, 0, 0, 0], [0, 203, 0, 0, 0, 0], [0, 203, 0, 0, 0, 0], [0, 203, 0, 0, 0, 0], [0, 203, 0, 0, 0, 0], [0, 203, 0, 0, 0, 0], [0, 203, 0, 0, 0, 0], [0, 203, 0, 0, 0, 0], [0, 203, 0, 0, 0, 0], [0, 203, 0, 0, 0, 0], [0, 203, 0, 0, 0, 0], [0, 203, 0, 0, 0, 0], [0, 203, 0, 0, 0, 0], [0, 203, 0, 0, 0, 0], [0, 203, 0, 0, 0, 0], [0, 203, 0, 0, 0, 0]]
def sm_ps9 : List (List Nat) := [[0, 203, 0, 0, 0, 0], [0, 203, 0, 0, 0, 0], [0, 203, 0, 0, 0, 0], [0, 203, 0, 0, 0, 0], [0, 203, 0, 0, 0, 0], [0, 203, 0, 0, 0, 0], [0, 203, 0, 0, 0, 0], [0, 203, 0, 0, 0, 0], [0, 203, 0, 0, 0, 0], [0, 203, 0, 0, 0, 0], [0, 203, 0, 0, 0, 0], [0, 203, 0, 0, 0, 0], [0, 203, 0, 0, 0, 0], [0, 203, 0, 0, 0, 0], [0, 203, 0, 0, 0, 0], [0, 203, 0, 0, 0, 0]]
def sm_ps10 : List (List Nat) := [[0, 203, 0, 0, 0, 0], [0, 203, 0, 0, 0, 0], [0, 0, 0, 0, 0, 0, 0, 0, 0, 0, 0, 0, 0, 0, 0, 0, 0, 0, 0, 0, 0, 0], [0, 0, 0, 0, 0, 0, 0, 0], [0, 0, 0, 0, 0, 0, 0, 0], [30, 0, 32, 0, 30, 0, 32, 0, 0, 0, 196, 0, 200, 0, 0, 0, 0, 196, 0, 200, 0, 0, 0, 0, 176, 0, 0, 176, 0, 0, 0, 0, 0, 0, 0, 0, 0, 0, 0, 0, 0, 0, 0, 0, 0, 196, 204, 0, 0, 0, 0, 0, 0, 0, 0, 0, 0, 0, 0, 196, 0, 0, 0, 200, 403, 0, 0, 0, 0, 0, 0, 0, 0, 0, 0, 0, 0, 0, 0, 196, 0, 200, 403, 0, 0, 0, 0, 196, 470, 0, 0, 0, 0, 196, 490, 0, 0, 0, 0, 0]]
def sm_ps (i : Nat) : List Nat := bif Nat.blt i 16 then sm_ps0.getD (i - 0) [] else bif Nat.blt i 32 then sm_ps1.getD (i - 16) [] else bif Nat.blt i 48 then sm_ps2.getD (i - 32) [] else bif Nat.blt i 64 then sm_ps3.getD (i - 48) [] else bif Nat.blt i 80 then sm_ps4.getD (i - 64) [] else bif Nat.blt i 96 then sm_ps5.getD (i - 80) [] else bif Nat.blt i 112 then sm_ps6.getD (i - 96) [] else bif Nat.blt i 128 then sm_ps7.getD (i - 112) [] else bif Nat.blt i 144 then sm_ps8.getD (i - 128) [] else bif Nat.blt i 160 then sm_ps9.getD (i - 144) [] else bif Nat.blt i 176 then sm_ps10.getD (i - 160) [] else []
def sm_mw : List (Nat × Nat × Nat × Nat) := [(82, 26, 81, 0), (262, 26, 260, 261), (463, 26, 461, 462), (304, 26, 302, 303), (358, 26, 356, 357), (450, 26, 448, 449), (469, 26, 467, 468), (446, 26, 444, 445), (431, 26, 429, 430), (427, 26, 425, 426), (317, 26, 316, 11), (309, 26, 308, 9), (271, 26, 270, 2), (292, 26, 291, 7), (321, 26, 320, 12), (296, 26, 295, 8), (325, 26, 324, 13), (313, 26, 312, 10), (329, 26, 328, 14), (333, 26, 332, 15), (275, 26, 274, 3), (279, 26, 278, 4), (283, 26, 282, 5), (287, 26, 286, 6), (346, 26, 345, 16), (350, 26, 349, 17), (354, 26, 353, 18), (362, 26, 361, 19), (336, 26, 335, 0), (124, 27, 123, 0), (202, 23, 201, 0), (202, 23, 201, 0), (202, 23, 201, 0), (202, 23, 201, 0), (202, 23, 201, 0), (202, 23, 201, 0), (202, 23, 201, 0), (202, 23, 201, 0), (202, 23, 201, 0), (202, 23, 201, 0), (42, 25, 41, 0), (47, 25, 45, 46), (191, 25, 189, 190), (266, 25, 264, 265), (54, 25, 52, 53), (254, 25, 252, 253), (242, 25, 240, 241), (258, 25, 256, 257), (389, 25, 387, 388), (371, 25, 369, 370), (367, 25, 365, 366), (215, 25, 213, 214), (238, 25, 236, 237), (246, 25, 244, 245), (250, 25, 248, 249), (234, 25, 232, 233), (227, 25, 225, 226), (222, 25, 220, 221), (442, 25, 440, 441), (506, 25, 504, 505), (34, 24, 33, 0), (179, 24, 177, 178), (376, 24, 374, 375), (400, 24, 398, 399), (476, 24, 474, 475), (489, 24, 487, 488), (502, 24, 500, 501), (497, 24, 495, 496), (202, 23, 201, 0), (438, 24, 436, 437), (519, 24, 517, 518), (210, 24, 208, 209), (409, 24, 407, 408), (459, 24, 457, 458), (423, 24, 421, 422), (454, 24, 452, 453), (202, 23, 201, 0), (202, 23, 201, 0), (202, 23, 201, 0), (202, 23, 201, 0), (515, 24, 513, 514), (202, 23, 201, 0), (202, 23, 201, 0), (379, 24, 378, 0), (412, 24, 411, 0), (383, 24, 382, 20), (480, 24, 479, 21), (484, 24, 483, 22), (415, 24, 414, 0), (183, 24, 182, 0), (187, 24, 186, 1), (230, 24, 229, 0), (300, 24, 299, 0), (50, 24, 49, 0), (218, 24, 217, 0), (198, 23, 197, 0), (202, 23, 201, 0), (393, 23, 392, 0), (396, 23, 395, 0), (206, 23, 205, 0), (405, 23, 404, 0), (472, 23, 471, 0), (492, 23, 491, 0), (202, 23, 201, 0), (202, 23, 201, 0), (202, 23, 201, 0), (202, 23, 201, 0), (202, 23, 201, 0), (202, 23, 201, 0), (202, 23, 201, 0), (202, 23, 201, 0), (202, 23, 201, 0), (202, 23, 201, 0), (202, 23, 201, 0), (202, 23, 201, 0), (202, 23, 201, 0), (202, 23, 201, 0), (202, 23, 201, 0), (202, 23, 201, 0), (202, 23, 201, 0), (202, 23, 201, 0), (202, 23, 201, 0), (202, 23, 201, 0), (202, 23, 201, 0), (202, 23, 201, 0), (202, 23, 201, 0), (202, 23, 201, 0), (202, 23, 201, 0), (202, 23, 201, 0), (202, 23, 201, 0), (202, 23, 201, 0), (202, 23, 201, 0), (202, 23, 201, 0), (202, 23, 201, 0), (202, 23, 201, 0), (202, 23, 201, 0), (202, 23, 201, 0), (202, 23, 201, 0), (202, 23, 201, 0), (202, 23, 201, 0), (202, 23, 201, 0), (202, 23, 201, 0), (202, 23, 201, 0), (202, 23, 201, 0), (202, 23, 201, 0), (202, 23, 201, 0), (202, 23, 201, 0), (202, 23, 201, 0), (202, 23, 201, 0), (202, 23, 201, 0), (202, 23, 201, 0), (202, 23, 201, 0), (202, 23, 201, 0), (202, 23, 201, 0), (202, 23, 201, 0), (202, 23, 201, 0), (202, 23, 201, 0), (202, 23, 201, 0), (202, 23, 201, 0), (202, 23, 201, 0), (202, 23, 201, 0), (202, 23, 201, 0), (419, 29, 418, 0), (339, 29, 338, 0), (342, 29, 341, 0)]
def sm_zB (P : SP) : List AE → List Nat → Bool
  | [], _ => true
  | q :: r, p :: ps => sm_eB P q p && sm_zB P r ps
  | _ :: _, [] => false
def sm_iB (i : Nat) : Bool := sm_zB (sm_P i) (am_M i).1 (sm_ps i) && (decide ((am_M i).2.1 = (sm_P i).2.2.1) && sm_rB (am_M i).2.2.1 (sm_P i).2.2.2.1)
set_option maxRecDepth 100000 in
theorem sm_mws : ((List.range 165).zip sm_mw).all (fun x => sm_mB (sm_P x.1) x.2.1 x.2.2.1 x.2.2.2.1 x.2.2.2.2) = true := by decide +kernel
set_option maxRecDepth 100000 in
theorem sm_cw0 : lw_tbl[82]? = some (Cond.code (sm_P 0).1 (sm_P 0).2.1 (sm_P 0).2.2.1 (sm_P 0).2.2.2.1) := rfl
set_option maxRecDepth 100000 in
theorem sm_cw1 : lw_tbl[262]? = some (Cond.code (sm_P 1).1 (sm_P 1).2.1 (sm_P 1).2.2.1 (sm_P 1).2.2.2.1) := rfl
set_option maxRecDepth 100000 in
theorem sm_cw2 : lw_tbl[463]? = some (Cond.code (sm_P 2).1 (sm_P 2).2.1 (sm_P 2).2.2.1 (sm_P 2).2.2.2.1) := rfl
set_option maxRecDepth 100000 in
theorem sm_cw3 : lw_tbl[304]? = some (Cond.code (sm_P 3).1 (sm_P 3).2.1 (sm_P 3).2.2.1 (sm_P 3).2.2.2.1) := rfl
set_option maxRecDepth 100000 in
theorem sm_cw4 : lw_tbl[358]? = some (Cond.code (sm_P 4).1 (sm_P 4).2.1 (sm_P 4).2.2.1 (sm_P 4).2.2.2.1) := rfl
set_option maxRecDepth 100000 in
theorem sm_cw5 : lw_tbl[450]? = some (Cond.code (sm_P 5).1 (sm_P 5).2.1 (sm_P 5).2.2.1 (sm_P 5).2.2.2.1) := rfl
set_option maxRecDepth 100000 in
theorem sm_cw6 : lw_tbl[469]? = some (Cond.code (sm_P 6).1 (sm_P 6).2.1 (sm_P 6).2.2.1 (sm_P 6).2.2.2.1) := rfl
set_option maxRecDepth 100000 in
theorem sm_cw7 : lw_tbl[446]? = some (Cond.code (sm_P 7).1 (sm_P 7).2.1 (sm_P 7).2.2.1 (sm_P 7).2.2.2.1) := rfl
set_option maxRecDepth 100000 in
theorem sm_cw8 : lw_tbl[431]? = some (Cond.code (sm_P 8).1 (sm_P 8).2.1 (sm_P 8).2.2.1 (sm_P 8).2.2.2.1) := rfl
set_option maxRecDepth 100000 in
theorem sm_cw9 : lw_tbl[427]? = some (Cond.code (sm_P 9).1 (sm_P 9).2.1 (sm_P 9).2.2.1 (sm_P 9).2.2.2.1) := rfl
set_option maxRecDepth 100000 in
theorem sm_cw10 : lw_tbl[317]? = some (Cond.code (sm_P 10).1 (sm_P 10).2.1 (sm_P 10).2.2.1 (sm_P 10).2.2.2.1) := rfl
set_option maxRecDepth 100000 in
theorem sm_cw11 : lw_tbl[309]? = some (Cond.code (sm_P 11).1 (sm_P 11).2.1 (sm_P 11).2.2.1 (sm_P 11).2.2.2.1) := rfl
set_option maxRecDepth 100000 in
theorem sm_cw12 : lw_tbl[271]? = some (Cond.code (sm_P 12).1 (sm_P 12).2.1 (sm_P 12).2.2.1 (sm_P 12).2.2.2.1) := rfl
set_option maxRecDepth 100000 in
theorem sm_cw13 : lw_tbl[292]? = some (Cond.code (sm_P 13).1 (sm_P 13).2.1 (sm_P 13).2.2.1 (sm_P 13).2.2.2.1) := rfl
set_option maxRecDepth 100000 in
theorem sm_cw14 : lw_tbl[321]? = some (Cond.code (sm_P 14).1 (sm_P 14).2.1 (sm_P 14).2.2.1 (sm_P 14).2.2.2.1) := rfl
set_option maxRecDepth 100000 in
theorem sm_cw15 : lw_tbl[296]? = some (Cond.code (sm_P 15).1 (sm_P 15).2.1 (sm_P 15).2.2.1 (sm_P 15).2.2.2.1) := rfl
set_option maxRecDepth 100000 in
theorem sm_cw16 : lw_tbl[325]? = some (Cond.code (sm_P 16).1 (sm_P 16).2.1 (sm_P 16).2.2.1 (sm_P 16).2.2.2.1) := rfl
set_option maxRecDepth 100000 in
theorem sm_cw17 : lw_tbl[313]? = some (Cond.code (sm_P 17).1 (sm_P 17).2.1 (sm_P 17).2.2.1 (sm_P 17).2.2.2.1) := rfl
set_option maxRecDepth 100000 in
theorem sm_cw18 : lw_tbl[329]? = some (Cond.code (sm_P 18).1 (sm_P 18).2.1 (sm_P 18).2.2.1 (sm_P 18).2.2.2.1) := rfl
set_option maxRecDepth 100000 in
theorem sm_cw19 : lw_tbl[333]? = some (Cond.code (sm_P 19).1 (sm_P 19).2.1 (sm_P 19).2.2.1 (sm_P 19).2.2.2.1) := rfl
set_option maxRecDepth 100000 in
theorem sm_cw20 : lw_tbl[275]? = some (Cond.code (sm_P 20).1 (sm_P 20).2.1 (sm_P 20).2.2.1 (sm_P 20).2.2.2.1) := rfl
set_option maxRecDepth 100000 in
theorem sm_cw21 : lw_tbl[279]? = some (Cond.code (sm_P 21).1 (sm_P 21).2.1 (sm_P 21).2.2.1 (sm_P 21).2.2.2.1) := rfl
set_option maxRecDepth 100000 in
theorem sm_cw22 : lw_tbl[283]? = some (Cond.code (sm_P 22).1 (sm_P 22).2.1 (sm_P 22).2.2.1 (sm_P 22).2.2.2.1) := rfl
set_option maxRecDepth 100000 in
theorem sm_cw23 : lw_tbl[287]? = some (Cond.code (sm_P 23).1 (sm_P 23).2.1 (sm_P 23).2.2.1 (sm_P 23).2.2.2.1) := rfl
set_option maxRecDepth 100000 in
theorem sm_cw24 : lw_tbl[346]? = some (Cond.code (sm_P 24).1 (sm_P 24).2.1 (sm_P 24).2.2.1 (sm_P 24).2.2.2.1) := rfl
set_option maxRecDepth 100000 in
theorem sm_cw25 : lw_tbl[350]? = some (Cond.code (sm_P 25).1 (sm_P 25).2.1 (sm_P 25).2.2.1 (sm_P 25).2.2.2.1) := rfl
set_option maxRecDepth 100000 in
theorem sm_cw26 : lw_tbl[354]? = some (Cond.code (sm_P 26).1 (sm_P 26).2.1 (sm_P 26).2.2.1 (sm_P 26).2.2.2.1) := rfl
set_option maxRecDepth 100000 in
theorem sm_cw27 : lw_tbl[362]? = some (Cond.code (sm_P 27).1 (sm_P 27).2.1 (sm_P 27).2.2.1 (sm_P 27).2.2.2.1) := rfl
set_option maxRecDepth 100000 in
theorem sm_cw28 : lw_tbl[336]? = some (Cond.code (sm_P 28).1 (sm_P 28).2.1 (sm_P 28).2.2.1 (sm_P 28).2.2.2.1) := rfl
set_option maxRecDepth 100000 in
theorem sm_cw29 : lw_tbl[124]? = some (Cond.code (sm_P 29).1 (sm_P 29).2.1 (sm_P 29).2.2.1 (sm_P 29).2.2.2.1) := rfl
set_option maxRecDepth 100000 in
theorem sm_cw30 : lw_tbl[202]? = some (Cond.code (sm_P 30).1 (sm_P 30).2.1 (sm_P 30).2.2.1 (sm_P 30).2.2.2.1) := rfl
set_option maxRecDepth 100000 in
theorem sm_cw31 : lw_tbl[202]? = some (Cond.code (sm_P 31).1 (sm_P 31).2.1 (sm_P 31).2.2.1 (sm_P 31).2.2.2.1) := rfl
set_option maxRecDepth 100000 in
theorem sm_cw32 : lw_tbl[202]? = some (Cond.code (sm_P 32).1 (sm_P 32).2.1 (sm_P 32).2.2.1 (sm_P 32).2.2.2.1) := rfl
set_option maxRecDepth 100000 in
theorem sm_cw33 : lw_tbl[202]? = some (Cond.code (sm_P 33).1 (sm_P 33).2.1 (sm_P 33).2.2.1 (sm_P 33).2.2.2.1) := rfl
set_option maxRecDepth 100000 in
theorem sm_cw34 : lw_tbl[202]? = some (Cond.code (sm_P 34).1 (sm_P 34).2.1 (sm_P 34).2.2.1 (sm_P 34).2.2.2.1) := rfl
set_option maxRecDepth 100000 in
theorem sm_cw35 : lw_tbl[202]? = some (Cond.code (sm_P 35).1 (sm_P 35).2.1 (sm_P 35).2.2.1 (sm_P 35).2.2.2.1) := rfl
set_option maxRecDepth 100000 in
theorem sm_cw36 : lw_tbl[202]? = some (Cond.code (sm_P 36).1 (sm_P 36).2.1 (sm_P 36).2.2.1 (sm_P 36).2.2.2.1) := rfl
set_option maxRecDepth 100000 in
theorem sm_cw37 : lw_tbl[202]? = some (Cond.code (sm_P 37).1 (sm_P 37).2.1 (sm_P 37).2.2.1 (sm_P 37).2.2.2.1) := rfl
set_option maxRecDepth 100000 in
theorem sm_cw38 : lw_tbl[202]? = some (Cond.code (sm_P 38).1 (sm_P 38).2.1 (sm_P 38).2.2.1 (sm_P 38).2.2.2.1) := rfl
set_option maxRecDepth 100000 in
theorem sm_cw39 : lw_tbl[202]? = some (Cond.code (sm_P 39).1 (sm_P 39).2.1 (sm_P 39).2.2.1 (sm_P 39).2.2.2.1) := rfl
set_option maxRecDepth 100000 in
theorem sm_cw40 : lw_tbl[42]? = some (Cond.code (sm_P 40).1 (sm_P 40).2.1 (sm_P 40).2.2.1 (sm_P 40).2.2.2.1) := rfl
set_option maxRecDepth 100000 in
theorem sm_cw41 : lw_tbl[47]? = some (Cond.code (sm_P 41).1 (sm_P 41).2.1 (sm_P 41).2.2.1 (sm_P 41).2.2.2.1) := rfl
set_option maxRecDepth 100000 in
theorem sm_cw42 : lw_tbl[191]? = some (Cond.code (sm_P 42).1 (sm_P 42).2.1 (sm_P 42).2.2.1 (sm_P 42).2.2.2.1) := rfl
set_option maxRecDepth 100000 in
theorem sm_cw43 : lw_tbl[266]? = some (Cond.code (sm_P 43).1 (sm_P 43).2.1 (sm_P 43).2.2.1 (sm_P 43).2.2.2.1) := rfl
set_option maxRecDepth 100000 in
theorem sm_cw44 : lw_tbl[54]? = some (Cond.code (sm_P 44).1 (sm_P 44).2.1 (sm_P 44).2.2.1 (sm_P 44).2.2.2.1) := rfl
set_option maxRecDepth 100000 in
theorem sm_cw45 : lw_tbl[254]? = some (Cond.code (sm_P 45).1 (sm_P 45).2.1 (sm_P 45).2.2.1 (sm_P 45).2.2.2.1) := rfl
set_option maxRecDepth 100000 in
theorem sm_cw46 : lw_tbl[242]? = some (Cond.code (sm_P 46).1 (sm_P 46).2.1 (sm_P 46).2.2.1 (sm_P 46).2.2.2.1) := rfl
set_option maxRecDepth 100000 in
theorem sm_cw47 : lw_tbl[258]? = some (Cond.code (sm_P 47).1 (sm_P 47).2.1 (sm_P 47).2.2.1 (sm_P 47).2.2.2.1) := rfl
set_option maxRecDepth 100000 in
theorem sm_cw48 : lw_tbl[389]? = some (Cond.code (sm_P 48).1 (sm_P 48).2.1 (sm_P 48).2.2.1 (sm_P 48).2.2.2.1) := rfl
set_option maxRecDepth 100000 in
theorem sm_cw49 : lw_tbl[371]? = some (Cond.code (sm_P 49).1 (sm_P 49).2.1 (sm_P 49).2.2.1 (sm_P 49).2.2.2.1) := rfl
set_option maxRecDepth 100000 in
theorem sm_cw50 : lw_tbl[367]? = some (Cond.code (sm_P 50).1 (sm_P 50).2.1 (sm_P 50).2.2.1 (sm_P 50).2.2.2.1) := rfl
set_option maxRecDepth 100000 in
theorem sm_cw51 : lw_tbl[215]? = some (Cond.code (sm_P 51).1 (sm_P 51).2.1 (sm_P 51).2.2.1 (sm_P 51).2.2.2.1) := rfl
set_option maxRecDepth 100000 in
theorem sm_cw52 : lw_tbl[238]? = some (Cond.code (sm_P 52).1 (sm_P 52).2.1 (sm_P 52).2.2.1 (sm_P 52).2.2.2.1) := rfl
set_option maxRecDepth 100000 in
theorem sm_cw53 : lw_tbl[246]? = some (Cond.code (sm_P 53).1 (sm_P 53).2.1 (sm_P 53).2.2.1 (sm_P 53).2.2.2.1) := rfl
set_option maxRecDepth 100000 in
theorem sm_cw54 : lw_tbl[250]? = some (Cond.code (sm_P 54).1 (sm_P 54).2.1 (sm_P 54).2.2.1 (sm_P 54).2.2.2.1) := rfl
set_option maxRecDepth 100000 in
theorem sm_cw55 : lw_tbl[234]? = some (Cond.code (sm_P 55).1 (sm_P 55).2.1 (sm_P 55).2.2.1 (sm_P 55).2.2.2.1) := rfl
set_option maxRecDepth 100000 in
theorem sm_cw56 : lw_tbl[227]? = some (Cond.code (sm_P 56).1 (sm_P 56).2.1 (sm_P 56).2.2.1 (sm_P 56).2.2.2.1) := rfl
set_option maxRecDepth 100000 in
theorem sm_cw57 : lw_tbl[222]? = some (Cond.code (sm_P 57).1 (sm_P 57).2.1 (sm_P 57).2.2.1 (sm_P 57).2.2.2.1) := rfl
set_option maxRecDepth 100000 in
theorem sm_cw58 : lw_tbl[442]? = some (Cond.code (sm_P 58).1 (sm_P 58).2.1 (sm_P 58).2.2.1 (sm_P 58).2.2.2.1) := rfl
set_option maxRecDepth 100000 in
theorem sm_cw59 : lw_tbl[506]? = some (Cond.code (sm_P 59).1 (sm_P 59).2.1 (sm_P 59).2.2.1 (sm_P 59).2.2.2.1) := rfl
set_option maxRecDepth 100000 in
theorem sm_cw60 : lw_tbl[34]? = some (Cond.code (sm_P 60).1 (sm_P 60).2.1 (sm_P 60).2.2.1 (sm_P 60).2.2.2.1) := rfl
set_option maxRecDepth 100000 in
theorem sm_cw61 : lw_tbl[179]? = some (Cond.code (sm_P 61).1 (sm_P 61).2.1 (sm_P 61).2.2.1 (sm_P 61).2.2.2.1) := rfl
set_option maxRecDepth 100000 in
theorem sm_cw62 : lw_tbl[376]? = some (Cond.code (sm_P 62).1 (sm_P 62).2.1 (sm_P 62).2.2.1 (sm_P 62).2.2.2.1) := rfl
set_option maxRecDepth 100000 in
theorem sm_cw63 : lw_tbl[400]? = some (Cond.code (sm_P 63).1 (sm_P 63).2.1 (sm_P 63).2.2.1 (sm_P 63).2.2.2.1) := rfl
set_option maxRecDepth 100000 in
theorem sm_cw64 : lw_tbl[476]? = some (Cond.code (sm_P 64).1 (sm_P 64).2.1 (sm_P 64).2.2.1 (sm_P 64).2.2.2.1) := rfl
set_option maxRecDepth 100000 in
theorem sm_cw65 : lw_tbl[489]? = some (Cond.code (sm_P 65).1 (sm_P 65).2.1 (sm_P 65).2.2.1 (sm_P 65).2.2.2.1) := rfl
set_option maxRecDepth 100000 in
theorem sm_cw66 : lw_tbl[502]? = some (Cond.code (sm_P 66).1 (sm_P 66).2.1 (sm_P 66).2.2.1 (sm_P 66).2.2.2.1) := rfl
set_option maxRecDepth 100000 in
theorem sm_cw67 : lw_tbl[497]? = some (Cond.code (sm_P 67).1 (sm_P 67).2.1 (sm_P 67).2.2.1 (sm_P 67).2.2.2.1) := rfl
set_option maxRecDepth 100000 in
theorem sm_cw68 : lw_tbl[202]? = some (Cond.code (sm_P 68).1 (sm_P 68).2.1 (sm_P 68).2.2.1 (sm_P 68).2.2.2.1) := rfl
set_option maxRecDepth 100000 in
theorem sm_cw69 : lw_tbl[438]? = some (Cond.code (sm_P 69).1 (sm_P 69).2.1 (sm_P 69).2.2.1 (sm_P 69).2.2.2.1) := rfl
set_option maxRecDepth 100000 in
theorem sm_cw70 : lw_tbl[519]? = some (Cond.code (sm_P 70).1 (sm_P 70).2.1 (sm_P 70).2.2.1 (sm_P 70).2.2.2.1) := rfl
set_option maxRecDepth 100000 in
theorem sm_cw71 : lw_tbl[210]? = some (Cond.code (sm_P 71).1 (sm_P 71).2.1 (sm_P 71).2.2.1 (sm_P 71).2.2.2.1) := rfl
set_option maxRecDepth 100000 in
theorem sm_cw72 : lw_tbl[409]? = some (Cond.code (sm_P 72).1 (sm_P 72).2.1 (sm_P 72).2.2.1 (sm_P 72).2.2.2.1) := rfl
set_option maxRecDepth 100000 in
theorem sm_cw73 : lw_tbl[459]? = some (Cond.code (sm_P 73).1 (sm_P 73).2.1 (sm_P 73).2.2.1 (sm_P 73).2.2.2.1) := rfl
set_option maxRecDepth 100000 in
theorem sm_cw74 : lw_tbl[423]? = some (Cond.code (sm_P 74).1 (sm_P 74).2.1 (sm_P 74).2.2.1 (sm_P 74).2.2.2.1) := rfl
set_option maxRecDepth 100000 in
theorem sm_cw75 : lw_tbl[454]? = some (Cond.code (sm_P 75).1 (sm_P 75).2.1 (sm_P 75).2.2.1 (sm_P 75).2.2.2.1) := rfl
set_option maxRecDepth 100000 in
theorem sm_cw76 : lw_tbl[202]? = some (Cond.code (sm_P 76).1 (sm_P 76).2.1 (sm_P 76).2.2.1 (sm_P 76).2.2.2.1) := rfl
set_option maxRecDepth 100000 in
theorem sm_cw77 : lw_tbl[202]? = some (Cond.code (sm_P 77).1 (sm_P 77).2.1 (sm_P 77).2.2.1 (sm_P 77).2.2.2.1) := rfl
set_option maxRecDepth 100000 in
theorem sm_cw78 : lw_tbl[202]? = some (Cond.code (sm_P 78).1 (sm_P 78).2.1 (sm_P 78).2.2.1 (sm_P 78).2.2.2.1) := rfl
set_option maxRecDepth 100000 in
theorem sm_cw79 : lw_tbl[202]? = some (Cond.code (sm_P 79).1 (sm_P 79).2.1 (sm_P 79).2.2.1 (sm_P 79).2.2.2.1) := rfl
set_option maxRecDepth 100000 in
theorem sm_cw80 : lw_tbl[515]? = some (Cond.code (sm_P 80).1 (sm_P 80).2.1 (sm_P 80).2.2.1 (sm_P 80).2.2.2.1) := rfl
set_option maxRecDepth 100000 in
theorem sm_cw81 : lw_tbl[202]? = some (Cond.code (sm_P 81).1 (sm_P 81).2.1 (sm_P 81).2.2.1 (sm_P 81).2.2.2.1) := rfl
set_option maxRecDepth 100000 in
theorem sm_cw82 : lw_tbl[202]? = some (Cond.code (sm_P 82).1 (sm_P 82).2.1 (sm_P 82).2.2.1 (sm_P 82).2.2.2.1) := rfl
set_option maxRecDepth 100000 in
theorem sm_cw83 : lw_tbl[379]? = some (Cond.code (sm_P 83).1 (sm_P 83).2.1 (sm_P 83).2.2.1 (sm_P 83).2.2.2.1) := rfl
set_option maxRecDepth 100000 in
theorem sm_cw84 : lw_tbl[412]? = some (Cond.code (sm_P 84).1 (sm_P 84).2.1 (sm_P 84).2.2.1 (sm_P 84).2.2.2.1) := rfl
set_option maxRecDepth 100000 in
theorem sm_cw85 : lw_tbl[383]? = some (Cond.code (sm_P 85).1 (sm_P 85).2.1 (sm_P 85).2.2.1 (sm_P 85).2.2.2.1) := rfl
set_option maxRecDepth 100000 in
theorem sm_cw86 : lw_tbl[480]? = some (Cond.code (sm_P 86).1 (sm_P 86).2.1 (sm_P 86).2.2.1 (sm_P 86).2.2.2.1) := rfl
set_option maxRecDepth 100000 in
theorem sm_cw87 : lw_tbl[484]? = some (Cond.code (sm_P 87).1 (sm_P 87).2.1 (sm_P 87).2.2.1 (sm_P 87).2.2.2.1) := rfl
set_option maxRecDepth 100000 in
theorem sm_cw88 : lw_tbl[415]? = some (Cond.code (sm_P 88).1 (sm_P 88).2.1 (sm_P 88).2.2.1 (sm_P 88).2.2.2.1) := rfl
set_option maxRecDepth 100000 in
theorem sm_cw89 : lw_tbl[183]? = some (Cond.code (sm_P 89).1 (sm_P 89).2.1 (sm_P 89).2.2.1 (sm_P 89).2.2.2.1) := rfl
set_option maxRecDepth 100000 in
theorem sm_cw90 : lw_tbl[187]? = some (Cond.code (sm_P 90).1 (sm_P 90).2.1 (sm_P 90).2.2.1 (sm_P 90).2.2.2.1) := rfl
set_option maxRecDepth 100000 in
theorem sm_cw91 : lw_tbl[230]? = some (Cond.code (sm_P 91).1 (sm_P 91).2.1 (sm_P 91).2.2.1 (sm_P 91).2.2.2.1) := rfl
set_option maxRecDepth 100000 in
theorem sm_cw92 : lw_tbl[300]? = some (Cond.code (sm_P 92).1 (sm_P 92).2.1 (sm_P 92).2.2.1 (sm_P 92).2.2.2.1) := rfl
set_option maxRecDepth 100000 in
theorem sm_cw93 : lw_tbl[50]? = some (Cond.code (sm_P 93).1 (sm_P 93).2.1 (sm_P 93).2.2.1 (sm_P 93).2.2.2.1) := rfl
set_option maxRecDepth 100000 in
theorem sm_cw94 : lw_tbl[218]? = some (Cond.code (sm_P 94).1 (sm_P 94).2.1 (sm_P 94).2.2.1 (sm_P 94).2.2.2.1) := rfl
set_option maxRecDepth 100000 in
theorem sm_cw95 : lw_tbl[198]? = some (Cond.code (sm_P 95).1 (sm_P 95).2.1 (sm_P 95).2.2.1 (sm_P 95).2.2.2.1) := rfl
set_option maxRecDepth 100000 in
theorem sm_cw96 : lw_tbl[202]? = some (Cond.code (sm_P 96).1 (sm_P 96).2.1 (sm_P 96).2.2.1 (sm_P 96).2.2.2.1) := rfl
set_option maxRecDepth 100000 in
theorem sm_cw97 : lw_tbl[393]? = some (Cond.code (sm_P 97).1 (sm_P 97).2.1 (sm_P 97).2.2.1 (sm_P 97).2.2.2.1) := rfl
set_option maxRecDepth 100000 in
theorem sm_cw98 : lw_tbl[396]? = some (Cond.code (sm_P 98).1 (sm_P 98).2.1 (sm_P 98).2.2.1 (sm_P 98).2.2.2.1) := rfl
set_option maxRecDepth 100000 in
theorem sm_cw99 : lw_tbl[206]? = some (Cond.code (sm_P 99).1 (sm_P 99).2.1 (sm_P 99).2.2.1 (sm_P 99).2.2.2.1) := rfl
set_option maxRecDepth 100000 in
theorem sm_cw100 : lw_tbl[405]? = some (Cond.code (sm_P 100).1 (sm_P 100).2.1 (sm_P 100).2.2.1 (sm_P 100).2.2.2.1) := rfl
set_option maxRecDepth 100000 in
theorem sm_cw101 : lw_tbl[472]? = some (Cond.code (sm_P 101).1 (sm_P 101).2.1 (sm_P 101).2.2.1 (sm_P 101).2.2.2.1) := rfl
set_option maxRecDepth 100000 in
theorem sm_cw102 : lw_tbl[492]? = some (Cond.code (sm_P 102).1 (sm_P 102).2.1 (sm_P 102).2.2.1 (sm_P 102).2.2.2.1) := rfl
set_option maxRecDepth 100000 in
theorem sm_cw103 : lw_tbl[202]? = some (Cond.code (sm_P 103).1 (sm_P 103).2.1 (sm_P 103).2.2.1 (sm_P 103).2.2.2.1) := rfl
set_option maxRecDepth 100000 in
theorem sm_cw104 : lw_tbl[202]? = some (Cond.code (sm_P 104).1 (sm_P 104).2.1 (sm_P 104).2.2.1 (sm_P 104).2.2.2.1) := rfl
set_option maxRecDepth 100000 in
theorem sm_cw105 : lw_tbl[202]? = some (Cond.code (sm_P 105).1 (sm_P 105).2.1 (sm_P 105).2.2.1 (sm_P 105).2.2.2.1) := rfl
set_option maxRecDepth 100000 in
theorem sm_cw106 : lw_tbl[202]? = some (Cond.code (sm_P 106).1 (sm_P 106).2.1 (sm_P 106).2.2.1 (sm_P 106).2.2.2.1) := rfl
set_option maxRecDepth 100000 in
theorem sm_cw107 : lw_tbl[202]? = some (Cond.code (sm_P 107).1 (sm_P 107).2.1 (sm_P 107).2.2.1 (sm_P 107).2.2.2.1) := rfl
set_option maxRecDepth 100000 in
theorem sm_cw108 : lw_tbl[202]? = some (Cond.code (sm_P 108).1 (sm_P 108).2.1 (sm_P 108).2.2.1 (sm_P 108).2.2.2.1) := rfl
set_option maxRecDepth 100000 in
theorem sm_cw109 : lw_tbl[202]? = some (Cond.code (sm_P 109).1 (sm_P 109).2.1 (sm_P 109).2.2.1 (sm_P 109).2.2.2.1) := rfl
set_option maxRecDepth 100000 in
theorem sm_cw110 : lw_tbl[202]? = some (Cond.code (sm_P 110).1 (sm_P 110).2.1 (sm_P 110).2.2.1 (sm_P 110).2.2.2.1) := rfl
set_option maxRecDepth 100000 in
theorem sm_cw111 : lw_tbl[202]? = some (Cond.code (sm_P 111).1 (sm_P 111).2.1 (sm_P 111).2.2.1 (sm_P 111).2.2.2.1) := rfl
set_option maxRecDepth 100000 in
theorem sm_cw112 : lw_tbl[202]? = some (Cond.code (sm_P 112).1 (sm_P 112).2.1 (sm_P 112).2.2.1 (sm_P 112).2.2.2.1) := rfl
set_option maxRecDepth 100000 in
theorem sm_cw113 : lw_tbl[202]? = some (Cond.code (sm_P 113).1 (sm_P 113).2.1 (sm_P 113).2.2.1 (sm_P 113).2.2.2.1) := rfl
set_option maxRecDepth 100000 in
theorem sm_cw114 : lw_tbl[202]? = some (Cond.code (sm_P 114).1 (sm_P 114).2.1 (sm_P 114).2.2.1 (sm_P 114).2.2.2.1) := rfl
set_option maxRecDepth 100000 in
theorem sm_cw115 : lw_tbl[202]? = some (Cond.code (sm_P 115).1 (sm_P 115).2.1 (sm_P 115).2.2.1 (sm_P 115).2.2.2.1) := rfl
set_option maxRecDepth 100000 in
theorem sm_cw116 : lw_tbl[202]? = some (Cond.code (sm_P 116).1 (sm_P 116).2.1 (sm_P 116).2.2.1 (sm_P 116).2.2.2.1) := rfl
set_option maxRecDepth 100000 in
theorem sm_cw117 : lw_tbl[202]? = some (Cond.code (sm_P 117).1 (sm_P 117).2.1 (sm_P 117).2.2.1 (sm_P 117).2.2.2.1) := rfl
set_option maxRecDepth 100000 in
theorem sm_cw118 : lw_tbl[202]? = some (Cond.code (sm_P 118).1 (sm_P 118).2.1 (sm_P 118).2.2.1 (sm_P 118).2.2.2.1) := rfl
set_option maxRecDepth 100000 in
theorem sm_cw119 : lw_tbl[202]? = some (Cond.code (sm_P 119).1 (sm_P 119).2.1 (sm_P 119).2.2.1 (sm_P 119).2.2.2.1) := rfl
set_option maxRecDepth 100000 in
theorem sm_cw120 : lw_tbl[202]? = some (Cond.code (sm_P 120).1 (sm_P 120).2.1 (sm_P 120).2.2.1 (sm_P 120).2.2.2.1) := rfl
set_option maxRecDepth 100000 in
theorem sm_cw121 : lw_tbl[202]? = some (Cond.code (sm_P 121).1 (sm_P 121).2.1 (sm_P 121).2.2.1 (sm_P 121).2.2.2.1) := rfl
set_option maxRecDepth 100000 in
theorem sm_cw122 : lw_tbl[202]? = some (Cond.code (sm_P 122).1 (sm_P 122).2.1 (sm_P 122).2.2.1 (sm_P 122).2.2.2.1) := rfl
set_option maxRecDepth 100000 in
theorem sm_cw123 : lw_tbl[202]? = some (Cond.code (sm_P 123).1 (sm_P 123).2.1 (sm_P 123).2.2.1 (sm_P 123).2.2.2.1) := rfl
set_option maxRecDepth 100000 in
theorem sm_cw124 : lw_tbl[202]? = some (Cond.code (sm_P 124).1 (sm_P 124).2.1 (sm_P 124).2.2.1 (sm_P 124).2.2.2.1) := rfl
set_option maxRecDepth 100000 in
theorem sm_cw125 : lw_tbl[202]? = some (Cond.code (sm_P 125).1 (sm_P 125).2.1 (sm_P 125).2.2.1 (sm_P 125).2.2.2.1) := rfl
set_option maxRecDepth 100000 in
theorem sm_cw126 : lw_tbl[202]? = some (Cond.code (sm_P 126).1 (sm_P 126).2.1 (sm_P 126).2.2.1 (sm_P 126).2.2.2.1) := rfl
set_option maxRecDepth 100000 in
theorem sm_cw127 : lw_tbl[202]? = some (Cond.code (sm_P 127).1 (sm_P 127).2.1 (sm_P 127).2.2.1 (sm_P 127).2.2.2.1) := rfl
set_option maxRecDepth 100000 in
theorem sm_cw128 : lw_tbl[202]? = some (Cond.code (sm_P 128).1 (sm_P 128).2.1 (sm_P 128).2.2.1 (sm_P 128).2.2.2.1) := rfl
set_option maxRecDepth 100000 in
theorem sm_cw129 : lw_tbl[202]? = some (Cond.code (sm_P 129).1 (sm_P 129).2.1 (sm_P 129).2.2.1 (sm_P 129).2.2.2.1) := rfl
set_option maxRecDepth 100000 in
theorem sm_cw130 : lw_tbl[202]? = some (Cond.code (sm_P 130).1 (sm_P 130).2.1 (sm_P 130).2.2.1 (sm_P 130).2.2.2.1) := rfl
set_option maxRecDepth 100000 in
theorem sm_cw131 : lw_tbl[202]? = some (Cond.code (sm_P 131).1 (sm_P 131).2.1 (sm_P 131).2.2.1 (sm_P 131).2.2.2.1) := rfl
set_option maxRecDepth 100000 in
theorem sm_cw132 : lw_tbl[202]? = some (Cond.code (sm_P 132).1 (sm_P 132).2.1 (sm_P 132).2.2.1 (sm_P 132).2.2.2.1) := rfl
set_option maxRecDepth 100000 in
theorem sm_cw133 : lw_tbl[202]? = some (Cond.code (sm_P 133).1 (sm_P 133).2.1 (sm_P 133).2.2.1 (sm_P 133).2.2.2.1) := rfl
set_option maxRecDepth 100000 in
theorem sm_cw134 : lw_tbl[202]? = some (Cond.code (sm_P 134).1 (sm_P 134).2.1 (sm_P 134).2.2.1 (sm_P 134).2.2.2.1) := rfl
set_option maxRecDepth 100000 in
theorem sm_cw135 : lw_tbl[202]? = some (Cond.code (sm_P 135).1 (sm_P 135).2.1 (sm_P 135).2.2.1 (sm_P 135).2.2.2.1) := rfl
set_option maxRecDepth 100000 in
theorem sm_cw136 : lw_tbl[202]? = some (Cond.code (sm_P 136).1 (sm_P 136).2.1 (sm_P 136).2.2.1 (sm_P 136).2.2.2.1) := rfl
set_option maxRecDepth 100000 in
theorem sm_cw137 : lw_tbl[202]? = some (Cond.code (sm_P 137).1 (sm_P 137).2.1 (sm_P 137).2.2.1 (sm_P 137).2.2.2.1) := rfl
set_option maxRecDepth 100000 in
theorem sm_cw138 : lw_tbl[202]? = some (Cond.code (sm_P 138).1 (sm_P 138).2.1 (sm_P 138).2.2.1 (sm_P 138).2.2.2.1) := rfl
set_option maxRecDepth 100000 in
theorem sm_cw139 : lw_tbl[202]? = some (Cond.code (sm_P 139).1 (sm_P 139).2.1 (sm_P 139).2.2.1 (sm_P 139).2.2.2.1) := rfl
set_option maxRecDepth 100000 in
theorem sm_cw140 : lw_tbl[202]? = some (Cond.code (sm_P 140).1 (sm_P 140).2.1 (sm_P 140).2.2.1 (sm_P 140).2.2.2.1) := rfl
set_option maxRecDepth 100000 in
theorem sm_cw141 : lw_tbl[202]? = some (Cond.code (sm_P 141).1 (sm_P 141).2.1 (sm_P 141).2.2.1 (sm_P 141).2.2.2.1) := rfl
set_option maxRecDepth 100000 in
theorem sm_cw142 : lw_tbl[202]? = some (Cond.code (sm_P 142).1 (sm_P 142).2.1 (sm_P 142).2.2.1 (sm_P 142).2.2.2.1) := rfl
set_option maxRecDepth 100000 in
theorem sm_cw143 : lw_tbl[202]? = some (Cond.code (sm_P 143).1 (sm_P 143).2.1 (sm_P 143).2.2.1 (sm_P 143).2.2.2.1) := rfl
set_option maxRecDepth 100000 in
theorem sm_cw144 : lw_tbl[202]? = some (Cond.code (sm_P 144).1 (sm_P 144).2.1 (sm_P 144).2.2.1 (sm_P 144).2.2.2.1) := rfl
set_option maxRecDepth 100000 in
theorem sm_cw145 : lw_tbl[202]? = some (Cond.code (sm_P 145).1 (sm_P 145).2.1 (sm_P 145).2.2.1 (sm_P 145).2.2.2.1) := rfl
set_option maxRecDepth 100000 in
theorem sm_cw146 : lw_tbl[202]? = some (Cond.code (sm_P 146).1 (sm_P 146).2.1 (sm_P 146).2.2.1 (sm_P 146).2.2.2.1) := rfl
set_option maxRecDepth 100000 in
theorem sm_cw147 : lw_tbl[202]? = some (Cond.code (sm_P 147).1 (sm_P 147).2.1 (sm_P 147).2.2.1 (sm_P 147).2.2.2.1) := rfl
set_option maxRecDepth 100000 in
theorem sm_cw148 : lw_tbl[202]? = some (Cond.code (sm_P 148).1 (sm_P 148).2.1 (sm_P 148).2.2.1 (sm_P 148).2.2.2.1) := rfl
set_option maxRecDepth 100000 in
theorem sm_cw149 : lw_tbl[202]? = some (Cond.code (sm_P 149).1 (sm_P 149).2.1 (sm_P 149).2.2.1 (sm_P 149).2.2.2.1) := rfl
set_option maxRecDepth 100000 in
theorem sm_cw150 : lw_tbl[202]? = some (Cond.code (sm_P 150).1 (sm_P 150).2.1 (sm_P 150).2.2.1 (sm_P 150).2.2.2.1) := rfl
set_option maxRecDepth 100000 in
theorem sm_cw151 : lw_tbl[202]? = some (Cond.code (sm_P 151).1 (sm_P 151).2.1 (sm_P 151).2.2.1 (sm_P 151).2.2.2.1) := rfl
set_option maxRecDepth 100000 in
theorem sm_cw152 : lw_tbl[202]? = some (Cond.code (sm_P 152).1 (sm_P 152).2.1 (sm_P 152).2.2.1 (sm_P 152).2.2.2.1) := rfl
set_option maxRecDepth 100000 in
theorem sm_cw153 : lw_tbl[202]? = some (Cond.code (sm_P 153).1 (sm_P 153).2.1 (sm_P 153).2.2.1 (sm_P 153).2.2.2.1) := rfl
set_option maxRecDepth 100000 in
theorem sm_cw154 : lw_tbl[202]? = some (Cond.code (sm_P 154).1 (sm_P 154).2.1 (sm_P 154).2.2.1 (sm_P 154).2.2.2.1) := rfl
set_option maxRecDepth 100000 in
theorem sm_cw155 : lw_tbl[202]? = some (Cond.code (sm_P 155).1 (sm_P 155).2.1 (sm_P 155).2.2.1 (sm_P 155).2.2.2.1) := rfl
set_option maxRecDepth 100000 in
theorem sm_cw156 : lw_tbl[202]? = some (Cond.code (sm_P 156).1 (sm_P 156).2.1 (sm_P 156).2.2.1 (sm_P 156).2.2.2.1) := rfl
set_option maxRecDepth 100000 in
theorem sm_cw157 : lw_tbl[202]? = some (Cond.code (sm_P 157).1 (sm_P 157).2.1 (sm_P 157).2.2.1 (sm_P 157).2.2.2.1) := rfl
set_option maxRecDepth 100000 in
theorem sm_cw158 : lw_tbl[202]? = some (Cond.code (sm_P 158).1 (sm_P 158).2.1 (sm_P 158).2.2.1 (sm_P 158).2.2.2.1) := rfl
set_option maxRecDepth 100000 in
theorem sm_cw159 : lw_tbl[202]? = some (Cond.code (sm_P 159).1 (sm_P 159).2.1 (sm_P 159).2.2.1 (sm_P 159).2.2.2.1) := rfl
set_option maxRecDepth 100000 in
theorem sm_cw160 : lw_tbl[202]? = some (Cond.code (sm_P 160).1 (sm_P 160).2.1 (sm_P 160).2.2.1 (sm_P 160).2.2.2.1) := rfl
set_option maxRecDepth 100000 in
theorem sm_cw161 : lw_tbl[202]? = some (Cond.code (sm_P 161).1 (sm_P 161).2.1 (sm_P 161).2.2.1 (sm_P 161).2.2.2.1) := rfl
set_option maxRecDepth 100000 in
theorem sm_cw162 : lw_tbl[419]? = some (Cond.code (sm_P 162).1 (sm_P 162).2.1 (sm_P 162).2.2.1 (sm_P 162).2.2.2.1) := rfl
set_option maxRecDepth 100000 in
theorem sm_cw163 : lw_tbl[339]? = some (Cond.code (sm_P 163).1 (sm_P 163).2.1 (sm_P 163).2.2.1 (sm_P 163).2.2.2.1) := rfl
set_option maxRecDepth 100000 in
theorem sm_cw164 : lw_tbl[342]? = some (Cond.code (sm_P 164).1 (sm_P 164).2.1 (sm_P 164).2.2.1 (sm_P 164).2.2.2.1) := rfl
