/-! ===== the Model: losses, sums, counts ===== -/
/-- the points that the Model's row holds -/
def mG (h : AH) (p k : Nat) : Int32 := am_I h 21 (2 + 6 * p + k)
theorem mG_K {h : AH} {c q : Nat} : mG (mK h c q) = mG h := by
  funext p k
  unfold mG
  rw [mK_I (by omega)]
theorem mK_5 {h : AH} {c q : Nat} : am_I (mK h c q) 20 5 = nI (q_pl q) := rfl
theorem mK_6 {h : AH} {c q : Nat} : am_I (mK h c q) 20 6 = nI (q_td c q) := rfl
theorem mK_7 {h : AH} {c q : Nat} : am_I (mK h c q) 20 7 = nI (q_ot c q) := rfl
theorem mK_mK {h : AH} {c q q' : Nat} : mK (mK h c q) c q' = mK h c q' := by
  unfold mK am_sI am_rI
  dsimp only [am_I]
  simp only [am_ud_ud, am_ud_eq]
  congr 2
  congr 1
  funext k
  unfold am_ud
  repeat' split
  all_goals first | rfl | omega
section model2
variable {h : AH}
theorem m_loss (m : mL h) {c q k : Nat} (hc : am_I h 21 0 = nI c) (h3 : c = 2 ∨ c = 3) (hq : q < q_nq c) (hk : k < 2 * c) : am_ev 106 0 [.ref 20, .int (nI k), am_ph, am_ph, am_ph] [] (mK h c q) = some (some (.int (q_ls c (mG h) q k)), mK h c q) := by
  have hc' : am_I (mK h c q) 21 0 = nI c := by rw [mK_I (by omega)]; exact hc
  have hk6 : k < 6 := by rcases h3 with rfl | rfl <;> omega
  have hp := q_pl_lt q
  have htd := q_td_lt h3 hq
  have hoc := q_oc_lt h3 hq hk
  have e63 : ∀ j, j < 6 → am_ev 106 63 [.ref 20, .int (nI k), am_ph, am_ph, am_ph] [.int (nI j)] (mK h c q) = some (some (.int (mG h (q_pl q) k - mG h (q_pl q) j)), mK h c q) := by
    intro j hj
    rw [am_b106_63]
    simp (disch := omega) only [am_oe, am_bI, am_bV, am_bJ, am_bA, if_true, if_false, x_kI, x_lI, x_RI, x_kJ, x_lJ, x_RJ, x_kr, x_lr, x_Rr, x_krJ, x_lrJ, x_RrJ, x_kf, x_lf, x_Rf, x_I, x_J, x_IJ, x_JI, x_lt, x_eq, x_eq0, x_neg, x_lt0, x_cl, x_cl0, x_sub, nI_add, pk_mul, nI_0, x_div, or_false, false_or, or_true, true_or, and_true, true_and, not_false_eq_true, and_false, false_and, not_true_eq_false, Nat.reduceEqDiff, reduceCtorEq, Nat.reduceSub, Nat.reduceDiv, Nat.reduceMul, Nat.reduceAdd, Nat.reduceLT, x_II, Nat.zero_div, Nat.zero_mul, Nat.sub_zero, Nat.mul_one, Nat.div_one, x_s0, Int32.zero_add, x_c1, x_c2, x_c3, x_c5, x_c6, x_c14, x_c20, x_c26, x_c52, x_c60, x_c128, x_c130, m.k, m.r0, m.r1, m.r3, m.r4, m.r8, m.r9, m.r12, m.r13, m.r14, m.r15, m.r16, m.r18, m.r19, m.k0, m.k1, m.k3, m.k4, m.k8, m.k9, m.k12, m.k13, m.k14, m.k15, m.k16, m.k18, m.k19, m.l0, m.l1, m.l3, m.l4, m.l8, m.l9, m.l12, m.l13, m.l14, m.l15, m.l16, m.l18, m.l19, m.K.k, mK_5, m_pointsOf m.K hp hk6, m_pointsOf m.K hp hj]
    rw [mK_I (by omega)]
    rfl
  have hrow : k / c = q_mv c k 0 := by rcases h3 with rfl | rfl <;> (unfold q_mv; simp only [if_true]; split <;> omega)
  have hcol : k - k / c * c = q_mv c k 1 := by
    rcases h3 with rfl | rfl <;> (unfold q_mv; simp; split <;> omega)
  have hd : k / c * c ≤ k := Nat.div_mul_le_self k c
  have hc3 : c < 4 := by omega
  have hm : q_mv c k 0 < 4 ∧ q_mv c k 1 < 4 := by
    constructor
    · rcases q_mv_lt (p := 0) hk with z | z <;> omega
    · rcases q_mv_lt (p := 1) hk with z | z <;> omega
  have e30 : ∀ s, s < 4 → am_ev 106 30 [.ref 20, .int (nI k), .int (nI (q_mv c k 0)), .int (nI (q_mv c k 1)), am_ph] [.int (nI s), .int (nI (q_td c q))] (mK h c q) = some (some (.int (if s = q_td c q then mG h (q_pl q) k - mG h (q_pl q) (if q_pl q = 0 then c * q_ot c q + q_mv c k 1 else c * q_mv c k 0 + q_ot c q) else 0)), mK h c q) := by
    intro s hs
    rw [am_b106_30]
    simp (disch := omega) only [am_oe, am_bI, am_bV, am_bJ, am_bA, if_true, if_false, x_kI, x_lI, x_RI, x_kJ, x_lJ, x_RJ, x_kr, x_lr, x_Rr, x_krJ, x_lrJ, x_RrJ, x_kf, x_lf, x_Rf, x_I, x_J, x_IJ, x_JI, x_lt, x_eq, x_eq0, x_neg, x_lt0, x_cl, x_cl0, x_sub, nI_add, pk_mul, nI_0, x_div, or_false, false_or, or_true, true_or, and_true, true_and, not_false_eq_true, and_false, false_and, not_true_eq_false, Nat.reduceEqDiff, reduceCtorEq, Nat.reduceSub, Nat.reduceDiv, Nat.reduceMul, Nat.reduceAdd, Nat.reduceLT, x_II, Nat.zero_div, Nat.zero_mul, Nat.sub_zero, Nat.mul_one, Nat.div_one, x_s0, Int32.zero_add, x_c1, x_c2, x_c3, x_c5, x_c6, x_c14, x_c20, x_c26, x_c52, x_c60, x_c128, x_c130, m.k, m.r0, m.r1, m.r3, m.r4, m.r8, m.r9, m.r12, m.r13, m.r14, m.r15, m.r16, m.r18, m.r19, m.k0, m.k1, m.k3, m.k4, m.k8, m.k9, m.k12, m.k13, m.k14, m.k15, m.k16, m.k18, m.k19, m.l0, m.l1, m.l3, m.l4, m.l8, m.l9, m.l12, m.l13, m.l14, m.l15, m.l16, m.l18, m.l19, m.K.k, mK_5, mK_7, m_cellOf m.K hc']
    by_cases h1 : s = q_td c q
    · rw [if_pos h1.symm, if_pos h1]
      by_cases h2 : q_pl q = 0
      · rw [if_pos h2, if_pos h2]
        rw [if_pos h2] at hoc
        exact e63 _ (by omega)
      · rw [if_neg h2, if_neg h2]
        rw [if_neg h2] at hoc
        exact e63 _ (by omega)
    · rw [if_neg (fun z => h1 z.symm), if_neg h1]
  rw [am_b106_0]
  simp (disch := omega) only [am_oe, am_bI, am_bV, am_bJ, am_bA, if_true, if_false, x_kI, x_lI, x_RI, x_kJ, x_lJ, x_RJ, x_kr, x_lr, x_Rr, x_krJ, x_lrJ, x_RrJ, x_kf, x_lf, x_Rf, x_I, x_J, x_IJ, x_JI, x_lt, x_eq, x_eq0, x_neg, x_lt0, x_cl, x_cl0, x_sub, nI_add, pk_mul, nI_0, x_div, or_false, false_or, or_true, true_or, and_true, true_and, not_false_eq_true, and_false, false_and, not_true_eq_false, Nat.reduceEqDiff, reduceCtorEq, Nat.reduceSub, Nat.reduceDiv, Nat.reduceMul, Nat.reduceAdd, Nat.reduceLT, x_II, Nat.zero_div, Nat.zero_mul, Nat.sub_zero, Nat.mul_one, Nat.div_one, x_s0, Int32.zero_add, x_c1, x_c2, x_c3, x_c5, x_c6, x_c14, x_c20, x_c26, x_c52, x_c60, x_c128, x_c130, m.k, m.r0, m.r1, m.r3, m.r4, m.r8, m.r9, m.r12, m.r13, m.r14, m.r15, m.r16, m.r18, m.r19, m.k0, m.k1, m.k3, m.k4, m.k8, m.k9, m.k12, m.k13, m.k14, m.k15, m.k16, m.k18, m.k19, m.l0, m.l1, m.l3, m.l4, m.l8, m.l9, m.l12, m.l13, m.l14, m.l15, m.l16, m.l18, m.l19, m.K.k, m_columns m.K, hc', mK_5, mK_6]
  rw [if_neg (by omega), if_neg (by omega), hcol, hrow]
  unfold q_ls
  by_cases h2 : q_pl q = 0
  · rw [if_pos h2, e30 _ hm.1]
    rw [h2]
  · rw [if_neg h2, e30 _ hm.2, show q_pl q = 1 by omega]
/-- the left side of an inequality over a row of amounts -/
def q_lh (c : Nat) (g : Nat → Nat → Int32) (q : Nat) (w : Nat → Int32) : Int32 := q_sum (2 * c) fun k => w k * q_ls c g q k
theorem m_slack10 (m : mL h) {c q f : Nat} (hc : am_I h 21 0 = nI c) (h3 : c = 2 ∨ c = 3) (hq : q < q_nq c) (hf : f ≤ 20) : ∀ (d j : Nat), j + d = 2 * c → am_ev 107 10 [.ref 20, am_ph, .int (nI f), .int (q_sum j fun k => am_I h 21 (f + k) * q_ls c (mG h) q k), .int (nI j)] [] (mK h c q) = some (some (.int (q_lh c (mG h) q fun k => am_I h 21 (f + k))), mK h c q) := by
  have hc' : am_I (mK h c q) 21 0 = nI c := by rw [mK_I (by omega)]; exact hc
  have hc6 : 2 * c ≤ 6 := by rcases h3 with rfl | rfl <;> omega
  intro d
  induction d with
  | zero =>
    intro j hj
    rw [am_b107_10]
    simp (disch := omega) only [am_oe, am_bI, am_bV, am_bJ, am_bA, if_true, if_false, x_kI, x_lI, x_RI, x_kJ, x_lJ, x_RJ, x_kr, x_lr, x_Rr, x_krJ, x_lrJ, x_RrJ, x_kf, x_lf, x_Rf, x_I, x_J, x_IJ, x_JI, x_lt, x_eq, x_eq0, x_neg, x_lt0, x_cl, x_cl0, x_sub, nI_add, pk_mul, nI_0, x_div, or_false, false_or, or_true, true_or, and_true, true_and, not_false_eq_true, and_false, false_and, not_true_eq_false, Nat.reduceEqDiff, reduceCtorEq, Nat.reduceSub, Nat.reduceDiv, Nat.reduceMul, Nat.reduceAdd, Nat.reduceLT, x_II, Nat.zero_div, Nat.zero_mul, Nat.sub_zero, Nat.mul_one, Nat.div_one, x_s0, Int32.zero_add, x_c1, x_c2, x_c3, x_c5, x_c6, x_c14, x_c20, x_c26, x_c52, x_c60, x_c128, x_c130, m.k, m.r0, m.r1, m.r3, m.r4, m.r8, m.r9, m.r12, m.r13, m.r14, m.r15, m.r16, m.r18, m.r19, m.k0, m.k1, m.k3, m.k4, m.k8, m.k9, m.k12, m.k13, m.k14, m.k15, m.k16, m.k18, m.k19, m.l0, m.l1, m.l3, m.l4, m.l8, m.l9, m.l12, m.l13, m.l14, m.l15, m.l16, m.l18, m.l19, m.K.k, m_cells m.K hc']
    rw [if_neg (by omega), show j = 2 * c by omega]
    rfl
  | succ d ih =>
    intro j hj
    rw [am_b107_10]
    simp (disch := omega) only [am_oe, am_bI, am_bV, am_bJ, am_bA, if_true, if_false, x_kI, x_lI, x_RI, x_kJ, x_lJ, x_RJ, x_kr, x_lr, x_Rr, x_krJ, x_lrJ, x_RrJ, x_kf, x_lf, x_Rf, x_I, x_J, x_IJ, x_JI, x_lt, x_eq, x_eq0, x_neg, x_lt0, x_cl, x_cl0, x_sub, nI_add, pk_mul, nI_0, x_div, or_false, false_or, or_true, true_or, and_true, true_and, not_false_eq_true, and_false, false_and, not_true_eq_false, Nat.reduceEqDiff, reduceCtorEq, Nat.reduceSub, Nat.reduceDiv, Nat.reduceMul, Nat.reduceAdd, Nat.reduceLT, x_II, Nat.zero_div, Nat.zero_mul, Nat.sub_zero, Nat.mul_one, Nat.div_one, x_s0, Int32.zero_add, x_c1, x_c2, x_c3, x_c5, x_c6, x_c14, x_c20, x_c26, x_c52, x_c60, x_c128, x_c130, m.k, m.r0, m.r1, m.r3, m.r4, m.r8, m.r9, m.r12, m.r13, m.r14, m.r15, m.r16, m.r18, m.r19, m.k0, m.k1, m.k3, m.k4, m.k8, m.k9, m.k12, m.k13, m.k14, m.k15, m.k16, m.k18, m.k19, m.l0, m.l1, m.l3, m.l4, m.l8, m.l9, m.l12, m.l13, m.l14, m.l15, m.l16, m.l18, m.l19, m.K.k, m.K.r0, m.K.k0, m.K.l0, m_cells m.K hc']
    rw [if_pos (by omega), if_pos (by omega), m_loss m hc h3 hq (by omega)]
    simp (disch := omega) only [am_oe, am_bI, am_bV, am_bJ, am_bA, if_true, if_false, x_kI, x_lI, x_RI, x_kJ, x_lJ, x_RJ, x_kr, x_lr, x_Rr, x_krJ, x_lrJ, x_RrJ, x_kf, x_lf, x_Rf, x_I, x_J, x_IJ, x_JI, x_lt, x_eq, x_eq0, x_neg, x_lt0, x_cl, x_cl0, x_sub, nI_add, pk_mul, nI_0, x_div, or_false, false_or, or_true, true_or, and_true, true_and, not_false_eq_true, and_false, false_and, not_true_eq_false, Nat.reduceEqDiff, reduceCtorEq, Nat.reduceSub, Nat.reduceDiv, Nat.reduceMul, Nat.reduceAdd, Nat.reduceLT, x_II, Nat.zero_div, Nat.zero_mul, Nat.sub_zero, Nat.mul_one, Nat.div_one, x_s0, Int32.zero_add, x_c1, x_c2, x_c3, x_c5, x_c6, x_c14, x_c20, x_c26, x_c52, x_c60, x_c128, x_c130]
    rw [mK_I (by omega)]
    exact ih (j + 1) (by omega)
theorem m_slackBy (m : mL h) {c q f : Nat} (hc : am_I h 21 0 = nI c) (h3 : c = 2 ∨ c = 3) (hq : q < q_nq c) (hf : f ≤ 20) : am_ev 107 0 [.ref 20, .int (nI q), .int (nI f), am_ph, am_ph] [] h = some (some (.int (q_lh c (mG h) q fun k => am_I h 21 (f + k))), mK h c q) := by
  rw [am_b107_0]
  simp (disch := omega) only [am_oe, am_bI, am_bV, am_bJ, am_bA, if_true, if_false, x_kI, x_lI, x_RI, x_kJ, x_lJ, x_RJ, x_kr, x_lr, x_Rr, x_krJ, x_lrJ, x_RrJ, x_kf, x_lf, x_Rf, x_I, x_J, x_IJ, x_JI, x_lt, x_eq, x_eq0, x_neg, x_lt0, x_cl, x_cl0, x_sub, nI_add, pk_mul, nI_0, x_div, or_false, false_or, or_true, true_or, and_true, true_and, not_false_eq_true, and_false, false_and, not_true_eq_false, Nat.reduceEqDiff, reduceCtorEq, Nat.reduceSub, Nat.reduceDiv, Nat.reduceMul, Nat.reduceAdd, Nat.reduceLT, x_II, Nat.zero_div, Nat.zero_mul, Nat.sub_zero, Nat.mul_one, Nat.div_one, x_s0, Int32.zero_add, x_c1, x_c2, x_c3, x_c5, x_c6, x_c14, x_c20, x_c26, x_c52, x_c60, x_c128, x_c130, m.k, m.r0, m.r1, m.r3, m.r4, m.r8, m.r9, m.r12, m.r13, m.r14, m.r15, m.r16, m.r18, m.r19, m.k0, m.k1, m.k3, m.k4, m.k8, m.k9, m.k12, m.k13, m.k14, m.k15, m.k16, m.k18, m.k19, m.l0, m.l1, m.l3, m.l4, m.l8, m.l9, m.l12, m.l13, m.l14, m.l15, m.l16, m.l18, m.l19, m_look m hc h3 hq]
  exact m_slack10 m hc h3 hq hf (2 * c) 0 (by omega)
theorem m_sum4 (m : mL h) {c : Nat} (hc : am_I h 21 0 = nI c) (h3 : c = 2 ∨ c = 3) : ∀ (d j : Nat), j + d = 2 * c → am_ev 108 4 [.ref 20, .int (q_sum j fun k => am_I h 21 (14 + k)), .int (nI j)] [] h = some (some (.int (q_sum (2 * c) fun k => am_I h 21 (14 + k))), h) := by
  have hc6 : 2 * c ≤ 6 := by rcases h3 with rfl | rfl <;> omega
  intro d
  induction d with
  | zero =>
    intro j hj
    rw [am_b108_4]
    simp (disch := omega) only [am_oe, am_bI, am_bV, am_bJ, am_bA, if_true, if_false, x_kI, x_lI, x_RI, x_kJ, x_lJ, x_RJ, x_kr, x_lr, x_Rr, x_krJ, x_lrJ, x_RrJ, x_kf, x_lf, x_Rf, x_I, x_J, x_IJ, x_JI, x_lt, x_eq, x_eq0, x_neg, x_lt0, x_cl, x_cl0, x_sub, nI_add, pk_mul, nI_0, x_div, or_false, false_or, or_true, true_or, and_true, true_and, not_false_eq_true, and_false, false_and, not_true_eq_false, Nat.reduceEqDiff, reduceCtorEq, Nat.reduceSub, Nat.reduceDiv, Nat.reduceMul, Nat.reduceAdd, Nat.reduceLT, x_II, Nat.zero_div, Nat.zero_mul, Nat.sub_zero, Nat.mul_one, Nat.div_one, x_s0, Int32.zero_add, x_c1, x_c2, x_c3, x_c5, x_c6, x_c14, x_c20, x_c26, x_c52, x_c60, x_c128, x_c130, m.k, m.r0, m.r1, m.r3, m.r4, m.r8, m.r9, m.r12, m.r13, m.r14, m.r15, m.r16, m.r18, m.r19, m.k0, m.k1, m.k3, m.k4, m.k8, m.k9, m.k12, m.k13, m.k14, m.k15, m.k16, m.k18, m.k19, m.l0, m.l1, m.l3, m.l4, m.l8, m.l9, m.l12, m.l13, m.l14, m.l15, m.l16, m.l18, m.l19, m_cells m hc]
    rw [if_neg (by omega), show j = 2 * c by omega]
  | succ d ih =>
    intro j hj
    rw [am_b108_4]
    simp (disch := omega) only [am_oe, am_bI, am_bV, am_bJ, am_bA, if_true, if_false, x_kI, x_lI, x_RI, x_kJ, x_lJ, x_RJ, x_kr, x_lr, x_Rr, x_krJ, x_lrJ, x_RrJ, x_kf, x_lf, x_Rf, x_I, x_J, x_IJ, x_JI, x_lt, x_eq, x_eq0, x_neg, x_lt0, x_cl, x_cl0, x_sub, nI_add, pk_mul, nI_0, x_div, or_false, false_or, or_true, true_or, and_true, true_and, not_false_eq_true, and_false, false_and, not_true_eq_false, Nat.reduceEqDiff, reduceCtorEq, Nat.reduceSub, Nat.reduceDiv, Nat.reduceMul, Nat.reduceAdd, Nat.reduceLT, x_II, Nat.zero_div, Nat.zero_mul, Nat.sub_zero, Nat.mul_one, Nat.div_one, x_s0, Int32.zero_add, x_c1, x_c2, x_c3, x_c5, x_c6, x_c14, x_c20, x_c26, x_c52, x_c60, x_c128, x_c130, m.k, m.r0, m.r1, m.r3, m.r4, m.r8, m.r9, m.r12, m.r13, m.r14, m.r15, m.r16, m.r18, m.r19, m.k0, m.k1, m.k3, m.k4, m.k8, m.k9, m.k12, m.k13, m.k14, m.k15, m.k16, m.k18, m.k19, m.l0, m.l1, m.l3, m.l4, m.l8, m.l9, m.l12, m.l13, m.l14, m.l15, m.l16, m.l18, m.l19, m_cells m hc]
    rw [if_pos (by omega), if_pos (by omega)]
    exact ih (j + 1) (by omega)
theorem m_sumOfWeights (m : mL h) {c : Nat} (hc : am_I h 21 0 = nI c) (h3 : c = 2 ∨ c = 3) : am_ev 108 0 [.ref 20, am_ph, am_ph] [] h = some (some (.int (q_sum (2 * c) fun k => am_I h 21 (14 + k))), h) := by
  rw [am_b108_0]
  exact m_sum4 m hc h3 (2 * c) 0 (by omega)
theorem m_fell4 (m : mL h) {c : Nat} (hc : am_I h 21 0 = nI c) (h3 : c = 2 ∨ c = 3) : ∀ (d j : Nat), j + d = 2 * c → am_ev 135 4 [.ref 20, .int (q_sum j fun k => am_I h 21 (20 + k)), .int (nI j)] [] h = some (some (.int (q_sum (2 * c) fun k => am_I h 21 (20 + k))), h) := by
  have hc6 : 2 * c ≤ 6 := by rcases h3 with rfl | rfl <;> omega
  intro d
  induction d with
  | zero =>
    intro j hj
    rw [am_b135_4]
    simp (disch := omega) only [am_oe, am_bI, am_bV, am_bJ, am_bA, if_true, if_false, x_kI, x_lI, x_RI, x_kJ, x_lJ, x_RJ, x_kr, x_lr, x_Rr, x_krJ, x_lrJ, x_RrJ, x_kf, x_lf, x_Rf, x_I, x_J, x_IJ, x_JI, x_lt, x_eq, x_eq0, x_neg, x_lt0, x_cl, x_cl0, x_sub, nI_add, pk_mul, nI_0, x_div, or_false, false_or, or_true, true_or, and_true, true_and, not_false_eq_true, and_false, false_and, not_true_eq_false, Nat.reduceEqDiff, reduceCtorEq, Nat.reduceSub, Nat.reduceDiv, Nat.reduceMul, Nat.reduceAdd, Nat.reduceLT, x_II, Nat.zero_div, Nat.zero_mul, Nat.sub_zero, Nat.mul_one, Nat.div_one, x_s0, Int32.zero_add, x_c1, x_c2, x_c3, x_c5, x_c6, x_c14, x_c20, x_c26, x_c52, x_c60, x_c128, x_c130, m.k, m.r0, m.r1, m.r3, m.r4, m.r8, m.r9, m.r12, m.r13, m.r14, m.r15, m.r16, m.r18, m.r19, m.k0, m.k1, m.k3, m.k4, m.k8, m.k9, m.k12, m.k13, m.k14, m.k15, m.k16, m.k18, m.k19, m.l0, m.l1, m.l3, m.l4, m.l8, m.l9, m.l12, m.l13, m.l14, m.l15, m.l16, m.l18, m.l19, m_cells m hc]
    rw [if_neg (by omega), show j = 2 * c by omega]
  | succ d ih =>
    intro j hj
    rw [am_b135_4]
    simp (disch := omega) only [am_oe, am_bI, am_bV, am_bJ, am_bA, if_true, if_false, x_kI, x_lI, x_RI, x_kJ, x_lJ, x_RJ, x_kr, x_lr, x_Rr, x_krJ, x_lrJ, x_RrJ, x_kf, x_lf, x_Rf, x_I, x_J, x_IJ, x_JI, x_lt, x_eq, x_eq0, x_neg, x_lt0, x_cl, x_cl0, x_sub, nI_add, pk_mul, nI_0, x_div, or_false, false_or, or_true, true_or, and_true, true_and, not_false_eq_true, and_false, false_and, not_true_eq_false, Nat.reduceEqDiff, reduceCtorEq, Nat.reduceSub, Nat.reduceDiv, Nat.reduceMul, Nat.reduceAdd, Nat.reduceLT, x_II, Nat.zero_div, Nat.zero_mul, Nat.sub_zero, Nat.mul_one, Nat.div_one, x_s0, Int32.zero_add, x_c1, x_c2, x_c3, x_c5, x_c6, x_c14, x_c20, x_c26, x_c52, x_c60, x_c128, x_c130, m.k, m.r0, m.r1, m.r3, m.r4, m.r8, m.r9, m.r12, m.r13, m.r14, m.r15, m.r16, m.r18, m.r19, m.k0, m.k1, m.k3, m.k4, m.k8, m.k9, m.k12, m.k13, m.k14, m.k15, m.k16, m.k18, m.k19, m.l0, m.l1, m.l3, m.l4, m.l8, m.l9, m.l12, m.l13, m.l14, m.l15, m.l16, m.l18, m.l19, m_cells m hc]
    rw [if_pos (by omega), if_pos (by omega)]
    exact ih (j + 1) (by omega)
theorem m_throwsSoFar (m : mL h) {c : Nat} (hc : am_I h 21 0 = nI c) (h3 : c = 2 ∨ c = 3) : am_ev 135 0 [.ref 20, am_ph, am_ph] [] h = some (some (.int (q_sum (2 * c) fun k => am_I h 21 (20 + k))), h) := by
  rw [am_b135_0]
  exact m_fell4 m hc h3 (2 * c) 0 (by omega)
/-- the memory behind a look at each of the inequalities before the j-th -/
def mKs (h : AH) (c j : Nat) : AH := if j = 0 then h else mK h c (j - 1)
theorem mKs_s {c j : Nat} : mK (mKs h c j) c j = mKs h c (j + 1) := by
  unfold mKs
  by_cases e : j = 0
  · simp [e]
  · rw [if_neg e, mK_mK, if_neg (by omega), show j + 1 - 1 = j by omega]
theorem mL.Ks (m : mL h) {c j : Nat} : mL (mKs h c j) := by unfold mKs; split; exact m; exact m.K
theorem mKs_I {c j d : Nat} (hd : d ≠ 20) : am_I (mKs h c j) d = am_I h d := by unfold mKs; split; rfl; exact mK_I hd
theorem mKs_G {c j : Nat} : mG (mKs h c j) = mG h := by unfold mKs; split; rfl; exact mG_K
theorem m_broken4 (m : mL h) {c : Nat} (hc : am_I h 21 0 = nI c) (h3 : c = 2 ∨ c = 3) : ∀ (d j : Nat), j + d = q_nq c → am_ev 109 4 [.ref 20, .int (nI (q_cnt j fun q => q_lh c (mG h) q (fun k => am_I h 21 (14 + k)) < 0)), .int (nI j)] [] (mKs h c j) = some (some (.int (nI (q_cnt (q_nq c) fun q => q_lh c (mG h) q (fun k => am_I h 21 (14 + k)) < 0))), mKs h c (q_nq c)) := by
  have hq8 := q_nq_le h3
  have hc' : ∀ j, am_I (mKs h c j) 21 0 = nI c := fun j => by rw [mKs_I (by omega)]; exact hc
  intro d
  induction d with
  | zero =>
    intro j hj
    rw [am_b109_4]
    simp (disch := omega) only [am_oe, am_bI, am_bV, am_bJ, am_bA, if_true, if_false, x_kI, x_lI, x_RI, x_kJ, x_lJ, x_RJ, x_kr, x_lr, x_Rr, x_krJ, x_lrJ, x_RrJ, x_kf, x_lf, x_Rf, x_I, x_J, x_IJ, x_JI, x_lt, x_eq, x_eq0, x_neg, x_lt0, x_cl, x_cl0, x_sub, nI_add, pk_mul, nI_0, x_div, or_false, false_or, or_true, true_or, and_true, true_and, not_false_eq_true, and_false, false_and, not_true_eq_false, Nat.reduceEqDiff, reduceCtorEq, Nat.reduceSub, Nat.reduceDiv, Nat.reduceMul, Nat.reduceAdd, Nat.reduceLT, x_II, Nat.zero_div, Nat.zero_mul, Nat.sub_zero, Nat.mul_one, Nat.div_one, x_s0, Int32.zero_add, x_c1, x_c2, x_c3, x_c5, x_c6, x_c14, x_c20, x_c26, x_c52, x_c60, x_c128, x_c130, m.k, m.r0, m.r1, m.r3, m.r4, m.r8, m.r9, m.r12, m.r13, m.r14, m.r15, m.r16, m.r18, m.r19, m.k0, m.k1, m.k3, m.k4, m.k8, m.k9, m.k12, m.k13, m.k14, m.k15, m.k16, m.k18, m.k19, m.l0, m.l1, m.l3, m.l4, m.l8, m.l9, m.l12, m.l13, m.l14, m.l15, m.l16, m.l18, m.l19, m.Ks.k, m_inequalities m.Ks (hc' j) h3]
    rw [if_neg (by omega), show j = q_nq c by omega]
  | succ d ih =>
    intro j hj
    rw [am_b109_4]
    simp (disch := omega) only [am_oe, am_bI, am_bV, am_bJ, am_bA, if_true, if_false, x_kI, x_lI, x_RI, x_kJ, x_lJ, x_RJ, x_kr, x_lr, x_Rr, x_krJ, x_lrJ, x_RrJ, x_kf, x_lf, x_Rf, x_I, x_J, x_IJ, x_JI, x_lt, x_eq, x_eq0, x_neg, x_lt0, x_cl, x_cl0, x_sub, nI_add, pk_mul, nI_0, x_div, or_false, false_or, or_true, true_or, and_true, true_and, not_false_eq_true, and_false, false_and, not_true_eq_false, Nat.reduceEqDiff, reduceCtorEq, Nat.reduceSub, Nat.reduceDiv, Nat.reduceMul, Nat.reduceAdd, Nat.reduceLT, x_II, Nat.zero_div, Nat.zero_mul, Nat.sub_zero, Nat.mul_one, Nat.div_one, x_s0, Int32.zero_add, x_c1, x_c2, x_c3, x_c5, x_c6, x_c14, x_c20, x_c26, x_c52, x_c60, x_c128, x_c130, m.k, m.r0, m.r1, m.r3, m.r4, m.r8, m.r9, m.r12, m.r13, m.r14, m.r15, m.r16, m.r18, m.r19, m.k0, m.k1, m.k3, m.k4, m.k8, m.k9, m.k12, m.k13, m.k14, m.k15, m.k16, m.k18, m.k19, m.l0, m.l1, m.l3, m.l4, m.l8, m.l9, m.l12, m.l13, m.l14, m.l15, m.l16, m.l18, m.l19, m.Ks.k, m_inequalities m.Ks (hc' j) h3]
    have e := m_slackBy (f := 14) m.Ks (hc' j) h3 (show j < q_nq c by omega) (by omega)
    rw [mKs_s, mKs_G] at e
    simp only [mKs_I (h := h) (show 21 ≠ 20 by omega)] at e
    rw [if_pos (by omega), e]
    simp (disch := omega) only [am_oe, am_bI, am_bV, am_bJ, am_bA, if_true, if_false, x_kI, x_lI, x_RI, x_kJ, x_lJ, x_RJ, x_kr, x_lr, x_Rr, x_krJ, x_lrJ, x_RrJ, x_kf, x_lf, x_Rf, x_I, x_J, x_IJ, x_JI, x_lt, x_eq, x_eq0, x_neg, x_lt0, x_cl, x_cl0, x_sub, nI_add, pk_mul, nI_0, x_div, or_false, false_or, or_true, true_or, and_true, true_and, not_false_eq_true, and_false, false_and, not_true_eq_false, Nat.reduceEqDiff, reduceCtorEq, Nat.reduceSub, Nat.reduceDiv, Nat.reduceMul, Nat.reduceAdd, Nat.reduceLT, x_II, Nat.zero_div, Nat.zero_mul, Nat.sub_zero, Nat.mul_one, Nat.div_one, x_s0, Int32.zero_add, x_c1, x_c2, x_c3, x_c5, x_c6, x_c14, x_c20, x_c26, x_c52, x_c60, x_c128, x_c130]
    have i := ih (j + 1) (by omega)
    rw [q_cnt_s] at i
    by_cases h1 : q_lh c (mG h) j (fun k => am_I h 21 (14 + k)) < 0
    · rw [if_pos h1] at i ⊢
      exact i
    · rw [if_neg h1] at i ⊢
      rw [Int32.add_zero]
      exact i
theorem m_broken (m : mL h) {c : Nat} (hc : am_I h 21 0 = nI c) (h3 : c = 2 ∨ c = 3) : am_ev 109 0 [.ref 20, am_ph, am_ph] [] h = some (some (.int (nI (q_cnt (q_nq c) fun q => q_lh c (mG h) q (fun k => am_I h 21 (14 + k)) < 0))), mKs h c (q_nq c)) := by
  rw [am_b109_0]
  exact m_broken4 m hc h3 (q_nq c) 0 (by omega)
end model2
