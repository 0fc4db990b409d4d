/-! ===== the Model: weights, throws, undo, saving ===== -/
def f_weigh (A : QA) (r q v : Int32) : Int32 := if q_cellok A.1.1 r q then (if 0 ≤ v.toInt ∧ v.toInt ≤ 999 then (if q_sum (2 * A.1.1) A.1.2.2.2.1 - A.1.2.2.2.1 (A.1.1 * q_vI r + q_vI q) + v = 0 then -5 else A.1.2.2.2.1 (A.1.1 * q_vI r + q_vI q)) else -2) else -1
def g_weigh (A : QA) (r q v : Int32) : QA := if q_cellok A.1.1 r q ∧ (0 ≤ v.toInt ∧ v.toInt ≤ 999) ∧ ¬ q_sum (2 * A.1.1) A.1.2.2.2.1 - A.1.2.2.2.1 (A.1.1 * q_vI r + q_vI q) + v = 0 then ((A.1.1, A.1.2.1, A.1.2.2.1, am_ud A.1.2.2.2.1 (A.1.1 * q_vI r + q_vI q) v, A.1.2.2.2.2), q_rec A, A.2.2) else A
section model7
variable {h : AH} {A : QA}
theorem mI.W (I : mI h A) {k : Nat} (hk : k < 6) : am_I h 21 (14 + k) = A.1.2.2.2.1 k := I.2.1.2.2.2.1 k hk
theorem mI.F (I : mI h A) {k : Nat} (hk : k < 6) : am_I h 21 (20 + k) = A.1.2.2.2.2 k := I.2.1.2.2.2.2 k hk
theorem mI.c6 (I : mI h A) : 2 * A.1.1 ≤ 6 := by rcases I.c3 with e | e <;> omega
theorem mI.sW (I : mI h A) : q_sum (2 * A.1.1) (fun k => am_I h 21 (14 + k)) = q_sum (2 * A.1.1) A.1.2.2.2.1 := q_sum_congr (fun k hk => I.W (by have := I.c6; omega))
theorem mI.sF (I : mI h A) : q_sum (2 * A.1.1) (fun k => am_I h 21 (20 + k)) = q_sum (2 * A.1.1) A.1.2.2.2.2 := q_sum_congr (fun k hk => I.F (by have := I.c6; omega))
theorem m_weigh (I : mI h A) (X : mE h A.1) (r q v : Int32) : ∃ h1, am_ev 131 0 [.ref 20, .int r, .int q, .int v, am_ph] [] h = some (some (.int (f_weigh A r q v)), h1) ∧ mI h1 (g_weigh A r q v) ∧ mfr h h1 ∧ mE h1 (g_weigh A r q v).1 := by
  have m := I.1
  rw [am_b131_0, if_pos m.k, m_isCell m I.c I.c3, x_bI, x_ite]
  unfold f_weigh g_weigh
  by_cases h2 : q_cellok A.1.1 r q
  · rw [if_pos h2, m_in (p := 0) (q := 999) rfl rfl, x_bI, x_ite, if_pos h2]
    by_cases h4 : 0 ≤ v.toInt ∧ v.toInt ≤ 999
    · rw [if_pos h4, if_pos m.k, m.r0, x_oe, if_pos m.k, if_pos h4]
      obtain ⟨r, q, rfl, rfl, e2, e3, -, -, hc⟩ := q_cell I.c3 h2
      rw [e2, e3, m_cellOf m I.c, x_bI, x_c14, nI_add, if_pos (x_rd m.k0 m.l0 (by omega) (by omega)), x_cl (by omega), if_pos m.k, m_sumOfWeights m I.c I.c3, x_bI, I.sW, I.W (by omega)]
      by_cases h5 : q_sum (2 * A.1.1) A.1.2.2.2.1 - A.1.2.2.2.1 (A.1.1 * r + q) + v = 0
      · rw [if_pos h5, if_pos h5, if_neg (fun z => z.2.2 h5)]
        exact ⟨h, rfl, I, am_fr.rf, X⟩
      · rw [if_neg h5, if_neg h5, if_pos m.k, if_pos ⟨h2, h4, h5⟩]
        obtain ⟨h2', e, I2, fr, xk, -⟩ := I.rec
        have m2 := I2.1
        have c2 : am_I h2' 21 0 = nI A.1.1 := I2.c
        rw [e, x_bV, if_pos m2.k, m2.r0, x_oe, if_pos m2.k, m_cellOf m2 c2, x_bI, nI_add, if_pos (x_wr m2.k0 m2.l0 (by omega) (by omega)), x_cl (by omega)]
        refine ⟨_, rfl, ?_, fr.tr (am_sI_fr (by omega)), (X.kp xk rfl rfl).kp ⟨rfl, rfl, rfl, rfl⟩ rfl rfl⟩
        exact I2.row rfl rfl rfl (hV.w (s := A.1) I2.2.1 (by omega) v) I.c3 rfl rfl rfl rfl rfl rfl
    · rw [if_neg h4, if_neg h4, if_neg (fun z => h4 z.2.1)]
      exact ⟨h, rfl, I, am_fr.rf, X⟩
  · rw [if_neg h2, if_neg h2, if_neg (fun z => h2 z.1)]
    exact ⟨h, rfl, I, am_fr.rf, X⟩
def f_forget (A : QA) (x : Int32) : Int32 := if 0 ≤ x.toInt then q_sum (2 * A.1.1) A.1.2.2.2.2 else -2
def g_forget (A : QA) (x : Int32) : QA := if 0 ≤ x.toInt then ((A.1.1, x, A.1.2.2.1, A.1.2.2.2.1, fun _ => 0), q_rec A, A.2.2) else A
theorem m_forget18 (m : mL h) {x y : Int32} : ∀ (d j : Nat), j + d = 6 → am_ev 138 18 [.ref 20, .int x, .int y, .int (nI j)] [] (am_fo h 21 20 j (fun _ => 0)) = some (some (.int y), am_sI (am_fo h 21 20 6 (fun _ => 0)) 21 1 x) := by
  intro d
  induction d with
  | zero =>
    intro j hj
    rw [am_b138_18]
    simp (disch := omega) only [am_oe, am_bI, am_bV, am_bJ, am_bA, if_true, if_false, x_kI, x_lI, x_RI, x_kJ, x_lJ, x_RJ, x_kr, x_lr, x_Rr, x_krJ, x_lrJ, x_RrJ, x_kf, x_lf, x_Rf, x_ko, x_lo, x_Ro, x_I, x_J, x_IJ, x_JI, x_lt, x_eq, x_eq0, x_neg, x_lt0, x_cl, x_cl0, x_sub, nI_add, pk_mul, nI_0, x_div, or_false, false_or, or_true, true_or, and_true, true_and, not_false_eq_true, and_false, false_and, not_true_eq_false, Nat.reduceEqDiff, reduceCtorEq, Nat.reduceSub, Nat.reduceDiv, Nat.reduceMul, Nat.reduceAdd, Nat.reduceLT, x_II, Nat.zero_div, Nat.zero_mul, Nat.sub_zero, Nat.mul_one, Nat.div_one, x_s0, Int32.zero_add, x_c1, x_c2, x_c3, x_c4, x_c5, x_c6, x_c8, x_c12, x_c14, x_c20, x_c26, x_c52, x_c60, x_c100, x_c128, x_c130, m.k, m.r0, m.r1, m.r3, m.r4, m.r8, m.r9, m.r12, m.r13, m.r14, m.r15, m.r16, m.r18, m.r19, m.k0, m.k1, m.k3, m.k4, m.k8, m.k9, m.k12, m.k13, m.k14, m.k15, m.k16, m.k18, m.k19, m.l0, m.l1, m.l3, m.l4, m.l8, m.l9, m.l12, m.l13, m.l14, m.l15, m.l16, m.l18, m.l19]
    rw [if_neg (by omega), show j = 6 by omega]
    simp
  | succ d ih =>
    intro j hj
    rw [am_b138_18]
    simp (disch := omega) only [am_oe, am_bI, am_bV, am_bJ, am_bA, if_true, if_false, x_kI, x_lI, x_RI, x_kJ, x_lJ, x_RJ, x_kr, x_lr, x_Rr, x_krJ, x_lrJ, x_RrJ, x_kf, x_lf, x_Rf, x_ko, x_lo, x_Ro, x_I, x_J, x_IJ, x_JI, x_lt, x_eq, x_eq0, x_neg, x_lt0, x_cl, x_cl0, x_sub, nI_add, pk_mul, nI_0, x_div, or_false, false_or, or_true, true_or, and_true, true_and, not_false_eq_true, and_false, false_and, not_true_eq_false, Nat.reduceEqDiff, reduceCtorEq, Nat.reduceSub, Nat.reduceDiv, Nat.reduceMul, Nat.reduceAdd, Nat.reduceLT, x_II, Nat.zero_div, Nat.zero_mul, Nat.sub_zero, Nat.mul_one, Nat.div_one, x_s0, Int32.zero_add, x_c1, x_c2, x_c3, x_c4, x_c5, x_c6, x_c8, x_c12, x_c14, x_c20, x_c26, x_c52, x_c60, x_c100, x_c128, x_c130, m.k, m.r0, m.r1, m.r3, m.r4, m.r8, m.r9, m.r12, m.r13, m.r14, m.r15, m.r16, m.r18, m.r19, m.k0, m.k1, m.k3, m.k4, m.k8, m.k9, m.k12, m.k13, m.k14, m.k15, m.k16, m.k18, m.k19, m.l0, m.l1, m.l3, m.l4, m.l8, m.l9, m.l12, m.l13, m.l14, m.l15, m.l16, m.l18, m.l19]
    rw [if_pos (by omega), if_pos (by omega)]
    have i := am_fo_s h 21 20 j (fun _ => 0)
    try dsimp only at i
    rw [i]
    exact ih (j + 1) (by omega)
theorem x_lt0I {x : Int32} : (x < 0) = ¬ 0 ≤ x.toInt := by
  rw [Int32.lt_iff_toInt_lt]
  exact propext (Int.not_le).symm
theorem m_forget (I : mI h A) (X : mE h A.1) (x : Int32) : ∃ h1, am_ev 138 0 [.ref 20, .int x, am_ph, am_ph] [] h = some (some (.int (f_forget A x)), h1) ∧ mI h1 (g_forget A x) ∧ mfr h h1 ∧ mE h1 (g_forget A x).1 := by
  have m := I.1
  rw [am_b138_0]
  simp only [x_lt0I]
  unfold f_forget g_forget
  by_cases h1 : 0 ≤ x.toInt
  · rw [if_neg (fun z => z h1), if_pos h1, if_pos h1, if_pos m.k]
    obtain ⟨h2, e, I2, fr, xk, -⟩ := I.rec
    have m2 := I2.1
    have e2 := m_forget18 m2 (x := x) (y := q_sum (2 * A.1.1) A.1.2.2.2.2) 6 0 (by omega)
    rw [am_fo_0] at e2
    rw [e, x_bV, if_pos m2.k, m_throwsSoFar m2 I2.c I2.c3, x_bI, I2.sF]
    refine ⟨_, e2, ?_, fr.tr ((am_fr_rI (by omega)).tr (am_sI_fr (by omega))), (X.kp xk rfl rfl).kp ⟨rfl, rfl, rfl, rfl⟩ rfl rfl⟩
    have v2 := I2.2.1
    refine I2.row rfl rfl rfl ?_ I.c3 rfl rfl rfl rfl rfl rfl
    show hV (am_ud (am_I (am_fo h2 21 20 6 (fun _ => 0)) 21) 1 x) _
    rw [am_fo_I]
    have v3 : hV (fun k => if 20 ≤ k ∧ k < 20 + 6 then 0 else am_I h2 21 k) (A.1.1, A.1.2.1, A.1.2.2.1, A.1.2.2.2.1, fun _ => 0) := by
      obtain ⟨v21, v22, v23, v24, v25⟩ := v2
      refine ⟨by dsimp only; rw [if_neg (by omega)]; exact v21, by dsimp only; rw [if_neg (by omega)]; exact v22, fun k hk => by dsimp only; rw [if_neg (by omega)]; exact v23 k hk, fun k hk => by dsimp only; rw [if_neg (by omega)]; exact v24 k hk, fun k hk => by dsimp only; rw [if_pos (by omega)]⟩
    exact v3.t x
  · rw [if_pos h1, if_neg h1, if_neg h1]
    exact ⟨h, rfl, I, am_fr.rf, X⟩
theorem q_tgt_eq (x s : Int32) : (x / (65536 : Int32)) - (x / (65536 : Int32)) / s * s = q_tgt x s := by unfold q_tgt; rfl
theorem q_kk_eq {c : Nat} {x : Int32} {g w f : Nat → Int32} {n : Nat} (n1 : q_sum 6 w = nI n) : q_kk (c, x, g, w, f) = q_fl w (q_tgt (q_next x) (nI n)) (2 * c - 1) 0 := by
  unfold q_kk
  dsimp only
  rw [n1]
theorem mI.sf (I : mI h A) {kk : Nat} (hk : kk < 6) (v : Int32) : mI (am_sI h 21 (20 + kk) v) ((A.1.1, A.1.2.1, A.1.2.2.1, A.1.2.2.2.1, am_ud A.1.2.2.2.2 kk v), A.2) := I.row rfl rfl am_sI_I (hV.f I.2.1 hk v) I.c3 (am_sI_ne (by omega)) (am_sI_ne (by omega)) (am_sI_ne (by omega)) (am_sI_ne (by omega)) (by rw [am_sI_ne (by omega)]) (by rw [am_sI_ne (by omega)])
/-- one throw: the next number nx, the cell kk -/
theorem m_rolls1 (I : mI h A) {nx : Int32} {kk n : Nat} (n2 : q_sum (2 * A.1.1) A.1.2.2.2.1 = nI n) (n3 : 0 < n) (n4 : n ≤ 5994) (hnx : q_next A.1.2.1 = nx) (hkk : q_fl A.1.2.2.2.1 (q_tgt nx (nI n)) (2 * A.1.1 - 1) 0 = kk) (hk6 : kk < 6) : am_ev 136 0 [.ref 20, am_ph, am_ph, am_ph] [] h = some (some (.int (nI kk)), am_sI (am_sI h 21 1 nx) 21 (20 + kk) (A.1.2.2.2.2 kk + 1)) := by
  have m := I.1
  have I2 : mI (am_sI h 21 1 nx) ((A.1.1, nx, A.1.2.2.1, A.1.2.2.2.1, A.1.2.2.2.2), A.2) := I.row rfl rfl rfl (hV.t I.2.1 _) I.c3 rfl rfl rfl rfl rfl rfl
  have m2 := I2.1
  have c2 : am_I (am_sI h 21 1 nx) 21 0 = nI A.1.1 := I2.c
  have e1 : am_I h 21 1 = A.1.2.1 := I.2.1.2.1
  have e11 : am_I (am_sI h 21 1 nx) 21 1 = nx := I2.2.1.2.1
  have hn0 : ¬ nI n = 0 := nI_ne0 n3 (by omega)
  have ht := q_tgt_lt (x := nx) n3 (show n < 2147483648 by omega)
  have hsW : q_sum (2 * A.1.1) (fun k => am_I (am_sI h 21 1 nx) 21 (14 + k)) = nI n := I2.sW.trans n2
  have hfl : ∀ (t : Int32) (d k : Nat), k + d < 6 → q_fl (fun k => am_I (am_sI h 21 1 nx) 21 (14 + k)) t d k = q_fl A.1.2.2.2.1 t d k := by
    intro t d
    induction d with
    | zero => intro k hk; rfl
    | succ d ih =>
      intro k hk
      unfold q_fl
      rw [q_sum_congr (g := A.1.2.2.2.1) (fun j hj => I2.W (by omega)), ih (k + 1) (by omega)]
  have e := m_roll51 (t := q_tgt nx (nI n)) m2 I.c3 (by rw [hsW]; exact ht) (2 * A.1.1 - 1) 0 (by rcases I.c3 with e | e <;> omega)
  have e0 : q_sum (0 + 1) (fun k => am_I (am_sI h 21 1 nx) 21 (14 + k)) = am_I (am_sI h 21 1 nx) 21 14 := by simp [q_sum]
  have eF : am_I (am_sI h 21 1 nx) 21 (20 + kk) = A.1.2.2.2.2 kk := I2.F hk6
  rw [hfl _ _ _ (by have := I.c6; omega), hkk, eF, e0, nI_0] at e
  rw [am_b136_0, if_pos m.k, m.r0, x_oe, if_pos m.k, x_oe, x_c1, if_pos (x_rd m.k0 m.l0 (by omega) (by omega)), if_pos (x_wr m.k0 m.l0 (by omega) (by omega)), x_cl (by omega), e1, q_next_eq, hnx]
  try dsimp only
  rw [if_pos m2.k, m2.r0, x_oe, if_pos (x_rdc m2.k0 m2.l0 (by omega) (by omega)), if_pos m2.k, m_sumOfWeights m2 c2 I2.c3, x_bI, hsW, if_neg hn0, if_pos m2.k, m2.r0, x_oe, x_c14, if_pos (x_rd m2.k0 m2.l0 (by omega) (by omega)), x_cl (by omega), e11, q_tgt_eq, e, x_c1]
theorem m_rolls (I : mI h A) (w : q_wf A.1) : ∃ h1, am_ev 136 0 [.ref 20, am_ph, am_ph, am_ph] [] h = some (some (.int (nI (q_kk A.1))), h1) ∧ mI h1 (q_thS A.1 (q_kk A.1), A.2) ∧ mfr h h1 ∧ mxk h h1 := by
  obtain ⟨⟨c, x, g, w', f⟩, B⟩ := A
  obtain ⟨n, n1, n2, n3, n4⟩ := w.sumW
  have hk := q_kk_lt w
  have h6 := I.c6
  generalize hkk : q_kk (c, x, g, w', f) = kk at hk
  rw [q_kk_eq n1] at hkk
  unfold q_thS
  dsimp only at n1 n2 hk h6 ⊢
  generalize hnx : q_next x = nx at hkk
  have e := m_rolls1 I n2 n3 n4 hnx hkk (by omega)
  dsimp only at e
  refine ⟨_, e, ?_, (am_sI_fr (by omega)).tr (am_sI_fr (by omega)), ⟨rfl, rfl, rfl, rfl⟩⟩
  have I2 : mI (am_sI h 21 1 nx) ((c, nx, g, w', f), B) := I.row rfl rfl rfl (hV.t I.2.1 _) I.c3 rfl rfl rfl rfl rfl rfl
  exact I2.sf (show kk < 6 by omega) (f kk + 1)
end model7
