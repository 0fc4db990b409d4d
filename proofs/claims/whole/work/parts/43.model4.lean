/-! ===== the Model: a new game, sure cells, throws ===== -/
theorem am_rI_rI {h : AH} {a : Nat} {f g : Nat → Int32} : am_rI (am_rI h a f) a g = am_rI h a g := by
  unfold am_rI
  try dsimp only
  rw [am_ud_ud]
theorem am_rI_id {h : AH} {a : Nat} : am_rI h a (am_I h a) = h := by
  show (h.1, am_ud h.2.1 a (h.2.1 a), h.2.2.1, h.2.2.2) = h
  rw [am_ud_id]
theorem am_sI_rI {h : AH} {a k : Nat} {f : Nat → Int32} {v : Int32} : am_sI (am_rI h a f) a k v = am_rI h a (am_ud f k v) := by
  unfold am_sI
  rw [am_rI_rI, am_rI_I]
theorem am_fo_rI {h : AH} {a o n : Nat} {f F : Nat → Int32} : am_fo (am_rI h a f) a o n F = am_rI h a (fun k => if o ≤ k ∧ k < o + n then F (k - o) else f k) := by
  unfold am_fo
  rw [am_rI_rI, am_rI_I]
theorem x_Ir {h : AH} {b d : Nat} {f : Nat → Int32} : am_I (am_rI h b f) d = if d = b then f else am_I h d := rfl
def q_sure (c : Nat) (g : Nat → Nat → Int32) (k : Nat) : Int32 := if ∀ q, q < q_nq c → ¬ q_ls c g q k < 0 then 1 else 0
section model4
variable {h : AH}
theorem m_anew2 (m : mL h) {x : Int32} : ∀ (d j : Nat), j + d = 24 → am_ev 101 2 [.ref 20, .int x, .int (nI (2 + j))] [] (am_fo h 21 2 j (fun _ => 0)) = am_ev 101 30 [.ref 20, am_ph, .int 0] [] (am_sI (am_fo h 21 2 24 (fun _ => 0)) 21 0 x) := by
  intro d
  induction d with
  | zero =>
    intro j hj
    rw [am_b101_2]
    simp (disch := omega) only [am_oe, am_bI, am_bV, am_bJ, am_bA, if_true, if_false, x_kI, x_lI, x_RI, x_kJ, x_lJ, x_RJ, x_kr, x_lr, x_Rr, x_krJ, x_lrJ, x_RrJ, x_kf, x_lf, x_Rf, x_ko, x_lo, x_Ro, x_I, x_J, x_IJ, x_JI, x_lt, x_eq, x_eq0, x_neg, x_lt0, x_cl, x_cl0, x_sub, nI_add, pk_mul, nI_0, x_div, or_false, false_or, or_true, true_or, and_true, true_and, not_false_eq_true, and_false, false_and, not_true_eq_false, Nat.reduceEqDiff, reduceCtorEq, Nat.reduceSub, Nat.reduceDiv, Nat.reduceMul, Nat.reduceAdd, Nat.reduceLT, x_II, Nat.zero_div, Nat.zero_mul, Nat.sub_zero, Nat.mul_one, Nat.div_one, x_s0, Int32.zero_add, x_c1, x_c2, x_c3, x_c4, x_c5, x_c6, x_c8, x_c12, x_c14, x_c20, x_c26, x_c52, x_c60, x_c100, x_c128, x_c130, m.k, m.r0, m.r1, m.r3, m.r4, m.r8, m.r9, m.r12, m.r13, m.r14, m.r15, m.r16, m.r18, m.r19, m.k0, m.k1, m.k3, m.k4, m.k8, m.k9, m.k12, m.k13, m.k14, m.k15, m.k16, m.k18, m.k19, m.l0, m.l1, m.l3, m.l4, m.l8, m.l9, m.l12, m.l13, m.l14, m.l15, m.l16, m.l18, m.l19]
    rw [if_neg (by omega), show j = 24 by omega]
    simp
  | succ d ih =>
    intro j hj
    rw [am_b101_2]
    simp (disch := omega) only [am_oe, am_bI, am_bV, am_bJ, am_bA, if_true, if_false, x_kI, x_lI, x_RI, x_kJ, x_lJ, x_RJ, x_kr, x_lr, x_Rr, x_krJ, x_lrJ, x_RrJ, x_kf, x_lf, x_Rf, x_ko, x_lo, x_Ro, x_I, x_J, x_IJ, x_JI, x_lt, x_eq, x_eq0, x_neg, x_lt0, x_cl, x_cl0, x_sub, nI_add, pk_mul, nI_0, x_div, or_false, false_or, or_true, true_or, and_true, true_and, not_false_eq_true, and_false, false_and, not_true_eq_false, Nat.reduceEqDiff, reduceCtorEq, Nat.reduceSub, Nat.reduceDiv, Nat.reduceMul, Nat.reduceAdd, Nat.reduceLT, x_II, Nat.zero_div, Nat.zero_mul, Nat.sub_zero, Nat.mul_one, Nat.div_one, x_s0, Int32.zero_add, x_c1, x_c2, x_c3, x_c4, x_c5, x_c6, x_c8, x_c12, x_c14, x_c20, x_c26, x_c52, x_c60, x_c100, x_c128, x_c130, m.k, m.r0, m.r1, m.r3, m.r4, m.r8, m.r9, m.r12, m.r13, m.r14, m.r15, m.r16, m.r18, m.r19, m.k0, m.k1, m.k3, m.k4, m.k8, m.k9, m.k12, m.k13, m.k14, m.k15, m.k16, m.k18, m.k19, m.l0, m.l1, m.l3, m.l4, m.l8, m.l9, m.l12, m.l13, m.l14, m.l15, m.l16, m.l18, m.l19]
    rw [if_pos (by omega), if_pos (by omega)]
    have i := am_fo_s h 21 2 j (fun _ => 0)
    try dsimp only at i
    rw [i]
    exact ih (j + 1) (by omega)
theorem m_anew30 (m : mL h) {c : Nat} (hc : am_I h 21 0 = nI c) (h3 : c = 2 ∨ c = 3) : ∀ (d j : Nat), j + d = 2 * c → am_ev 101 30 [.ref 20, am_ph, .int (nI j)] [] (am_fo h 21 14 j (fun _ => nI 1)) = some (none, am_sI (am_fo h 21 14 (2 * c) (fun _ => nI 1)) 20 11 0) := by
  have hc6 : 2 * c ≤ 6 := by rcases h3 with rfl | rfl <;> omega
  have hc' : ∀ j, am_I (am_fo h 21 14 j (fun _ => nI 1)) 21 0 = nI c := fun j => by
    rw [am_fo_I]
    show (if 14 ≤ 0 ∧ _ then _ else _) = _
    rw [if_neg (by omega)]
    exact hc
  intro d
  induction d with
  | zero =>
    intro j hj
    rw [am_b101_30]
    simp (disch := omega) only [am_oe, am_bI, am_bV, am_bJ, am_bA, if_true, if_false, x_kI, x_lI, x_RI, x_kJ, x_lJ, x_RJ, x_kr, x_lr, x_Rr, x_krJ, x_lrJ, x_RrJ, x_kf, x_lf, x_Rf, x_ko, x_lo, x_Ro, x_I, x_J, x_IJ, x_JI, x_lt, x_eq, x_eq0, x_neg, x_lt0, x_cl, x_cl0, x_sub, nI_add, pk_mul, nI_0, x_div, or_false, false_or, or_true, true_or, and_true, true_and, not_false_eq_true, and_false, false_and, not_true_eq_false, Nat.reduceEqDiff, reduceCtorEq, Nat.reduceSub, Nat.reduceDiv, Nat.reduceMul, Nat.reduceAdd, Nat.reduceLT, x_II, Nat.zero_div, Nat.zero_mul, Nat.sub_zero, Nat.mul_one, Nat.div_one, x_s0, Int32.zero_add, x_c1, x_c2, x_c3, x_c4, x_c5, x_c6, x_c8, x_c12, x_c14, x_c20, x_c26, x_c52, x_c60, x_c100, x_c128, x_c130, m.k, m.r0, m.r1, m.r3, m.r4, m.r8, m.r9, m.r12, m.r13, m.r14, m.r15, m.r16, m.r18, m.r19, m.k0, m.k1, m.k3, m.k4, m.k8, m.k9, m.k12, m.k13, m.k14, m.k15, m.k16, m.k18, m.k19, m.l0, m.l1, m.l3, m.l4, m.l8, m.l9, m.l12, m.l13, m.l14, m.l15, m.l16, m.l18, m.l19, m_cells m.fo (hc' j)]
    rw [if_neg (by omega), show j = 2 * c by omega]
  | succ d ih =>
    intro j hj
    rw [am_b101_30]
    simp (disch := omega) only [am_oe, am_bI, am_bV, am_bJ, am_bA, if_true, if_false, x_kI, x_lI, x_RI, x_kJ, x_lJ, x_RJ, x_kr, x_lr, x_Rr, x_krJ, x_lrJ, x_RrJ, x_kf, x_lf, x_Rf, x_ko, x_lo, x_Ro, x_I, x_J, x_IJ, x_JI, x_lt, x_eq, x_eq0, x_neg, x_lt0, x_cl, x_cl0, x_sub, nI_add, pk_mul, nI_0, x_div, or_false, false_or, or_true, true_or, and_true, true_and, not_false_eq_true, and_false, false_and, not_true_eq_false, Nat.reduceEqDiff, reduceCtorEq, Nat.reduceSub, Nat.reduceDiv, Nat.reduceMul, Nat.reduceAdd, Nat.reduceLT, x_II, Nat.zero_div, Nat.zero_mul, Nat.sub_zero, Nat.mul_one, Nat.div_one, x_s0, Int32.zero_add, x_c1, x_c2, x_c3, x_c4, x_c5, x_c6, x_c8, x_c12, x_c14, x_c20, x_c26, x_c52, x_c60, x_c100, x_c128, x_c130, m.k, m.r0, m.r1, m.r3, m.r4, m.r8, m.r9, m.r12, m.r13, m.r14, m.r15, m.r16, m.r18, m.r19, m.k0, m.k1, m.k3, m.k4, m.k8, m.k9, m.k12, m.k13, m.k14, m.k15, m.k16, m.k18, m.k19, m.l0, m.l1, m.l3, m.l4, m.l8, m.l9, m.l12, m.l13, m.l14, m.l15, m.l16, m.l18, m.l19, m_cells m.fo (hc' j)]
    rw [if_pos (by omega), if_pos (by omega)]
    have i := am_fo_s h 21 14 j (fun _ => nI 1)
    try dsimp only at i
    rw [i]
    exact ih (j + 1) (by omega)
theorem m_anew (m : mL h) {c : Nat} (h3 : c = 2 ∨ c = 3) : ∃ F, am_ev 101 0 [.ref 20, .int (nI c), am_ph] [] h = some (none, am_sI (am_rI h 21 F) 20 11 0) ∧ hV F (q_new c (am_I h 21 1)) := by
  have hc6 : 2 * c ≤ 6 := by rcases h3 with rfl | rfl <;> omega
  have i := m_anew2 m (x := nI c) 24 0 (by omega)
  rw [am_fo_0] at i
  have i2 := m_anew30 (h := am_sI (am_fo h 21 2 24 (fun _ => 0)) 21 0 (nI c)) (c := c) m.fo.sI (by rw [x_I, if_pos rfl]; exact am_ud_eq) h3 (2 * c) 0 (by omega)
  rw [am_fo_0] at i2
  refine ⟨am_I (am_fo (am_sI (am_fo h 21 2 24 (fun _ => 0)) 21 0 (nI c)) 21 14 (2 * c) (fun _ => nI 1)) 21, ?_, ?_⟩
  · rw [am_b101_0]
    refine (Eq.trans i i2).trans ?_
    congr 3
    have e : ∀ (F : Nat → Int32), am_fo h 21 2 24 F = am_rI h 21 (fun k => if 2 ≤ k ∧ k < 2 + 24 then F (k - 2) else am_I h 21 k) := fun F => rfl
    rw [e, am_sI_rI, am_fo_rI, am_rI_I]
  · rw [am_fo_I, x_I, if_pos rfl, am_fo_I]
    refine ⟨?_, ?_, fun k hk => ?_, fun k hk => ?_, fun k hk => ?_⟩
    · dsimp only
      rw [if_neg (by omega)]
      rfl
    · dsimp only
      rw [if_neg (by omega), am_ud_ne (by omega)]
      try dsimp only
      rw [if_neg (by omega)]
      rfl
    · dsimp only
      rw [if_neg (by omega), am_ud_ne (by omega)]
      try dsimp only
      rw [if_pos (by omega)]
      rfl
    · dsimp only [q_new]
      by_cases h1 : k < 2 * c
      · rw [if_pos (by omega), if_pos h1]
        rfl
      · rw [if_neg (by omega), if_neg h1, am_ud_ne (by omega)]
        try dsimp only
        rw [if_pos (by omega)]
    · dsimp only [q_new]
      rw [if_neg (by omega), am_ud_ne (by omega)]
      try dsimp only
      rw [if_pos (by omega)]
theorem m_isSure4 (m : mL h) {c k : Nat} (hc : am_I h 21 0 = nI c) (h3 : c = 2 ∨ c = 3) (hk : k < 2 * c) : ∀ (d j : Nat) (v : Int32), j + d = q_nq c → (v = 1 ∧ (∀ q, q < j → ¬ q_ls c (mG h) q k < 0) ∨ v = 0 ∧ ¬ ∀ q, q < j → ¬ q_ls c (mG h) q k < 0) → am_ev 110 4 [.ref 20, .int (nI k), .int v, .int (nI j)] [] (mKs h c j) = some (some (.int (q_sure c (mG h) k)), mKs h c (q_nq c)) := by
  have hq8 := q_nq_le h3
  have hc' : ∀ j, am_I (mKs h c j) 21 0 = nI c := fun j => by rw [mKs_I (by omega)]; exact hc
  intro d
  induction d with
  | zero =>
    intro j v hj hv
    obtain rfl : j = q_nq c := by omega
    rw [am_b110_4]
    simp (disch := omega) only [am_oe, am_bI, am_bV, am_bJ, am_bA, if_true, if_false, x_kI, x_lI, x_RI, x_kJ, x_lJ, x_RJ, x_kr, x_lr, x_Rr, x_krJ, x_lrJ, x_RrJ, x_kf, x_lf, x_Rf, x_ko, x_lo, x_Ro, x_I, x_J, x_IJ, x_JI, x_lt, x_eq, x_eq0, x_neg, x_lt0, x_cl, x_cl0, x_sub, nI_add, pk_mul, nI_0, x_div, or_false, false_or, or_true, true_or, and_true, true_and, not_false_eq_true, and_false, false_and, not_true_eq_false, Nat.reduceEqDiff, reduceCtorEq, Nat.reduceSub, Nat.reduceDiv, Nat.reduceMul, Nat.reduceAdd, Nat.reduceLT, x_II, Nat.zero_div, Nat.zero_mul, Nat.sub_zero, Nat.mul_one, Nat.div_one, x_s0, Int32.zero_add, x_c1, x_c2, x_c3, x_c4, x_c5, x_c6, x_c8, x_c12, x_c14, x_c20, x_c26, x_c52, x_c60, x_c100, x_c128, x_c130, m.k, m.r0, m.r1, m.r3, m.r4, m.r8, m.r9, m.r12, m.r13, m.r14, m.r15, m.r16, m.r18, m.r19, m.k0, m.k1, m.k3, m.k4, m.k8, m.k9, m.k12, m.k13, m.k14, m.k15, m.k16, m.k18, m.k19, m.l0, m.l1, m.l3, m.l4, m.l8, m.l9, m.l12, m.l13, m.l14, m.l15, m.l16, m.l18, m.l19, m.Ks.k, m_inequalities m.Ks (hc' _) h3]
    rw [if_neg (by omega)]
    unfold q_sure
    rcases hv with ⟨rfl, e⟩ | ⟨rfl, e⟩
    · rw [if_pos e]; simp; rfl
    · rw [if_neg e]; simp
  | succ d ih =>
    intro j v hj hv
    have e := m_loss (c := c) (q := j) (m.Ks (c := c) (j := j)) (hc' j) h3 (show j < q_nq c by omega) hk
    rw [mKs_s, mKs_G] at e
    have e2 := m_look (c := c) (q := j) (m.Ks (c := c) (j := j)) (hc' j) h3 (show j < q_nq c by omega)
    rw [mKs_s] at e2
    rw [am_b110_4]
    simp (disch := omega) only [am_oe, am_bI, am_bV, am_bJ, am_bA, if_true, if_false, x_kI, x_lI, x_RI, x_kJ, x_lJ, x_RJ, x_kr, x_lr, x_Rr, x_krJ, x_lrJ, x_RrJ, x_kf, x_lf, x_Rf, x_ko, x_lo, x_Ro, x_I, x_J, x_IJ, x_JI, x_lt, x_eq, x_eq0, x_neg, x_lt0, x_cl, x_cl0, x_sub, nI_add, pk_mul, nI_0, x_div, or_false, false_or, or_true, true_or, and_true, true_and, not_false_eq_true, and_false, false_and, not_true_eq_false, Nat.reduceEqDiff, reduceCtorEq, Nat.reduceSub, Nat.reduceDiv, Nat.reduceMul, Nat.reduceAdd, Nat.reduceLT, x_II, Nat.zero_div, Nat.zero_mul, Nat.sub_zero, Nat.mul_one, Nat.div_one, x_s0, Int32.zero_add, x_c1, x_c2, x_c3, x_c4, x_c5, x_c6, x_c8, x_c12, x_c14, x_c20, x_c26, x_c52, x_c60, x_c100, x_c128, x_c130, m.k, m.r0, m.r1, m.r3, m.r4, m.r8, m.r9, m.r12, m.r13, m.r14, m.r15, m.r16, m.r18, m.r19, m.k0, m.k1, m.k3, m.k4, m.k8, m.k9, m.k12, m.k13, m.k14, m.k15, m.k16, m.k18, m.k19, m.l0, m.l1, m.l3, m.l4, m.l8, m.l9, m.l12, m.l13, m.l14, m.l15, m.l16, m.l18, m.l19, m.Ks.k, m_inequalities m.Ks (hc' _) h3]
    rw [if_pos (by omega), e2]
    simp (disch := omega) only [am_oe, am_bI, am_bV, am_bJ, am_bA, if_true, if_false, x_kI, x_lI, x_RI, x_kJ, x_lJ, x_RJ, x_kr, x_lr, x_Rr, x_krJ, x_lrJ, x_RrJ, x_kf, x_lf, x_Rf, x_ko, x_lo, x_Ro, x_I, x_J, x_IJ, x_JI, x_lt, x_eq, x_eq0, x_neg, x_lt0, x_cl, x_cl0, x_sub, nI_add, pk_mul, nI_0, x_div, or_false, false_or, or_true, true_or, and_true, true_and, not_false_eq_true, and_false, false_and, not_true_eq_false, Nat.reduceEqDiff, reduceCtorEq, Nat.reduceSub, Nat.reduceDiv, Nat.reduceMul, Nat.reduceAdd, Nat.reduceLT, x_II, Nat.zero_div, Nat.zero_mul, Nat.sub_zero, Nat.mul_one, Nat.div_one, x_s0, Int32.zero_add, x_c1, x_c2, x_c3, x_c4, x_c5, x_c6, x_c8, x_c12, x_c14, x_c20, x_c26, x_c52, x_c60, x_c100, x_c128, x_c130, m.Ks.k]
    rcases hv with ⟨rfl, hv⟩ | ⟨rfl, hv⟩
    · rw [if_neg (by decide), e]
      simp (disch := omega) only [am_oe, am_bI, am_bV, am_bJ, am_bA, if_true, if_false, x_kI, x_lI, x_RI, x_kJ, x_lJ, x_RJ, x_kr, x_lr, x_Rr, x_krJ, x_lrJ, x_RrJ, x_kf, x_lf, x_Rf, x_ko, x_lo, x_Ro, x_I, x_J, x_IJ, x_JI, x_lt, x_eq, x_eq0, x_neg, x_lt0, x_cl, x_cl0, x_sub, nI_add, pk_mul, nI_0, x_div, or_false, false_or, or_true, true_or, and_true, true_and, not_false_eq_true, and_false, false_and, not_true_eq_false, Nat.reduceEqDiff, reduceCtorEq, Nat.reduceSub, Nat.reduceDiv, Nat.reduceMul, Nat.reduceAdd, Nat.reduceLT, x_II, Nat.zero_div, Nat.zero_mul, Nat.sub_zero, Nat.mul_one, Nat.div_one, x_s0, Int32.zero_add, x_c1, x_c2, x_c3, x_c4, x_c5, x_c6, x_c8, x_c12, x_c14, x_c20, x_c26, x_c52, x_c60, x_c100, x_c128, x_c130]
      by_cases h1 : q_ls c (mG h) j k < 0
      · rw [if_pos h1]
        exact ih (j + 1) 0 (by omega) (Or.inr ⟨rfl, fun z => z j (by omega) h1⟩)
      · rw [if_neg h1]
        refine ih (j + 1) 1 (by omega) (Or.inl ⟨rfl, fun q hq => ?_⟩)
        by_cases e3 : q = j
        · rw [e3]; exact h1
        · exact hv q (by omega)
    · rw [if_pos rfl]
      exact ih (j + 1) 0 (by omega) (Or.inr ⟨rfl, fun z => hv (fun q hq => z q (by omega))⟩)
theorem m_isSure (m : mL h) {c k : Nat} (hc : am_I h 21 0 = nI c) (h3 : c = 2 ∨ c = 3) (hk : k < 2 * c) : am_ev 110 0 [.ref 20, .int (nI k), am_ph, am_ph] [] h = some (some (.int (q_sure c (mG h) k)), mKs h c (q_nq c)) := by
  rw [am_b110_0]
  exact m_isSure4 m hc h3 hk (q_nq c) 0 1 (by omega) (Or.inl ⟨rfl, fun q hq => absurd hq (by omega)⟩)
theorem m_roll51 (m : mL h) {c : Nat} {t : Int32} (h3 : c = 2 ∨ c = 3) (ht : t < q_sum (2 * c) fun k => am_I h 21 (14 + k)) : ∀ (d k : Nat), k + d + 1 = 2 * c → am_ev 136 51 [.ref 20, .int t, .int (nI k), .int (q_sum (k + 1) fun k => am_I h 21 (14 + k))] [] h = some (some (.int (nI (q_fl (fun k => am_I h 21 (14 + k)) t d k))), am_sI h 21 (20 + q_fl (fun k => am_I h 21 (14 + k)) t d k) (am_I h 21 (20 + q_fl (fun k => am_I h 21 (14 + k)) t d k) + 1)) := by
  have hc6 : 2 * c ≤ 6 := by rcases h3 with rfl | rfl <;> omega
  have hend : ∀ (d k : Nat), k < 6 → t < q_sum (k + 1) (fun k => am_I h 21 (14 + k)) → am_ev 136 51 [.ref 20, .int t, .int (nI k), .int (q_sum (k + 1) fun k => am_I h 21 (14 + k))] [] h = some (some (.int (nI k)), am_sI h 21 (20 + k) (am_I h 21 (20 + k) + 1)) := by
    intro d k hk h1
    rw [am_b136_51, if_pos h1]
    simp (disch := omega) only [am_oe, am_bI, am_bV, am_bJ, am_bA, if_true, if_false, x_kI, x_lI, x_RI, x_kJ, x_lJ, x_RJ, x_kr, x_lr, x_Rr, x_krJ, x_lrJ, x_RrJ, x_kf, x_lf, x_Rf, x_ko, x_lo, x_Ro, x_I, x_J, x_IJ, x_JI, x_lt, x_eq, x_eq0, x_neg, x_lt0, x_cl, x_cl0, x_sub, nI_add, pk_mul, nI_0, x_div, or_false, false_or, or_true, true_or, and_true, true_and, not_false_eq_true, and_false, false_and, not_true_eq_false, Nat.reduceEqDiff, reduceCtorEq, Nat.reduceSub, Nat.reduceDiv, Nat.reduceMul, Nat.reduceAdd, Nat.reduceLT, x_II, Nat.zero_div, Nat.zero_mul, Nat.sub_zero, Nat.mul_one, Nat.div_one, x_s0, Int32.zero_add, x_c1, x_c2, x_c3, x_c4, x_c5, x_c6, x_c8, x_c12, x_c14, x_c20, x_c26, x_c52, x_c60, x_c100, x_c128, x_c130, m.k, m.r0, m.r1, m.r3, m.r4, m.r8, m.r9, m.r12, m.r13, m.r14, m.r15, m.r16, m.r18, m.r19, m.k0, m.k1, m.k3, m.k4, m.k8, m.k9, m.k12, m.k13, m.k14, m.k15, m.k16, m.k18, m.k19, m.l0, m.l1, m.l3, m.l4, m.l8, m.l9, m.l12, m.l13, m.l14, m.l15, m.l16, m.l18, m.l19]
    rw [if_pos (by omega), if_pos (by omega)]
  intro d
  induction d with
  | zero =>
    intro k hk
    rw [hend 0 k (by omega) (by rw [hk]; exact ht)]
    rfl
  | succ d ih =>
    intro k hk
    by_cases h1 : t < q_sum (k + 1) (fun k => am_I h 21 (14 + k))
    · rw [hend 0 k (by omega) h1]
      unfold q_fl
      rw [if_pos h1]
    · rw [am_b136_51, if_neg h1]
      simp (disch := omega) only [am_oe, am_bI, am_bV, am_bJ, am_bA, if_true, if_false, x_kI, x_lI, x_RI, x_kJ, x_lJ, x_RJ, x_kr, x_lr, x_Rr, x_krJ, x_lrJ, x_RrJ, x_kf, x_lf, x_Rf, x_ko, x_lo, x_Ro, x_I, x_J, x_IJ, x_JI, x_lt, x_eq, x_eq0, x_neg, x_lt0, x_cl, x_cl0, x_sub, nI_add, pk_mul, nI_0, x_div, or_false, false_or, or_true, true_or, and_true, true_and, not_false_eq_true, and_false, false_and, not_true_eq_false, Nat.reduceEqDiff, reduceCtorEq, Nat.reduceSub, Nat.reduceDiv, Nat.reduceMul, Nat.reduceAdd, Nat.reduceLT, x_II, Nat.zero_div, Nat.zero_mul, Nat.sub_zero, Nat.mul_one, Nat.div_one, x_s0, Int32.zero_add, x_c1, x_c2, x_c3, x_c4, x_c5, x_c6, x_c8, x_c12, x_c14, x_c20, x_c26, x_c52, x_c60, x_c100, x_c128, x_c130, m.k, m.r0, m.r1, m.r3, m.r4, m.r8, m.r9, m.r12, m.r13, m.r14, m.r15, m.r16, m.r18, m.r19, m.k0, m.k1, m.k3, m.k4, m.k8, m.k9, m.k12, m.k13, m.k14, m.k15, m.k16, m.k18, m.k19, m.l0, m.l1, m.l3, m.l4, m.l8, m.l9, m.l12, m.l13, m.l14, m.l15, m.l16, m.l18, m.l19]
      rw [if_pos (by omega)]
      have i := ih (k + 1) (by omega)
      unfold q_fl
      rw [if_neg h1]
      exact i
end model4
