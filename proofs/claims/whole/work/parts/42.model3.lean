/-! ===== the Model: its row of numbers, history, a new game ===== -/
/-- a row of 26 numbers holds a state -/
def hV (f : Nat → Int32) (s : QS) : Prop := f 0 = nI s.1 ∧ f 1 = s.2.1 ∧ (∀ k, k < 12 → f (2 + k) = s.2.2.1 k) ∧ (∀ k, k < 6 → f (14 + k) = s.2.2.2.1 k) ∧ ∀ k, k < 6 → f (20 + k) = s.2.2.2.2 k
theorem hV.cp {f f' : Nat → Int32} {s : QS} (v : hV f s) (e : ∀ k, k < 26 → f' k = f k) : hV f' s := by
  obtain ⟨v1, v2, v3, v4, v5⟩ := v
  refine ⟨(e 0 (by omega)).trans v1, (e 1 (by omega)).trans v2, fun k hk => (e _ (by omega)).trans (v3 k hk), fun k hk => (e _ (by omega)).trans (v4 k hk), fun k hk => (e _ (by omega)).trans (v5 k hk)⟩
def q_recN (n : Nat) : Nat := if n = 6 then 6 else n + 1
def q_recH (n : Nat) (H : Nat → QS) (s : QS) : Nat → QS := if n = 6 then fun i => if i = 5 then s else H (i + 1) else fun i => if i = n then s else H i
section model3
variable {h : AH}
theorem m_rec51 (m : mL h) {n : Nat} (hn : n < 6) (e : am_I h 20 2 = nI n) : ∀ (d j : Nat), j + d = 26 → am_ev 97 51 [.ref 20, .int (nI j)] [] (am_fo h 22 (26 * n) j (am_I h 21)) = some (none, am_sI (am_fo h 22 (26 * n) 26 (am_I h 21)) 20 2 (nI (n + 1))) := by
  intro d
  induction d with
  | zero =>
    intro j hj
    rw [am_b97_51]
    simp (disch := omega) only [am_oe, am_bI, am_bV, am_bJ, am_bA, if_true, if_false, x_kI, x_lI, x_RI, x_kJ, x_lJ, x_RJ, x_kr, x_lr, x_Rr, x_krJ, x_lrJ, x_RrJ, x_kf, x_lf, x_Rf, x_ko, x_lo, x_Ro, x_I, x_J, x_IJ, x_JI, x_lt, x_eq, x_eq0, x_neg, x_lt0, x_cl, x_cl0, x_sub, nI_add, pk_mul, nI_0, x_div, or_false, false_or, or_true, true_or, and_true, true_and, not_false_eq_true, and_false, false_and, not_true_eq_false, Nat.reduceEqDiff, reduceCtorEq, Nat.reduceSub, Nat.reduceDiv, Nat.reduceMul, Nat.reduceAdd, Nat.reduceLT, x_II, Nat.zero_div, Nat.zero_mul, Nat.sub_zero, Nat.mul_one, Nat.div_one, x_s0, Int32.zero_add, x_c1, x_c2, x_c3, x_c4, x_c5, x_c6, x_c8, x_c12, x_c14, x_c20, x_c26, x_c52, x_c60, x_c100, x_c128, x_c130, m.k, m.r0, m.r1, m.r3, m.r4, m.r8, m.r9, m.r12, m.r13, m.r14, m.r15, m.r16, m.r18, m.r19, m.k0, m.k1, m.k3, m.k4, m.k8, m.k9, m.k12, m.k13, m.k14, m.k15, m.k16, m.k18, m.k19, m.l0, m.l1, m.l3, m.l4, m.l8, m.l9, m.l12, m.l13, m.l14, m.l15, m.l16, m.l18, m.l19, am_fo_ne (h := h) (show 20 ≠ 22 by omega), e]
    rw [if_neg (by omega), show j = 26 by omega]
  | succ d ih =>
    intro j hj
    rw [am_b97_51]
    simp (disch := omega) only [am_oe, am_bI, am_bV, am_bJ, am_bA, if_true, if_false, x_kI, x_lI, x_RI, x_kJ, x_lJ, x_RJ, x_kr, x_lr, x_Rr, x_krJ, x_lrJ, x_RrJ, x_kf, x_lf, x_Rf, x_ko, x_lo, x_Ro, x_I, x_J, x_IJ, x_JI, x_lt, x_eq, x_eq0, x_neg, x_lt0, x_cl, x_cl0, x_sub, nI_add, pk_mul, nI_0, x_div, or_false, false_or, or_true, true_or, and_true, true_and, not_false_eq_true, and_false, false_and, not_true_eq_false, Nat.reduceEqDiff, reduceCtorEq, Nat.reduceSub, Nat.reduceDiv, Nat.reduceMul, Nat.reduceAdd, Nat.reduceLT, x_II, Nat.zero_div, Nat.zero_mul, Nat.sub_zero, Nat.mul_one, Nat.div_one, x_s0, Int32.zero_add, x_c1, x_c2, x_c3, x_c4, x_c5, x_c6, x_c8, x_c12, x_c14, x_c20, x_c26, x_c52, x_c60, x_c100, x_c128, x_c130, m.k, m.r0, m.r1, m.r3, m.r4, m.r8, m.r9, m.r12, m.r13, m.r14, m.r15, m.r16, m.r18, m.r19, m.k0, m.k1, m.k3, m.k4, m.k8, m.k9, m.k12, m.k13, m.k14, m.k15, m.k16, m.k18, m.k19, m.l0, m.l1, m.l3, m.l4, m.l8, m.l9, m.l12, m.l13, m.l14, m.l15, m.l16, m.l18, m.l19, am_fo_ne (h := h) (show 20 ≠ 22 by omega), am_fo_ne (h := h) (show 21 ≠ 22 by omega), e]
    rw [if_pos (by omega), if_pos (by omega), if_pos (by omega), am_fo_s]
    exact ih (j + 1) (by omega)
theorem m_rec11 (m : mL h) (e : am_I h 20 2 = nI 6) : ∀ (d j : Nat), j + d = 130 → am_ev 97 11 [.ref 20, .int (nI j)] [] (am_fo h 22 0 j (fun k => am_I h 22 (k + 26))) = am_ev 97 51 [.ref 20, .int 0] [] (am_sI (am_fo h 22 0 130 (fun k => am_I h 22 (k + 26))) 20 2 (nI 5)) := by
  intro d
  induction d with
  | zero =>
    intro j hj
    rw [am_b97_11]
    simp (disch := omega) only [am_oe, am_bI, am_bV, am_bJ, am_bA, if_true, if_false, x_kI, x_lI, x_RI, x_kJ, x_lJ, x_RJ, x_kr, x_lr, x_Rr, x_krJ, x_lrJ, x_RrJ, x_kf, x_lf, x_Rf, x_ko, x_lo, x_Ro, x_I, x_J, x_IJ, x_JI, x_lt, x_eq, x_eq0, x_neg, x_lt0, x_cl, x_cl0, x_sub, nI_add, pk_mul, nI_0, x_div, or_false, false_or, or_true, true_or, and_true, true_and, not_false_eq_true, and_false, false_and, not_true_eq_false, Nat.reduceEqDiff, reduceCtorEq, Nat.reduceSub, Nat.reduceDiv, Nat.reduceMul, Nat.reduceAdd, Nat.reduceLT, x_II, Nat.zero_div, Nat.zero_mul, Nat.sub_zero, Nat.mul_one, Nat.div_one, x_s0, Int32.zero_add, x_c1, x_c2, x_c3, x_c4, x_c5, x_c6, x_c8, x_c12, x_c14, x_c20, x_c26, x_c52, x_c60, x_c100, x_c128, x_c130, m.k, m.r0, m.r1, m.r3, m.r4, m.r8, m.r9, m.r12, m.r13, m.r14, m.r15, m.r16, m.r18, m.r19, m.k0, m.k1, m.k3, m.k4, m.k8, m.k9, m.k12, m.k13, m.k14, m.k15, m.k16, m.k18, m.k19, m.l0, m.l1, m.l3, m.l4, m.l8, m.l9, m.l12, m.l13, m.l14, m.l15, m.l16, m.l18, m.l19, am_fo_ne (h := h) (show 20 ≠ 22 by omega), e]
    rw [if_neg (by omega), show j = 130 by omega]
  | succ d ih =>
    intro j hj
    rw [am_b97_11]
    simp (disch := omega) only [am_oe, am_bI, am_bV, am_bJ, am_bA, if_true, if_false, x_kI, x_lI, x_RI, x_kJ, x_lJ, x_RJ, x_kr, x_lr, x_Rr, x_krJ, x_lrJ, x_RrJ, x_kf, x_lf, x_Rf, x_ko, x_lo, x_Ro, x_I, x_J, x_IJ, x_JI, x_lt, x_eq, x_eq0, x_neg, x_lt0, x_cl, x_cl0, x_sub, nI_add, pk_mul, nI_0, x_div, or_false, false_or, or_true, true_or, and_true, true_and, not_false_eq_true, and_false, false_and, not_true_eq_false, Nat.reduceEqDiff, reduceCtorEq, Nat.reduceSub, Nat.reduceDiv, Nat.reduceMul, Nat.reduceAdd, Nat.reduceLT, x_II, Nat.zero_div, Nat.zero_mul, Nat.sub_zero, Nat.mul_one, Nat.div_one, x_s0, Int32.zero_add, x_c1, x_c2, x_c3, x_c4, x_c5, x_c6, x_c8, x_c12, x_c14, x_c20, x_c26, x_c52, x_c60, x_c100, x_c128, x_c130, m.k, m.r0, m.r1, m.r3, m.r4, m.r8, m.r9, m.r12, m.r13, m.r14, m.r15, m.r16, m.r18, m.r19, m.k0, m.k1, m.k3, m.k4, m.k8, m.k9, m.k12, m.k13, m.k14, m.k15, m.k16, m.k18, m.k19, m.l0, m.l1, m.l3, m.l4, m.l8, m.l9, m.l12, m.l13, m.l14, m.l15, m.l16, m.l18, m.l19, am_fo_ne (h := h) (show 20 ≠ 22 by omega), am_fo_I, e]
    rw [if_pos (by omega), if_pos (by omega), if_pos (by omega), if_neg (by omega)]
    have i := am_fo_s h 22 0 j (fun k => am_I h 22 (k + 26))
    rw [Nat.zero_add] at i
    rw [i]
    exact ih (j + 1) (by omega)
theorem m_record (m : mL h) {n : Nat} {H : Nat → QS} {s : QS} (hn : n ≤ 6) (e : am_I h 20 2 = nI n) (v : hV (am_I h 21) s) (hh : ∀ i, i < n → hV (fun k => am_I h 22 (26 * i + k)) (H i)) : ∃ F, am_ev 97 0 [.ref 20, am_ph] [] h = some (none, am_sI (am_rI h 22 F) 20 2 (nI (q_recN n))) ∧ ∀ i, i < q_recN n → hV (fun k => F (26 * i + k)) (q_recH n H s i) := by
  by_cases h6 : n = 6
  · subst h6
    refine ⟨fun k => if 130 ≤ k ∧ k < 156 then am_I h 21 (k - 130) else if k < 130 then am_I h 22 (k + 26) else am_I h 22 k, ?_, ?_⟩
    · rw [am_b97_0]
      simp (disch := omega) only [am_oe, am_bI, am_bV, am_bJ, am_bA, if_true, if_false, x_kI, x_lI, x_RI, x_kJ, x_lJ, x_RJ, x_kr, x_lr, x_Rr, x_krJ, x_lrJ, x_RrJ, x_kf, x_lf, x_Rf, x_ko, x_lo, x_Ro, x_I, x_J, x_IJ, x_JI, x_lt, x_eq, x_eq0, x_neg, x_lt0, x_cl, x_cl0, x_sub, nI_add, pk_mul, nI_0, x_div, or_false, false_or, or_true, true_or, and_true, true_and, not_false_eq_true, and_false, false_and, not_true_eq_false, Nat.reduceEqDiff, reduceCtorEq, Nat.reduceSub, Nat.reduceDiv, Nat.reduceMul, Nat.reduceAdd, Nat.reduceLT, x_II, Nat.zero_div, Nat.zero_mul, Nat.sub_zero, Nat.mul_one, Nat.div_one, x_s0, Int32.zero_add, x_c1, x_c2, x_c3, x_c4, x_c5, x_c6, x_c8, x_c12, x_c14, x_c20, x_c26, x_c52, x_c60, x_c100, x_c128, x_c130, m.k, m.r0, m.r1, m.r3, m.r4, m.r8, m.r9, m.r12, m.r13, m.r14, m.r15, m.r16, m.r18, m.r19, m.k0, m.k1, m.k3, m.k4, m.k8, m.k9, m.k12, m.k13, m.k14, m.k15, m.k16, m.k18, m.k19, m.l0, m.l1, m.l3, m.l4, m.l8, m.l9, m.l12, m.l13, m.l14, m.l15, m.l16, m.l18, m.l19, e]
      have i := m_rec11 m e 130 0 (by omega)
      rw [am_fo_0] at i
      refine Eq.trans i ?_
      have i2 := m_rec51 (h := am_sI (am_fo h 22 0 130 (fun k => am_I h 22 (k + 26))) 20 2 (nI 5)) (n := 5) m.fo.sI (by omega) (by rw [x_I, if_pos rfl]; exact am_ud_eq) 26 0 (by omega)
      rw [am_fo_0] at i2
      refine Eq.trans i2 ?_
      unfold q_recN am_fo am_sI am_rI
      dsimp only [am_I]
      simp only [am_ud_eq, am_ud_ne (show (21 : Nat) ≠ 20 by omega), am_ud_ne (show (21 : Nat) ≠ 22 by omega), am_ud_ne (show (22 : Nat) ≠ 20 by omega), am_ud_ne (show (20 : Nat) ≠ 22 by omega), if_true]
      congr 3
      congr 1
      funext b k
      unfold am_ud
      by_cases e1 : b = 20
      · subst e1
        simp
        by_cases e3 : k = 2 <;> simp [e3]
      · by_cases e2 : b = 22
        · subst e2
          simp
        · simp [e1, e2]
    · intro i hi
      unfold q_recN at hi
      rw [if_pos rfl] at hi
      unfold q_recH
      rw [if_pos rfl]
      dsimp only
      by_cases h5 : i = 5
      · subst h5
        rw [if_pos rfl]
        refine v.cp (fun k hk => ?_)
        rw [if_pos (by omega), show 26 * 5 + k - 130 = k by omega]
      · rw [if_neg h5]
        refine (hh (i + 1) (by omega)).cp (fun k hk => ?_)
        rw [if_neg (by omega), if_pos (by omega), show 26 * (i + 1) + k = 26 * i + k + 26 by omega]
  · refine ⟨fun k => if 26 * n ≤ k ∧ k < 26 * n + 26 then am_I h 21 (k - 26 * n) else am_I h 22 k, ?_, ?_⟩
    · rw [am_b97_0]
      simp (disch := omega) only [am_oe, am_bI, am_bV, am_bJ, am_bA, if_true, if_false, x_kI, x_lI, x_RI, x_kJ, x_lJ, x_RJ, x_kr, x_lr, x_Rr, x_krJ, x_lrJ, x_RrJ, x_kf, x_lf, x_Rf, x_ko, x_lo, x_Ro, x_I, x_J, x_IJ, x_JI, x_lt, x_eq, x_eq0, x_neg, x_lt0, x_cl, x_cl0, x_sub, nI_add, pk_mul, nI_0, x_div, or_false, false_or, or_true, true_or, and_true, true_and, not_false_eq_true, and_false, false_and, not_true_eq_false, Nat.reduceEqDiff, reduceCtorEq, Nat.reduceSub, Nat.reduceDiv, Nat.reduceMul, Nat.reduceAdd, Nat.reduceLT, x_II, Nat.zero_div, Nat.zero_mul, Nat.sub_zero, Nat.mul_one, Nat.div_one, x_s0, Int32.zero_add, x_c1, x_c2, x_c3, x_c4, x_c5, x_c6, x_c8, x_c12, x_c14, x_c20, x_c26, x_c52, x_c60, x_c100, x_c128, x_c130, m.k, m.r0, m.r1, m.r3, m.r4, m.r8, m.r9, m.r12, m.r13, m.r14, m.r15, m.r16, m.r18, m.r19, m.k0, m.k1, m.k3, m.k4, m.k8, m.k9, m.k12, m.k13, m.k14, m.k15, m.k16, m.k18, m.k19, m.l0, m.l1, m.l3, m.l4, m.l8, m.l9, m.l12, m.l13, m.l14, m.l15, m.l16, m.l18, m.l19, e]
      rw [if_neg h6]
      have i := m_rec51 m (show n < 6 by omega) e 26 0 (by omega)
      rw [am_fo_0] at i
      refine Eq.trans i ?_
      unfold q_recN
      rw [if_neg h6]
      rfl
    · intro i hi
      unfold q_recN at hi
      rw [if_neg h6] at hi
      unfold q_recH
      rw [if_neg h6]
      dsimp only
      by_cases h5 : i = n
      · subst h5
        rw [if_pos rfl]
        refine v.cp (fun k hk => ?_)
        rw [if_pos (by omega), show 26 * i + k - 26 * i = k by omega]
      · rw [if_neg h5]
        refine (hh i (by omega)).cp (fun k hk => ?_)
        rw [if_neg (by omega)]
end model3
