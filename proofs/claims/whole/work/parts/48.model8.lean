/-! ===== the Model: throwing, saving, going back ===== -/
def q_room (s : QS) (n : Nat) : Prop := ∃ F : Nat → Nat, (∀ k, k < 6 → s.2.2.2.2 k = nI (F k) ∧ (2 * s.1 ≤ k → F k = 0)) ∧ q_ns 6 F + n ≤ 1000
theorem q_room_of {s : QS} (w : q_wf s) {n j : Nat} (e : q_sum 6 s.2.2.2.2 = nI n) (hn : n < 2147483648) (h : n + j ≤ 1000) : q_room s j := by
  obtain ⟨F, f1, f2⟩ := w.2.2.1
  refine ⟨F, f1, ?_⟩
  rw [q_ns_sum (fun k hk => (f1 k hk).1)] at e
  have := (nI_eq (show q_ns 6 F < 2 ^ 31 by omega) (by omega)).1 e
  omega
theorem q_thS_room {s : QS} {n : Nat} (w : q_wf s) (r : q_room s (n + 1)) : q_wf (q_thS s (q_kk s)) ∧ q_room (q_thS s (q_kk s)) n := q_thS_wf w (q_kk_lt w) r
theorem q_thrs_wf : ∀ (n : Nat) (x : QS × Nat), q_wf x.1 → q_room x.1 n → q_wf (q_thrs n x).1
  | 0, x, w, _ => w
  | n + 1, x, w, r => by
    have := q_thS_room w r
    exact q_thrs_wf n (q_thr x.1) this.1 this.2
noncomputable def f_roll (A : QA) (x : Int32) : Int32 := if 1 ≤ x.toInt ∧ x.toInt ≤ 100 then (if 1000 < q_sum (2 * A.1.1) A.1.2.2.2.2 + x then -4 else nI (q_thrs (q_vI x) (A.1, 0)).2) else -2
noncomputable def g_roll (A : QA) (x : Int32) : QA := if (1 ≤ x.toInt ∧ x.toInt ≤ 100) ∧ ¬ 1000 < q_sum (2 * A.1.1) A.1.2.2.2.2 + x then ((q_thrs (q_vI x) (A.1, 0)).1, q_rec A, A.2.2) else A
section model8
variable {h : AH} {A : QA}
theorem q_thrs_g : ∀ (n : Nat) (x : QS × Nat), (q_thrs n x).1.1 = x.1.1 ∧ (q_thrs n x).1.2.2.1 = x.1.2.2.1
  | 0, x => ⟨rfl, rfl⟩
  | n + 1, x => by
    have := q_thrs_g n (q_thr x.1)
    unfold q_thrs
    rw [this.1, this.2]
    unfold q_thr q_thS
    exact ⟨rfl, rfl⟩
theorem m_roll38 {B : (Nat × (Nat → QS)) × (Nat → Option QS) × (Nat × (Nat → Int32))} {m : Nat} (hm : m ≤ 100) : ∀ (d j : Nat) (h : AH) (x : QS × Nat), j + d = m → mI h (x.1, B) → q_wf x.1 → q_room x.1 d → ∃ h1, am_ev 137 38 [.ref 20, .int (nI m), .int (nI x.2), .int (nI j)] [] h = some (some (.int (nI (q_thrs d x).2)), h1) ∧ mI h1 ((q_thrs d x).1, B) ∧ mfr h h1 ∧ mxk h h1 := by
  intro d
  induction d with
  | zero =>
    intro j h x hj I w r
    rw [am_b137_38, if_neg (by rw [x_lt (by omega) (by omega)]; omega)]
    exact ⟨h, rfl, I, am_fr.rf, mxk.rf⟩
  | succ d ih =>
    intro j h x hj I w r
    obtain ⟨h1, e1, I1, f1, k1⟩ := m_rolls I w
    have z := q_thS_room w r
    obtain ⟨h2, e2, I2, f2, k2⟩ := ih (j + 1) h1 (q_thr x.1) (by omega) I1 z.1 z.2
    refine ⟨h2, ?_, I2, f1.tr f2, k1.tr k2⟩
    rw [am_b137_38, if_pos (by rw [x_lt (by omega) (by omega)]; omega), if_pos I.1.k, e1, x_bI, nI_S]
    exact e2
theorem m_roll (I : mI h A) (X : mE h A.1) (w : q_wf A.1) (x : Int32) : ∃ h1, am_ev 137 0 [.ref 20, .int x, am_ph, am_ph] [] h = some (some (.int (f_roll A x)), h1) ∧ mI h1 (g_roll A x) ∧ mfr h h1 ∧ mE h1 (g_roll A x).1 := by
  have m := I.1
  rw [am_b137_0, m_in (p := 1) (q := 100) rfl rfl, x_bI, x_ite]
  unfold f_roll g_roll
  by_cases h1 : 1 ≤ x.toInt ∧ x.toInt ≤ 100
  · rw [if_pos h1, if_pos m.k, m_throwsSoFar m I.c I.c3, x_bI, I.sF, if_pos h1]
    by_cases h2 : 1000 < q_sum (2 * A.1.1) A.1.2.2.2.2 + x
    · rw [if_pos h2, if_pos h2, if_neg (fun z => z.2 h2)]
      exact ⟨h, rfl, I, am_fr.rf, X⟩
    · rw [if_neg h2, if_neg h2, if_pos m.k, if_pos ⟨h1, h2⟩]
      obtain ⟨j, rfl, ej, -⟩ := q_nI (show 0 ≤ x.toInt by omega)
      have ev : q_vI (nI j) = j := by unfold q_vI; omega
      rw [ev]
      obtain ⟨n, n1, n2, n3⟩ := w.sumF
      rw [n2, nI_add, show (1000 : Int32) = nI 1000 from rfl, x_lt (by omega) (by omega)] at h2
      obtain ⟨h3, e3, I3, f3, k3, -⟩ := I.rec
      obtain ⟨h4, e4, I4, f4, k4⟩ := m_roll38 (m := j) (by omega) j 0 h3 (A.1, 0) (by omega) I3 w (q_room_of w n1 (by omega) (by omega))
      rw [e3, x_bV]
      refine ⟨h4, e4, I4, f3.tr f4, ?_⟩
      have := q_thrs_g j (A.1, 0)
      exact (X.kp (k3.tr k4) this.1 this.2)
  · rw [if_neg h1, if_neg h1, if_neg (fun z => h1 z.1)]
    exact ⟨h, rfl, I, am_fr.rf, X⟩
def f_undo (A : QA) : Int32 := if A.2.1.1 = 0 then -5 else nI (A.2.1.1 - 1)
def g_undo (A : QA) : QA := if A.2.1.1 = 0 then A else (A.2.1.2 (A.2.1.1 - 1), (A.2.1.1 - 1, A.2.1.2), A.2.2)
theorem m_undo22 (m : mL h) {n : Nat} (hn : n < 6) (e : am_I h 20 2 = nI n) : ∀ (d j : Nat), j + d = 26 → am_ev 159 22 [.ref 20, .int (nI j)] [] (am_fo h 21 0 j (fun k => am_I h 22 (26 * n + k))) = some (some (.int (nI n)), am_sI (am_fo h 21 0 26 (fun k => am_I h 22 (26 * n + k))) 20 11 0) := by
  intro d
  induction d with
  | zero =>
    intro j hj
    rw [am_b159_22]
    simp (disch := omega) only [am_oe, am_bI, am_bV, am_bJ, am_bA, if_true, if_false, x_kI, x_lI, x_RI, x_kJ, x_lJ, x_RJ, x_kr, x_lr, x_Rr, x_krJ, x_lrJ, x_RrJ, x_kf, x_lf, x_Rf, x_ko, x_lo, x_Ro, x_I, x_J, x_IJ, x_JI, x_lt, x_eq, x_eq0, x_neg, x_lt0, x_cl, x_cl0, x_sub, nI_add, pk_mul, nI_0, x_div, or_false, false_or, or_true, true_or, and_true, true_and, not_false_eq_true, and_false, false_and, not_true_eq_false, Nat.reduceEqDiff, reduceCtorEq, Nat.reduceSub, Nat.reduceDiv, Nat.reduceMul, Nat.reduceAdd, Nat.reduceLT, x_II, Nat.zero_div, Nat.zero_mul, Nat.sub_zero, Nat.mul_one, Nat.div_one, x_s0, Int32.zero_add, x_c1, x_c2, x_c3, x_c4, x_c5, x_c6, x_c8, x_c12, x_c14, x_c20, x_c26, x_c52, x_c60, x_c100, x_c128, x_c130, m.k, m.r0, m.r1, m.r3, m.r4, m.r8, m.r9, m.r12, m.r13, m.r14, m.r15, m.r16, m.r18, m.r19, m.k0, m.k1, m.k3, m.k4, m.k8, m.k9, m.k12, m.k13, m.k14, m.k15, m.k16, m.k18, m.k19, m.l0, m.l1, m.l3, m.l4, m.l8, m.l9, m.l12, m.l13, m.l14, m.l15, m.l16, m.l18, m.l19, am_fo_ne (h := h) (show 20 ≠ 21 by omega), x_ud, e]
    rw [if_neg (by omega), show j = 26 by omega]
  | succ d ih =>
    intro j hj
    rw [am_b159_22]
    simp (disch := omega) only [am_oe, am_bI, am_bV, am_bJ, am_bA, if_true, if_false, x_kI, x_lI, x_RI, x_kJ, x_lJ, x_RJ, x_kr, x_lr, x_Rr, x_krJ, x_lrJ, x_RrJ, x_kf, x_lf, x_Rf, x_ko, x_lo, x_Ro, x_I, x_J, x_IJ, x_JI, x_lt, x_eq, x_eq0, x_neg, x_lt0, x_cl, x_cl0, x_sub, nI_add, pk_mul, nI_0, x_div, or_false, false_or, or_true, true_or, and_true, true_and, not_false_eq_true, and_false, false_and, not_true_eq_false, Nat.reduceEqDiff, reduceCtorEq, Nat.reduceSub, Nat.reduceDiv, Nat.reduceMul, Nat.reduceAdd, Nat.reduceLT, x_II, Nat.zero_div, Nat.zero_mul, Nat.sub_zero, Nat.mul_one, Nat.div_one, x_s0, Int32.zero_add, x_c1, x_c2, x_c3, x_c4, x_c5, x_c6, x_c8, x_c12, x_c14, x_c20, x_c26, x_c52, x_c60, x_c100, x_c128, x_c130, m.k, m.r0, m.r1, m.r3, m.r4, m.r8, m.r9, m.r12, m.r13, m.r14, m.r15, m.r16, m.r18, m.r19, m.k0, m.k1, m.k3, m.k4, m.k8, m.k9, m.k12, m.k13, m.k14, m.k15, m.k16, m.k18, m.k19, m.l0, m.l1, m.l3, m.l4, m.l8, m.l9, m.l12, m.l13, m.l14, m.l15, m.l16, m.l18, m.l19, am_fo_ne (h := h) (show 20 ≠ 21 by omega), am_fo_ne (h := h) (show 22 ≠ 21 by omega), e]
    rw [if_pos (by omega), if_pos (by omega), if_pos (by omega)]
    have i := am_fo_s h 21 0 j (fun k => am_I h 22 (26 * n + k))
    rw [Nat.zero_add] at i
    rw [i]
    exact ih (j + 1) (by omega)
theorem m_undo (I : mI h A) (X : mE h A.1) (w : ∀ i, i < A.2.1.1 → q_wf (A.2.1.2 i)) : ∃ h1, am_ev 159 0 [.ref 20, am_ph] [] h = some (some (.int (f_undo A)), h1) ∧ mI h1 (g_undo A) ∧ mfr h h1 ∧ mE h1 (g_undo A).1 := by
  have m := I.1
  obtain ⟨i1, i2, i3, i4, i5, i6, i7, i8⟩ := id I
  rw [am_b159_0, if_pos m.k, i4.1]
  simp only [x_eq0 (show A.2.1.1 < 2147483648 by omega)]
  unfold f_undo g_undo
  by_cases h1 : A.2.1.1 = 0
  · rw [if_pos h1, if_pos h1, if_pos h1]
    exact ⟨h, rfl, I, am_fr.rf, X⟩
  · rw [if_neg h1, if_neg h1, if_neg h1, if_pos m.k, if_pos m.k, x_c1, x_sub (by omega)]
    generalize hn : A.2.1.1 - 1 = n
    have e := m_undo22 (h := am_sI h 20 2 (nI n)) (n := n) m.sI (by omega) (by rw [am_sI_I, am_ud_eq]) 26 0 (by omega)
    rw [am_fo_0] at e
    refine ⟨_, e, ?_, (am_sI_fr (by omega)).tr ((am_fr_rI (by omega)).tr (am_sI_fr (by omega))), Or.inl (by rw [am_sI_I, am_ud_eq])⟩
    refine ⟨m.of rfl rfl, ?_, (w n (by omega)).c3, ⟨?_, by show n ≤ 6; omega, ?_⟩, fun i hi => (i5 i hi).cp rfl rfl, i6, i7, i8⟩
    · refine (i4.2.2 n (by omega)).cp (fun k hk => ?_)
      show am_I (am_fo (am_sI h 20 2 (nI n)) 21 0 26 (fun k => am_I h 22 (26 * n + k))) 21 k = _
      rw [am_fo_I]
      try dsimp only
      rw [if_pos (by omega)]
      rfl
    · rfl
    · intro i hi
      exact i4.2.2 i (by show i < A.2.1.1; dsimp only at hi; omega)
def f_save (A : QA) (x : Int32) : Int32 := if 0 ≤ x.toInt ∧ x.toInt ≤ 1 then q_sum (2 * A.1.1) A.1.2.2.2.2 else -2
def g_save (A : QA) (x : Int32) : QA := if 0 ≤ x.toInt ∧ x.toInt ≤ 1 then (A.1, A.2.1, am_ud A.2.2.1 (q_vI x) (some A.1), A.2.2.2) else A
theorem m_save15 (m : mL h) {n c : Nat} (hn : n < 2) (hc : am_I h 21 0 = nI c) (h3 : c = 2 ∨ c = 3) : ∀ (d j : Nat), j + d = 26 → am_ev 160 15 [.ref 20, .int (nI n), .int (nI j)] [] (am_fo h 23 (26 * n) j (am_I h 21)) = some (some (.int (q_sum (2 * c) fun k => am_I h 21 (20 + k))), am_sI (am_fo h 23 (26 * n) 26 (am_I h 21)) 24 n (nI 1)) := by
  intro d
  induction d with
  | zero =>
    intro j hj
    have e : am_I (am_sI (am_fo h 23 (26 * n) 26 (am_I h 21)) 24 n (nI 1)) 21 = am_I h 21 := by rw [am_sI_ne (by omega), am_fo_ne (by omega)]
    have e2 := m_throwsSoFar (h := am_sI (am_fo h 23 (26 * n) 26 (am_I h 21)) 24 n (nI 1)) (c := c) m.fo.sI (by rw [e]; exact hc) h3
    rw [e] at e2
    rw [am_b160_15]
    simp (disch := omega) only [am_oe, am_bI, am_bV, am_bJ, am_bA, if_true, if_false, x_kI, x_lI, x_RI, x_kJ, x_lJ, x_RJ, x_kr, x_lr, x_Rr, x_krJ, x_lrJ, x_RrJ, x_kf, x_lf, x_Rf, x_ko, x_lo, x_Ro, x_I, x_J, x_IJ, x_JI, x_lt, x_eq, x_eq0, x_neg, x_lt0, x_cl, x_cl0, x_sub, nI_add, pk_mul, nI_0, x_div, or_false, false_or, or_true, true_or, and_true, true_and, not_false_eq_true, and_false, false_and, not_true_eq_false, Nat.reduceEqDiff, reduceCtorEq, Nat.reduceSub, Nat.reduceDiv, Nat.reduceMul, Nat.reduceAdd, Nat.reduceLT, x_II, Nat.zero_div, Nat.zero_mul, Nat.sub_zero, Nat.mul_one, Nat.div_one, x_s0, Int32.zero_add, x_c1, x_c2, x_c3, x_c4, x_c5, x_c6, x_c8, x_c12, x_c14, x_c20, x_c26, x_c52, x_c60, x_c100, x_c128, x_c130, m.k, m.r0, m.r1, m.r3, m.r4, m.r8, m.r9, m.r12, m.r13, m.r14, m.r15, m.r16, m.r18, m.r19, m.k0, m.k1, m.k3, m.k4, m.k8, m.k9, m.k12, m.k13, m.k14, m.k15, m.k16, m.k18, m.k19, m.l0, m.l1, m.l3, m.l4, m.l8, m.l9, m.l12, m.l13, m.l14, m.l15, m.l16, m.l18, m.l19]
    rw [if_neg (by omega), if_pos (by omega), show j = 26 by omega, e2]
  | succ d ih =>
    intro j hj
    rw [am_b160_15]
    simp (disch := omega) only [am_oe, am_bI, am_bV, am_bJ, am_bA, if_true, if_false, x_kI, x_lI, x_RI, x_kJ, x_lJ, x_RJ, x_kr, x_lr, x_Rr, x_krJ, x_lrJ, x_RrJ, x_kf, x_lf, x_Rf, x_ko, x_lo, x_Ro, x_I, x_J, x_IJ, x_JI, x_lt, x_eq, x_eq0, x_neg, x_lt0, x_cl, x_cl0, x_sub, nI_add, pk_mul, nI_0, x_div, or_false, false_or, or_true, true_or, and_true, true_and, not_false_eq_true, and_false, false_and, not_true_eq_false, Nat.reduceEqDiff, reduceCtorEq, Nat.reduceSub, Nat.reduceDiv, Nat.reduceMul, Nat.reduceAdd, Nat.reduceLT, x_II, Nat.zero_div, Nat.zero_mul, Nat.sub_zero, Nat.mul_one, Nat.div_one, x_s0, Int32.zero_add, x_c1, x_c2, x_c3, x_c4, x_c5, x_c6, x_c8, x_c12, x_c14, x_c20, x_c26, x_c52, x_c60, x_c100, x_c128, x_c130, m.k, m.r0, m.r1, m.r3, m.r4, m.r8, m.r9, m.r12, m.r13, m.r14, m.r15, m.r16, m.r18, m.r19, m.k0, m.k1, m.k3, m.k4, m.k8, m.k9, m.k12, m.k13, m.k14, m.k15, m.k16, m.k18, m.k19, m.l0, m.l1, m.l3, m.l4, m.l8, m.l9, m.l12, m.l13, m.l14, m.l15, m.l16, m.l18, m.l19, am_fo_ne (h := h) (show 21 ≠ 23 by omega)]
    rw [if_pos (by omega), if_pos (by omega), if_pos (by omega), am_fo_s]
    exact ih (j + 1) (by omega)
theorem m_save (I : mI h A) (X : mE h A.1) (x : Int32) : ∃ h1, am_ev 160 0 [.ref 20, .int x, am_ph] [] h = some (some (.int (f_save A x)), h1) ∧ mI h1 (g_save A x) ∧ mfr h h1 ∧ mE h1 (g_save A x).1 := by
  have m := I.1
  rw [am_b160_0, m_in (p := 0) (q := 1) rfl rfl, x_bI, x_ite]
  unfold f_save g_save
  by_cases h1 : 0 ≤ x.toInt ∧ x.toInt ≤ 1
  · rw [if_pos h1, if_pos h1, if_pos h1]
    obtain ⟨n, rfl, en, hn⟩ := q_pl2 h1
    rw [en]
    have e := m_save15 (n := n) m hn I.c I.c3 26 0 (by omega)
    rw [am_fo_0, I.sF] at e
    obtain ⟨i1, i2, i3, i4, i5, i6, i7, i8⟩ := id I
    refine ⟨_, e, ⟨m.of rfl rfl, i2, i3, i4, fun i hi => ?_, i6, i7, i8⟩, (am_fr_rI (by omega)).tr (am_sI_fr (by omega)), X.kp ⟨rfl, rfl, rfl, rfl⟩ rfl rfl⟩
    have e23 : am_I (am_sI (am_fo h 23 (26 * n) 26 (am_I h 21)) 24 n (nI 1)) 23 = fun k => if 26 * n ≤ k ∧ k < 26 * n + 26 then am_I h 21 (k - 26 * n) else am_I h 23 k := by rw [am_sI_ne (by omega), am_fo_I]
    have e24 : am_I (am_sI (am_fo h 23 (26 * n) 26 (am_I h 21)) 24 n (nI 1)) 24 = am_ud (am_I h 24) n (nI 1) := by rw [am_sI_I, am_fo_ne (by omega)]
    show mSl _ i (am_ud A.2.2.1 n (some A.1) i)
    by_cases h2 : i = n
    · rw [h2, am_ud_eq]
      unfold mSl
      rw [e23, e24, am_ud_eq]
      refine ⟨rfl, i2.cp (fun k hk => ?_)⟩
      try dsimp only
      rw [if_pos (by omega), show 26 * n + k - 26 * n = k by omega]
    · rw [am_ud_ne h2]
      have := i5 i hi
      revert this
      cases A.2.2.1 i with
      | none => unfold mSl; rw [e24, am_ud_ne h2]; exact id
      | some s =>
        unfold mSl
        rw [e23, e24, am_ud_ne h2]
        intro z
        refine ⟨z.1, z.2.cp (fun k hk => ?_)⟩
        try dsimp only
        rw [if_neg (by omega)]
  · rw [if_neg h1, if_neg h1, if_neg h1]
    exact ⟨h, rfl, I, am_fr.rf, X⟩
end model8
