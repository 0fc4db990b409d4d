/-! ===== the Model: calls that change the state ===== -/
theorem x_bI {x : Int32} {h : AH} {f : Int32 → AH → AR} : am_bI (some (some (.int x), h)) f = f x h := rfl
theorem x_bJ {x : Int64} {h : AH} {f : Int64 → AH → AR} : am_bJ (some (some (.long x), h)) f = f x h := rfl
theorem x_bV {h : AH} {f : AH → AR} : am_bV (some (none, h)) f = f h := rfl
theorem x_bA {x : Nat} {h : AH} {f : Nat → AH → AR} : am_bA (some (some (.ref x), h)) f = f x h := rfl
theorem x_oe {α : Sort _} {a : Nat} {n : α} {f : Nat → α} : am_oe (some a) n f = f a := rfl
theorem x_ite {α : Sort _} {P : Prop} [Decidable P] {a b : α} : (if (if P then (1 : Int32) else 0) = 0 then a else b) = if P then b else a := by
  by_cases h : P
  · simp only [if_pos h, show ((1 : Int32) = 0) = False by decide, if_false]
  · simp only [if_neg h, if_true]
theorem x_rd {h : AH} {a k L : Nat} (hk : am_kd h a = 5) (hl : am_ln h a = L) (h1 : k < L) (h2 : k < 2147483648) : (am_kd h a = 5 ∨ am_kd h a = 9) ∧ ¬ (nI k < 0 ∨ am_ln h a ≤ (nI k).toNatClampNeg) := by
  rw [x_cl h2, hl]
  exact ⟨Or.inl hk, fun z => z.elim (nI_pos h2) (by omega)⟩
theorem x_rdc {h : AH} {a k L : Nat} (hk : am_kd h a = 5) (hl : am_ln h a = L) (h1 : k < L) (h2 : k < 2147483648) : (am_kd h a = 5 ∨ am_kd h a = 9) ∧ ¬ (nI k < 0 ∨ am_ln h a ≤ k) := by
  rw [hl]
  exact ⟨Or.inl hk, fun z => z.elim (nI_pos h2) (by omega)⟩
theorem x_wrc {h : AH} {a k L : Nat} (hk : am_kd h a = 5) (hl : am_ln h a = L) (h1 : k < L) (h2 : k < 2147483648) : am_kd h a = 5 ∧ ¬ (nI k < 0 ∨ am_ln h a ≤ k) := by
  rw [hl]
  exact ⟨hk, fun z => z.elim (nI_pos h2) (by omega)⟩
theorem x_wr {h : AH} {a k L : Nat} (hk : am_kd h a = 5) (hl : am_ln h a = L) (h1 : k < L) (h2 : k < 2147483648) : am_kd h a = 5 ∧ ¬ (nI k < 0 ∨ am_ln h a ≤ (nI k).toNatClampNeg) := by
  rw [x_cl h2, hl]
  exact ⟨hk, fun z => z.elim (nI_pos h2) (by omega)⟩
theorem x_rw {h : AH} {a k L : Nat} (hk : am_kd h a = 6) (hl : am_ln h a = L) (h1 : k < L) (h2 : k < 2147483648) : am_kd h a = 6 ∧ ¬ (nI k < 0 ∨ am_ln h a ≤ (nI k).toNatClampNeg) := by
  rw [x_cl h2, hl]
  exact ⟨hk, fun z => z.elim (nI_pos h2) (by omega)⟩
section model6
variable {h : AH} {A : QA}
theorem mI.field {h h1 : AH} {A : QA} (I : mI h A) (e : h1 = am_sI h 20 11 0) : mI h1 A := by
  subst e
  exact I.row rfl rfl rfl I.2.1 I.c3 rfl rfl rfl rfl rfl rfl
def f_begin (A : QA) (x : Int32) : Int32 := if 2 ≤ x.toInt ∧ x.toInt ≤ 3 then nI A.1.1 else -2
def g_begin (A : QA) (x : Int32) : QA := if 2 ≤ x.toInt ∧ x.toInt ≤ 3 then (q_new x.toInt.toNat A.1.2.1, q_rec A, A.2.2) else A
theorem m_begin (I : mI h A) (X : mE h A.1) (x : Int32) : ∃ h1, am_ev 129 0 [.ref 20, .int x, am_ph] [] h = some (some (.int (f_begin A x)), h1) ∧ mI h1 (g_begin A x) ∧ mfr h h1 ∧ mE h1 (g_begin A x).1 := by
  have m := I.1
  rw [am_b129_0, m_in (p := 2) (q := 3) rfl rfl]
  simp (disch := omega) only [am_oe, am_bI, am_bV, am_bJ, am_bA, if_true, if_false, x_kI, x_lI, x_RI, x_kJ, x_lJ, x_RJ, x_kr, x_lr, x_Rr, x_krJ, x_lrJ, x_RrJ, x_kf, x_lf, x_Rf, x_ko, x_lo, x_Ro, x_I, x_J, x_IJ, x_JI, x_lt, x_eq, x_eq0, x_neg, x_lt0, x_cl, x_cl0, x_sub, nI_add, pk_mul, nI_0, x_div, or_false, false_or, or_true, true_or, and_true, true_and, not_false_eq_true, and_false, false_and, not_true_eq_false, Nat.reduceEqDiff, reduceCtorEq, Nat.reduceSub, Nat.reduceDiv, Nat.reduceMul, Nat.reduceAdd, Nat.reduceLT, x_II, Nat.zero_div, Nat.zero_mul, Nat.sub_zero, Nat.mul_one, Nat.div_one, x_s0, Int32.zero_add, x_c1, x_c2, x_c3, x_c4, x_c5, x_c6, x_c8, x_c12, x_c14, x_c20, x_c26, x_c52, x_c60, x_c100, x_c128, x_c130, m.k, m.r0, m.r1, m.r3, m.r4, m.r8, m.r9, m.r12, m.r13, m.r14, m.r15, m.r16, m.r18, m.r19, m.k0, m.k1, m.k3, m.k4, m.k8, m.k9, m.k12, m.k13, m.k14, m.k15, m.k16, m.k18, m.k19, m.l0, m.l1, m.l3, m.l4, m.l8, m.l9, m.l12, m.l13, m.l14, m.l15, m.l16, m.l18, m.l19]
  unfold f_begin g_begin
  by_cases h1 : 2 ≤ x.toInt ∧ x.toInt ≤ 3
  · simp only [if_pos h1]
    rw [if_neg (by decide)]
    obtain ⟨j, rfl, hj, hj2⟩ := q_nI (x := x) (by omega)
    have h3 : j = 2 ∨ j = 3 := by omega
    have ej : (nI j).toInt.toNat = j := by omega
    rw [ej]
    obtain ⟨h2, e, I2, fr, xk, -⟩ := I.rec
    obtain ⟨F, e3, v3⟩ := m_anew I2.1 h3
    rw [e]
    simp (disch := omega) only [am_oe, am_bI, am_bV, am_bJ, am_bA, if_true, if_false, x_kI, x_lI, x_RI, x_kJ, x_lJ, x_RJ, x_kr, x_lr, x_Rr, x_krJ, x_lrJ, x_RrJ, x_kf, x_lf, x_Rf, x_ko, x_lo, x_Ro, x_I, x_J, x_IJ, x_JI, x_lt, x_eq, x_eq0, x_neg, x_lt0, x_cl, x_cl0, x_sub, nI_add, pk_mul, nI_0, x_div, or_false, false_or, or_true, true_or, and_true, true_and, not_false_eq_true, and_false, false_and, not_true_eq_false, Nat.reduceEqDiff, reduceCtorEq, Nat.reduceSub, Nat.reduceDiv, Nat.reduceMul, Nat.reduceAdd, Nat.reduceLT, x_II, Nat.zero_div, Nat.zero_mul, Nat.sub_zero, Nat.mul_one, Nat.div_one, x_s0, Int32.zero_add, x_c1, x_c2, x_c3, x_c4, x_c5, x_c6, x_c8, x_c12, x_c14, x_c20, x_c26, x_c52, x_c60, x_c100, x_c128, x_c130, m.k, m.r0, m.r1, m.r3, m.r4, m.r8, m.r9, m.r12, m.r13, m.r14, m.r15, m.r16, m.r18, m.r19, m.k0, m.k1, m.k3, m.k4, m.k8, m.k9, m.k12, m.k13, m.k14, m.k15, m.k16, m.k18, m.k19, m.l0, m.l1, m.l3, m.l4, m.l8, m.l9, m.l12, m.l13, m.l14, m.l15, m.l16, m.l18, m.l19, I2.1.k, m_columns I2.1, I2.c]
    rw [e3]
    simp (disch := omega) only [am_oe, am_bI, am_bV, am_bJ, am_bA, if_true, if_false, x_kI, x_lI, x_RI, x_kJ, x_lJ, x_RJ, x_kr, x_lr, x_Rr, x_krJ, x_lrJ, x_RrJ, x_kf, x_lf, x_Rf, x_ko, x_lo, x_Ro, x_I, x_J, x_IJ, x_JI, x_lt, x_eq, x_eq0, x_neg, x_lt0, x_cl, x_cl0, x_sub, nI_add, pk_mul, nI_0, x_div, or_false, false_or, or_true, true_or, and_true, true_and, not_false_eq_true, and_false, false_and, not_true_eq_false, Nat.reduceEqDiff, reduceCtorEq, Nat.reduceSub, Nat.reduceDiv, Nat.reduceMul, Nat.reduceAdd, Nat.reduceLT, x_II, Nat.zero_div, Nat.zero_mul, Nat.sub_zero, Nat.mul_one, Nat.div_one, x_s0, Int32.zero_add, x_c1, x_c2, x_c3, x_c4, x_c5, x_c6, x_c8, x_c12, x_c14, x_c20, x_c26, x_c52, x_c60, x_c100, x_c128, x_c130]
    refine ⟨_, rfl, ?_, fr.tr ((am_fr_rI (by omega)).tr (am_sI_fr (by omega))), Or.inl ?_⟩
    · refine I2.row rfl rfl rfl ?_ h3 rfl rfl rfl rfl rfl rfl
      have : am_I h2 21 1 = A.1.2.1 := I2.2.1.2.1
      rw [this] at v3
      exact v3
    · rfl
  · simp only [if_neg h1]
    exact ⟨h, rfl, I, am_fr.rf, X⟩
abbrev q_vI (x : Int32) : Nat := x.toInt.toNat
def f_points (A : QA) (p r q v : Int32) : Int32 := if 0 ≤ p.toInt ∧ p.toInt ≤ 1 then (if q_cellok A.1.1 r q then (if -9 ≤ v.toInt ∧ v.toInt ≤ 9 then q_g A.1 (q_vI p) (A.1.1 * q_vI r + q_vI q) + nI 100 else -2) else -1) else -1
def g_points (A : QA) (p r q v : Int32) : QA := if (0 ≤ p.toInt ∧ p.toInt ≤ 1) ∧ q_cellok A.1.1 r q ∧ (-9 ≤ v.toInt ∧ v.toInt ≤ 9) then ((A.1.1, A.1.2.1, am_ud A.1.2.2.1 (6 * q_vI p + (A.1.1 * q_vI r + q_vI q)) v, A.1.2.2.2.1, A.1.2.2.2.2), q_rec A, A.2.2) else A
theorem q_cell_lt {c r q : Nat} (h3 : c = 2 ∨ c = 3) (hr : r ≤ 1) (hq : q < c) : c * r + q < 2 * c ∧ c * r + q < 6 := by
  rcases h3 with rfl | rfl <;> omega
theorem q_cell {c : Nat} {r q : Int32} (h3 : c = 2 ∨ c = 3) (h : q_cellok c r q) : ∃ r' q' : Nat, r = nI r' ∧ q = nI q' ∧ q_vI r = r' ∧ q_vI q = q' ∧ r' ≤ 1 ∧ q' < c ∧ c * r' + q' < 2 * c ∧ c * r' + q' < 6 := by
  obtain ⟨⟨a1, a2⟩, a3, a4⟩ := h
  obtain ⟨r', e1, f1, -⟩ := q_nI a1
  obtain ⟨q', e2, f2, -⟩ := q_nI a3
  have := q_cell_lt h3 (show r' ≤ 1 by omega) (show q' < c by omega)
  exact ⟨r', q', e1, e2, by unfold q_vI; omega, by unfold q_vI; omega, by omega, by omega, this⟩
theorem q_pl2 {p : Int32} (h : 0 ≤ p.toInt ∧ p.toInt ≤ 1) : ∃ p' : Nat, p = nI p' ∧ q_vI p = p' ∧ p' < 2 := by
  obtain ⟨p', e1, f1, -⟩ := q_nI h.1
  exact ⟨p', e1, by unfold q_vI; omega, by omega⟩
theorem m_points (I : mI h A) (X : mE h A.1) (p r q v : Int32) : ∃ h1, am_ev 130 0 [.ref 20, .int p, .int r, .int q, .int v, am_ph, am_ph] [] h = some (some (.int (f_points A p r q v)), h1) ∧ mI h1 (g_points A p r q v) ∧ mfr h h1 ∧ mE h1 (g_points A p r q v).1 := by
  have m := I.1
  rw [am_b130_0, m_in (p := 0) (q := 1) rfl rfl, x_bI, x_ite]
  unfold f_points g_points
  by_cases h1 : 0 ≤ p.toInt ∧ p.toInt ≤ 1
  · rw [if_pos h1, if_pos m.k, m_isCell m I.c I.c3, x_bI, x_ite, if_pos h1]
    by_cases h2 : q_cellok A.1.1 r q
    · rw [if_pos h2, m_in (p := -9) (q := 9) rfl rfl, x_bI, x_ite, if_pos h2]
      by_cases h4 : -9 ≤ v.toInt ∧ v.toInt ≤ 9
      · rw [if_pos h4, if_pos m.k, if_pos h4, if_pos ⟨h1, h2, h4⟩]
        obtain ⟨p, rfl, e1, hp⟩ := q_pl2 h1
        obtain ⟨r, q, rfl, rfl, e2, e3, -, -, hc⟩ := q_cell I.c3 h2
        rw [e1, e2, e3]
        obtain ⟨h2', e, I2, fr, xk, -⟩ := I.rec
        have m2 := I2.1
        rw [e, x_bV, if_pos m2.k, m_cellOf m2 I2.c, x_bI]
        simp (disch := omega) only [am_oe, am_bI, am_bV, am_bJ, am_bA, if_true, if_false, x_kI, x_lI, x_RI, x_kJ, x_lJ, x_RJ, x_kr, x_lr, x_Rr, x_krJ, x_lrJ, x_RrJ, x_kf, x_lf, x_Rf, x_ko, x_lo, x_Ro, x_I, x_J, x_IJ, x_JI, x_lt, x_eq, x_eq0, x_neg, x_lt0, x_cl, x_cl0, x_sub, nI_add, pk_mul, nI_0, x_div, or_false, false_or, or_true, true_or, and_true, true_and, not_false_eq_true, and_false, false_and, not_true_eq_false, Nat.reduceEqDiff, reduceCtorEq, Nat.reduceSub, Nat.reduceDiv, Nat.reduceMul, Nat.reduceAdd, Nat.reduceLT, x_II, Nat.zero_div, Nat.zero_mul, Nat.sub_zero, Nat.mul_one, Nat.div_one, x_s0, Int32.zero_add, x_c1, x_c2, x_c3, x_c4, x_c5, x_c6, x_c8, x_c12, x_c14, x_c20, x_c26, x_c52, x_c60, x_c100, x_c128, x_c130, m2.k, m2.r0, m2.k0, m2.l0]
        rw [if_pos (by omega), if_pos (by omega)]
        have eg : am_I h2' 21 (2 + 6 * p + (A.1.1 * r + q)) = q_g A.1 p (A.1.1 * r + q) := I2.G (by omega) (by omega)
        rw [eg]
        refine ⟨_, rfl, ?_, fr.tr ((am_sI_fr (by omega)).tr (am_sI_fr (by omega))), Or.inl rfl⟩
        refine I2.row rfl rfl rfl ?_ I.c3 rfl rfl rfl rfl rfl rfl
        show hV (am_ud (am_I h2' 21) _ v) _
        rw [show 2 + 6 * p + (A.1.1 * r + q) = 2 + (6 * p + (A.1.1 * r + q)) by omega]
        exact hV.g I2.2.1 (by omega) v
      · rw [if_neg h4, if_neg h4, if_neg (fun z => h4 z.2.2)]
        exact ⟨h, rfl, I, am_fr.rf, X⟩
    · rw [if_neg h2, if_neg h2, if_neg (fun z => h2 z.2.1)]
      exact ⟨h, rfl, I, am_fr.rf, X⟩
  · rw [if_neg h1, if_neg h1, if_neg (fun z => h1 z.1)]
    exact ⟨h, rfl, I, am_fr.rf, X⟩
end model6
