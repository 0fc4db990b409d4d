/-! ===== the Model: restoring, wiping; answers without extreme dice ===== -/
def f_restore (A : QA) (x : Int32) : Int32 := if 0 ≤ x.toInt ∧ x.toInt ≤ 1 then (match A.2.2.1 (q_vI x) with | none => -5 | some s => q_sum (2 * s.1) s.2.2.2.2) else -2
def g_restore (A : QA) (x : Int32) : QA := if 0 ≤ x.toInt ∧ x.toInt ≤ 1 then (match A.2.2.1 (q_vI x) with | none => A | some s => (s, q_rec A, A.2.2)) else A
def q_bit (P : Prop) [Decidable P] : Int32 := if P then 1 else 0
theorem q_ls_congr {c : Nat} {g g' : Nat → Nat → Int32} {q k : Nat} (h3 : c = 2 ∨ c = 3) (hq : q < q_nq c) (hk : k < 2 * c) (h : ∀ p, p < 2 → ∀ k, k < 6 → g p k = g' p k) : q_ls c g q k = q_ls c g' q k := by
  have h6 : 2 * c ≤ 6 := by rcases h3 with e | e <;> omega
  have := q_oc_lt h3 hq hk
  unfold q_ls
  rw [h _ (q_pl_lt q) k (by omega), h _ (q_pl_lt q) _ (by omega)]
theorem q_lf_congr {c : Nat} {g g' : Nat → Nat → Int32} {w w' : Nat → Int32} {q : Nat} (h3 : c = 2 ∨ c = 3) (hq : q < q_nq c) (h : ∀ p, p < 2 → ∀ k, k < 6 → g p k = g' p k) (hw : ∀ k, k < 6 → w k = w' k) : q_lf c g w q = q_lf c g' w' q := by
  have h6 : 2 * c ≤ 6 := by rcases h3 with e | e <;> omega
  unfold q_lf
  exact q_sum_congr (fun k hk => by rw [q_ls_congr h3 hq hk h, hw k (by omega)])
theorem q_sure_congr {c : Nat} {g g' : Nat → Nat → Int32} {k : Nat} (h3 : c = 2 ∨ c = 3) (hk : k < 2 * c) (h : ∀ p, p < 2 → ∀ k, k < 6 → g p k = g' p k) : q_sure c g k = q_sure c g' k := by
  unfold q_sure
  have : (∀ q, q < q_nq c → ¬ q_ls c g q k < 0) = (∀ q, q < q_nq c → ¬ q_ls c g' q k < 0) := propext ⟨fun z q hq => by rw [← q_ls_congr h3 hq hk h]; exact z q hq, fun z q hq => by rw [q_ls_congr h3 hq hk h]; exact z q hq⟩
  simp only [this]
theorem q_cnt_congr {n : Nat} {p p' : Nat → Prop} [DecidablePred p] [DecidablePred p'] (h : ∀ k, k < n → (p k ↔ p' k)) : q_cnt n p = q_cnt n p' := by
  induction n with
  | zero => rfl
  | succ n ih =>
    rw [q_cnt_s, q_cnt_s, ih (fun k hk => h k (by omega))]
    by_cases e : p n
    · rw [if_pos e, if_pos ((h n (by omega)).1 e)]
    · rw [if_neg e, if_neg (fun z => e ((h n (by omega)).2 z))]
section model9
variable {h : AH} {A : QA}
theorem mI.G' (I : mI h A) : ∀ p, p < 2 → ∀ k, k < 6 → mG h p k = q_g A.1 p k := fun _ hp _ hk => I.G hp hk
theorem m_restore31 (m : mL h) {n c : Nat} {s : QS} (hn : n < 2) (v : hV (fun k => am_I h 23 (26 * n + k)) s) (h3 : s.1 = 2 ∨ s.1 = 3) : ∀ (d j : Nat), j + d = 26 → am_ev 161 31 [.ref 20, .int (nI n), .int (nI j)] [] (am_fo h 21 0 j (fun k => am_I h 23 (26 * n + k))) = some (some (.int (q_sum (2 * s.1) s.2.2.2.2)), am_sI (am_fo h 21 0 26 (fun k => am_I h 23 (26 * n + k))) 20 11 0) := by
  have h6 : 2 * s.1 ≤ 6 := by rcases h3 with e | e <;> omega
  intro d
  induction d with
  | zero =>
    intro j hj
    have e : am_I (am_sI (am_fo h 21 0 26 (fun k => am_I h 23 (26 * n + k))) 20 11 0) 21 = fun k => if 0 ≤ k ∧ k < 0 + 26 then am_I h 23 (26 * n + (k - 0)) else am_I h 21 k := by rw [am_sI_ne (by omega), am_fo_I]
    have e2 := m_throwsSoFar (h := am_sI (am_fo h 21 0 26 (fun k => am_I h 23 (26 * n + k))) 20 11 0) (c := s.1) m.fo.sI (by rw [e]; dsimp only; rw [if_pos (by omega)]; exact v.1) h3
    rw [e, q_sum_congr (g := s.2.2.2.2) (fun k hk => by dsimp only; rw [if_pos (by omega)]; exact v.2.2.2.2 k (by omega))] at e2
    rw [am_b161_31]
    simp (disch := omega) only [am_oe, am_bI, am_bV, am_bJ, am_bA, if_true, if_false, x_kI, x_lI, x_RI, x_kJ, x_lJ, x_RJ, x_kr, x_lr, x_Rr, x_krJ, x_lrJ, x_RrJ, x_kf, x_lf, x_Rf, x_ko, x_lo, x_Ro, x_I, x_J, x_IJ, x_JI, x_lt, x_eq, x_eq0, x_neg, x_lt0, x_cl, x_cl0, x_sub, nI_add, pk_mul, nI_0, x_div, or_false, false_or, or_true, true_or, and_true, true_and, not_false_eq_true, and_false, false_and, not_true_eq_false, Nat.reduceEqDiff, reduceCtorEq, Nat.reduceSub, Nat.reduceDiv, Nat.reduceMul, Nat.reduceAdd, Nat.reduceLT, x_II, Nat.zero_div, Nat.zero_mul, Nat.sub_zero, Nat.mul_one, Nat.div_one, x_s0, Int32.zero_add, x_c1, x_c2, x_c3, x_c4, x_c5, x_c6, x_c8, x_c12, x_c14, x_c20, x_c26, x_c52, x_c60, x_c100, x_c128, x_c130, m.k, m.r0, m.r1, m.r3, m.r4, m.r8, m.r9, m.r12, m.r13, m.r14, m.r15, m.r16, m.r18, m.r19, m.k0, m.k1, m.k3, m.k4, m.k8, m.k9, m.k12, m.k13, m.k14, m.k15, m.k16, m.k18, m.k19, m.l0, m.l1, m.l3, m.l4, m.l8, m.l9, m.l12, m.l13, m.l14, m.l15, m.l16, m.l18, m.l19]
    rw [if_neg (by omega), show j = 26 by omega, e2]
  | succ d ih =>
    intro j hj
    rw [am_b161_31]
    simp (disch := omega) only [am_oe, am_bI, am_bV, am_bJ, am_bA, if_true, if_false, x_kI, x_lI, x_RI, x_kJ, x_lJ, x_RJ, x_kr, x_lr, x_Rr, x_krJ, x_lrJ, x_RrJ, x_kf, x_lf, x_Rf, x_ko, x_lo, x_Ro, x_I, x_J, x_IJ, x_JI, x_lt, x_eq, x_eq0, x_neg, x_lt0, x_cl, x_cl0, x_sub, nI_add, pk_mul, nI_0, x_div, or_false, false_or, or_true, true_or, and_true, true_and, not_false_eq_true, and_false, false_and, not_true_eq_false, Nat.reduceEqDiff, reduceCtorEq, Nat.reduceSub, Nat.reduceDiv, Nat.reduceMul, Nat.reduceAdd, Nat.reduceLT, x_II, Nat.zero_div, Nat.zero_mul, Nat.sub_zero, Nat.mul_one, Nat.div_one, x_s0, Int32.zero_add, x_c1, x_c2, x_c3, x_c4, x_c5, x_c6, x_c8, x_c12, x_c14, x_c20, x_c26, x_c52, x_c60, x_c100, x_c128, x_c130, m.k, m.r0, m.r1, m.r3, m.r4, m.r8, m.r9, m.r12, m.r13, m.r14, m.r15, m.r16, m.r18, m.r19, m.k0, m.k1, m.k3, m.k4, m.k8, m.k9, m.k12, m.k13, m.k14, m.k15, m.k16, m.k18, m.k19, m.l0, m.l1, m.l3, m.l4, m.l8, m.l9, m.l12, m.l13, m.l14, m.l15, m.l16, m.l18, m.l19, am_fo_ne (h := h) (show 23 ≠ 21 by omega)]
    rw [if_pos (by omega), if_pos (by omega), if_pos (by omega)]
    have i := am_fo_s h 21 0 j (fun k => am_I h 23 (26 * n + k))
    rw [Nat.zero_add] at i
    rw [i]
    exact ih (j + 1) (by omega)
theorem m_restore (I : mI h A) (X : mE h A.1) (w : ∀ i s, i < 2 → A.2.2.1 i = some s → q_wf s) (x : Int32) : ∃ h1, am_ev 161 0 [.ref 20, .int x, am_ph] [] h = some (some (.int (f_restore A x)), h1) ∧ mI h1 (g_restore A x) ∧ mfr h h1 ∧ mE h1 (g_restore A x).1 := by
  have m := I.1
  rw [am_b161_0, m_in (p := 0) (q := 1) rfl rfl, x_bI, x_ite]
  unfold f_restore g_restore
  by_cases h1 : 0 ≤ x.toInt ∧ x.toInt ≤ 1
  · rw [if_pos h1, if_pos m.k, m.r4, x_oe, if_pos h1, if_pos h1]
    obtain ⟨n, rfl, en, hn⟩ := q_pl2 h1
    rw [en, if_pos (x_rd m.k4 m.l4 (by omega) (by omega)), x_cl (by omega)]
    have sl := I.2.2.2.2.1 n hn
    revert sl
    cases hs : A.2.2.1 n with
    | none =>
      intro sl
      unfold mSl at sl
      rw [if_pos sl]
      exact ⟨h, rfl, I, am_fr.rf, X⟩
    | some s =>
      intro sl
      unfold mSl at sl
      rw [if_neg (by rw [sl.1]; exact nI_ne0 (by omega) (by omega)), if_pos m.k]
      obtain ⟨h2, e, I2, fr, xk, -⟩ := I.rec
      have sl2 := I2.2.2.2.2.1 n hn
      rw [show (A.1, q_rec A, A.2.2).2.2.1 n = some s from hs] at sl2
      have e2 := m_restore31 (c := 0) I2.1 hn sl2.2 (w n s hn hs).c3 26 0 (by omega)
      rw [am_fo_0] at e2
      rw [e, x_bV]
      refine ⟨_, e2, ?_, fr.tr ((am_fr_rI (by omega)).tr (am_sI_fr (by omega))), Or.inl (by rw [am_sI_I, am_ud_eq])⟩
      refine I2.row (F := fun k => if 0 ≤ k ∧ k < 0 + 26 then am_I h2 23 (26 * n + (k - 0)) else am_I h2 21 k) rfl rfl (by rw [am_sI_ne (by omega), am_fo_I]) ?_ (w n s hn hs).c3 (am_sI_ne (by omega)) (am_sI_ne (by omega)) (am_sI_ne (by omega)) (am_sI_ne (by omega)) rfl rfl
      refine sl2.2.cp (fun k hk => ?_)
      try dsimp only
      rw [if_pos (by omega), Nat.sub_zero]
  · rw [if_neg h1, if_neg h1, if_neg h1]
    exact ⟨h, rfl, I, am_fr.rf, X⟩
def f_wipe (A : QA) : Int32 := nI A.2.2.2.1
def g_wipe (A : QA) : QA := (A.1, A.2.1, A.2.2.1, 0, A.2.2.2.2)
theorem m_wipe (I : mI h A) (X : mE h A.1) : ∃ h1, am_ev 157 0 [.ref 20, am_ph] [] h = some (some (.int (f_wipe A)), h1) ∧ mI h1 (g_wipe A) ∧ mfr h h1 ∧ mE h1 (g_wipe A).1 := by
  have m := I.1
  obtain ⟨i1, i2, i3, i4, i5, i6, i7, i8⟩ := id I
  rw [am_b157_0, if_pos m.k, if_pos m.k, i6]
  refine ⟨_, rfl, ⟨m.of rfl rfl, i2, i3, i4, fun i hi => (i5 i hi).cp rfl rfl, by rw [am_sI_I, am_ud_eq]; rfl, Nat.zero_le _, fun k hk => absurd hk (Nat.not_lt_zero k)⟩, am_sI_fr (by omega), X.kp ⟨rfl, rfl, rfl, rfl⟩ rfl rfl⟩
def f_inequality (A : QA) (x y : Int32) : Int32 := if 0 ≤ x.toInt ∧ x.toInt ≤ (q_nq A.1.1 : Int) - 1 then (if y = nI 0 then nI (q_pl (q_vI x)) else if y = nI 1 then nI (q_td A.1.1 (q_vI x)) else if y = nI 2 then nI (q_ot A.1.1 (q_vI x)) else if y = nI 3 then q_lf A.1.1 (q_g A.1) A.1.2.2.2.1 (q_vI x) + 1000000 else if y = nI 4 then 1000000 - q_lf A.1.1 (q_g A.1) A.1.2.2.2.2 (q_vI x) else -2) else -1
theorem m_inequality (I : mI h A) (X : mE h A.1) (x y : Int32) : ∃ h1, am_ev 145 0 [.ref 20, .int x, .int y] [] h = some (some (.int (f_inequality A x y)), h1) ∧ mI h1 A ∧ mfr h h1 ∧ mE h1 A.1 := by
  have m := I.1
  have hq8 := q_nq_le I.c3
  have e0 : (Int32.toInt64 (nI (q_nq A.1.1) - 1)).toInt = (q_nq A.1.1 : Int) - 1 := by
    rw [x_c1, x_sub (by omega), Int32.toInt_toInt64, nI_toInt (by omega)]
    omega
  rw [am_b145_0, if_pos m.k, m_inequalities m I.c I.c3, x_bI, m_in (p := 0) (q := (q_nq A.1.1 : Int) - 1) rfl e0, x_bI, x_ite]
  unfold f_inequality
  by_cases h1 : 0 ≤ x.toInt ∧ x.toInt ≤ (q_nq A.1.1 : Int) - 1
  · rw [if_pos h1, if_pos m.k, if_pos h1]
    obtain ⟨q, rfl, eq, -⟩ := q_nI h1.1
    have ev : q_vI (nI q) = q := by unfold q_vI; omega
    have hq : q < q_nq A.1.1 := by omega
    rw [ev, m_look m I.c I.c3 hq, x_bV]
    have IK : mI (mK h A.1.1 q) A := I.K
    have mk := IK.1
    have XK : mE (mK h A.1.1 q) A.1 := X.kp mxk_K rfl rfl
    by_cases y0 : y = nI 0
    · rw [if_pos y0, if_pos y0, if_pos mk.k]
      exact ⟨_, rfl, IK, mfr_K, XK⟩
    rw [if_neg y0, if_neg y0]
    by_cases y1 : y = nI 1
    · rw [if_pos y1, if_pos y1, if_pos mk.k]
      exact ⟨_, rfl, IK, mfr_K, XK⟩
    rw [if_neg y1, if_neg y1]
    by_cases y2 : y = nI 2
    · rw [if_pos y2, if_pos y2, if_pos mk.k]
      exact ⟨_, rfl, IK, mfr_K, XK⟩
    rw [if_neg y2, if_neg y2]
    have hl : ∀ f, f ≤ 20 → am_ev 107 0 [.ref 20, .int (nI q), .int (nI f), am_ph, am_ph] [] (mK h A.1.1 q) = some (some (.int (q_lf A.1.1 (q_g A.1) (fun k => am_I h 21 (f + k)) q)), mK h A.1.1 q) := by
      intro f hf
      have e := m_slackBy mk IK.c I.c3 hq hf
      rw [mK_mK, mG_K] at e
      simp only [mK_I (h := h) (show 21 ≠ 20 by omega)] at e
      rw [e, ← q_lf_congr (w := fun k => am_I h 21 (f + k)) I.c3 hq I.G' (fun _ _ => rfl)]
      rfl
    by_cases y3 : y = nI 3
    · rw [if_pos y3, if_pos y3, if_pos mk.k, x_c14, hl 14 (by omega), x_bI]
      rw [q_lf_congr (w := fun k => am_I h 21 (14 + k)) (w' := A.1.2.2.2.1) I.c3 hq (fun _ _ _ _ => rfl) (fun k hk => I.W hk)]
      exact ⟨_, rfl, IK, mfr_K, XK⟩
    rw [if_neg y3, if_neg y3]
    by_cases y4 : y = nI 4
    · rw [if_pos y4, if_pos y4, if_pos mk.k, x_c20, hl 20 (by omega), x_bI]
      rw [q_lf_congr (w := fun k => am_I h 21 (20 + k)) (w' := A.1.2.2.2.2) I.c3 hq (fun _ _ _ _ => rfl) (fun k hk => I.F hk)]
      exact ⟨_, rfl, IK, mfr_K, XK⟩
    rw [if_neg y4, if_neg y4]
    exact ⟨_, rfl, IK, mfr_K, XK⟩
  · rw [if_neg h1, if_neg h1]
    exact ⟨h, rfl, I, am_fr.rf, X⟩
end model9
